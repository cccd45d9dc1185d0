/-! X: the run over the word -/
theorem nw_xop {post : Int32 → Prop} {l : Nat} (hl : l < 6) (h1 : l < 2 → post 1) (h0 : ¬ l < 2 → post 0) : wpX_isOpening post (nI l) := pk_le 2 l (fun z => h0 (by omega)) (fun z => h1 (by omega))
theorem nw_xpl {post : Int32 → Prop} {l : Nat} (hl : l < 6) (h1 : 4 ≤ l → post 1) (h0 : ¬ 4 ≤ l → post 0) : wpX_isPlain post (nI l) := pk_lt l 4 (fun z => h0 (by omega)) (fun z => h1 (by omega))
section
variable {st en ln dp : Int32} {mv wd rc uc : Nat → Int32} {M : Nat → Nat → Nat → Nat → Prop} {W : Nat → Nat} {S : Nat → Prop}
def nw_ir (M : Nat → Nat → Nat → Nat → Prop) (W : Nat → Nat) (S : Nat → Prop) (i : Nat) (s : Int32 × (Nat → Int32) × (Nat → Int32)) : Prop := s.1 = nI (nw_sk W i).length ∧ (∀ j, j ≤ i → nw_rx M W S s.2.1 j) ∧ nw_un s.2.2 (nw_sk W i)
theorem nw_ir_s {i : Nat} {d : Int32} {r r' u : Nat → Int32} (h : ∀ j, j ≤ i → nw_rx M W S r j) (hf : ∀ k, k < (i + 1) * 20 → r' k = r k) (hr : nw_rx M W S r' (i + 1)) (hd : d = nI (nw_sk W (i + 1)).length) (hu : nw_un u (nw_sk W (i + 1))) : nw_ir M W S (i + 1) (d, r', u) := by
  refine ⟨hd, fun j hj => ?_, hu⟩
  by_cases e : j = i + 1
  · rw [e]
    exact hr
  · exact nw_rx_cg (h j (by omega)) fun k hk => hf k (by omega)
theorem nw_xrun {post : SX → Prop} {n : Nat} (hn : n ≤ 20) (hw : ∀ i, i < n → W i < 6 ∧ wd i = nI (W i)) (hM : nw_mx mv M) (hs : nw_bs st S) (h : ∀ rc' uc', nw_rx M W S rc' n → post (st, en, ln, nI (nw_sk W n).length, mv, wd, rc', uc')) : wpX_runOver post (st, en, ln, dp, mv, wd, rc, uc) (nI n) := by
  refine nw_xclear (i := 0) (by omega) fun rc1 hz _ => ?_
  refine nm_e ?_
  refine loop_0 (fun k i (s : Int32 × (Nat → Int32) × (Nat → Int32)) => wX_runOver_23 post (nI n) k (nI i) st en ln s.1 mv wd s.2.1 s.2.2) (nw_ir M W S) n (0, upd rc1 15 st, uc) ⟨rfl, fun j hj => ?_, trivial⟩ ?_ ?_
  · have e : j = 0 := by omega
    subst e
    exact nw_x_0 (fun c hc => by have := hz c hc; rwa [Nat.zero_mul, Nat.zero_add] at this) hs
  · rintro k ⟨d, r, u⟩ ⟨h1, h2, _⟩
    have h1' : d = nI (nw_sk W n).length := h1
    subst h1'
    exact br_t (nI_le (Nat.le_refl n) (by omega)) (h r u (h2 n (Nat.le_refl n)))
  · rintro k i ⟨d, r, u⟩ hi ⟨h1, h2, h3⟩ ih
    have h1' : d = nI (nw_sk W i).length := h1
    subst h1'
    have h2' : ∀ j, j ≤ i → nw_rx M W S r j := h2
    have h3' : nw_un u (nw_sk W i) := h3
    obtain ⟨hw1, hw2⟩ := hw i hi
    have hsl := nw_skl (W := W) i
    refine br_f (nI_ge hi (by omega)) ?_
    dsimp only
    rw [nI_clamp (by omega), nI_1 i, hw2]
    refine ⟨vp_in_nI (by omega) (by omega), nm_e (nw_xclear (by omega) fun r1 hz hf => ?_)⟩
    have hr1 : ∀ j, j ≤ i → nw_rx M W S r1 j := fun j hj => nw_rx_cg (h2' j hj) fun k hk => hf k (by omega)
    dsimp only
    refine nw_xop hw1 (fun z => br_f (by decide) ?_) (fun z => br_t rfl (nw_xpl hw1 (fun z2 => br_f (by decide) ?_) (fun z2 => br_t rfl ?_)))
    · refine nw_xopen rfl (by omega) hM (by omega) z (hr1 i (Nat.le_refl i)) hz fun r2 hf2 hr2 => ?_
      refine nm_e (ih (_, _, _) (nw_ir_s hr1 hf2 hr2 ?_ ?_))
      · rw [nw_sk_o z, List.length_cons]
      · rw [nw_sk_o z]
        exact nw_un_s h3'
    · refine nw_xplain hM (by omega) z2 hw1 (hr1 i (Nat.le_refl i)) fun r2 hf2 hr2 => ?_
      refine nm_e (ih (_, _, _) (nw_ir_s hr1 hf2 hr2 ?_ ?_))
      · rw [nw_sk_p z2]
      · rw [nw_sk_p z2]
        exact h3'
    · cases es : nw_sk W i with
      | nil =>
        refine br_t rfl ?_
        refine nw_xunm hM (by omega) z z2 es (hr1 i (Nat.le_refl i)) hz fun r2 hf2 hr2 => ?_
        refine nm_e (ih (_, _, _) (nw_ir_s hr1 hf2 hr2 ?_ ?_))
        · rw [nw_sk_cn z z2 es]
        · rw [nw_sk_cn z z2 es]
          exact trivial
      | cons o T =>
        rw [es] at h3' hsl
        rw [List.length_cons] at hsl
        refine br_f (nI_ne0 (by rw [List.length_cons]; omega) (by rw [List.length_cons]; omega)) ?_
        refine nw_xmat (T := T) rfl (by omega) h3'.1 hM (by omega) z z2 es (hr1 i (Nat.le_refl i)) (hr1 o (by have := (nw_kt es).1; omega)) hz fun r2 hf2 hr2 => ?_
        refine nm_e (ih (_, _, _) (nw_ir_s hr1 hf2 hr2 ?_ ?_))
        · rw [nw_sk_cc z z2 es]
        · rw [nw_sk_cc z z2 es]
          exact h3'.2
theorem nw_xlo {post : Int32 → SX → Prop} {n : Nat} (hn : n ≤ 20) (hw : ∀ i, i < n → W i < 6 ∧ wd i = nI (W i)) (hM : nw_mx mv M) (hs : nw_bs st S) (h : ∀ x dp' rc' uc', nw_bs x (nw_lv M W S n) → post x (st, en, ln, dp', mv, wd, rc', uc')) : wpX_liveOver post (st, en, ln, dp, mv, wd, rc, uc) (nI n) :=
  nw_xrun hn hw hM hs fun rc' uc' hr => nw_xlir hn hr fun x hx => h x _ rc' uc' hx
end
theorem nw_xsz {post : Int32 → Prop} {x : Int32} (h : post (nw_ct x 5)) : wpX_sizeOf post x := by
  refine loop_0 (fun n j s => wX_sizeOf_4 post x n s (nI j)) (fun j s => s = nw_ct x j) 5 0 rfl ?_ ?_
  · intro n s hs
    subst hs
    exact br_t (nI_le (a := 5) (b := 5) (by omega) (by omega)) h
  · intro n j s hj hs ih
    subst hs
    exact br_f (nI_ge (b := 5) hj (by decide)) (nm_e (nm_r (nI_1 j) (ih _ rfl)))
