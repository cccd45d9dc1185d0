/-! Y: the small methods -/
section
variable {ln : Int32} {mv sa ea wd pt ld wt : Nat → Int32} {W : Nat → Nat}
theorem nw_ypairs {post : Int32 → Prop} {l m : Nat} (hl : l < 6) (hm : m < 4) (h : ∀ x, nw_br x (nw_M mv l m) → post x) : wpY_pairs post (ln, mv, sa, ea, wd, pt, ld, wt) (nI l) (nI m) := by
  refine loop_0 (fun n i s => wY_pairs_5 post (nI l) (nI m) ln mv sa ea wd pt ld wt n s (nI i)) (fun i s => nw_uo (nw_gp mv l m) i s) 25 0 (nw_uo_0 _) (fun n s hs => br_t (nI_le (a := 25) (b := 25) (by omega) (by omega)) (h s (nw_y_pairs hs))) ?_
  intro n i s hi hs ih
  refine br_f (nI_ge (b := 25) hi (by decide)) ⟨by decide, by decide, ?_⟩
  rw [nw_iP (by omega) l m, nI_clamp (by omega)]
  refine ⟨vp_in_nI (by omega) (by omega), br_c (fun z => nm_r (nI_1 i) (ih _ (nw_uo_n hs fun j y => y.1 z))) (fun z => nm_e (nm_r (nI_1 i) (ih _ (nw_uo_s hs fun j => ?_))))⟩
  rw [nw_b1 (by omega)]
  exact ⟨fun y => ⟨z, y⟩, fun y => y.2⟩
theorem nw_ythen {post : Int32 → Prop} {a b : Int32} {A B : Nat → Nat → Prop} (ha : nw_br a A) (hb : nw_br b B) (h : ∀ x, nw_br x (nw_th A B) → post x) : wpY_then post a b := by
  refine loop_0 (fun n i s => wY_then_4 post a b n s (nI i)) (fun i s => nw_uo (nw_gt a b) i s) 125 0 (nw_uo_0 _) (fun n s hs => br_t (nI_le (a := 125) (b := 125) (by omega) (by omega)) (h s (nw_y_then ha hb hs))) ?_
  intro n i s hi hs ih
  refine br_f (nI_ge (b := 125) hi (by decide)) ⟨by decide, nm_r (nw_d25 (by omega)) ⟨by decide, by decide, nm_r (nw_w5 (by omega)) ⟨by decide, nm_r (nw_r5 (by omega)) ?_⟩⟩⟩
  rw [nw_i55 (i / 25) (i / 5 % 5), nw_i55 (i / 5 % 5) (i % 5), nw_i55 (i / 25) (i % 5)]
  rw [nw_t1e (x := a) (by omega), nw_t1e (x := b) (by omega)]
  refine br_c (fun z => br_c (fun z' => nm_e (nm_r (nI_1 i) (ih _ (nw_uo_s hs fun j => ?_)))) (fun z' => nm_r (nI_1 i) (ih _ (nw_uo_n hs fun j y => z' y.1.2)))) (fun z => nm_r (nI_1 i) (ih _ (nw_uo_n hs fun j y => z y.1.1)))
  rw [nw_b1 (by omega)]
  exact ⟨fun y => ⟨⟨z, z'⟩, y⟩, fun y => y.2⟩
theorem nw_yimage {post : Int32 → Prop} {s0 a : Int32} {S : Nat → Prop} {A : Nat → Nat → Prop} (hs0 : nw_bs s0 S) (ha : nw_br a A) (h : ∀ x, nw_bs x (nw_im S A) → post x) : wpY_image post s0 a := by
  refine loop_0 (fun n i s => wY_image_4 post s0 a n s (nI i)) (fun i s => nw_uo (nw_gi s0 a) i s) 25 0 (nw_uo_0 _) (fun n s hs => br_t (nI_le (a := 25) (b := 25) (by omega) (by omega)) (h s (nw_y_image hs0 ha hs))) ?_
  intro n i s hi hs ih
  refine br_f (nI_ge (b := 25) hi (by decide)) ⟨by decide, ?_⟩
  rw [nw_r5 (by omega), nw_d5 (by omega), nw_t1e (x := s0) (by omega), nw_t1e (x := a) (by omega)]
  refine br_c (fun z => br_c (fun z' => ⟨by decide, nm_e (nm_r (nI_1 i) (ih _ (nw_uo_s hs fun j => ?_)))⟩) (fun z' => nm_r (nI_1 i) (ih _ (nw_uo_n hs fun j y => z' y.1.2)))) (fun z => nm_r (nI_1 i) (ih _ (nw_uo_n hs fun j y => z y.1.1)))
  rw [nw_b1 (by omega)]
  exact ⟨fun y => ⟨⟨z, z'⟩, y⟩, fun y => y.2⟩
theorem nw_yends {post : Int32 → Prop} (h : ∀ x, nw_bs x (nw_S ea) → post x) : wpY_endsOf post (ln, mv, sa, ea, wd, pt, ld, wt) := by
  refine loop_0 (fun n i s => wY_endsOf_4 post ln mv sa ea wd pt ld wt n s (nI i)) (fun i s => nw_uo (nw_gs ea) i s) 5 0 (nw_uo_0 _) (fun n s hs => br_t (nI_le (a := 5) (b := 5) (by omega) (by omega)) (h s (nw_y_set hs))) ?_
  intro n i s hi hs ih
  refine br_f (nI_ge (b := 5) hi (by decide)) ?_
  rw [nI_clamp (by omega)]
  refine ⟨vp_in_nI (by omega) (by omega), br_c (fun z => nm_r Int32.or_zero (nm_r (nI_1 i) (ih _ (nw_uo_n hs fun j y => y.1 z)))) (fun z => nm_e (nm_r (nI_1 i) (ih _ (nw_uo_s hs fun j => ?_))))⟩
  rw [nw_b1 (by omega)]
  exact ⟨fun y => ⟨z, y⟩, fun y => y.2⟩
/-! the pairs of letters -/
def nw_iy (W : Nat → Nat) (i : Nat) (s : Int32 × (Nat → Int32) × (Nat → Int32)) : Prop := s.1 = nI (nw_sk W i).length ∧ nw_pf W i s.2.1 ∧ nw_un s.2.2 (nw_sk W i)
theorem nw_ymatch {post : Int32 → SY → Prop} {n : Nat} (hn : n ≤ 20) (hw : ∀ i, i < n → W i < 6 ∧ wd i = nI (W i)) (h : ∀ pt' wt', nw_pf W n pt' → post (nI (nw_sk W n).length) (ln, mv, sa, ea, wd, pt', ld, wt')) : wpY_match post (ln, mv, sa, ea, wd, pt, ld, wt) (nI n) := by
  refine loop_0 (fun k i (s : Int32 × (Nat → Int32) × (Nat → Int32)) => wY_match_4 post (nI n) ln k s.1 (nI i) mv sa ea wd s.2.1 ld s.2.2) (nw_iy W) n (0, pt, wt) ⟨rfl, nw_pf_0 W pt, trivial⟩ ?_ ?_
  · rintro k ⟨d, p, w⟩ ⟨h1, h2, _⟩
    have h1' : d = nI (nw_sk W n).length := h1
    subst h1'
    exact br_t (nI_le (Nat.le_refl n) (by omega)) (h p w h2)
  · rintro k i ⟨d, p, w⟩ hi ⟨h1, h2, h3⟩ ih
    have h1' : d = nI (nw_sk W i).length := h1
    subst h1'
    have h2' : nw_pf W i p := h2
    have h3' : nw_un w (nw_sk W i) := h3
    obtain ⟨hw1, hw2⟩ := hw i hi
    have hsl := nw_skl (W := W) i
    refine br_f (nI_ge hi (by omega)) ?_
    dsimp only
    rw [nI_clamp (n := i) (by omega), hw2]
    refine ⟨vp_in_nI (by omega) (by omega), nm_e ⟨vp_in_nI (by omega) (by omega), pk_lt 1 (W i) (fun z => ⟨vp_in_nI (by omega) (by omega), pk_lt 3 (W i) (fun z2 => ?_) (fun z2 => ?_)⟩) (fun z => ?_)⟩⟩
    · have hp : 4 ≤ W i := z2
      refine nm_r (nI_1 i) (ih (_, _, _) ⟨?_, nw_pf_p h2' hp, ?_⟩)
      · rw [nw_sk_p hp] <;> rfl
      · rw [nw_sk_p hp]
        exact h3'
    · have hc1 : ¬ W i < 2 := by omega
      have hc2 : ¬ 4 ≤ W i := by omega
      cases es : nw_sk W i with
      | nil =>
        refine br_t (nI_le (a := 0) (b := 0) (by omega) (by omega)) (nm_r (nI_1 i) (ih (_, _, _) ⟨?_, nw_pf_n h2' hc1 es, ?_⟩))
        · rw [nw_sk_cn hc1 hc2 es] <;> rfl
        · rw [nw_sk_cn hc1 hc2 es]
          exact trivial
      | cons o T =>
        rw [es] at h3' hsl
        rw [List.length_cons] at hsl
        obtain ⟨ho, _, _⟩ := nw_kt es
        refine br_f (nI_nle (by rw [List.length_cons]; omega) (by rw [List.length_cons]; omega)) (nm_r (e' := nI T.length) (pk_m1 T.length) ?_)
        rw [nI_clamp (n := T.length) (by omega), h3'.1, nI_clamp (n := o) (by omega)]
        refine ⟨vp_in_nI (by omega) (by omega), vp_in_nI (by omega) (by omega), nm_e ⟨vp_in_nI (by omega) (by omega), vp_in_nI (by omega) (by omega), nm_e (nm_r (nI_1 i) (ih (_, _, _) ⟨?_, nw_pf_c h2' hc1 hc2 es, ?_⟩))⟩⟩
        · rw [nw_sk_cc hc1 hc2 es] <;> rfl
        · rw [nw_sk_cc hc1 hc2 es]
          exact h3'.2
    · have ho : W i < 2 := by omega
      rw [nI_clamp (by omega)]
      refine ⟨vp_in_nI (by omega) (by omega), nm_e (nm_r (nI_1 _) (nm_r (nI_1 i) (ih (_, _, _) ⟨?_, nw_pf_o h2' ho, ?_⟩)))⟩
      · rw [nw_sk_o ho, List.length_cons] <;> rfl
      · rw [nw_sk_o ho]
        exact nw_un_s h3'
end
