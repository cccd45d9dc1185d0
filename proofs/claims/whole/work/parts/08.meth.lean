/-! the methods that are called from outside, each side by itself -/
def nw_we (W : Nat → Nat) (n l i : Nat) : Nat := if i = n then l else W i
def nw_wc (W : Nat → Nat) (n i : Nat) : Nat := if i < n then W i else 2
theorem nw_we_h {W : Nat → Nat} {n l : Nat} {wd : Nat → Int32} (hl : l < 6) (hw : ∀ i, i < n → W i < 6 ∧ wd i = nI (W i)) : ∀ i, i < n + 1 → nw_we W n l i < 6 ∧ upd wd n (nI l) i = nI (nw_we W n l i) := by
  intro i hi
  unfold nw_we
  by_cases e : i = n
  · rw [if_pos e, e, pk_us]
    exact ⟨hl, rfl⟩
  · rw [if_neg e, pk_un e]
    exact hw i (by omega)
theorem nw_we_k {n : Nat} {x : Int32} {wd : Nat → Int32} {i : Nat} (hi : i < n) : upd wd n x i = wd i := pk_un (by omega)
def nw_gn (M : Nat → Nat → Nat → Nat → Prop) (W : Nat → Nat) (S : Nat → Prop) (n l j : Nat) : Prop := (∃ q, q < 5 ∧ nw_lv M (nw_we W n l) S (n + 1) q) ∧ l = j
def nw_ak (M : Nat → Nat → Nat → Nat → Prop) (W : Nat → Nat) (S E : Nat → Prop) (n k : Nat) : Prop := ∃ q, q < 5 ∧ nw_lv M (nw_wc W n) S (n + k) q ∧ E q
section
variable {st en dp : Int32} {mv wd rc uc : Nat → Int32} {M : Nat → Nat → Nat → Nat → Prop} {W : Nat → Nat} {S E : Nat → Prop} {n : Nat}
theorem nw_xnext {post : Int32 → SX → Prop} (hn : n ≤ 16) (hw : ∀ i, i < n → W i < 6 ∧ wd i = nI (W i)) (hM : nw_mx mv M) (hs : nw_bs st S) (h : ∀ x dp' wd' rc' uc', nw_uo (nw_gn M W S n) 6 x → (∀ i, i < n → W i < 6 ∧ wd' i = nI (W i)) → post x (st, en, nI n, dp', mv, wd', rc', uc')) : wpX_next post (st, en, nI n, dp, mv, wd, rc, uc) := by
  refine loop_0 (fun k l (s : Int32 × Int32 × (Nat → Int32) × (Nat → Int32) × (Nat → Int32)) => wX_next_4 post k s.1 (nI l) st en (nI n) s.2.1 mv s.2.2.1 s.2.2.2.1 s.2.2.2.2) (fun l s => nw_uo (nw_gn M W S n) l s.1 ∧ ∀ i, i < n → W i < 6 ∧ s.2.2.1 i = nI (W i)) 6 (0, dp, wd, rc, uc) ⟨nw_uo_0 _, hw⟩ ?_ ?_
  · rintro k ⟨x, d, w, r, u⟩ ⟨h1, h2⟩
    exact br_t (nI_le (a := 6) (b := 6) (by omega) (by omega)) (h x d w r u h1 h2)
  · rintro k l ⟨x, d, w, r, u⟩ hl ⟨h1, h2⟩ ih
    have h1' : nw_uo (nw_gn M W S n) l x := h1
    have h2' : ∀ i, i < n → W i < 6 ∧ w i = nI (W i) := h2
    refine br_f (nI_ge (b := 6) hl (by decide)) ?_
    dsimp only
    rw [nI_clamp (n := n) (by omega), nI_1 n]
    refine ⟨vp_in_nI (by omega) (by omega), nm_e (nw_xlo (by omega) (nw_we_h hl h2') hM hs fun y d' r' u' hy => ?_)⟩
    have hk : ∀ i, i < n → W i < 6 ∧ upd w n (nI l) i = nI (W i) := fun i hi => ⟨(h2' i hi).1, (nw_we_k hi).trans (h2' i hi).2⟩
    refine br_c (fun z => nm_r (nI_1 l) (ih (x, d', _, r', u') ⟨nw_uo_n h1' fun j y' => ?_, hk⟩)) (fun z => nm_e (nm_r (nI_1 l) (ih (_, d', _, r', u') ⟨nw_uo_s h1' fun j => ?_, hk⟩)))
    · exact (nw_nz hy).mpr y'.1 z
    · rw [nw_b1 (by omega)]
      exact ⟨fun y' => ⟨(nw_nz hy).mp z, y'⟩, fun y' => y'.2⟩
theorem nw_xc27 {post : Int32 → SX → Prop} (hn : n ≤ 16) (hW : ∀ i, i < n → W i < 6) (hw : ∀ i, i < n + 4 → wd i = nI (nw_wc W n i)) (hM : nw_mx mv M) (hs : nw_bs st S) (he : nw_bs en E) (h : ∀ x dp' rc' uc', nw_cl (nw_ak M W S E n) x → post x (st, en, nI n, dp', mv, wd, rc', uc')) : ∃ k, wX_close_27 post k (nI 0) st en (nI n) dp mv wd rc uc := by
  refine loop_0 (fun k l (s : Int32 × (Nat → Int32) × (Nat → Int32)) => wX_close_27 post k (nI l) st en (nI n) s.1 mv wd s.2.1 s.2.2) (fun l _ => ∀ i, i < l → ¬ nw_ak M W S E n i) 5 (dp, rc, uc) (fun i hi => absurd hi (by omega)) ?_ ?_
  · rintro k ⟨d, r, u⟩ h1
    exact br_t (nI_lt (a := 4) (b := 5) (by omega) (by omega)) (h _ d r u (Or.inr ⟨h1, rfl⟩))
  · rintro k l ⟨d, r, u⟩ hl h1 ih
    refine br_f (nI_nlt (a := 4) (b := l) (by omega) (by omega)) ?_
    rw [nI_add]
    refine nw_xlo (W := nw_wc W n) (by omega) (fun i hi => ⟨?_, hw i (by omega)⟩) hM hs fun y d' r' u' hy => br_c (fun z => nm_r (nI_1 l) (ih (d', r', u') ?_)) (fun z => h _ d' r' u' (Or.inl ⟨l, hl, (nw_ac hy he).mp z, h1, rfl⟩))
    · unfold nw_wc
      by_cases e : i < n
      · rw [if_pos e]
        exact hW i e
      · rw [if_neg e]
        omega
    · intro i hi
      by_cases e : i = l
      · rw [e]
        exact fun y' => (nw_ac hy he).mpr y' z
      · exact h1 i (by omega)
theorem nw_xclose {post : Int32 → SX → Prop} (hn : n ≤ 16) (hw : ∀ i, i < n → W i < 6 ∧ wd i = nI (W i)) (hM : nw_mx mv M) (hs : nw_bs st S) (he : nw_bs en E) (h : ∀ x dp' wd' rc' uc', nw_cl (nw_ak M W S E n) x → (∀ i, i < n → W i < 6 ∧ wd' i = nI (W i)) → post x (st, en, nI n, dp', mv, wd', rc', uc')) : wpX_close post (st, en, nI n, dp, mv, wd, rc, uc) := by
  refine loop_0 (fun k l w => wX_close_2 post st en (nI n) dp k (nI l) mv w rc uc) (fun l w => ∀ i, i < n + l → w i = nI (nw_wc W n i)) 4 wd (fun i hi => ?_) (fun k w h1 => br_t (nI_le (a := 4) (b := 4) (by omega) (by omega)) (nw_xc27 hn (fun i hi => (hw i hi).1) h1 hM hs he fun x d r u hx => h x d w r u hx fun i hi => ⟨(hw i hi).1, ?_⟩)) ?_
  · have hi' : i < n := hi
    unfold nw_wc
    rw [if_pos hi']
    exact (hw i hi').2
  · rw [h1 i (by omega)]
    unfold nw_wc
    rw [if_pos hi]
  · intro k l w hl h1 ih
    refine br_f (nI_ge (b := 4) hl (by decide)) ?_
    rw [nI_add, nI_clamp (n := n + l) (by omega)]
    refine ⟨vp_in_nI (by omega) (by omega), nm_e (nm_r (nI_1 l) (ih _ fun i hi => ?_))⟩
    by_cases e : i = n + l
    · rw [e, pk_us]
      unfold nw_wc
      rw [if_neg (by omega)]
      rfl
    · rw [pk_un e]
      exact h1 i (by omega)
end
section
variable {ln : Int32} {mv sa ea wd pt ld wt : Nat → Int32} {W : Nat → Nat} {n : Nat}
theorem nw_ynext {post : Int32 → SY → Prop} (hn : n ≤ 16) (hw : ∀ i, i < n → W i < 6 ∧ wd i = nI (W i)) (h : ∀ x wd' pt' ld' wt', nw_uo (nw_gn (nw_M mv) W (nw_S sa) n) 6 x → (∀ i, i < n → W i < 6 ∧ wd' i = nI (W i)) → post x (nI n, mv, sa, ea, wd', pt', ld', wt')) : wpY_next post (nI n, mv, sa, ea, wd, pt, ld, wt) := by
  refine loop_0 (fun k l (s : Int32 × (Nat → Int32) × (Nat → Int32) × (Nat → Int32) × (Nat → Int32)) => wY_next_4 post k s.1 (nI l) (nI n) mv sa ea s.2.1 s.2.2.1 s.2.2.2.1 s.2.2.2.2) (fun l s => nw_uo (nw_gn (nw_M mv) W (nw_S sa) n) l s.1 ∧ ∀ i, i < n → W i < 6 ∧ s.2.1 i = nI (W i)) 6 (0, wd, pt, ld, wt) ⟨nw_uo_0 _, hw⟩ ?_ ?_
  · rintro k ⟨x, w, p, l, t⟩ ⟨h1, h2⟩
    exact br_t (nI_le (a := 6) (b := 6) (by omega) (by omega)) (h x w p l t h1 h2)
  · rintro k l ⟨x, w, p, d, t⟩ hl ⟨h1, h2⟩ ih
    have h1' : nw_uo (nw_gn (nw_M mv) W (nw_S sa) n) l x := h1
    have h2' : ∀ i, i < n → W i < 6 ∧ w i = nI (W i) := h2
    refine br_f (nI_ge (b := 6) hl (by decide)) ?_
    dsimp only
    rw [nI_clamp (n := n) (by omega), nI_1 n]
    refine ⟨vp_in_nI (by omega) (by omega), nm_e (nw_yla (by omega) (nw_we_h hl h2') fun y p' d' t' hy => ?_)⟩
    have hk : ∀ i, i < n → W i < 6 ∧ upd w n (nI l) i = nI (W i) := fun i hi => ⟨(h2' i hi).1, (nw_we_k hi).trans (h2' i hi).2⟩
    refine br_c (fun z => nm_r (nI_1 l) (ih (x, _, p', d', t') ⟨nw_uo_n h1' fun j y' => ?_, hk⟩)) (fun z => nm_e (nm_r (nI_1 l) (ih (_, _, p', d', t') ⟨nw_uo_s h1' fun j => ?_, hk⟩)))
    · exact (nw_nz hy).mpr y'.1 z
    · rw [nw_b1 (by omega)]
      exact ⟨fun y' => ⟨(nw_nz hy).mp z, y'⟩, fun y' => y'.2⟩
theorem nw_yclose {post : Int32 → SY → Prop} (hn : n ≤ 16) (hw : ∀ i, i < n → W i < 6 ∧ wd i = nI (W i)) (h : ∀ x wd' pt' ld' wt', nw_cl (nw_ak (nw_M mv) W (nw_S sa) (nw_S ea) n) x → (∀ i, i < n → W i < 6 ∧ wd' i = nI (W i)) → post x (nI n, mv, sa, ea, wd', pt', ld', wt')) : wpY_close post (nI n, mv, sa, ea, wd, pt, ld, wt) := by
  have hb : ∀ w : Nat → Int32, (∀ i, i < n → w i = nI (nw_wc W n i)) → ∀ i, i < n → W i < 6 ∧ w i = nI (W i) := by
    intro w h1 i hi
    refine ⟨(hw i hi).1, ?_⟩
    rw [h1 i hi]
    unfold nw_wc
    rw [if_pos hi]
  have hc : ∀ i, nw_wc W n i < 6 := by
    intro i
    unfold nw_wc
    by_cases e : i < n
    · rw [if_pos e]
      exact (hw i e).1
    · rw [if_neg e]
      omega
  refine loop_0 (fun k l (s : (Nat → Int32) × (Nat → Int32) × (Nat → Int32) × (Nat → Int32)) => wY_close_2 post k (nI l) (nI n) mv sa ea s.1 s.2.1 s.2.2.1 s.2.2.2) (fun l s => (∀ i, i < l → ¬ nw_ak (nw_M mv) W (nw_S sa) (nw_S ea) n i) ∧ ∀ i, i < n + l → i < n + 4 → s.1 i = nI (nw_wc W n i)) 5 (wd, pt, ld, wt) ⟨fun i hi => absurd hi (by omega), fun i hi _ => ?_⟩ ?_ ?_
  · have hi' : i < n := hi
    unfold nw_wc
    rw [if_pos hi']
    exact (hw i hi').2
  · rintro k ⟨w, p, l, t⟩ ⟨h1, h2⟩
    exact br_t (nI_lt (a := 4) (b := 5) (by omega) (by omega)) (h _ w p l t (Or.inr ⟨h1, rfl⟩) (hb w fun i hi => h2 i (by omega) (by omega)))
  · rintro k l ⟨w, p, d, t⟩ hl ⟨h1, h2⟩ ih
    have h2' : ∀ i, i < n + l → i < n + 4 → w i = nI (nw_wc W n i) := h2
    refine br_f (nI_nlt (a := 4) (b := l) (by omega) (by omega)) ?_
    rw [nI_add]
    refine nw_yla (W := nw_wc W n) (by omega) (fun i hi => ⟨hc i, h2' i (by omega) (by omega)⟩) fun y p' d' t' hy => nw_yends fun e he => br_c (fun z => ?_) (fun z => h _ w p' d' t' (Or.inl ⟨l, hl, (nw_ac hy he).mp z, h1, rfl⟩) (hb w fun i hi => h2' i (by omega) (by omega)))
    have h1' : ∀ i, i < l + 1 → ¬ nw_ak (nw_M mv) W (nw_S sa) (nw_S ea) n i := by
      intro i hi
      by_cases e' : i = l
      · rw [e']
        exact fun y' => (nw_ac hy he).mpr y' z
      · exact h1 i (by omega)
    refine pk_le 4 l (fun z2 => nm_r (nI_1 l) (ih (w, p', d', t') ⟨h1', fun i _ hi => h2' i (by omega) hi⟩)) (fun z2 => ?_)
    rw [nI_add, nI_clamp (n := n + l) (by omega)]
    refine ⟨vp_in_nI (by omega) (by omega), nm_e (nm_r (nI_1 l) (ih (_, p', d', t') ⟨h1', fun i hi hi' => ?_⟩))⟩
    show upd w (n + l) 2 i = _
    by_cases e' : i = n + l
    · rw [e', pk_us]
      unfold nw_wc
      rw [if_neg (by omega)]
      rfl
    · rw [pk_un e']
      exact h2' i (by omega) hi'
end
/-! numbers that are states, letters, marks -/
theorem nw_xst0 {post : Int32 → Prop} {x : Int32} (h : x < 0 ∨ nI 5 ≤ x) (p : post 0) : wpX_isState post x := ⟨fun _ => p, fun z => ⟨fun _ => p, fun z' => h.elim (fun y => absurd y z) (fun y => absurd y z')⟩⟩
theorem nw_xst1 {post : Int32 → Prop} {j : Nat} (h : j < 5) (p : post 1) : wpX_isState post (nI j) := br_f (nI_pos (by omega)) (br_f (nI_ge (b := 5) h (by decide)) p)
theorem nw_xle0 {post : Int32 → Prop} {x : Int32} (h : x < 0 ∨ nI 6 ≤ x) (p : post 0) : wpX_isLetter post x := ⟨fun _ => p, fun z => ⟨fun _ => p, fun z' => h.elim (fun y => absurd y z) (fun y => absurd y z')⟩⟩
theorem nw_xle1 {post : Int32 → Prop} {j : Nat} (h : j < 6) (p : post 1) : wpX_isLetter post (nI j) := br_f (nI_pos (by omega)) (br_f (nI_ge (b := 6) h (by decide)) p)
theorem nw_yb1 {post : Int32 → Prop} {x : Int32} (h : x < 0 ∨ nI 5 ≤ x) (p : post 1) : wpY_bad post x := ⟨fun _ => p, fun z => ⟨fun z' => h.elim (fun y => absurd y z) (fun y => absurd (Int32.le_trans y z') (by decide)), fun _ => p⟩⟩
theorem nw_yb0 {post : Int32 → Prop} {j : Nat} (h : j < 5) (p : post 0) : wpY_bad post (nI j) := br_f (nI_pos (by omega)) (br_t (nI_le (a := j) (b := 4) (by omega) (by omega)) p)
/-! one member more or less -/
theorem nw_xwm {post : Int32 → Prop} {x b : Int32} {r : Nat} (hr : r < 32) (h : ∀ y, (∀ j, bt y j = true ↔ (j = r ∧ ¬ b = 0) ∨ (j ≠ r ∧ bt x j = true)) → post y) : wpX_withMember post x (nI r) b := by
  refine br_c (fun z => h _ fun j => ?_) (fun z => h _ fun j => ?_)
  · rw [nw_band]
    constructor
    · rintro ⟨h1, h2⟩
      have hj := nw_lt32 h1
      refine Or.inr ⟨fun e => ?_, h1⟩
      rw [b_xor, b_m1 j hj, (nw_b1 hr j).mpr e.symm] at h2
      exact absurd h2 (by decide)
    · rintro (⟨_, h2⟩ | ⟨h1, h2⟩)
      · exact absurd z h2
      · have hj := nw_lt32 h2
        refine ⟨h2, ?_⟩
        rw [b_xor, b_m1 j hj]
        cases e : bt ((1 : Int32) <<< (nI r &&& 31)) j
        · rfl
        · exact absurd ((nw_b1 hr j).mp e).symm h1
  · rw [nw_bor, nw_b1 hr]
    constructor
    · rintro (h1 | h1)
      · by_cases e : j = r
        · exact Or.inl ⟨e, z⟩
        · exact Or.inr ⟨e, h1⟩
      · exact Or.inl ⟨h1.symm, z⟩
    · rintro (⟨h1, _⟩ | ⟨_, h1⟩)
      · exact Or.inr h1.symm
      · exact Or.inl h1
theorem nw_bool (v : Int32) : vp_nar .boolean (lw_bz v) = lw_bz v := by
  unfold vp_nar
  rw [lw_bz_n]
theorem nw_bs_up {x y b : Int32} {f : Nat → Int32} {q : Nat} (h : nw_bs x (nw_S f)) (hq : q < 5) (hy : ∀ j, bt y j = true ↔ (j = q ∧ ¬ b = 0) ∨ (j ≠ q ∧ bt x j = true)) : nw_bs y (nw_S (upd f q b)) := by
  intro j
  rw [hy j, h j]
  unfold nw_S
  by_cases e : j = q
  · rw [e, pk_us]
    exact ⟨fun z => z.elim (fun z => ⟨hq, z.2⟩) (fun z => absurd rfl z.1), fun z => Or.inl ⟨rfl, z.2⟩⟩
  · rw [pk_un e]
    exact ⟨fun z => z.elim (fun z => absurd z.1 e) (fun z => z.2), fun z => Or.inr ⟨e, z⟩⟩
theorem nw_mx_up {mv mv' : Nat → Int32} {y b : Int32} {l m q r : Nat} (h : nw_mx mv (nw_M mv')) (hl : l < 6) (hm : m < 4) (hq : q < 5) (hr : r < 5) (hy : ∀ j, bt y j = true ↔ (j = r ∧ ¬ b = 0) ∨ (j ≠ r ∧ bt (mv ((l * 4 + m) * 5 + q)) j = true)) : nw_mx (upd mv ((l * 4 + m) * 5 + q) y) (nw_M (upd mv' (120 * q + 20 * l + 4 * r + m) b)) := by
  intro l' m' q' hl' hm' hq' j
  unfold nw_M
  have h0 := h l' m' q' hl' hm' hq' j
  unfold nw_M at h0
  by_cases e : (l' * 4 + m') * 5 + q' = (l * 4 + m) * 5 + q
  · have e1 : q' = q := by omega
    have e2 : m' = m := by omega
    have e3 : l' = l := by omega
    subst e1
    subst e2
    subst e3
    rw [pk_us, hy j, h0]
    by_cases er : j = r
    · rw [er, pk_us]
      exact ⟨fun z => z.elim (fun z => ⟨hr, z.2⟩) (fun z => absurd rfl z.1), fun z => Or.inl ⟨rfl, z.2⟩⟩
    · rw [pk_un (by omega)]
      exact ⟨fun z => z.elim (fun z => absurd z.1 er) (fun z => z.2), fun z => Or.inr ⟨er, z⟩⟩
  · rw [pk_un e, h0]
    constructor
    · rintro ⟨z1, z2⟩
      rw [pk_un (by omega)]
      exact ⟨z1, z2⟩
    · rintro ⟨z1, z2⟩
      rw [pk_un (by omega)] at z2
      exact ⟨z1, z2⟩
