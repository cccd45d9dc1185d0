/-! the relation, and what is owed -/
def i_Rel (k : Nat) (u : SX) (v : SY) : Prop := match u, v with
  | (st, en, ln, _, mv, wd, _, _), (ln', mv', sa, ea, wd', _, _, _) => ∃ (W : Nat → Nat) (n : Nat), n ≤ 16 ∧ ln = nI n ∧ ln' = nI n ∧ (∀ i, i < n → W i < 6 ∧ wd i = nI (W i)) ∧ (∀ i, i < n → W i < 6 ∧ wd' i = nI (W i)) ∧ nw_mx mv (nw_M mv') ∧ nw_bs st (nw_S sa) ∧ nw_bs en (nw_S ea)
theorem i_up {k : Nat} {u : SX} {v : SY} (h : i_Rel k u v) : i_Rel (k + 6) u v := h
theorem i_vc0 : wpX_init (fun u => wpY_init (fun v => i_Rel 0 u v)) := by
  have h0 : nw_bs 0 (nw_S (fun _ => 0)) := fun i => ⟨fun z => absurd z (nw_z i), fun z => absurd rfl z.2⟩
  exact ⟨fun _ => 0, 0, by omega, rfl, rfl, fun i hi => absurd hi (by omega), fun i hi => absurd hi (by omega), fun l m q _ _ _ i => ⟨fun z => absurd z (nw_z i), fun z => absurd rfl z.2⟩, h0, h0⟩
/-! move -/
theorem nw_mv_x {post : Int32 → SX → Prop} {st en ln dp b : Int32} {mv wd rc uc : Nat → Int32} {q l r m : Nat} (hq : q < 5) (hl : l < 6) (hr : r < 5) (hm : m < 4) (hm' : l < 2 → m < 3) (h : ∀ y, (∀ j, bt y j = true ↔ (j = r ∧ ¬ b = 0) ∨ (j ≠ r ∧ bt (mv ((l * 4 + m) * 5 + q)) j = true)) → post ((mv ((l * 4 + m) * 5 + q) >>> (nI r &&& 31)) &&& 1) (st, en, ln, dp, upd mv ((l * 4 + m) * 5 + q) y, wd, rc, uc)) : wX_move_36 post (nI q) (nI l) (nI r) b (nI m) st en ln dp mv wd rc uc := by
  have hk : ∀ p : Int32 → Prop, p 1 → wpX_isMarkFor p (nI l) (nI m) := fun p hp => br_f (nI_pos (by omega)) (nw_xop hl (fun z => br_f (by decide) (br_f (nI_ge (b := 3) (hm' z) (by decide)) hp)) (fun z => br_t rfl (br_f (nI_ge (b := 4) hm (by decide)) hp)))
  refine hk _ (br_f (by decide) (nw_xcell ?_))
  rw [nI_clamp (by omega)]
  exact ⟨vp_in_nI (by omega) (by omega), nm_e ⟨vp_in_nI (by omega) (by omega), nw_xwm (by omega) fun y hy => ⟨vp_in_nI (by omega) (by omega), nm_e (h y hy)⟩⟩⟩
theorem nw_mv_x0 {post : Int32 → SX → Prop} {st en ln dp b x3 : Int32} {mv wd rc uc : Nat → Int32} {l : Nat} {x1 x : Int32} (hl : l < 6) (hx : x < 0 ∨ nI 4 ≤ x ∨ (l < 2 ∧ nI 3 ≤ x)) (h : post (-1) (st, en, ln, dp, mv, wd, rc, uc)) : wX_move_36 post x1 (nI l) x3 b x st en ln dp mv wd rc uc := by
  have hk : ∀ p : Int32 → Prop, p 0 → wpX_isMarkFor p (nI l) x := by
    intro p hp
    refine br_c (fun _ => hp) (fun z0 => nw_xop hl (fun z => br_f (by decide) (br_c (fun _ => hp) (fun z2 => ?_))) (fun z => br_t rfl (br_c (fun _ => hp) (fun z2 => ?_))))
    · rcases hx with y | y | ⟨_, y⟩
      · exact absurd y z0
      · exact absurd (Int32.le_trans (by decide) y) z2
      · exact absurd y z2
    · rcases hx with y | y | ⟨y, _⟩
      · exact absurd y z0
      · exact absurd y z2
      · exact absurd y z
  exact hk _ (br_t rfl h)
theorem nw_mv_y {post : Int32 → SY → Prop} {ln b : Int32} {mv sa ea wd pt ld wt : Nat → Int32} {q l r m : Nat} (hq : q < 5) (hl : l < 6) (hr : r < 5) (hm : m < 4) (h0 : mv (120 * q + 20 * l + 4 * r + m) = 0 → post 0 (ln, upd mv (120 * q + 20 * l + 4 * r + m) (vp_nar .boolean b), sa, ea, wd, pt, ld, wt)) (h1 : ¬ mv (120 * q + 20 * l + 4 * r + m) = 0 → post 1 (ln, upd mv (120 * q + 20 * l + 4 * r + m) (vp_nar .boolean b), sa, ea, wd, pt, ld, wt)) : wY_move_76 post b (nI m) (((120 * nI q) + (20 * nI l)) + (4 * nI r)) ln mv sa ea wd pt ld wt := by
  refine nm_r (nw_iM q l r m) ?_
  rw [nI_clamp (by omega)]
  exact ⟨vp_in_nI (by omega) (by omega), nm_e ⟨vp_in_nI (by omega) (by omega), nm_e (br_c h0 h1)⟩⟩
theorem i_vc_move {k : Nat} {u : SX} {v : SY} (I : i_Rel k u v) (hk : k + 6 ≤ 3072) (v1 : Int32) (v2 : Int32) (v3 : Int32) (v4 : Int32) (v5 : Int32) : wpX_move (fun r u' => wpY_move (fun r' v' => r' = r ∧ i_Rel (k + 6) u' v') v v1 v2 v3 v4 (lw_bz v5)) u v1 v2 v3 v4 (lw_bz v5) := by
  obtain ⟨st, en, ln, dp, mv, wd, rc, uc⟩ := u
  obtain ⟨ln', mv', sa, ea, wd', pt, ld, wt⟩ := v
  have I' := I
  obtain ⟨W, n, hn, rfl, rfl, hw, hw', hM, hs, he⟩ := I
  unfold wpX_move wpY_move
  dsimp only
  have c5 : ∀ x : Int32, (x < 0 ∨ nI 5 ≤ x) ∨ ∃ j : Nat, j < 5 ∧ x = nI j := fun x => (pk_ix x (n := 5) (by omega)).elim (fun z => Or.inl (Or.inl z)) (fun z => z.elim (fun z => Or.inl (Or.inr z)) Or.inr)
  rcases c5 v1 with hq | ⟨q, hq, rfl⟩
  · exact nw_xst0 hq (br_t rfl (nw_yb1 hq (br_f (by decide) ⟨rfl, I'⟩)))
  refine nw_xst1 hq (br_f (by decide) ?_)
  rcases c5 v3 with hr | ⟨r, hr, rfl⟩
  · exact nw_xst0 hr (br_t rfl (nw_yb0 hq (br_t rfl (nw_yb1 hr (br_f (by decide) ⟨rfl, I'⟩)))))
  refine nw_xst1 hr (br_f (by decide) ?_)
  rcases pk_ix v2 (n := 6) (by omega) with hl | hl | ⟨l, hl, rfl⟩
  · exact nw_xle0 (Or.inl hl) (br_t rfl (nw_yb0 hq (br_t rfl (nw_yb0 hr (br_t rfl (br_t hl ⟨rfl, I'⟩))))))
  · refine nw_xle0 (Or.inr hl) (br_t rfl (nw_yb0 hq (br_t rfl (nw_yb0 hr (br_t rfl (br_c (fun _ => ⟨rfl, I'⟩) fun _ => br_f (fun z => ?_) ⟨rfl, I'⟩))))))
    exact absurd (Int32.le_trans hl z) (by decide)
  refine nw_xle1 hl (br_f (by decide) ?_)
  have hb : ∀ m, m < 4 → (mv ((l * 4 + m) * 5 + q) >>> (nI r &&& 31) &&& 1 = if bt (mv ((l * 4 + m) * 5 + q)) r = true then 1 else 0) := fun m _ => nw_t1 _ (by omega)
  have hd : ∀ m, m < 4 → (bt (mv ((l * 4 + m) * 5 + q)) r = true ↔ ¬ mv' (120 * q + 20 * l + 4 * r + m) = 0) := fun m hm => (hM l m q hl hm hq r).trans ⟨fun z => z.2, fun z => ⟨hr, z⟩⟩
  have hgo : ∀ (m : Nat) (y : Int32), m < 4 → (∀ j, bt y j = true ↔ (j = r ∧ ¬ lw_bz v5 = 0) ∨ (j ≠ r ∧ bt (mv ((l * 4 + m) * 5 + q)) j = true)) → wY_move_76 (fun r' v' => r' = (mv ((l * 4 + m) * 5 + q) >>> (nI r &&& 31)) &&& 1 ∧ i_Rel (k + 6) (st, en, nI n, dp, upd mv ((l * 4 + m) * 5 + q) y, wd, rc, uc) v') (lw_bz v5) (nI m) (((120 * nI q) + (20 * nI l)) + (4 * nI r)) (nI n) mv' sa ea wd' pt ld wt := by
    intro m y hm hy
    refine nw_mv_y hq hl hr hm (fun z => ⟨?_, ?_⟩) (fun z => ⟨?_, ?_⟩)
    · rw [hb m hm, if_neg fun y' => (hd m hm).mp y' z]
    · rw [nw_bool]
      exact ⟨W, n, hn, rfl, rfl, hw, hw', nw_mx_up hM hl hm hq hr hy, hs, he⟩
    · rw [hb m hm, if_pos ((hd m hm).mpr z)]
    · rw [nw_bool]
      exact ⟨W, n, hn, rfl, rfl, hw, hw', nw_mx_up hM hl hm hq hr hy, hs, he⟩
  by_cases hp : 4 ≤ l
  · refine nw_xpl hl (fun _ => br_f (by decide) ?_) (fun z => absurd hp z)
    refine nw_mv_x (m := 0) hq hl hr (by omega) (fun z => by omega) fun y hy => ?_
    exact nw_yb0 hq (br_t rfl (nw_yb0 hr (br_t rfl (br_f (nI_pos (by omega)) (br_t (nI_le (a := l) (b := 5) (by omega) (by omega)) (br_t (nI_le (a := 4) (b := l) hp (by omega)) (br_t (nI_le (a := 4) (b := l) hp (by omega)) (hgo 0 y (by omega) hy))))))))
  refine nw_xpl hl (fun z => absurd z hp) (fun _ => br_t rfl ?_)
  by_cases ho : l < 2
  · rcases pk_ix v4 (n := 3) (by omega) with hm | hm | ⟨m, hm, rfl⟩
    · exact nw_mv_x0 hl (Or.inl hm) (nw_yb0 hq (br_t rfl (nw_yb0 hr (br_t rfl (br_f (nI_pos (by omega)) (br_t (nI_le (a := l) (b := 5) (by omega) (by omega)) (br_f (nI_ge (a := l) (b := 4) (by omega) (by decide)) (br_t hm ⟨rfl, I'⟩))))))))
    · refine nw_mv_x0 hl (Or.inr (Or.inr ⟨ho, hm⟩)) (nw_yb0 hq (br_t rfl (nw_yb0 hr (br_t rfl (br_f (nI_pos (by omega)) (br_t (nI_le (a := l) (b := 5) (by omega) (by omega)) (br_f (nI_ge (a := l) (b := 4) (by omega) (by decide)) (br_c (fun _ => ⟨rfl, I'⟩) fun _ => br_f (nI_ge (a := l) (b := 2) ho (by decide)) (br_f (fun z => ?_) ⟨rfl, I'⟩)))))))))
      exact absurd (Int32.le_trans hm z) (by decide)
    · exact nw_mv_x hq hl hr (by omega) (fun _ => hm) fun y hy => nw_yb0 hq (br_t rfl (nw_yb0 hr (br_t rfl (br_f (nI_pos (by omega)) (br_t (nI_le (a := l) (b := 5) (by omega) (by omega)) (br_f (nI_ge (a := l) (b := 4) (by omega) (by decide)) (br_f (nI_pos (by omega)) (br_f (nI_ge (a := l) (b := 2) ho (by decide)) (br_t (nI_le (a := m) (b := 2) (by omega) (by omega)) (br_f (nI_ge (a := l) (b := 4) (by omega) (by decide)) (hgo m y (by omega) hy)))))))))))
  · rcases pk_ix v4 (n := 4) (by omega) with hm | hm | ⟨m, hm, rfl⟩
    · exact nw_mv_x0 hl (Or.inl hm) (nw_yb0 hq (br_t rfl (nw_yb0 hr (br_t rfl (br_f (nI_pos (by omega)) (br_t (nI_le (a := l) (b := 5) (by omega) (by omega)) (br_f (nI_ge (a := l) (b := 4) (by omega) (by decide)) (br_t hm ⟨rfl, I'⟩))))))))
    · refine nw_mv_x0 hl (Or.inr (Or.inl hm)) (nw_yb0 hq (br_t rfl (nw_yb0 hr (br_t rfl (br_f (nI_pos (by omega)) (br_t (nI_le (a := l) (b := 5) (by omega) (by omega)) (br_f (nI_ge (a := l) (b := 4) (by omega) (by decide)) (br_c (fun _ => ⟨rfl, I'⟩) fun _ => br_t (nI_le (a := 2) (b := l) (by omega) (by omega)) (br_f (fun z => ?_) ⟨rfl, I'⟩)))))))))
      exact absurd (Int32.le_trans hm z) (by decide)
    · exact nw_mv_x hq hl hr hm (fun z => absurd z ho) fun y hy => nw_yb0 hq (br_t rfl (nw_yb0 hr (br_t rfl (br_f (nI_pos (by omega)) (br_t (nI_le (a := l) (b := 5) (by omega) (by omega)) (br_f (nI_ge (a := l) (b := 4) (by omega) (by decide)) (br_f (nI_pos (by omega)) (br_t (nI_le (a := 2) (b := l) (by omega) (by omega)) (br_t (nI_le (a := m) (b := 3) (by omega) (by omega)) (br_f (nI_ge (a := l) (b := 4) (by omega) (by decide)) (hgo m y hm hy)))))))))))
theorem i_vc_state {k : Nat} {u : SX} {v : SY} (I : i_Rel k u v) (hk : k + 6 ≤ 3072) (v1 : Int32) (v2 : Int32) (v3 : Int32) : wpX_state (fun r u' => wpY_state (fun r' v' => r' = r ∧ i_Rel (k + 6) u' v') v v1 (lw_bz v2) (lw_bz v3)) u v1 (lw_bz v2) (lw_bz v3) := by
  obtain ⟨st, en, ln, dp, mv, wd, rc, uc⟩ := u
  obtain ⟨ln', mv', sa, ea, wd', pt, ld, wt⟩ := v
  have I' := I
  obtain ⟨W, n, hn, rfl, rfl, hw, hw', hM, hs, he⟩ := I
  unfold wpX_state wpY_state
  dsimp only
  rcases pk_ix v1 (n := 5) (by omega) with hq | hq | ⟨q, hq, rfl⟩
  · exact nw_xst0 (Or.inl hq) (br_t rfl (nw_yb1 (Or.inl hq) (br_f (by decide) ⟨rfl, I'⟩)))
  · exact nw_xst0 (Or.inr hq) (br_t rfl (nw_yb1 (Or.inr hq) (br_f (by decide) ⟨rfl, I'⟩)))
  refine nw_xst1 hq (br_f (by decide) (nw_xwm (by omega) fun y hy => nw_xwm (by omega) fun y2 hy2 => nw_yb0 hq (br_t rfl ?_)))
  rw [nI_clamp (by omega), nw_bool, nw_bool]
  exact ⟨vp_in_nI (by omega) (by omega), nm_e ⟨vp_in_nI (by omega) (by omega), nm_e ⟨rfl, W, n, hn, rfl, rfl, hw, hw', hM, nw_bs_up hs hq hy, nw_bs_up he hq hy2⟩⟩⟩
theorem i_vc_read {k : Nat} {u : SX} {v : SY} (I : i_Rel k u v) (hk : k + 6 ≤ 3072) (v1 : Int32) : wpX_read (fun r u' => wpY_read (fun r' v' => r' = r ∧ i_Rel (k + 6) u' v') v v1) u v1 := by
  obtain ⟨st, en, ln, dp, mv, wd, rc, uc⟩ := u
  obtain ⟨ln', mv', sa, ea, wd', pt, ld, wt⟩ := v
  have I' := I
  obtain ⟨W, n, hn, rfl, rfl, hw, hw', hM, hs, he⟩ := I
  unfold wpX_read wpY_read
  dsimp only
  rcases pk_ix v1 (n := 6) (by omega) with hl | hl | ⟨l, hl, rfl⟩
  · exact nw_xle0 (Or.inl hl) (br_t rfl (br_t hl ⟨rfl, I'⟩))
  · refine nw_xle0 (Or.inr hl) (br_t rfl (br_c (fun _ => ⟨rfl, I'⟩) fun _ => br_t ?_ ⟨rfl, I'⟩))
    exact Int32.lt_of_lt_of_le (by decide) hl
  refine nw_xle1 hl (br_f (by decide) (pk_lt n 16 (fun z => ?_) (fun z => ?_)))
  · rw [nI_clamp (by omega)]
    refine ⟨vp_in_nI (by omega) (by omega), nm_e (nm_r (nI_1 n) (nw_xlo (by omega) (nw_we_h hl hw) hM hs fun x d' r' u' hx => nw_xsz ?_))⟩
    refine br_f (nI_pos (by omega)) (br_f (nI_nlt (a := 5) (b := l) (by omega) (by omega)) (pk_eq n 16 (fun z2 => absurd z2 (by omega)) (fun z2 => ?_)))
    refine ⟨vp_in_nI (by omega) (by omega), nm_e (nm_r (nI_1 n) (nw_yla (by omega) (nw_we_h hl hw') fun x2 p' d' t' hx2 => nw_ysz ⟨?_, ?_⟩))⟩
    · rw [nw_bs_eq hx2 hx]
    · exact ⟨nw_we W n l, n + 1, z, rfl, rfl, nw_we_h hl hw, nw_we_h hl hw', hM, hs, he⟩
  · have e : n = 16 := by omega
    subst e
    exact br_f (nI_pos (by omega)) (br_f (nI_nlt (a := 5) (b := l) (by omega) (by omega)) (br_t rfl ⟨rfl, I'⟩))
theorem i_vc_back {k : Nat} {u : SX} {v : SY} (I : i_Rel k u v) (hk : k + 6 ≤ 3072) : wpX_back (fun r u' => wpY_back (fun r' v' => r' = r ∧ i_Rel (k + 6) u' v') v) u := by
  obtain ⟨st, en, ln, dp, mv, wd, rc, uc⟩ := u
  obtain ⟨ln', mv', sa, ea, wd', pt, ld, wt⟩ := v
  have I' := I
  obtain ⟨W, n, hn, rfl, rfl, hw, hw', hM, hs, he⟩ := I
  cases n with
  | zero => exact br_t rfl (br_t rfl ⟨rfl, I'⟩)
  | succ n =>
    refine br_f (nI_ne0 (by omega) (by omega)) (nm_r (nI_pred n) ?_)
    rw [nI_clamp (by omega)]
    refine ⟨vp_in_nI (by omega) (by omega), br_f (nI_ne0 (by omega) (by omega)) (nm_r (nI_pred n) ?_)⟩
    rw [nI_clamp (by omega)]
    refine ⟨vp_in_nI (by omega) (by omega), ?_, W, n, by omega, rfl, rfl, fun i hi => hw i (by omega), fun i hi => hw' i (by omega), hM, hs, he⟩
    rw [(hw n (by omega)).2, (hw' n (by omega)).2]
theorem i_vc_erase {k : Nat} {u : SX} {v : SY} (I : i_Rel k u v) (hk : k + 6 ≤ 3072) : wpX_erase (fun u' => wpY_erase (fun v' => i_Rel (k + 6) u' v') v) u := by
  obtain ⟨st, en, ln, dp, mv, wd, rc, uc⟩ := u
  obtain ⟨ln', mv', sa, ea, wd', pt, ld, wt⟩ := v
  obtain ⟨W, n, hn, rfl, rfl, hw, hw', hM, hs, he⟩ := I
  exact ⟨W, 0, by omega, rfl, rfl, fun i hi => absurd hi (by omega), fun i hi => absurd hi (by omega), hM, hs, he⟩
theorem i_vc_live {k : Nat} {u : SX} {v : SY} (I : i_Rel k u v) (hk : k + 6 ≤ 3072) : wpX_live (fun r u' => wpY_live (fun r' v' => r' = r ∧ i_Rel (k + 6) u' v') v) u := by
  obtain ⟨st, en, ln, dp, mv, wd, rc, uc⟩ := u
  obtain ⟨ln', mv', sa, ea, wd', pt, ld, wt⟩ := v
  obtain ⟨W, n, hn, rfl, rfl, hw, hw', hM, hs, he⟩ := I
  unfold wpX_live wpY_live
  dsimp only
  exact nw_xlo (by omega) hw hM hs fun x d r u hx => nw_yla (by omega) hw' fun x2 p l t hx2 => ⟨nw_bs_eq hx2 hx, W, n, hn, rfl, rfl, hw, hw', hM, hs, he⟩
theorem i_vc_accepted {k : Nat} {u : SX} {v : SY} (I : i_Rel k u v) (hk : k + 6 ≤ 3072) : wpX_accepted (fun r u' => wpY_accepted (fun r' v' => r' = r ∧ i_Rel (k + 6) u' v') v) u := by
  obtain ⟨st, en, ln, dp, mv, wd, rc, uc⟩ := u
  obtain ⟨ln', mv', sa, ea, wd', pt, ld, wt⟩ := v
  obtain ⟨W, n, hn, rfl, rfl, hw, hw', hM, hs, he⟩ := I
  unfold wpX_accepted wpY_accepted wpY_live
  dsimp only
  have R : ∀ d r u p l t, i_Rel (k + 6) (st, en, nI n, d, mv, wd, r, u) (nI n, mv', sa, ea, wd', p, l, t) := fun d r u p l t => ⟨W, n, hn, rfl, rfl, hw, hw', hM, hs, he⟩
  refine nw_xlo (by omega) hw hM hs fun x d r u hx => br_c (fun z => ?_) (fun z => ?_)
  · refine nw_yla (by omega) hw' fun x2 p l t hx2 => nw_yends fun e2 he2 => ?_
    rw [nw_bs_eq hx2 hx, nw_bs_eq he2 he]
    exact br_t z ⟨rfl, R _ _ _ _ _ _⟩
  · refine nw_yla (by omega) hw' fun x2 p l t hx2 => nw_yends fun e2 he2 => ?_
    rw [nw_bs_eq hx2 hx, nw_bs_eq he2 he]
    exact br_f z ⟨rfl, R _ _ _ _ _ _⟩
theorem i_vc_open {k : Nat} {u : SX} {v : SY} (I : i_Rel k u v) (hk : k + 6 ≤ 3072) : wpX_open (fun r u' => wpY_open (fun r' v' => r' = r ∧ i_Rel (k + 6) u' v') v) u := by
  obtain ⟨st, en, ln, dp, mv, wd, rc, uc⟩ := u
  obtain ⟨ln', mv', sa, ea, wd', pt, ld, wt⟩ := v
  obtain ⟨W, n, hn, rfl, rfl, hw, hw', hM, hs, he⟩ := I
  unfold wpX_open wpY_open
  dsimp only
  exact nw_xrun (by omega) hw hM hs fun r u _ => nw_ymatch (by omega) hw' fun p t _ => ⟨rfl, W, n, hn, rfl, rfl, hw, hw', hM, hs, he⟩
theorem i_vc_next {k : Nat} {u : SX} {v : SY} (I : i_Rel k u v) (hk : k + 6 ≤ 3072) : wpX_next (fun r u' => wpY_next (fun r' v' => r' = r ∧ i_Rel (k + 6) u' v') v) u := by
  obtain ⟨st, en, ln, dp, mv, wd, rc, uc⟩ := u
  obtain ⟨ln', mv', sa, ea, wd', pt, ld, wt⟩ := v
  obtain ⟨W, n, hn, rfl, rfl, hw, hw', hM, hs, he⟩ := I
  exact nw_xnext hn hw hM hs fun x d w r u hx h1 => nw_ynext hn hw' fun x2 w2 p l t hx2 h2 => ⟨nw_uo_eq hx2 hx, W, n, hn, rfl, rfl, h1, h2, hM, hs, he⟩
theorem i_vc_close {k : Nat} {u : SX} {v : SY} (I : i_Rel k u v) (hk : k + 6 ≤ 3072) : wpX_close (fun r u' => wpY_close (fun r' v' => r' = r ∧ i_Rel (k + 6) u' v') v) u := by
  obtain ⟨st, en, ln, dp, mv, wd, rc, uc⟩ := u
  obtain ⟨ln', mv', sa, ea, wd', pt, ld, wt⟩ := v
  obtain ⟨W, n, hn, rfl, rfl, hw, hw', hM, hs, he⟩ := I
  exact nw_xclose hn hw hM hs he fun x d w r u hx h1 => nw_yclose hn hw' fun x2 w2 p l t hx2 h2 => ⟨nw_cl_eq hx hx2, W, n, hn, rfl, rfl, h1, h2, hM, hs, he⟩
