/-! X: the small methods and the methods that take one letter -/
theorem nw_xmem {post : Int32 → Prop} {x : Int32} {n : Nat} (hn : n < 32) (h1 : bt x n = true → post 1) (h0 : ¬ bt x n = true → post 0) : wpX_isMember post x (nI n) :=
  ⟨fun z => h0 ((nw_t1z hn).mp z), fun z => h1 (Classical.byContradiction fun y => z ((nw_t1z hn).mpr y))⟩
theorem nw_xcell {post : Int32 → Prop} {q l m : Nat} (h : post (nI ((l * 4 + m) * 5 + q))) : wpX_moveCell post (nI q) (nI l) (nI m) := by
  unfold wpX_moveCell
  rw [nw_i5]
  exact h
section
variable {st en ln dp : Int32} {mv wd rc uc : Nat → Int32} {M : Nat → Nat → Nat → Nat → Prop} {W : Nat → Nat} {S : Nat → Prop}
theorem nw_xclear {post : SX → Prop} {i : Nat} (hi : i ≤ 20) (h : ∀ rc', (∀ c, c < 20 → rc' (i * 20 + c) = 0) → (∀ k, k < i * 20 → rc' k = rc k) → post (st, en, ln, dp, mv, wd, rc', uc)) : wpX_clearRow post (st, en, ln, dp, mv, wd, rc, uc) (nI i) := by
  refine loop_0 (fun n j r => wX_clearRow_2 post (nI i) st en ln dp n (nI j) mv wd r uc) (fun j r => (∀ c, c < j → r (i * 20 + c) = 0) ∧ (∀ k, k < i * 20 → r k = rc k)) 20 rc ⟨fun c hc => absurd hc (by omega), fun k _ => rfl⟩ ?_ ?_
  · rintro n r ⟨h1, h2⟩
    exact br_t (nI_le (a := 20) (b := 20) (by omega) (by omega)) (h r h1 h2)
  · rintro n j r hj ⟨h1, h2⟩ ih
    refine br_f (nI_ge (b := 20) hj (by decide)) ?_
    rw [nw_i20 i j, nI_clamp (by omega)]
    refine ⟨vp_in_nI (by omega) (by omega), nm_e (nm_r (nI_1 j) (ih _ ⟨fun c hc => ?_, fun k hk => ?_⟩))⟩
    · by_cases e : c = j
      · rw [e, pk_us]
      · rw [pk_un (by omega)]
        exact h1 c (by omega)
    · rw [pk_un (by omega)]
      exact h2 k hk
theorem nw_xlir {post : Int32 → Prop} {i : Nat} (hi : i ≤ 20) (hr : nw_rx M W S rc i) (h : ∀ x, nw_bs x (nw_lv M W S i) → post x) : wpX_liveInRow post (st, en, ln, dp, mv, wd, rc, uc) (nI i) := by
  refine loop_0 (fun n j s => wX_liveInRow_4 post (nI i) st en ln dp mv wd rc uc n s (nI j)) (fun j s => nw_uo (nw_gr rc (i * 20)) j s) 20 0 (nw_uo_0 _) (fun n s hs => br_t (nI_le (a := 20) (b := 20) (by omega) (by omega)) (h s (nw_x_live hr hs))) ?_
  intro n j s hj hs ih
  refine br_f (nI_ge (b := 20) hj (by decide)) ?_
  rw [nw_i20 i j, nI_clamp (by omega)]
  exact ⟨vp_in_nI (by omega) (by omega), nm_e (nm_r (nI_1 j) (ih _ (nw_uo_s hs fun _ => Iff.rfl)))⟩
theorem nw_xled {post : Int32 → Prop} {x : Int32} {l m : Nat} (hM : nw_mx mv M) (hl : l < 6) (hm : m < 4) (h : ∀ y, nw_uo (nw_gl x M l m) 5 y → post y) : wpX_ledTo post (st, en, ln, dp, mv, wd, rc, uc) x (nI l) (nI m) := by
  refine loop_0 (fun n j s => wX_ledTo_6 post x (nI l) (nI m) st en ln dp mv wd rc uc n s (nI j)) (fun j s => nw_uo (nw_gl x M l m) j s) 5 0 (nw_uo_0 _) (fun n s hs => br_t (nI_le (a := 5) (b := 5) (by omega) (by omega)) (h s hs)) ?_
  intro n j s hj hs ih
  refine br_f (nI_ge (b := 5) hj (by decide)) (nw_xmem (by omega) (fun hb => ?_) (fun hb => ?_))
  · refine br_f (by decide) (nw_xcell ?_)
    rw [nI_clamp (by omega)]
    refine ⟨vp_in_nI (by omega) (by omega), nm_e (nm_r (nI_1 j) (ih _ (nw_uo_s hs fun k => ?_)))⟩
    exact (hM l m j hl hm hj k).trans ⟨fun z => ⟨hb, z⟩, fun z => z.2⟩
  · exact br_t rfl (nm_r (nI_1 j) (ih _ (nw_uo_n hs fun k z => hb z.1)))
/-! an opening letter -/
theorem nw_xo18 {post : SX → Prop} {J : Int32 → (Nat → Int32) → (Nat → Int32) → (Nat → Int32) → (Nat → Int32) → Prop} {x : Int32} {i m : Nat} {r : Nat → Int32} (hx : nw_bs x (nw_lv M W S i)) (hM : nw_mx mv M) (hi : i < 20) (hl : W i < 2) (hm : m < 3) (hr : nw_io M W S rc r i (m * 5)) (h : ∀ r', nw_io M W S rc r' i ((m + 1) * 5) → J (nI (m + 1)) mv wd r' uc) : ∃ n, wX_takeOpening_18 post J (nI i) (nI (W i)) x (nI m) st en ln dp n (nI 0) mv wd r uc := by
  refine loop_0 (fun n j r => wX_takeOpening_18 post J (nI i) (nI (W i)) x (nI m) st en ln dp n (nI j) mv wd r uc) (fun j r => nw_io M W S rc r i (m * 5 + j)) 5 r hr ?_ ?_
  · intro n r hr
    refine br_t (nI_le (a := 5) (b := 5) (by omega) (by omega)) (nm_r (nI_1 m) (h r ?_))
    rw [show (m + 1) * 5 = m * 5 + 5 by omega]
    exact hr
  · intro n j r hj hr ih
    have e1 : (m * 5 + j) % 5 = j := by omega
    have e2 : (m * 5 + j) / 5 = m := by omega
    refine br_f (nI_ge (b := 5) hj (by decide)) (nw_xmem (by omega) (fun hb => ?_) (fun hb => ?_))
    · refine br_f (by decide) (nw_xcell ?_)
      rw [nI_1 i, nw_i20t (i + 1) m j, nI_clamp (by omega), nI_clamp (by omega)]
      refine ⟨vp_in_nI (by omega) (by omega), vp_in_nI (by omega) (by omega), nm_e (nm_r (nI_1 j) (ih _ (nw_io_s (T := m * 5 + j) hr ?_ ?_)))⟩
      · rw [e1]
        exact ((hx j).mp hb).2
      · rw [e1, e2]
        exact hM (W i) m j (by omega) (by omega) hj
    · refine br_t rfl (nm_r (nI_1 j) (ih _ (nw_io_n (T := m * 5 + j) hr (by omega) ?_)))
      rw [e1]
      exact fun z => hb ((hx j).mpr ⟨hj, z⟩)
theorem nw_xopen {post : SX → Prop} {i d : Nat} (hd : dp = nI d) (hd' : d < 20) (hM : nw_mx mv M) (hi : i < 20) (hl : W i < 2) (hr : nw_rx M W S rc i) (hz : ∀ c, c < 20 → rc ((i + 1) * 20 + c) = 0) (h : ∀ rc', (∀ k, k < (i + 1) * 20 → rc' k = rc k) → nw_rx M W S rc' (i + 1) → post (st, en, ln, nI (d + 1), mv, wd, rc', upd uc d (nI i))) : wpX_takeOpening post (st, en, ln, dp, mv, wd, rc, uc) (nI i) (nI (W i)) := by
  subst hd
  refine nw_xlir (by omega) hr fun x hx => ?_
  refine loop_0 (fun n j r => wX_takeOpening_9 post (nI i) (nI (W i)) x st en ln (nI d) n (nI j) mv wd r uc) (fun j r => nw_io M W S rc r i (j * 5)) 3 rc ⟨fun _ _ => rfl, fun c hc => absurd hc (by omega), fun c _ hc => hz c hc⟩ ?_ ?_
  · intro n r hr
    refine br_t (nI_le (a := 3) (b := 3) (by omega) (by omega)) ?_
    rw [nI_clamp (by omega)]
    exact ⟨vp_in_nI (by omega) (by omega), nm_e (nm_r (nI_1 d) (h r hr.1 (nw_x_o hl hr)))⟩
  · intro n j r hj hr ih
    exact br_f (nI_ge (b := 3) hj (by decide)) (nw_xo18 hx hM hi hl hj hr fun r' hr' => ih r' hr')
/-! a plain letter -/
theorem nw_xplain {post : SX → Prop} {i : Nat} (hM : nw_mx mv M) (hi : i < 20) (hl : 4 ≤ W i) (hl' : W i < 6) (hr : nw_rx M W S rc i) (h : ∀ rc', (∀ k, k < (i + 1) * 20 → rc' k = rc k) → nw_rx M W S rc' (i + 1) → post (st, en, ln, dp, mv, wd, rc', uc)) : wpX_takePlain post (st, en, ln, dp, mv, wd, rc, uc) (nI i) (nI (W i)) := by
  refine loop_0 (fun n j r => wX_takePlain_2 post (nI i) (nI (W i)) st en ln dp n (nI j) mv wd r uc) (fun j r => (∀ k, k < (i + 1) * 20 → r k = rc k) ∧ ∀ c, c < j → nw_bs (r ((i + 1) * 20 + c)) (nw_im (nw_ro M W S i (c / 5) (c % 5)) (M (W i) 0))) 20 rc ⟨fun _ _ => rfl, fun c hc => absurd hc (by omega)⟩ ?_ ?_
  · rintro n r ⟨h1, h2⟩
    exact br_t (nI_le (a := 20) (b := 20) (by omega) (by omega)) (h r h1 (nw_x_p hl h2))
  · rintro n j r hj ⟨h1, h2⟩ ih
    refine br_f (nI_ge (b := 20) hj (by decide)) ?_
    rw [nI_1 i, nw_i20 i j, nw_i20 (i + 1) j, nI_clamp (by omega), nI_clamp (by omega)]
    refine ⟨vp_in_nI (by omega) (by omega), nw_xled (m := 0) hM hl' (by omega) fun y hy => ⟨vp_in_nI (by omega) (by omega), nm_e (nm_r (nI_1 j) (ih _ ⟨fun k hk => ?_, fun c hc => ?_⟩))⟩⟩
    · rw [pk_un (by omega)]
      exact h1 k hk
    · by_cases e : c = j
      · subst e
        rw [pk_us]
        rw [h1 _ (by omega)] at hy
        exact nw_x_led (hr c hj) hy
      · rw [pk_un (by omega)]
        exact h2 c (by omega)
/-! a closing letter with nothing to close -/
theorem nw_xunm {post : SX → Prop} {i : Nat} (hM : nw_mx mv M) (hi : i < 20) (hl : ¬ W i < 2) (hl' : ¬ 4 ≤ W i) (es : nw_sk W i = []) (hr : nw_rx M W S rc i) (hz : ∀ c, c < 20 → rc ((i + 1) * 20 + c) = 0) (h : ∀ rc', (∀ k, k < (i + 1) * 20 → rc' k = rc k) → nw_rx M W S rc' (i + 1) → post (st, en, ln, dp, mv, wd, rc', uc)) : wpX_takeUnmatched post (st, en, ln, dp, mv, wd, rc, uc) (nI i) (nI (W i)) := by
  unfold wpX_takeUnmatched
  dsimp only
  rw [nI_1 i, nw_i20k i, nw_i20k (i + 1), nI_clamp (by omega), nI_clamp (by omega)]
  refine ⟨vp_in_nI (by omega) (by omega), nw_xled (m := 3) hM (by omega) (by omega) fun y hy => ⟨vp_in_nI (by omega) (by omega), nm_e (h _ (fun k hk => pk_un (by omega)) (nw_x_n hl hl' es ?_ fun c hc e => ?_))⟩⟩
  · rw [pk_us]
    exact nw_x_led (hr 15 (by omega)) hy
  · rw [pk_un (by omega)]
    exact hz c hc
/-! a closing letter that closes -/
def nw_ad (r : Nat → Int32) (w o b c : Nat) (x : Int32) (k : Nat) : Int32 := if w * 20 ≤ k ∧ k < w * 20 + c ∧ bt (r (o * 20 + (k - w * 20))) b = true then r k ||| x else r k
theorem nw_ad_lo {r : Nat → Int32} {w o b c : Nat} {x : Int32} {k : Nat} (h : k < w * 20) : nw_ad r w o b c x k = r k := if_neg fun z => by
  have := z.1
  omega
theorem nw_ad_ge {r : Nat → Int32} {w o b c : Nat} {x : Int32} {k : Nat} (h : w * 20 + c ≤ k) : nw_ad r w o b c x k = r k := if_neg fun z => by
  have := z.2.1
  omega
theorem nw_ad_t {r : Nat → Int32} {w o b c d : Nat} {x : Int32} (h : bt (r (o * 20 + d)) b = true) (hd : d < c) : nw_ad r w o b c x (w * 20 + d) = r (w * 20 + d) ||| x := if_pos ⟨by omega, by omega, by rw [show w * 20 + d - w * 20 = d by omega]; exact h⟩
theorem nw_ad_f {r : Nat → Int32} {w o b c d : Nat} {x : Int32} (h : ¬ bt (r (o * 20 + d)) b = true) : nw_ad r w o b c x (w * 20 + d) = r (w * 20 + d) := if_neg fun z => h (by
  have := z.2.2
  rw [show w * 20 + d - w * 20 = d by omega] at this
  exact this)
theorem nw_ad_ne {r : Nat → Int32} {w o b c : Nat} {x : Int32} {k : Nat} (h : k ≠ w * 20 + c) : nw_ad r w o b (c + 1) x k = nw_ad r w o b c x k := by
  unfold nw_ad
  by_cases z : w * 20 ≤ k ∧ k < w * 20 + c ∧ bt (r (o * 20 + (k - w * 20))) b = true
  · rw [if_pos z, if_pos ⟨z.1, by omega, z.2.2⟩]
  · rw [if_neg z, if_neg fun y => z ⟨y.1, by omega, y.2.2⟩]
theorem nw_xadd {post : SX → Prop} {w o b : Nat} {x : Int32} (hw : w ≤ 20) (ho : o < w) (hb : b < 5) (h : ∀ rc', (∀ k, rc' k = nw_ad rc w o b 20 x k) → post (st, en, ln, dp, mv, wd, rc', uc)) : wpX_addWhereOpened post (st, en, ln, dp, mv, wd, rc, uc) (nI w) (nI o) (nI b) x := by
  refine loop_0 (fun n j r => wX_addWhereOpened_3 post (nI w) (nI o) (nI b) x st en ln dp n (nI j) mv wd r uc) (fun j r => ∀ k, r k = nw_ad rc w o b j x k) 20 rc (fun k => ?_) (fun n r hr => br_t (nI_le (a := 20) (b := 20) (by omega) (by omega)) (h r hr)) ?_
  · rcases Nat.lt_or_ge k (w * 20) with z | z
    · exact (nw_ad_lo z).symm
    · exact (nw_ad_ge (by omega)).symm
  · intro n j r hj hr ih
    refine br_f (nI_ge (b := 20) hj (by decide)) ?_
    rw [nw_i20 o j, nw_i20 w j, nI_clamp (by omega), nI_clamp (by omega)]
    refine ⟨vp_in_nI (by omega) (by omega), ?_⟩
    rw [hr (o * 20 + j), nw_ad_lo (by omega)]
    refine nw_xmem (by omega) (fun z => ?_) (fun z => ?_)
    · refine br_f (by decide) ⟨vp_in_nI (by omega) (by omega), vp_in_nI (by omega) (by omega), nm_e (nm_r (nI_1 j) (ih _ fun k => ?_))⟩
      by_cases e : k = w * 20 + j
      · subst e
        rw [pk_us, hr, nw_ad_ge (by omega), nw_ad_t z (by omega)]
      · rw [pk_un e, hr, nw_ad_ne e]
    · refine br_t rfl (nm_r (nI_1 j) (ih _ fun k => ?_))
      by_cases e : k = w * 20 + j
      · subst e
        rw [hr, nw_ad_ge (by omega), nw_ad_f z]
      · rw [hr, nw_ad_ne e]
def nw_ic (M : Nat → Nat → Nat → Nat → Prop) (l : Nat) (rc r : Nat → Int32) (o i T : Nat) : Prop := (∀ k, k < (i + 1) * 20 → r k = rc k) ∧ ∀ c, c < 20 → nw_uo (nw_gm M l rc o i c) T (r ((i + 1) * 20 + c))
theorem nw_ic_s {l o i T : Nat} {r r' : Nat → Int32} {y : Int32} (h : nw_ic M l rc r o i T) (ho : o ≤ i) (hT : T < 15) (hy : nw_uo (nw_gl (r (i * 20 + T)) M l (T / 5)) 5 y) (hr : ∀ k, r' k = nw_ad r (i + 1) o (T % 5) 20 y k) : nw_ic M l rc r' o i (T + 1) := by
  obtain ⟨h1, h2⟩ := h
  refine ⟨fun k hk => ?_, fun c hc => ?_⟩
  · rw [hr, nw_ad_lo hk]
    exact h1 k hk
  · rw [hr]
    rw [h1 _ (by omega)] at hy
    by_cases z : bt (r (o * 20 + c)) (T % 5) = true
    · rw [nw_ad_t z hc]
      rw [h1 _ (by omega)] at z
      refine nw_uo_s (h2 c hc) fun j => ?_
      rw [hy j]
      constructor
      · rintro ⟨q, hq, x1, x2, x3⟩
        exact ⟨z, q, hq, x1, x2, x3⟩
      · rintro ⟨_, q, hq, x1, x2, x3⟩
        exact ⟨q, hq, x1, x2, x3⟩
    · rw [nw_ad_f z]
      rw [h1 _ (by omega)] at z
      exact nw_uo_n (h2 c hc) fun j y => z y.1
theorem nw_xm32 {post : SX → Prop} {J : Int32 → Int32 → Int32 → Int32 → Int32 → (Nat → Int32) → (Nat → Int32) → (Nat → Int32) → (Nat → Int32) → Prop} {i o l m : Nat} {r : Nat → Int32} (hM : nw_mx mv M) (hi : i < 20) (ho : o ≤ i) (hl : l < 6) (hm : m < 3) (hr : nw_ic M l rc r o i (m * 5)) (h : ∀ r', nw_ic M l rc r' o i ((m + 1) * 5) → J (nI (m + 1)) st en ln dp mv wd r' uc) : ∃ n, wX_takeMatched_32 post J (nI i) (nI l) (nI o) (nI m) n (nI 0) st en ln dp mv wd r uc := by
  refine loop_0 (fun n j r => wX_takeMatched_32 post J (nI i) (nI l) (nI o) (nI m) n (nI j) st en ln dp mv wd r uc) (fun j r => nw_ic M l rc r o i (m * 5 + j)) 5 r hr ?_ ?_
  · intro n r hr
    refine br_t (nI_le (a := 5) (b := 5) (by omega) (by omega)) (nm_r (nI_1 m) (h r ?_))
    rw [show (m + 1) * 5 = m * 5 + 5 by omega]
    exact hr
  · intro n j r hj hr ih
    have e1 : (m * 5 + j) % 5 = j := by omega
    have e2 : (m * 5 + j) / 5 = m := by omega
    refine br_f (nI_ge (b := 5) hj (by decide)) ?_
    rw [nI_1 i, nw_i20t i m j, nI_clamp (by omega)]
    refine ⟨vp_in_nI (by omega) (by omega), nw_xled hM hl (by omega) fun y hy => nw_xadd (by omega) (by omega) hj fun r' hr' => nm_r (nI_1 j) (ih r' (nw_ic_s (T := m * 5 + j) (y := y) hr ho (by omega) ?_ ?_))⟩
    · rw [e2]
      exact hy
    · rw [e1]
      exact hr'
theorem nw_xmat {post : SX → Prop} {i o : Nat} {T : List Nat} (hd : dp = nI (T.length + 1)) (hd' : T.length < 20) (hu : uc T.length = nI o) (hM : nw_mx mv M) (hi : i < 20) (hl : ¬ W i < 2) (hl' : ¬ 4 ≤ W i) (es : nw_sk W i = o :: T) (hr : nw_rx M W S rc i) (hro : nw_rx M W S rc o) (hz : ∀ c, c < 20 → rc ((i + 1) * 20 + c) = 0) (h : ∀ rc', (∀ k, k < (i + 1) * 20 → rc' k = rc k) → nw_rx M W S rc' (i + 1) → post (st, en, ln, nI T.length, mv, wd, rc', uc)) : wpX_takeMatched post (st, en, ln, dp, mv, wd, rc, uc) (nI i) (nI (W i)) := by
  subst hd
  obtain ⟨ho, _, _⟩ := nw_kt es
  refine nm_r (nI_pred _) ?_
  rw [nI_clamp (by omega), hu]
  refine ⟨vp_in_nI (by omega) (by omega), nm_e ?_⟩
  refine loop_0 (fun n j r => wX_takeMatched_23 post (nI i) (nI (W i)) (nI o) n (nI j) st en ln (nI T.length) mv wd r uc) (fun j r => nw_ic M (W i) rc r o i (j * 5)) 3 rc ⟨fun _ _ => rfl, fun c hc => ?_⟩ ?_ ?_
  · rw [hz c hc]
    exact nw_uo_0 _
  · intro n r hr'
    exact br_t (nI_le (a := 3) (b := 3) (by omega) (by omega)) (h r hr'.1 (nw_x_c hl hl' es hr hro hr'.2))
  · intro n j r hj hr' ih
    exact br_f (nI_ge (b := 3) hj (by decide)) (nw_xm32 hM hi (by omega) (by omega) hj hr' fun r' hr2 => ih r' hr2)
end
