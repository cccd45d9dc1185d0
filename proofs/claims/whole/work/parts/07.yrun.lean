/-! Y: the pieces and the walk over the word -/
section
variable {ln : Int32} {mv sa ea wd pt ld wt : Nat → Int32} {W : Nat → Nat}
theorem nw_ybetween {post : Int32 → Prop} {o p N : Nat} {T : List Nat} (hN : N ≤ 20) (hp : p < N) (hw : ∀ i, i < N → W i < 6 ∧ wd i = nI (W i)) (hpf : nw_pf W N pt) (hld : nw_ld (nw_M mv) W p ld) (es : nw_sk W p = o :: T) (h : ∀ x, nw_br x (nw_cu (nw_M mv) W p) → post x) : wpY_between post (ln, mv, sa, ea, wd, pt, ld, wt) (nI o) (nI p) := by
  obtain ⟨hop, hso, hwo⟩ := nw_kt es
  refine nm_r (nI_1 o) ?_
  refine loop_m (fun n (s : Int32 × Nat) => wY_between_8 post (nI p) ln mv sa ea wd pt ld wt n s.1 (nI s.2)) (fun s => s.2 ≤ p ∧ nw_sk W s.2 = o :: T ∧ nw_br s.1 (nw_cu (nw_M mv) W s.2)) (fun s => p - s.2) ?_ (17043521, o + 1) ⟨hop, ?_, ?_⟩
  · rintro n ⟨x, a⟩ ⟨h1, h2, h3⟩ ih
    have h1' : a ≤ p := h1
    have h2' : nw_sk W a = o :: T := h2
    have h3' : nw_br x (nw_cu (nw_M mv) W a) := h3
    refine pk_le p a (fun z => ?_) (fun z => ?_)
    · have e : a = p := by omega
      subst e
      exact h x h3'
    · obtain ⟨hw1, hw2⟩ := hw a (by omega)
      have hnc := nw_in h2' es z
      dsimp only
      rw [nI_clamp (n := a) (by omega), hw2]
      refine ⟨vp_in_nI (by omega) (by omega), pk_lt (W a) 4 (fun z2 => ?_) (fun z2 => ?_)⟩
      · have ho : W a < 2 := by
          by_cases y : W a < 2
          · exact y
          · exact absurd ⟨y, by omega⟩ hnc
        obtain ⟨c, c1, c2, c3, c4, c5⟩ := nw_k5 ho z (es.trans h2'.symm)
        have hpa : pt a = nI c := ((hpf a (by omega)).2 ho).1 c _ (by omega) c3 c4 c5
        rw [hpa, nI_clamp (n := c) (by omega)]
        refine ⟨vp_in_nI (by omega) (by omega), vp_in_nI (by omega) (by omega), nw_ythen h3' (hld c a _ c2 ⟨c3, c4⟩ c5) fun y hy => ?_⟩
        rw [nI_clamp (n := a) (by omega), hw2, hpa]
        refine ⟨vp_in_nI (by omega) (by omega), br_f (nI_nlt (a := 1) (b := W a) (by omega) (by omega)) ⟨vp_in_nI (by omega) (by omega), nm_e (nm_r (nI_1 c) (ih (y, c + 1) ⟨c2, ?_, ?_⟩ ?_))⟩⟩
        · exact (nw_sk_cc c3 c4 c5).trans h2'
        · show nw_br y (nw_cu (nw_M mv) W (c + 1))
          rw [nw_cu_c c3 c4 c5]
          exact hy
        · show p - (c + 1) < p - a
          omega
      · refine ⟨vp_in_nI (by omega) (by omega), nw_ypairs (m := 0) hw1 (by omega) fun y0 hy0 => nw_ythen h3' hy0 fun y hy => ?_⟩
        rw [nI_clamp (n := a) (by omega), hw2]
        refine ⟨vp_in_nI (by omega) (by omega), br_t (nI_lt (a := 1) (b := W a) (by omega) (by omega)) (nm_r (nI_1 a) (ih (y, a + 1) ⟨z, ?_, ?_⟩ ?_))⟩
        · exact (nw_sk_p z2).trans h2'
        · show nw_br y (nw_cu (nw_M mv) W (a + 1))
          rw [nw_cu_p z2]
          exact hy
        · show p - (a + 1) < p - a
          omega
  · exact (nw_sk_o hwo).trans (by rw [hso])
  · show nw_br 17043521 (nw_cu (nw_M mv) W (o + 1))
    rw [nw_cu_o hwo]
    exact nw_y_id
theorem nw_ypiece {post : Int32 → Prop} {o p N : Nat} {T : List Nat} (hN : N ≤ 20) (hp : p < N) (hw : ∀ i, i < N → W i < 6 ∧ wd i = nI (W i)) (hpf : nw_pf W N pt) (hld : nw_ld (nw_M mv) W p ld) (es : nw_sk W p = o :: T) (h : ∀ x, nw_br x (nw_pc (nw_M mv) (W o) (nw_cu (nw_M mv) W p) (W p)) → post x) : wpY_piece post (ln, mv, sa, ea, wd, pt, ld, wt) (nI o) (nI p) := by
  obtain ⟨hop, hso, hwo⟩ := nw_kt es
  obtain ⟨w1, w2⟩ := hw o (by omega)
  obtain ⟨w3, w4⟩ := hw p hp
  refine nw_ybetween hN hp hw hpf hld es fun x hx => ?_
  refine loop_0 (fun n m s => wY_piece_13 post (nI o) (nI p) x ln mv sa ea wd pt ld wt n s (nI m)) (fun m s => nw_br s (nw_pk (nw_M mv) (W o) (nw_cu (nw_M mv) W p) (W p) m)) 3 0 nw_pk_0 (fun n s hs => br_t (nI_le (a := 3) (b := 3) (by omega) (by omega)) (h s hs)) ?_
  intro n m s hm hs ih
  refine br_f (nI_ge (b := 3) hm (by decide)) ?_
  rw [nI_clamp (n := o) (by omega), nI_clamp (n := p) (by omega), w2, w4]
  exact ⟨vp_in_nI (by omega) (by omega), nw_ypairs w1 (by omega) fun y1 h1 => ⟨vp_in_nI (by omega) (by omega), nw_ypairs w3 (by omega) fun y2 h2 => nw_ythen h1 hx fun y3 h3 => nw_ythen h3 h2 fun y4 h4 => nm_e (nm_r (nI_1 m) (ih _ (nw_pk_s hs h4)))⟩⟩
/-! the walk -/
theorem nw_y101 {post : Int32 → SY → Prop} {S : Nat → Prop} {n : Nat} {x0 : Int32} (hn : n ≤ 20) (hw : ∀ i, i < n → W i < 6 ∧ wd i = nI (W i)) (hpf : nw_pf W n pt) (hld : nw_ld (nw_M mv) W n ld) (hs : nw_bs x0 S) (h : ∀ x, nw_bs x (nw_lv (nw_M mv) W S n) → post x (ln, mv, sa, ea, wd, pt, ld, wt)) : ∃ k, wY_liveAfter_101 post (nI n) ln mv sa ea wd pt ld wt k x0 (nI 0) := by
  refine loop_m (fun k (s : Int32 × Nat) => wY_liveAfter_101 post (nI n) ln mv sa ea wd pt ld wt k s.1 (nI s.2)) (fun s => s.2 ≤ n ∧ nw_tw W n s.2 ∧ nw_bs s.1 (nw_lv (nw_M mv) W S s.2)) (fun s => n - s.2) ?_ (x0, 0) ⟨Nat.zero_le n, nw_tw_0 W n, nw_bs_cg hs fun i hi => (nw_lv_0 hi).symm⟩
  rintro k ⟨x, a⟩ ⟨h1, h2, h3⟩ ih
  have h1' : a ≤ n := h1
  have h2' : nw_tw W n a := h2
  have h3' : nw_bs x (nw_lv (nw_M mv) W S a) := h3
  refine pk_le n a (fun z => ?_) (fun z => ?_)
  · have e : a = n := by omega
    subst e
    exact h x h3'
  · obtain ⟨hw1, hw2⟩ := hw a z
    dsimp only
    rw [nI_clamp (n := a) (by omega), hw2]
    refine ⟨vp_in_nI (by omega) (by omega), nm_e (pk_lt (W a) 4 (fun z2 => nw_ypairs (m := 3) hw1 (by omega) fun y hy => ?_) (fun z2 => nw_ypairs (m := 0) hw1 (by omega) fun y hy => ?_))⟩
    · by_cases ho : W a < 2
      · refine br_f (nI_nlt (a := 1) (b := W a) (by omega) (by omega)) (nw_ypairs (m := 0) hw1 (by omega) fun y0 hy0 => nw_ypairs (m := 1) hw1 (by omega) fun y1 hy1 => nw_ypairs (m := 2) hw1 (by omega) fun y2 hy2 => nm_e (br_f (nI_nlt (a := 1) (b := W a) (by omega) (by omega)) ?_))
        rw [nI_clamp (n := a) (by omega)]
        refine ⟨vp_in_nI (by omega) (by omega), ?_⟩
        rcases nw_pm hpf z ho with ⟨c, c1, c2, c3, c4, c5⟩ | ⟨c1, c2⟩
        · rw [c5]
          refine br_f (nI_pos (by omega)) ⟨vp_in_nI (by omega) (by omega), nm_e ?_⟩
          rw [nI_clamp (n := c) (by omega)]
          refine ⟨vp_in_nI (by omega) (by omega), nm_e (nw_yimage h3' (hld c a _ c2 c3 c4) fun y3 hy3 => nm_r (nI_1 c) (ih (y3, c + 1) ⟨c2, nw_tw_c h2' c3 c4, ?_⟩ ?_))⟩
          · exact nw_bs_cg hy3 fun i hi => (nw_lv_c c3.1 c3.2 c4).symm
          · show n - (c + 1) < n - a
            omega
        · rw [c2]
          refine br_t (by decide) (nw_yimage h3' (nw_y_op hy0 hy1 hy2) fun y3 hy3 => nm_r (nI_1 a) (ih (y3, a + 1) ⟨z, nw_tw_o h2' ho c1, ?_⟩ ?_))
          · exact nw_bs_cg hy3 fun i hi => (nw_lv_o ho hi).symm
          · show n - (a + 1) < n - a
            omega
      · have hcz : nw_cz W a := ⟨ho, by omega⟩
        have es := nw_tw_e h2' z hcz
        refine br_t (nI_lt (a := 1) (b := W a) (by omega) (by omega)) (br_t (nI_lt (a := 1) (b := W a) (by omega) (by omega)) (nw_yimage h3' hy fun y3 hy3 => nm_r (nI_1 a) (ih (y3, a + 1) ⟨z, nw_tw_n hcz es, ?_⟩ ?_)))
        · exact nw_bs_cg hy3 fun i hi => (nw_lv_n hcz.1 hcz.2 es).symm
        · show n - (a + 1) < n - a
          omega
    · refine br_t (nI_lt (a := 1) (b := W a) (by omega) (by omega)) (br_t (nI_lt (a := 1) (b := W a) (by omega) (by omega)) (nw_yimage h3' hy fun y3 hy3 => nm_r (nI_1 a) (ih (y3, a + 1) ⟨z, nw_tw_p h2' z2, ?_⟩ ?_)))
      · exact nw_bs_cg hy3 fun i hi => (nw_lv_p z2).symm
      · show n - (a + 1) < n - a
        omega
theorem nw_y67 {post : Int32 → SY → Prop} {J : Int32 → (Nat → Int32) → (Nat → Int32) → (Nat → Int32) → (Nat → Int32) → (Nat → Int32) → (Nat → Int32) → (Nat → Int32) → Prop} {n i : Nat} {x1 x2 : Int32} (hn : n ≤ 20) (hi : i < n) (hw : ∀ i, i < n → W i < 6 ∧ wd i = nI (W i)) (hpf : nw_pf W n pt) (hld : nw_ld (nw_M mv) W i ld) (hc : nw_cz W i) (h : ∀ ld', nw_ld (nw_M mv) W (i + 1) ld' → J (nI (i + 1)) mv sa ea wd pt ld' wt) : wY_liveAfter_67 post J x1 x2 (nI i) ln mv sa ea wd pt ld wt := by
  unfold wY_liveAfter_67
  rw [nI_clamp (n := i) (by omega)]
  refine ⟨vp_in_nI (by omega) (by omega), ?_⟩
  have hp := (hpf i hi).1 hc.1 hc.2
  cases es : nw_sk W i with
  | nil =>
    rw [hp.1 es]
    refine br_t (by decide) (nm_r (nI_1 i) (h ld (nw_ld_n hld fun o T _ z => ?_)))
    rw [es] at z
    cases z
  | cons o T =>
    rw [hp.2 o T es]
    have ho := (nw_kt es).1
    exact br_f (nI_pos (by omega)) ⟨vp_in_nI (by omega) (by omega), nw_ypiece hn hi hw hpf hld es fun x hx => ⟨vp_in_nI (by omega) (by omega), nm_e (nm_r (nI_1 i) (h _ (nw_ld_s hld es hx)))⟩⟩
theorem nw_y42 {post : Int32 → SY → Prop} {n : Nat} {x2 : Int32} (hn : n ≤ 20) (hw : ∀ i, i < n → W i < 6 ∧ wd i = nI (W i)) (hpf : nw_pf W n pt) (h : ∀ ld', nw_ld (nw_M mv) W n ld' → ∃ k, wY_liveAfter_101 post (nI n) ln mv sa ea wd pt ld' wt k x2 (nI 0)) : ∃ k, wY_liveAfter_42 post (nI n) x2 ln k (nI 0) mv sa ea wd pt ld wt := by
  refine loop_0 (fun k i l => wY_liveAfter_42 post (nI n) x2 ln k (nI i) mv sa ea wd pt l wt) (fun i l => nw_ld (nw_M mv) W i l) n ld (nw_ld_0 _ W ld) (fun k l hl => br_t (nI_le (Nat.le_refl n) (by omega)) (h l hl)) ?_
  intro k i l hi hl ih
  obtain ⟨hw1, hw2⟩ := hw i hi
  refine br_f (nI_ge hi (by omega)) ?_
  rw [nI_clamp (n := i) (by omega), hw2]
  refine ⟨vp_in_nI (by omega) (by omega), pk_eq (W i) 2 (fun z => ?_) (fun z => ⟨vp_in_nI (by omega) (by omega), pk_eq (W i) 3 (fun z2 => ?_) (fun z2 => ?_)⟩)⟩
  · exact nw_y67 hn hi hw hpf hl ⟨by omega, by omega⟩ fun l' hl' => ih l' hl'
  · exact nw_y67 hn hi hw hpf hl ⟨by omega, by omega⟩ fun l' hl' => ih l' hl'
  · refine nm_r (nI_1 i) (ih l (nw_ld_n hl fun o T hc _ => ?_))
    have := hc.1
    have := hc.2
    omega
theorem nw_yla {post : Int32 → SY → Prop} {n : Nat} (hn : n ≤ 20) (hw : ∀ i, i < n → W i < 6 ∧ wd i = nI (W i)) (h : ∀ x pt' ld' wt', nw_bs x (nw_lv (nw_M mv) W (nw_S sa) n) → post x (ln, mv, sa, ea, wd, pt', ld', wt')) : wpY_liveAfter post (ln, mv, sa, ea, wd, pt, ld, wt) (nI n) := by
  refine nw_ymatch hn hw fun pt' wt' hpf => ?_
  refine loop_0 (fun k i s => wY_liveAfter_10 post (nI n) ln mv sa ea wd pt' ld wt' k s (nI i)) (fun i s => nw_uo (nw_gs sa) i s) 5 0 (nw_uo_0 _) (fun k s hs => br_t (nI_le (a := 5) (b := 5) (by omega) (by omega)) (nw_y42 hn hw hpf fun ld' hld => nw_y101 hn hw hpf hld (nw_y_set hs) fun x hx => h x pt' ld' wt' hx)) ?_
  intro k i s hi hs ih
  refine br_f (nI_ge (b := 5) hi (by decide)) ?_
  rw [nI_clamp (by omega)]
  refine ⟨vp_in_nI (by omega) (by omega), br_c (fun z => nm_r Int32.or_zero (nm_r (nI_1 i) (ih _ (nw_uo_n hs fun j y => y.1 z)))) (fun z => nm_e (nm_r (nI_1 i) (ih _ (nw_uo_s hs fun j => ?_))))⟩
  rw [nw_b1 (by omega)]
  exact ⟨fun y => ⟨z, y⟩, fun y => y.2⟩
theorem nw_ysz {post : Int32 → SY → Prop} {x : Int32} (h : post (nw_ct x 5) (ln, mv, sa, ea, wd, pt, ld, wt)) : ∃ k, wY_read_54 post x ln mv sa ea wd pt ld wt k 0 (nI 0) := by
  refine loop_0 (fun n j s => wY_read_54 post x ln mv sa ea wd pt ld wt n s (nI j)) (fun j s => s = nw_ct x j) 5 0 rfl ?_ ?_
  · intro n s hs
    subst hs
    exact br_t (nI_le (a := 5) (b := 5) (by omega) (by omega)) h
  · intro n j s hj hs ih
    subst hs
    exact br_f (nI_ge (b := 5) hj (by decide)) (nm_e (nm_r (nI_1 j) (ih _ rfl)))
end
