/-! between the arrays and the pure picture: Y's sets -/
def nw_M (f : Nat → Int32) (l m q r : Nat) : Prop := ¬ f (120 * q + 20 * l + 4 * r + m) = 0
def nw_S (f : Nat → Int32) (q : Nat) : Prop := ¬ f q = 0
def nw_gp (f : Nat → Int32) (l m i j : Nat) : Prop := ¬ f (120 * (i / 5) + 20 * l + 4 * (i % 5) + m) = 0 ∧ i = j
def nw_gt (a b : Int32) (i j : Nat) : Prop := (bt a (5 * (i / 25) + i / 5 % 5) = true ∧ bt b (5 * (i / 5 % 5) + i % 5) = true) ∧ 5 * (i / 25) + i % 5 = j
def nw_gi (s x : Int32) (i j : Nat) : Prop := (bt s (i / 5) = true ∧ bt x i = true) ∧ i % 5 = j
def nw_gs (f : Nat → Int32) (i j : Nat) : Prop := ¬ f i = 0 ∧ i = j
theorem nw_y_pairs {f : Nat → Int32} {l m : Nat} {x : Int32} (h : nw_uo (nw_gp f l m) 25 x) : nw_br x (nw_M f l m) := by
  intro j
  rw [h j]
  constructor
  · rintro ⟨i, hi, h1, h2⟩
    subst h2
    exact ⟨hi, h1⟩
  · rintro ⟨hj, h1⟩
    exact ⟨j, hj, h1, rfl⟩
theorem nw_y_then {a b x : Int32} {A B : Nat → Nat → Prop} (ha : nw_br a A) (hb : nw_br b B) (h : nw_uo (nw_gt a b) 125 x) : nw_br x (nw_th A B) := by
  intro j
  rw [h j]
  constructor
  · rintro ⟨i, hi, ⟨h1, h2⟩, h3⟩
    rw [nw_br_at ha (by omega) (by omega)] at h1
    rw [nw_br_at hb (by omega) (by omega)] at h2
    refine ⟨by omega, i / 5 % 5, by omega, ?_, ?_⟩
    · rw [show j / 5 = i / 25 by omega]
      exact h1
    · rw [show j % 5 = i % 5 by omega]
      exact h2
  · rintro ⟨hj, s, hs, h1, h2⟩
    have e1 : (25 * (j / 5) + 5 * s + j % 5) / 25 = j / 5 := by omega
    have e2 : (25 * (j / 5) + 5 * s + j % 5) / 5 % 5 = s := by omega
    have e3 : (25 * (j / 5) + 5 * s + j % 5) % 5 = j % 5 := by omega
    refine ⟨25 * (j / 5) + 5 * s + j % 5, by omega, ⟨?_, ?_⟩, ?_⟩
    · rw [e1, e2, nw_br_at ha (by omega) hs]
      exact h1
    · rw [e2, e3, nw_br_at hb hs (by omega)]
      exact h2
    · rw [e1, e3]
      omega
theorem nw_y_image {s x y : Int32} {S : Nat → Prop} {A : Nat → Nat → Prop} (hs : nw_bs s S) (hx : nw_br x A) (h : nw_uo (nw_gi s x) 25 y) : nw_bs y (nw_im S A) := by
  intro j
  rw [h j]
  constructor
  · rintro ⟨i, hi, ⟨h1, h2⟩, h3⟩
    rw [hs] at h1
    rw [hx] at h2
    refine ⟨by omega, i / 5, by omega, h1.2, ?_⟩
    rw [← h3]
    exact h2.2
  · rintro ⟨hj, q, hq, h1, h2⟩
    have e1 : (5 * q + j) / 5 = q := by omega
    have e2 : (5 * q + j) % 5 = j := by omega
    refine ⟨5 * q + j, by omega, ⟨?_, ?_⟩, e2⟩
    · rw [e1, hs]
      exact ⟨hq, h1⟩
    · exact (nw_br_at hx hq hj).mpr h2
theorem nw_y_set {f : Nat → Int32} {x : Int32} (h : nw_uo (nw_gs f) 5 x) : nw_bs x (nw_S f) := by
  intro j
  rw [h j]
  constructor
  · rintro ⟨i, hi, h1, h2⟩
    subst h2
    exact ⟨hi, h1⟩
  · rintro ⟨hj, h1⟩
    exact ⟨j, hj, h1, rfl⟩
theorem nw_y_id : nw_br 17043521 nw_id := by
  intro i
  rcases Nat.lt_or_ge i 32 with h | h
  · have hh : ∀ i, i < 32 → bt 17043521 i = decide (i < 25 ∧ i / 5 = i % 5) := by decide +kernel
    rw [hh i h, decide_eq_true_iff]
    exact Iff.rfl
  · rw [b_big h]
    exact ⟨fun z => absurd z (by decide), fun z => absurd z.1 (by omega)⟩
theorem nw_y_or {x y : Int32} {A B : Nat → Nat → Prop} (hx : nw_br x A) (hy : nw_br y B) : nw_br (x ||| y) (fun q r => A q r ∨ B q r) := by
  intro i
  rw [nw_bor, hx i, hy i]
  constructor
  · rintro (⟨h1, h2⟩ | ⟨h1, h2⟩)
    · exact ⟨h1, Or.inl h2⟩
    · exact ⟨h1, Or.inr h2⟩
  · rintro ⟨h1, h2 | h2⟩
    · exact Or.inl ⟨h1, h2⟩
    · exact Or.inr ⟨h1, h2⟩
theorem nw_y_0 : nw_br 0 (fun _ _ => False) := fun i => ⟨fun z => absurd z (nw_z i), fun z => z.2.elim⟩
theorem nw_y_op {M : Nat → Nat → Nat → Nat → Prop} {l : Nat} {x y z : Int32} (hx : nw_br x (M l 0)) (hy : nw_br y (M l 1)) (hz : nw_br z (M l 2)) : nw_br (x ||| y ||| z) (nw_op M l) := by
  refine nw_br_cg (nw_y_or (nw_y_or hx hy) hz) fun q r _ _ => ⟨?_, ?_⟩
  · rintro ((h | h) | h)
    · exact ⟨0, by omega, h⟩
    · exact ⟨1, by omega, h⟩
    · exact ⟨2, by omega, h⟩
  · rintro ⟨m, hm, h⟩
    have e : m = 0 ∨ m = 1 ∨ m = 2 := by omega
    rcases e with e | e | e
    · subst e
      exact Or.inl (Or.inl h)
    · subst e
      exact Or.inl (Or.inr h)
    · subst e
      exact Or.inr h
/-! one piece, mark by mark -/
def nw_pk (M : Nat → Nat → Nat → Nat → Prop) (a : Nat) (A : Nat → Nat → Prop) (c n : Nat) : Nat → Nat → Prop := fun q r => ∃ m, m < n ∧ nw_th (nw_th (M a m) A) (M c m) q r
theorem nw_pk_0 {M : Nat → Nat → Nat → Nat → Prop} {a c : Nat} {A : Nat → Nat → Prop} : nw_br 0 (nw_pk M a A c 0) := nw_br_cg nw_y_0 fun _ _ _ _ => ⟨fun z => z.elim, fun ⟨m, hm, _⟩ => absurd hm (by omega)⟩
theorem nw_pk_s {M : Nat → Nat → Nat → Nat → Prop} {a c n : Nat} {A : Nat → Nat → Prop} {x y : Int32} (hx : nw_br x (nw_pk M a A c n)) (hy : nw_br y (nw_th (nw_th (M a n) A) (M c n))) : nw_br (x ||| y) (nw_pk M a A c (n + 1)) := by
  refine nw_br_cg (nw_y_or hx hy) fun q r _ _ => ⟨?_, ?_⟩
  · rintro (⟨m, hm, h⟩ | h)
    · exact ⟨m, by omega, h⟩
    · exact ⟨n, by omega, h⟩
  · rintro ⟨m, hm, h⟩
    by_cases e : m = n
    · subst e
      exact Or.inr h
    · exact Or.inl ⟨m, by omega, h⟩
/-! X's rows -/
def nw_mx (f : Nat → Int32) (M : Nat → Nat → Nat → Nat → Prop) : Prop := ∀ l m q, l < 6 → m < 4 → q < 5 → nw_bs (f ((l * 4 + m) * 5 + q)) (M l m q)
def nw_gl (s : Int32) (M : Nat → Nat → Nat → Nat → Prop) (l m q j : Nat) : Prop := bt s q = true ∧ j < 5 ∧ M l m q j
def nw_gr (a : Nat → Int32) (k i j : Nat) : Prop := bt (a (k + i)) j = true
theorem nw_x_led {s x : Int32} {M : Nat → Nat → Nat → Nat → Prop} {R : Nat → Prop} {l m : Nat} (hs : nw_bs s R) (h : nw_uo (nw_gl s M l m) 5 x) : nw_bs x (nw_im R (M l m)) := by
  intro j
  rw [h j]
  constructor
  · rintro ⟨q, hq, h1, h2, h3⟩
    exact ⟨h2, q, hq, ((hs q).mp h1).2, h3⟩
  · rintro ⟨h2, q, hq, h1, h3⟩
    exact ⟨q, hq, (hs q).mpr ⟨hq, h1⟩, h2, h3⟩
section
variable {M : Nat → Nat → Nat → Nat → Prop} {W : Nat → Nat} {S : Nat → Prop}
def nw_rx (M : Nat → Nat → Nat → Nat → Prop) (W : Nat → Nat) (S : Nat → Prop) (a : Nat → Int32) (i : Nat) : Prop := ∀ c, c < 20 → nw_bs (a (i * 20 + c)) (nw_ro M W S i (c / 5) (c % 5))
theorem nw_rx_cg {a a' : Nat → Int32} {i : Nat} (h : nw_rx M W S a i) (e : ∀ k, k < (i + 1) * 20 → a' k = a k) : nw_rx M W S a' i := by
  intro c hc
  rw [e _ (by omega)]
  exact h c hc
theorem nw_x_live {a : Nat → Int32} {i : Nat} {x : Int32} (h : nw_rx M W S a i) (hu : nw_uo (nw_gr a (i * 20)) 20 x) : nw_bs x (nw_lv M W S i) := by
  intro j
  rw [hu j]
  constructor
  · rintro ⟨c, hc, h1⟩
    have h2 := (h c hc j).mp h1
    exact ⟨h2.1, c / 5, c % 5, by omega, by omega, h2.2⟩
  · rintro ⟨hj, t, b, ht, hb, h2⟩
    have h1 := (h (t * 5 + b) (by omega) j)
    rw [show (t * 5 + b) / 5 = t by omega, show (t * 5 + b) % 5 = b by omega] at h1
    exact ⟨t * 5 + b, by omega, h1.mpr ⟨hj, h2⟩⟩
theorem nw_x_0 {a : Nat → Int32} {x : Int32} (hz : ∀ c, c < 20 → a c = 0) (hx : nw_bs x S) : nw_rx M W S (upd a 15 x) 0 := by
  intro c hc j
  rw [show 0 * 20 + c = c by omega]
  by_cases e : c = 15
  · subst e
    rw [pk_us, hx j]
    exact ⟨fun ⟨h1, h2⟩ => ⟨h1, (nw_ro_0 h1).mpr ⟨rfl, rfl, h2⟩⟩, fun ⟨h1, h2⟩ => ⟨h1, ((nw_ro_0 h1).mp h2).2.2⟩⟩
  · rw [pk_un e, hz c hc]
    refine ⟨fun z => absurd z (nw_z j), fun ⟨h1, h2⟩ => ?_⟩
    obtain ⟨h3, h4, _⟩ := (nw_ro_0 h1).mp h2
    omega
/-- row i + 1 while an opening letter is taken: cells below T are done -/
def nw_io (M : Nat → Nat → Nat → Nat → Prop) (W : Nat → Nat) (S : Nat → Prop) (rc r : Nat → Int32) (i T : Nat) : Prop := (∀ k, k < (i + 1) * 20 → r k = rc k) ∧ (∀ c, c < T → (nw_lv M W S i (c % 5) → nw_bs (r ((i + 1) * 20 + c)) (M (W i) (c / 5) (c % 5))) ∧ (¬ nw_lv M W S i (c % 5) → r ((i + 1) * 20 + c) = 0)) ∧ (∀ c, T ≤ c → c < 20 → r ((i + 1) * 20 + c) = 0)
theorem nw_io_s {rc r : Nat → Int32} {i T : Nat} {y : Int32} (h : nw_io M W S rc r i T) (hl : nw_lv M W S i (T % 5)) (hy : nw_bs y (M (W i) (T / 5) (T % 5))) : nw_io M W S rc (upd r ((i + 1) * 20 + T) y) i (T + 1) := by
  obtain ⟨h1, h2, h3⟩ := h
  refine ⟨fun k hk => ?_, fun c hc => ?_, fun c hc hc' => ?_⟩
  · rw [pk_un (by omega)]
    exact h1 k hk
  · by_cases e : c = T
    · subst e
      rw [pk_us]
      exact ⟨fun _ => hy, fun z => absurd hl z⟩
    · rw [pk_un (by omega)]
      exact h2 c (by omega)
  · rw [pk_un (by omega)]
    exact h3 c (by omega) hc'
theorem nw_io_n {rc r : Nat → Int32} {i T : Nat} (h : nw_io M W S rc r i T) (hT : T < 20) (hl : ¬ nw_lv M W S i (T % 5)) : nw_io M W S rc r i (T + 1) := by
  obtain ⟨h1, h2, h3⟩ := h
  refine ⟨h1, fun c hc => ?_, fun c hc hc' => h3 c (by omega) hc'⟩
  by_cases e : c = T
  · subst e
    exact ⟨fun z => absurd z hl, fun _ => h3 c (by omega) hT⟩
  · exact h2 c (by omega)
theorem nw_x_o {rc a : Nat → Int32} {i : Nat} (h : W i < 2) (hh : nw_io M W S rc a i 15) : nw_rx M W S a (i + 1) := by
  obtain ⟨_, h2, h3⟩ := hh
  intro c hc j
  by_cases e : c < 15
  · by_cases z : nw_lv M W S i (c % 5)
    · rw [(h2 c e).1 z j]
      exact ⟨fun ⟨x1, x2⟩ => ⟨x1, (nw_ro_o h x1).mpr ⟨by omega, z, x2⟩⟩, fun ⟨x1, x2⟩ => ⟨x1, ((nw_ro_o h x1).mp x2).2.2⟩⟩
    · rw [(h2 c e).2 z]
      exact ⟨fun x => absurd x (nw_z j), fun ⟨x1, x2⟩ => absurd ((nw_ro_o h x1).mp x2).2.1 z⟩
  · rw [h3 c (by omega) hc]
    refine ⟨fun x => absurd x (nw_z j), fun ⟨x1, x2⟩ => ?_⟩
    have := ((nw_ro_o h x1).mp x2).1
    omega
theorem nw_x_p {a : Nat → Int32} {i : Nat} (h : 4 ≤ W i) (hh : ∀ c, c < 20 → nw_bs (a ((i + 1) * 20 + c)) (nw_im (nw_ro M W S i (c / 5) (c % 5)) (M (W i) 0))) : nw_rx M W S a (i + 1) := by
  intro c hc
  exact nw_bs_cg (hh c hc) fun j hj => (nw_ro_p h).symm
theorem nw_x_n {a : Nat → Int32} {i : Nat} (h : ¬ W i < 2) (h' : ¬ 4 ≤ W i) (es : nw_sk W i = []) (hh : nw_bs (a ((i + 1) * 20 + 15)) (nw_im (nw_ro M W S i 3 0) (M (W i) 3))) (hz : ∀ c, c < 20 → c ≠ 15 → a ((i + 1) * 20 + c) = 0) : nw_rx M W S a (i + 1) := by
  intro c hc
  by_cases e : c = 15
  · subst e
    exact nw_bs_cg hh fun j hj => (nw_ro_n h h' es).symm
  · rw [hz c hc e]
    intro j
    refine ⟨fun x => absurd x (nw_z j), fun ⟨x1, x2⟩ => ?_⟩
    obtain ⟨h1, h2⟩ := nw_ro_e (nw_sk_cn h h' es) x2
    omega
/-- what a matched closing letter gathers in cell c, from the pairs (mark, state below) t -/
def nw_gm (M : Nat → Nat → Nat → Nat → Prop) (l : Nat) (a : Nat → Int32) (o i c t j : Nat) : Prop := bt (a (o * 20 + c)) (t % 5) = true ∧ ∃ q, q < 5 ∧ bt (a (i * 20 + t)) q = true ∧ j < 5 ∧ M l (t / 5) q j
theorem nw_x_c {a a' : Nat → Int32} {i o : Nat} {T : List Nat} (h : ¬ W i < 2) (h' : ¬ 4 ≤ W i) (es : nw_sk W i = o :: T) (hi : nw_rx M W S a i) (ho : nw_rx M W S a o) (hh : ∀ c, c < 20 → nw_uo (nw_gm M (W i) a o i c) 15 (a' ((i + 1) * 20 + c))) : nw_rx M W S a' (i + 1) := by
  intro c hc j
  rw [hh c hc j]
  constructor
  · rintro ⟨t, ht, h1, q, hq, h2, hj, h3⟩
    refine ⟨hj, (nw_ro_c h h' es (by omega) (by omega)).mpr ⟨t / 5, t % 5, by omega, by omega, ((ho c hc _).mp h1).2, q, hq, ?_, h3⟩⟩
    exact ((hi t (by omega) q).mp h2).2
  · rintro ⟨hj, h1⟩
    obtain ⟨m, w, hm, hw, h2, q, hq, h3, h4⟩ := (nw_ro_c h h' es (by omega) (by omega)).mp h1
    have e1 : (m * 5 + w) / 5 = m := by omega
    have e2 : (m * 5 + w) % 5 = w := by omega
    refine ⟨m * 5 + w, by omega, ?_, q, hq, ?_, hj, ?_⟩
    · rw [e2]
      exact (ho c hc w).mpr ⟨hw, h2⟩
    · refine (hi (m * 5 + w) (by omega) q).mpr ⟨hq, ?_⟩
      rw [e1, e2]
      exact h3
    · rw [e1]
      exact h4
end
/-! the number of states in a set; the least number of closing letters -/
def nw_ct (x : Int32) : Nat → Int32
  | 0 => 0
  | n + 1 => nw_ct x n + ((x >>> (nI n &&& 31)) &&& 1)
def nw_cl (P : Nat → Prop) (r : Int32) : Prop := (∃ n, n < 5 ∧ P n ∧ (∀ i, i < n → ¬ P i) ∧ r = nI n) ∨ ((∀ i, i < 5 → ¬ P i) ∧ r = -1)
theorem nw_cl_eq {P : Nat → Prop} {r r' : Int32} (h : nw_cl P r) (h' : nw_cl P r') : r' = r := by
  rcases h with ⟨n, hn, h1, h2, rfl⟩ | ⟨h1, rfl⟩
  · rcases h' with ⟨n', hn', h1', h2', rfl⟩ | ⟨h1', rfl⟩
    · rcases Nat.lt_trichotomy n n' with z | z | z
      · exact absurd h1 (h2' n z)
      · rw [z]
      · exact absurd h1' (h2 n' z)
    · exact absurd h1 (h1' n hn)
  · rcases h' with ⟨n', hn', h1', h2', rfl⟩ | ⟨h1', rfl⟩
    · exact absurd h1' (h1 n' hn')
    · rfl
theorem nw_uo_eq {g : Nat → Nat → Prop} {n : Nat} {x y : Int32} (h : nw_uo g n x) (h' : nw_uo g n y) : x = y := nw_bx fun i => (h i).trans (h' i).symm
theorem nw_ac {x e : Int32} {S E : Nat → Prop} (h : nw_bs x S) (h' : nw_bs e E) : ¬ x &&& e = 0 ↔ ∃ q, q < 5 ∧ S q ∧ E q := by
  rw [nw_bz]
  constructor
  · intro z
    refine Classical.byContradiction fun y => z fun i hi => ?_
    obtain ⟨h1, h2⟩ := (nw_band x e i).mp hi
    exact y ⟨i, ((h i).mp h1).1, ((h i).mp h1).2, ((h' i).mp h2).2⟩
  · rintro ⟨q, hq, h1, h2⟩ z
    exact z q ((nw_band x e q).mpr ⟨(h q).mpr ⟨hq, h1⟩, (h' q).mpr ⟨hq, h2⟩⟩)
theorem nw_nz {x : Int32} {S : Nat → Prop} (h : nw_bs x S) : ¬ x = 0 ↔ ∃ q, q < 5 ∧ S q := by
  rw [nw_bz]
  constructor
  · intro z
    refine Classical.byContradiction fun y => z fun i hi => ?_
    exact y ⟨i, (h i).mp hi⟩
  · rintro ⟨q, hq, h1⟩ z
    exact z q ((h q).mpr ⟨hq, h1⟩)
/-! Y's walk over the whole word: no letter unclosed here is closed before place n -/
def nw_cz (W : Nat → Nat) (c : Nat) : Prop := ¬ W c < 2 ∧ ¬ 4 ≤ W c
def nw_tw (W : Nat → Nat) (n a : Nat) : Prop := ∀ x, x ∈ nw_sk W a → ∀ c T, c < n → nw_cz W c → ¬ nw_sk W c = x :: T
theorem nw_tw_0 (W : Nat → Nat) (n : Nat) : nw_tw W n 0 := by
  intro x hx
  rw [nw_sk_0] at hx
  cases hx
theorem nw_tw_p {W : Nat → Nat} {n a : Nat} (h : nw_tw W n a) (hp : 4 ≤ W a) : nw_tw W n (a + 1) := by
  intro x hx
  rw [nw_sk_p hp] at hx
  exact h x hx
theorem nw_tw_e {W : Nat → Nat} {n a : Nat} (h : nw_tw W n a) (ha : a < n) (hc : nw_cz W a) : nw_sk W a = [] := by
  cases e : nw_sk W a with
  | nil => rfl
  | cons x T => exact absurd e (h x (by rw [e]; exact List.mem_cons_self) a T ha hc)
theorem nw_tw_n {W : Nat → Nat} {n a : Nat} (hc : nw_cz W a) (e : nw_sk W a = []) : nw_tw W n (a + 1) := by
  intro x hx
  rw [nw_sk_cn hc.1 hc.2 e] at hx
  cases hx
theorem nw_tw_o {W : Nat → Nat} {n a : Nat} (h : nw_tw W n a) (ha : W a < 2) (hn : ∀ c T, c < n → nw_cz W c → ¬ nw_sk W c = a :: T) : nw_tw W n (a + 1) := by
  intro x hx
  rw [nw_sk_o ha] at hx
  rcases List.mem_cons.mp hx with e | e
  · rw [e]
    exact hn
  · exact h x e
theorem nw_tw_c {W : Nat → Nat} {n a c : Nat} (h : nw_tw W n a) (hc : nw_cz W c) (e : nw_sk W c = a :: nw_sk W a) : nw_tw W n (c + 1) := by
  intro x hx
  rw [nw_sk_cc hc.1 hc.2 e] at hx
  exact h x hx
/-- an opening letter is closed before place n, or not; what the table of partners holds then -/
theorem nw_pm {W : Nat → Nat} {n a : Nat} {f : Nat → Int32} (h : nw_pf W n f) (ha : a < n) (hw : W a < 2) :
    (∃ c, a < c ∧ c < n ∧ nw_cz W c ∧ nw_sk W c = a :: nw_sk W a ∧ f a = nI c) ∨
    ((∀ c T, c < n → nw_cz W c → ¬ nw_sk W c = a :: T) ∧ f a = -1) := by
  by_cases z : ∃ c T, c < n ∧ nw_cz W c ∧ nw_sk W c = a :: T
  · obtain ⟨c, T, hc, h1, h2⟩ := z
    obtain ⟨h3, h4, _⟩ := nw_kt h2
    refine Or.inl ⟨c, h3, hc, h1, by rw [h4]; exact h2, ?_⟩
    exact ((h a ha).2 hw).1 c T hc h1.1 h1.2 h2
  · refine Or.inr ⟨fun c T hc h1 h2 => z ⟨c, T, hc, h1, h2⟩, ?_⟩
    exact ((h a ha).2 hw).2 fun c T hc h1 h2 h3 => z ⟨c, T, hc, ⟨h1, h2⟩, h3⟩
/-- inside a pair: where the stack is that of the closing place p, the letter at a does not close -/
theorem nw_in {W : Nat → Nat} {a p o : Nat} {T : List Nat} (h : nw_sk W a = o :: T) (hp : nw_sk W p = o :: T) (ha : a < p) : ¬ nw_cz W a := fun hc => nw_k4 hc.1 hc.2 h ha hp
/-- the table of pieces, for the closing places before k -/
def nw_ld (M : Nat → Nat → Nat → Nat → Prop) (W : Nat → Nat) (k : Nat) (f : Nat → Int32) : Prop := ∀ p o T, p < k → nw_cz W p → nw_sk W p = o :: T → nw_br (f p) (nw_pc M (W o) (nw_cu M W p) (W p))
theorem nw_ld_0 (M : Nat → Nat → Nat → Nat → Prop) (W : Nat → Nat) (f : Nat → Int32) : nw_ld M W 0 f := fun p o T hp => absurd hp (by omega)
theorem nw_ld_n {M : Nat → Nat → Nat → Nat → Prop} {W : Nat → Nat} {k : Nat} {f : Nat → Int32} (h : nw_ld M W k f) (hn : ∀ o T, nw_cz W k → ¬ nw_sk W k = o :: T) : nw_ld M W (k + 1) f := by
  intro p o T hp hc hs
  by_cases e : p = k
  · subst e
    exact absurd hs (hn o T hc)
  · exact h p o T (by omega) hc hs
theorem nw_ld_s {M : Nat → Nat → Nat → Nat → Prop} {W : Nat → Nat} {k o : Nat} {T : List Nat} {f : Nat → Int32} {x : Int32} (h : nw_ld M W k f) (hs : nw_sk W k = o :: T) (hx : nw_br x (nw_pc M (W o) (nw_cu M W k) (W k))) : nw_ld M W (k + 1) (upd f k x) := by
  intro p o' T' hp hc hs'
  by_cases e : p = k
  · subst e
    rw [hs] at hs'
    injection hs' with e1 e2
    rw [pk_us, ← e1]
    exact hx
  · rw [pk_un e]
    exact h p o' T' (by omega) hc hs'
