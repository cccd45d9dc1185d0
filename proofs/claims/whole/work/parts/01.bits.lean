/-! rows of kit/rows, pasted (PURE-ROWS, BITS); then bits as sets of states -/
theorem pk_us {f : Nat → Int32} {k : Nat} {x : Int32} : upd f k x k = x := if_pos rfl
theorem pk_un {f : Nat → Int32} {k j : Nat} {x : Int32} (h : j ≠ k) : upd f k x j = f j := if_neg h
theorem pk_sub {a b : Nat} (h : b ≤ a) : nI a - nI b = nI (a - b) := by
  obtain ⟨c, rfl⟩ : ∃ c, a = c + b := ⟨a - b, by omega⟩
  rw [← nI_add, Int32.add_sub_cancel, Nat.add_sub_cancel]
theorem pk_m1 (n : Nat) : nI (n + 1) + (-1) = nI n := by
  rw [← nI_1, Int32.add_assoc, show (1 : Int32) + (-1) = 0 from rfl, Int32.add_zero]
theorem pk_mul (a b : Nat) : nI a * nI b = nI (a * b) := (Int32.ofNat_mul a b).symm
theorem pk_div {a d : Nat} (ha : a < 2 ^ 31) (h0 : 0 < d) (hd : d < 2 ^ 31) : nI a / nI d = nI (a / d) := by
  apply Int32.toInt_inj.mp
  rw [lg_idiv_nonneg (by rw [nI_toInt ha]; omega) (by rw [nI_toInt hd]; omega), nI_toInt ha, nI_toInt hd, nI_toInt (Nat.lt_of_le_of_lt (Nat.div_le_self a d) ha)]
  first | rfl | exact (Int.natCast_ediv _ _).symm
theorem pk_rem {a d : Nat} (ha : a < 2 ^ 31) (h0 : 0 < d) (hd : d < 2 ^ 31) : nI a - nI a / nI d * nI d = nI (a % d) := by
  rw [pk_div ha h0 hd, pk_mul, pk_sub (Nat.div_mul_le_self a d)]
  exact congrArg nI (by have := Nat.div_add_mod' a d; omega)
theorem pk_ix (x : Int32) {n : Nat} (hn : n < 2 ^ 31) : x < 0 ∨ nI n ≤ x ∨ ∃ j : Nat, j < n ∧ x = nI j := by
  by_cases h : x < 0
  · exact Or.inl h
  · obtain ⟨j, hj, rfl⟩ := nI_of h
    by_cases h2 : j < n
    · exact Or.inr (Or.inr ⟨j, h2, rfl⟩)
    · exact Or.inr (Or.inl (nI_le (by omega) hj))
theorem pk_le {x y : Int32} {A B : Prop} (a b : Nat) (f : a ≤ b → A) (g : b < a → B) (hx : x = nI a := by rfl) (hy : y = nI b := by rfl) (ha : a < 2 ^ 31 := by omega) (hb : b < 2 ^ 31 := by omega) : (x ≤ y → A) ∧ (¬ x ≤ y → B) := by
  subst hx hy
  rw [nI_leI ha hb]
  exact ⟨f, fun z => g (by omega)⟩
theorem pk_lt {x y : Int32} {A B : Prop} (a b : Nat) (f : a < b → A) (g : b ≤ a → B) (hx : x = nI a := by rfl) (hy : y = nI b := by rfl) (ha : a < 2 ^ 31 := by omega) (hb : b < 2 ^ 31 := by omega) : (x < y → A) ∧ (¬ x < y → B) := by
  subst hx hy
  rw [nI_ltI ha hb]
  exact ⟨f, fun z => g (by omega)⟩
theorem pk_eq {x y : Int32} {A B : Prop} (a b : Nat) (f : a = b → A) (g : a ≠ b → B) (hx : x = nI a := by rfl) (hy : y = nI b := by rfl) (ha : a < 2 ^ 31 := by omega) (hb : b < 2 ^ 31 := by omega) : (x = y → A) ∧ (¬ x = y → B) := by
  subst hx hy
  rw [nI_eq ha hb]
  exact ⟨f, g⟩
theorem pk_in {x : Int32} (n N : Nat) (h : n < N) (hx : x = nI n := by rfl) (hN : N < 2 ^ 31 := by omega) : vp_in x N := by
  subst hx
  exact vp_in_nI h hN
theorem pk_cl {x : Int32} (n : Nat) (hx : x = nI n := by rfl) (h : n < 2 ^ 31 := by omega) : x.toNatClampNeg = n := by
  subst hx
  exact nI_clamp h
theorem pk_tn {n : Nat} (h : n < 2 ^ 32) : (nI n).toBitVec.toNat = n := Nat.mod_eq_of_lt h
theorem pk_loop {σ : Type} (W : Nat → Nat → σ → Prop) (I : Nat → σ → Prop) (e i0 : Nat) (s : σ) (hi : i0 ≤ e) (h0 : I i0 s) (hx : ∀ n s, I e s → W (n + 1) e s)
    (hs : ∀ n i s, i < e → I i s → (∀ s', I (i + 1) s' → W n (i + 1) s') → W (n + 1) i s) : ∃ n, W n i0 s :=
  ⟨e + 1, loop_i W I e hx hs (e + 1) i0 s hi (by omega) h0⟩
def bt (x : Int32) (i : Nat) : Bool := x.toBitVec.getLsbD i
theorem b_ext {x y : Int32} (h : ∀ i, i < 32 → bt x i = bt y i) : x = y := Int32.toBitVec_inj.mp (BitVec.eq_of_getLsbD_eq (fun i hi => h i hi))
theorem b_or (x y : Int32) (i : Nat) : bt (x ||| y) i = (bt x i || bt y i) := by unfold bt; rw [Int32.toBitVec_or, BitVec.getLsbD_or]
theorem b_and (x y : Int32) (i : Nat) : bt (x &&& y) i = (bt x i && bt y i) := by unfold bt; rw [Int32.toBitVec_and, BitVec.getLsbD_and]
theorem b_xor (x y : Int32) (i : Nat) : bt (x ^^^ y) i = (bt x i ^^ bt y i) := by unfold bt; rw [Int32.toBitVec_xor, BitVec.getLsbD_xor]
theorem b_big {x : Int32} {i : Nat} (h : 32 ≤ i) : bt x i = false := BitVec.getLsbD_of_ge _ _ h
theorem b_m1 : ∀ i, i < 32 → bt (-1) i = true := by decide +kernel
theorem b_0 (i : Nat) : bt 0 i = false := BitVec.getLsbD_zero
theorem s_l : ∀ n, n < 32 → ((nI n &&& 31).toBitVec.smod 32).toNat = n := by decide +kernel
theorem b_shl (n : Nat) (hn : n < 32) (x : Int32) {i : Nat} (hi : i < 32) : bt (x <<< (nI n &&& 31)) i = (decide (n ≤ i) && bt x (i - n)) := by
  unfold bt
  rw [Int32.toBitVec_shiftLeft]
  show (x.toBitVec <<< ((nI n &&& 31).toBitVec.smod 32).toNat).getLsbD i = _
  rw [s_l n hn, BitVec.getLsbD_shiftLeft]
  rcases Nat.lt_or_ge i n with h | h
  · simp [h, Nat.not_le.mpr h]
  · simp [hi, h, Nat.not_lt.mpr h]
theorem b_sshr (n : Nat) (hn : n < 32) (x : Int32) {i : Nat} (hi : i < 32) : bt (x >>> (nI n &&& 31)) i = if n + i < 32 then bt x (n + i) else bt x 31 := by
  unfold bt
  rw [Int32.toBitVec_shiftRight]
  show (x.toBitVec.sshiftRight ((nI n &&& 31).toBitVec.smod 32).toNat).getLsbD i = _
  rw [s_l n hn, BitVec.getLsbD_sshiftRight, BitVec.msb_eq_getLsbD_last]
  simp [hi]
theorem nf_sh : ∀ l, l < 32 → ((1 : Int32) <<< (nI l &&& 31)).toBitVec = BitVec.twoPow 32 l := by decide +kernel
/-! own rows: bits as sets -/
theorem nw_one : ∀ i, i < 32 → bt 1 i = decide (i = 0) := by decide +kernel
theorem nw_lt32 {x : Int32} {i : Nat} (h : bt x i = true) : i < 32 := by
  rcases Nat.lt_or_ge i 32 with z | z
  · exact z
  · rw [b_big z] at h
    exact absurd h (by decide)
theorem nw_b1 {n : Nat} (hn : n < 32) (j : Nat) : bt ((1 : Int32) <<< (nI n &&& 31)) j = true ↔ n = j := by
  unfold bt
  rw [nf_sh n hn, BitVec.getLsbD_twoPow]
  simp [hn]
theorem nw_t1 (x : Int32) {n : Nat} (hn : n < 32) : (x >>> (nI n &&& 31)) &&& 1 = if bt x n = true then 1 else 0 := by
  apply b_ext
  intro i hi
  rw [b_and, nw_one i hi]
  by_cases e : i = 0
  · subst e
    rw [b_sshr n hn x (by omega), if_pos (by omega), Nat.add_zero]
    cases bt x n
    · decide
    · decide
  · rw [decide_eq_false e, Bool.and_false]
    split
    · rw [nw_one i hi, decide_eq_false e]
    · rw [b_0]
theorem nw_t1t {x : Int32} {n : Nat} (hn : n < 32) (h : bt x n = true) : (x >>> (nI n &&& 31)) &&& 1 = 1 := by
  rw [nw_t1 x hn, if_pos h]
theorem nw_t1f {x : Int32} {n : Nat} (hn : n < 32) (h : ¬ bt x n = true) : (x >>> (nI n &&& 31)) &&& 1 = 0 := by
  rw [nw_t1 x hn, if_neg h]
theorem nw_t1e {x : Int32} {n : Nat} (hn : n < 32) : (x >>> (nI n &&& 31)) &&& 1 = 1 ↔ bt x n = true := by
  by_cases h : bt x n = true
  · exact ⟨fun _ => h, fun _ => nw_t1t hn h⟩
  · exact ⟨fun z => absurd ((nw_t1f hn h).symm.trans z) (by decide), fun z => absurd z h⟩
theorem nw_t1z {x : Int32} {n : Nat} (hn : n < 32) : (x >>> (nI n &&& 31)) &&& 1 = 0 ↔ ¬ bt x n = true := by
  by_cases h : bt x n = true
  · exact ⟨fun z => absurd ((nw_t1t hn h).symm.trans z) (by decide), fun z => absurd h z⟩
  · exact ⟨fun _ => h, fun _ => nw_t1f hn h⟩
theorem nw_bor (x y : Int32) (i : Nat) : bt (x ||| y) i = true ↔ bt x i = true ∨ bt y i = true := by
  rw [b_or, Bool.or_eq_true]
theorem nw_band (x y : Int32) (i : Nat) : bt (x &&& y) i = true ↔ bt x i = true ∧ bt y i = true := by
  rw [b_and, Bool.and_eq_true]
theorem nw_bx {x y : Int32} (h : ∀ i, bt x i = true ↔ bt y i = true) : x = y := by
  apply b_ext
  intro i _
  exact Bool.eq_iff_iff.mpr (h i)
theorem nw_z (i : Nat) : ¬ bt 0 i = true := by
  rw [b_0]
  decide
theorem nw_bz {x : Int32} : x = 0 ↔ ∀ i, ¬ bt x i = true := by
  constructor
  · intro h i
    rw [h]
    exact nw_z i
  · intro h
    exact nw_bx fun i => ⟨fun z => absurd z (h i), fun z => absurd z (nw_z i)⟩
/-! a loop that gathers bits -/
def nw_uo (g : Nat → Nat → Prop) (n : Nat) (x : Int32) : Prop := ∀ j, bt x j = true ↔ ∃ i, i < n ∧ g i j
theorem nw_uo_0 (g : Nat → Nat → Prop) : nw_uo g 0 0 := by
  intro j
  exact ⟨fun h => absurd h (nw_z j), fun ⟨i, hi, _⟩ => absurd hi (by omega)⟩
theorem nw_uo_s {g : Nat → Nat → Prop} {n : Nat} {x y : Int32} (h : nw_uo g n x) (hy : ∀ j, bt y j = true ↔ g n j) : nw_uo g (n + 1) (x ||| y) := by
  intro j
  rw [nw_bor, h j, hy j]
  constructor
  · rintro (⟨i, hi, z⟩ | z)
    · exact ⟨i, by omega, z⟩
    · exact ⟨n, by omega, z⟩
  · rintro ⟨i, hi, z⟩
    by_cases e : i = n
    · subst e
      exact Or.inr z
    · exact Or.inl ⟨i, by omega, z⟩
theorem nw_uo_n {g : Nat → Nat → Prop} {n : Nat} {x : Int32} (h : nw_uo g n x) (hy : ∀ j, ¬ g n j) : nw_uo g (n + 1) x := by
  intro j
  rw [h j]
  constructor
  · rintro ⟨i, hi, z⟩
    exact ⟨i, by omega, z⟩
  · rintro ⟨i, hi, z⟩
    by_cases e : i = n
    · subst e
      exact absurd z (hy j)
    · exact ⟨i, by omega, z⟩
/-! a set of states, a relation of states -/
def nw_bs (x : Int32) (S : Nat → Prop) : Prop := ∀ i, bt x i = true ↔ i < 5 ∧ S i
def nw_br (x : Int32) (A : Nat → Nat → Prop) : Prop := ∀ i, bt x i = true ↔ i < 25 ∧ A (i / 5) (i % 5)
theorem nw_bs_eq {x y : Int32} {S : Nat → Prop} (h : nw_bs x S) (h' : nw_bs y S) : x = y := nw_bx fun i => (h i).trans (h' i).symm
theorem nw_bs_cg {x : Int32} {S S' : Nat → Prop} (h : nw_bs x S) (e : ∀ i, i < 5 → (S i ↔ S' i)) : nw_bs x S' := by
  intro i
  rw [h i]
  exact ⟨fun ⟨a, b⟩ => ⟨a, (e i a).mp b⟩, fun ⟨a, b⟩ => ⟨a, (e i a).mpr b⟩⟩
theorem nw_br_cg {x : Int32} {A A' : Nat → Nat → Prop} (h : nw_br x A) (e : ∀ q r, q < 5 → r < 5 → (A q r ↔ A' q r)) : nw_br x A' := by
  intro i
  rw [h i]
  exact ⟨fun ⟨a, b⟩ => ⟨a, (e _ _ (by omega) (by omega)).mp b⟩, fun ⟨a, b⟩ => ⟨a, (e _ _ (by omega) (by omega)).mpr b⟩⟩
theorem nw_br_at {x : Int32} {A : Nat → Nat → Prop} (h : nw_br x A) {q r : Nat} (hq : q < 5) (hr : r < 5) : bt x (5 * q + r) = true ↔ A q r := by
  rw [h]
  have e1 : (5 * q + r) / 5 = q := by omega
  have e2 : (5 * q + r) % 5 = r := by omega
  rw [e1, e2]
  exact ⟨fun z => z.2, fun z => ⟨by omega, z⟩⟩
/-! indices -/
theorem nw_i5 (l m q : Nat) : (nI l * 4 + nI m) * 5 + nI q = nI ((l * 4 + m) * 5 + q) := by
  show (nI l * nI 4 + nI m) * nI 5 + nI q = _
  rw [pk_mul, nI_add, pk_mul, nI_add]
theorem nw_i20 (i c : Nat) : nI i * 20 + nI c = nI (i * 20 + c) := by
  show nI i * nI 20 + nI c = _
  rw [pk_mul, nI_add]
theorem nw_i20k (i : Nat) : nI i * 20 + 15 = nI (i * 20 + 15) := nw_i20 i 15
theorem nw_i20t (i m q : Nat) : nI i * 20 + nI m * 5 + nI q = nI (i * 20 + (m * 5 + q)) := by
  show nI i * nI 20 + nI m * nI 5 + nI q = _
  rw [pk_mul, pk_mul, nI_add, nI_add, Nat.add_assoc]
theorem nw_iM (q l r m : Nat) : 120 * nI q + 20 * nI l + 4 * nI r + nI m = nI (120 * q + 20 * l + 4 * r + m) := by
  show nI 120 * nI q + nI 20 * nI l + nI 4 * nI r + nI m = _
  rw [pk_mul, pk_mul, pk_mul, nI_add, nI_add, nI_add]
theorem nw_i55 (q s : Nat) : 5 * nI q + nI s = nI (5 * q + s) := by
  show nI 5 * nI q + nI s = _
  rw [pk_mul, nI_add]
theorem nw_d5 {i : Nat} (h : i < 1000) : nI i / 5 = nI (i / 5) := pk_div (a := i) (d := 5) (by omega) (by omega) (by omega)
theorem nw_d25 {i : Nat} (h : i < 1000) : nI i / 25 = nI (i / 25) := pk_div (a := i) (d := 25) (by omega) (by omega) (by omega)
theorem nw_r5 {i : Nat} (h : i < 1000) : nI i - nI i / 5 * 5 = nI (i % 5) := pk_rem (a := i) (d := 5) (by omega) (by omega) (by omega)
theorem nw_iP {i : Nat} (h : i < 1000) (l m : Nat) : 120 * (nI i / 5) + 20 * nI l + 4 * (nI i - nI i / 5 * 5) + nI m = nI (120 * (i / 5) + 20 * l + 4 * (i % 5) + m) := by
  rw [nw_r5 h, nw_d5 h, nw_iM]
theorem nw_w5 {i : Nat} (h : i < 1000) : nI i / 5 - nI i / 5 / 5 * 5 = nI (i / 5 % 5) := by
  rw [nw_d5 h]
  exact nw_r5 (by omega)
