section
/-! rows of kit/rows, pasted (PURE-ROWS, BITS); then bits as sets of states -/
theorem pk_us {f : Nat → Int32} {k : Nat} {x : Int32} : upd f k x k = x := if_pos rfl
theorem pk_un {f : Nat → Int32} {k j : Nat} {x : Int32} (h : j ≠ k) : upd f k x j = f j := if_neg h
theorem pk_sub {a b : Nat} (h : b ≤ a) : nI a - nI b = nI (a - b) := by
  obtain ⟨c, rfl⟩ : ∃ c, a = c + b := ⟨a - b, by omega⟩
  rw [← nI_add, Int32.add_sub_cancel, Nat.add_sub_cancel]
theorem pk_m1 (n : Nat) : nI (n + 1) + (-1) = nI n := by
  rw [← nI_1, Int32.add_assoc, show (1 : Int32) + (-1) = 0 from rfl, Int32.add_zero]
theorem pk_mul (a b : Nat) : nI a * nI b = nI (a * b) := (Int32.ofNat_mul a b).symm
theorem pk_div {a d : Nat} (ha : a < 2 ^ 31) (h0 : 0 < d) (hd : d < 2 ^ 31) : nI a / nI d = nI (a / d) := by
  apply Int32.toInt_inj.mp
  rw [lg_idiv_nonneg (by rw [nI_toInt ha]; omega) (by rw [nI_toInt hd]; omega), nI_toInt ha, nI_toInt hd, nI_toInt (Nat.lt_of_le_of_lt (Nat.div_le_self a d) ha)]
  first | rfl | exact (Int.natCast_ediv _ _).symm
theorem pk_rem {a d : Nat} (ha : a < 2 ^ 31) (h0 : 0 < d) (hd : d < 2 ^ 31) : nI a - nI a / nI d * nI d = nI (a % d) := by
  rw [pk_div ha h0 hd, pk_mul, pk_sub (Nat.div_mul_le_self a d)]
  exact congrArg nI (by have := Nat.div_add_mod' a d; omega)
theorem pk_ix (x : Int32) {n : Nat} (hn : n < 2 ^ 31) : x < 0 ∨ nI n ≤ x ∨ ∃ j : Nat, j < n ∧ x = nI j := by
  by_cases h : x < 0
  · exact Or.inl h
  · obtain ⟨j, hj, rfl⟩ := nI_of h
    by_cases h2 : j < n
    · exact Or.inr (Or.inr ⟨j, h2, rfl⟩)
    · exact Or.inr (Or.inl (nI_le (by omega) hj))
theorem pk_le {x y : Int32} {A B : Prop} (a b : Nat) (f : a ≤ b → A) (g : b < a → B) (hx : x = nI a := by rfl) (hy : y = nI b := by rfl) (ha : a < 2 ^ 31 := by omega) (hb : b < 2 ^ 31 := by omega) : (x ≤ y → A) ∧ (¬ x ≤ y → B) := by
  subst hx hy
  rw [nI_leI ha hb]
  exact ⟨f, fun z => g (by omega)⟩
theorem pk_lt {x y : Int32} {A B : Prop} (a b : Nat) (f : a < b → A) (g : b ≤ a → B) (hx : x = nI a := by rfl) (hy : y = nI b := by rfl) (ha : a < 2 ^ 31 := by omega) (hb : b < 2 ^ 31 := by omega) : (x < y → A) ∧ (¬ x < y → B) := by
  subst hx hy
  rw [nI_ltI ha hb]
  exact ⟨f, fun z => g (by omega)⟩
theorem pk_eq {x y : Int32} {A B : Prop} (a b : Nat) (f : a = b → A) (g : a ≠ b → B) (hx : x = nI a := by rfl) (hy : y = nI b := by rfl) (ha : a < 2 ^ 31 := by omega) (hb : b < 2 ^ 31 := by omega) : (x = y → A) ∧ (¬ x = y → B) := by
  subst hx hy
  rw [nI_eq ha hb]
  exact ⟨f, g⟩
theorem pk_in {x : Int32} (n N : Nat) (h : n < N) (hx : x = nI n := by rfl) (hN : N < 2 ^ 31 := by omega) : vp_in x N := by
  subst hx
  exact vp_in_nI h hN
theorem pk_cl {x : Int32} (n : Nat) (hx : x = nI n := by rfl) (h : n < 2 ^ 31 := by omega) : x.toNatClampNeg = n := by
  subst hx
  exact nI_clamp h
theorem pk_tn {n : Nat} (h : n < 2 ^ 32) : (nI n).toBitVec.toNat = n := Nat.mod_eq_of_lt h
theorem pk_loop {σ : Type} (W : Nat → Nat → σ → Prop) (I : Nat → σ → Prop) (e i0 : Nat) (s : σ) (hi : i0 ≤ e) (h0 : I i0 s) (hx : ∀ n s, I e s → W (n + 1) e s)
    (hs : ∀ n i s, i < e → I i s → (∀ s', I (i + 1) s' → W n (i + 1) s') → W (n + 1) i s) : ∃ n, W n i0 s :=
  ⟨e + 1, loop_i W I e hx hs (e + 1) i0 s hi (by omega) h0⟩
def bt (x : Int32) (i : Nat) : Bool := x.toBitVec.getLsbD i
theorem b_ext {x y : Int32} (h : ∀ i, i < 32 → bt x i = bt y i) : x = y := Int32.toBitVec_inj.mp (BitVec.eq_of_getLsbD_eq (fun i hi => h i hi))
theorem b_or (x y : Int32) (i : Nat) : bt (x ||| y) i = (bt x i || bt y i) := by unfold bt; rw [Int32.toBitVec_or, BitVec.getLsbD_or]
theorem b_and (x y : Int32) (i : Nat) : bt (x &&& y) i = (bt x i && bt y i) := by unfold bt; rw [Int32.toBitVec_and, BitVec.getLsbD_and]
theorem b_xor (x y : Int32) (i : Nat) : bt (x ^^^ y) i = (bt x i ^^ bt y i) := by unfold bt; rw [Int32.toBitVec_xor, BitVec.getLsbD_xor]
theorem b_big {x : Int32} {i : Nat} (h : 32 ≤ i) : bt x i = false := BitVec.getLsbD_of_ge _ _ h
theorem b_m1 : ∀ i, i < 32 → bt (-1) i = true := by decide +kernel
theorem b_0 (i : Nat) : bt 0 i = false := BitVec.getLsbD_zero
theorem s_l : ∀ n, n < 32 → ((nI n &&& 31).toBitVec.smod 32).toNat = n := by decide +kernel
theorem b_shl (n : Nat) (hn : n < 32) (x : Int32) {i : Nat} (hi : i < 32) : bt (x <<< (nI n &&& 31)) i = (decide (n ≤ i) && bt x (i - n)) := by
  unfold bt
  rw [Int32.toBitVec_shiftLeft]
  show (x.toBitVec <<< ((nI n &&& 31).toBitVec.smod 32).toNat).getLsbD i = _
  rw [s_l n hn, BitVec.getLsbD_shiftLeft]
  rcases Nat.lt_or_ge i n with h | h
  · simp [h, Nat.not_le.mpr h]
  · simp [hi, h, Nat.not_lt.mpr h]
theorem b_sshr (n : Nat) (hn : n < 32) (x : Int32) {i : Nat} (hi : i < 32) : bt (x >>> (nI n &&& 31)) i = if n + i < 32 then bt x (n + i) else bt x 31 := by
  unfold bt
  rw [Int32.toBitVec_shiftRight]
  show (x.toBitVec.sshiftRight ((nI n &&& 31).toBitVec.smod 32).toNat).getLsbD i = _
  rw [s_l n hn, BitVec.getLsbD_sshiftRight, BitVec.msb_eq_getLsbD_last]
  simp [hi]
theorem nf_sh : ∀ l, l < 32 → ((1 : Int32) <<< (nI l &&& 31)).toBitVec = BitVec.twoPow 32 l := by decide +kernel
/-! own rows: bits as sets -/
theorem nw_one : ∀ i, i < 32 → bt 1 i = decide (i = 0) := by decide +kernel
theorem nw_lt32 {x : Int32} {i : Nat} (h : bt x i = true) : i < 32 := by
  rcases Nat.lt_or_ge i 32 with z | z
  · exact z
  · rw [b_big z] at h
    exact absurd h (by decide)
theorem nw_b1 {n : Nat} (hn : n < 32) (j : Nat) : bt ((1 : Int32) <<< (nI n &&& 31)) j = true ↔ n = j := by
  unfold bt
  rw [nf_sh n hn, BitVec.getLsbD_twoPow]
  simp [hn]
theorem nw_t1 (x : Int32) {n : Nat} (hn : n < 32) : (x >>> (nI n &&& 31)) &&& 1 = if bt x n = true then 1 else 0 := by
  apply b_ext
  intro i hi
  rw [b_and, nw_one i hi]
  by_cases e : i = 0
  · subst e
    rw [b_sshr n hn x (by omega), if_pos (by omega), Nat.add_zero]
    cases bt x n
    · decide
    · decide
  · rw [decide_eq_false e, Bool.and_false]
    split
    · rw [nw_one i hi, decide_eq_false e]
    · rw [b_0]
theorem nw_t1t {x : Int32} {n : Nat} (hn : n < 32) (h : bt x n = true) : (x >>> (nI n &&& 31)) &&& 1 = 1 := by
  rw [nw_t1 x hn, if_pos h]
theorem nw_t1f {x : Int32} {n : Nat} (hn : n < 32) (h : ¬ bt x n = true) : (x >>> (nI n &&& 31)) &&& 1 = 0 := by
  rw [nw_t1 x hn, if_neg h]
theorem nw_t1e {x : Int32} {n : Nat} (hn : n < 32) : (x >>> (nI n &&& 31)) &&& 1 = 1 ↔ bt x n = true := by
  by_cases h : bt x n = true
  · exact ⟨fun _ => h, fun _ => nw_t1t hn h⟩
  · exact ⟨fun z => absurd ((nw_t1f hn h).symm.trans z) (by decide), fun z => absurd z h⟩
theorem nw_t1z {x : Int32} {n : Nat} (hn : n < 32) : (x >>> (nI n &&& 31)) &&& 1 = 0 ↔ ¬ bt x n = true := by
  by_cases h : bt x n = true
  · exact ⟨fun z => absurd ((nw_t1t hn h).symm.trans z) (by decide), fun z => absurd h z⟩
  · exact ⟨fun _ => h, fun _ => nw_t1f hn h⟩
theorem nw_bor (x y : Int32) (i : Nat) : bt (x ||| y) i = true ↔ bt x i = true ∨ bt y i = true := by
  rw [b_or, Bool.or_eq_true]
theorem nw_band (x y : Int32) (i : Nat) : bt (x &&& y) i = true ↔ bt x i = true ∧ bt y i = true := by
  rw [b_and, Bool.and_eq_true]
theorem nw_bx {x y : Int32} (h : ∀ i, bt x i = true ↔ bt y i = true) : x = y := by
  apply b_ext
  intro i _
  exact Bool.eq_iff_iff.mpr (h i)
theorem nw_z (i : Nat) : ¬ bt 0 i = true := by
  rw [b_0]
  decide
theorem nw_bz {x : Int32} : x = 0 ↔ ∀ i, ¬ bt x i = true := by
  constructor
  · intro h i
    rw [h]
    exact nw_z i
  · intro h
    exact nw_bx fun i => ⟨fun z => absurd z (h i), fun z => absurd z (nw_z i)⟩
/-! a loop that gathers bits -/
def nw_uo (g : Nat → Nat → Prop) (n : Nat) (x : Int32) : Prop := ∀ j, bt x j = true ↔ ∃ i, i < n ∧ g i j
theorem nw_uo_0 (g : Nat → Nat → Prop) : nw_uo g 0 0 := by
  intro j
  exact ⟨fun h => absurd h (nw_z j), fun ⟨i, hi, _⟩ => absurd hi (by omega)⟩
theorem nw_uo_s {g : Nat → Nat → Prop} {n : Nat} {x y : Int32} (h : nw_uo g n x) (hy : ∀ j, bt y j = true ↔ g n j) : nw_uo g (n + 1) (x ||| y) := by
  intro j
  rw [nw_bor, h j, hy j]
  constructor
  · rintro (⟨i, hi, z⟩ | z)
    · exact ⟨i, by omega, z⟩
    · exact ⟨n, by omega, z⟩
  · rintro ⟨i, hi, z⟩
    by_cases e : i = n
    · subst e
      exact Or.inr z
    · exact Or.inl ⟨i, by omega, z⟩
theorem nw_uo_n {g : Nat → Nat → Prop} {n : Nat} {x : Int32} (h : nw_uo g n x) (hy : ∀ j, ¬ g n j) : nw_uo g (n + 1) x := by
  intro j
  rw [h j]
  constructor
  · rintro ⟨i, hi, z⟩
    exact ⟨i, by omega, z⟩
  · rintro ⟨i, hi, z⟩
    by_cases e : i = n
    · subst e
      exact absurd z (hy j)
    · exact ⟨i, by omega, z⟩
/-! a set of states, a relation of states -/
def nw_bs (x : Int32) (S : Nat → Prop) : Prop := ∀ i, bt x i = true ↔ i < 5 ∧ S i
def nw_br (x : Int32) (A : Nat → Nat → Prop) : Prop := ∀ i, bt x i = true ↔ i < 25 ∧ A (i / 5) (i % 5)
theorem nw_bs_eq {x y : Int32} {S : Nat → Prop} (h : nw_bs x S) (h' : nw_bs y S) : x = y := nw_bx fun i => (h i).trans (h' i).symm
theorem nw_bs_cg {x : Int32} {S S' : Nat → Prop} (h : nw_bs x S) (e : ∀ i, i < 5 → (S i ↔ S' i)) : nw_bs x S' := by
  intro i
  rw [h i]
  exact ⟨fun ⟨a, b⟩ => ⟨a, (e i a).mp b⟩, fun ⟨a, b⟩ => ⟨a, (e i a).mpr b⟩⟩
theorem nw_br_cg {x : Int32} {A A' : Nat → Nat → Prop} (h : nw_br x A) (e : ∀ q r, q < 5 → r < 5 → (A q r ↔ A' q r)) : nw_br x A' := by
  intro i
  rw [h i]
  exact ⟨fun ⟨a, b⟩ => ⟨a, (e _ _ (by omega) (by omega)).mp b⟩, fun ⟨a, b⟩ => ⟨a, (e _ _ (by omega) (by omega)).mpr b⟩⟩
theorem nw_br_at {x : Int32} {A : Nat → Nat → Prop} (h : nw_br x A) {q r : Nat} (hq : q < 5) (hr : r < 5) : bt x (5 * q + r) = true ↔ A q r := by
  rw [h]
  have e1 : (5 * q + r) / 5 = q := by omega
  have e2 : (5 * q + r) % 5 = r := by omega
  rw [e1, e2]
  exact ⟨fun z => z.2, fun z => ⟨by omega, z⟩⟩
/-! indices -/
theorem nw_i5 (l m q : Nat) : (nI l * 4 + nI m) * 5 + nI q = nI ((l * 4 + m) * 5 + q) := by
  show (nI l * nI 4 + nI m) * nI 5 + nI q = _
  rw [pk_mul, nI_add, pk_mul, nI_add]
theorem nw_i20 (i c : Nat) : nI i * 20 + nI c = nI (i * 20 + c) := by
  show nI i * nI 20 + nI c = _
  rw [pk_mul, nI_add]
theorem nw_i20k (i : Nat) : nI i * 20 + 15 = nI (i * 20 + 15) := nw_i20 i 15
theorem nw_i20t (i m q : Nat) : nI i * 20 + nI m * 5 + nI q = nI (i * 20 + (m * 5 + q)) := by
  show nI i * nI 20 + nI m * nI 5 + nI q = _
  rw [pk_mul, pk_mul, nI_add, nI_add, Nat.add_assoc]
theorem nw_iM (q l r m : Nat) : 120 * nI q + 20 * nI l + 4 * nI r + nI m = nI (120 * q + 20 * l + 4 * r + m) := by
  show nI 120 * nI q + nI 20 * nI l + nI 4 * nI r + nI m = _
  rw [pk_mul, pk_mul, pk_mul, nI_add, nI_add, nI_add]
theorem nw_i55 (q s : Nat) : 5 * nI q + nI s = nI (5 * q + s) := by
  show nI 5 * nI q + nI s = _
  rw [pk_mul, nI_add]
theorem nw_d5 {i : Nat} (h : i < 1000) : nI i / 5 = nI (i / 5) := pk_div (a := i) (d := 5) (by omega) (by omega) (by omega)
theorem nw_d25 {i : Nat} (h : i < 1000) : nI i / 25 = nI (i / 25) := pk_div (a := i) (d := 25) (by omega) (by omega) (by omega)
theorem nw_r5 {i : Nat} (h : i < 1000) : nI i - nI i / 5 * 5 = nI (i % 5) := pk_rem (a := i) (d := 5) (by omega) (by omega) (by omega)
theorem nw_iP {i : Nat} (h : i < 1000) (l m : Nat) : 120 * (nI i / 5) + 20 * nI l + 4 * (nI i - nI i / 5 * 5) + nI m = nI (120 * (i / 5) + 20 * l + 4 * (i % 5) + m) := by
  rw [nw_r5 h, nw_d5 h, nw_iM]
theorem nw_w5 {i : Nat} (h : i < 1000) : nI i / 5 - nI i / 5 / 5 * 5 = nI (i / 5 % 5) := by
  rw [nw_d5 h]
  exact nw_r5 (by omega)
end
section
/-! the pure picture: words by their letters W, a machine by its moves M (letter, mark, from, to), starts S -/
def nw_th (A B : Nat → Nat → Prop) : Nat → Nat → Prop := fun q r => ∃ s, s < 5 ∧ A q s ∧ B s r
def nw_im (S : Nat → Prop) (A : Nat → Nat → Prop) : Nat → Prop := fun r => ∃ q, q < 5 ∧ S q ∧ A q r
def nw_id : Nat → Nat → Prop := fun q r => q = r
def nw_op (M : Nat → Nat → Nat → Nat → Prop) (l : Nat) : Nat → Nat → Prop := fun q r => ∃ m, m < 3 ∧ M l m q r
def nw_pc (M : Nat → Nat → Nat → Nat → Prop) (a : Nat) (A : Nat → Nat → Prop) (c : Nat) : Nat → Nat → Prop := fun q r => ∃ m, m < 3 ∧ nw_th (nw_th (M a m) A) (M c m) q r
theorem nw_im_th {S : Nat → Prop} {A B : Nat → Nat → Prop} {r : Nat} : nw_im S (nw_th A B) r ↔ nw_im (nw_im S A) B r := by
  constructor
  · rintro ⟨q, hq, hS, s, hs, hA, hB⟩
    exact ⟨s, hs, ⟨q, hq, hS, hA⟩, hB⟩
  · rintro ⟨s, hs, ⟨q, hq, hS, hA⟩, hB⟩
    exact ⟨q, hq, hS, s, hs, hA, hB⟩
theorem nw_im_id {S : Nat → Prop} {r : Nat} (hr : r < 5) : nw_im S nw_id r ↔ S r := by
  constructor
  · rintro ⟨q, hq, hS, e⟩
    have e' : q = r := e
    subst e'
    exact hS
  · intro h
    exact ⟨r, hr, h, rfl⟩
/-! the unclosed places before place j, the last one first -/
def nw_sk (W : Nat → Nat) : Nat → List Nat
  | 0 => []
  | j + 1 => if W j < 2 then j :: nw_sk W j else if 4 ≤ W j then nw_sk W j else (nw_sk W j).tail
theorem nw_sk_0 (W : Nat → Nat) : nw_sk W 0 = [] := rfl
theorem nw_sk_o {W : Nat → Nat} {j : Nat} (h : W j < 2) : nw_sk W (j + 1) = j :: nw_sk W j := by
  rw [nw_sk, if_pos h]
theorem nw_sk_p {W : Nat → Nat} {j : Nat} (h : 4 ≤ W j) : nw_sk W (j + 1) = nw_sk W j := by
  rw [nw_sk, if_neg (by omega), if_pos h]
theorem nw_sk_c {W : Nat → Nat} {j : Nat} (h : ¬ W j < 2) (h' : ¬ 4 ≤ W j) : nw_sk W (j + 1) = (nw_sk W j).tail := by
  rw [nw_sk, if_neg h, if_neg h']
theorem nw_sk_cc {W : Nat → Nat} {j o : Nat} {T : List Nat} (h : ¬ W j < 2) (h' : ¬ 4 ≤ W j) (e : nw_sk W j = o :: T) : nw_sk W (j + 1) = T := by
  rw [nw_sk_c h h', e] <;> rfl
theorem nw_sk_cn {W : Nat → Nat} {j : Nat} (h : ¬ W j < 2) (h' : ¬ 4 ≤ W j) (e : nw_sk W j = []) : nw_sk W (j + 1) = [] := by
  rw [nw_sk_c h h', e] <;> rfl
theorem nw_k1 {W : Nat → Nat} : ∀ n j : Nat, j ≤ n → ∀ o T, nw_sk W j = o :: T → o < j ∧ nw_sk W o = T ∧ W o < 2 := by
  intro n
  induction n with
  | zero =>
    intro j hj o T h
    have e : j = 0 := by omega
    subst e
    rw [nw_sk_0] at h
    cases h
  | succ n ih =>
    intro j hj o T h
    cases j with
    | zero =>
      rw [nw_sk_0] at h
      cases h
    | succ j =>
      by_cases h1 : W j < 2
      · rw [nw_sk_o h1] at h
        injection h with h2 h3
        subst h2
        exact ⟨by omega, h3, h1⟩
      · by_cases h2 : 4 ≤ W j
        · rw [nw_sk_p h2] at h
          obtain ⟨a, b, c⟩ := ih j (by omega) o T h
          exact ⟨by omega, b, c⟩
        · cases e : nw_sk W j with
          | nil =>
            rw [nw_sk_cn h1 h2 e] at h
            cases h
          | cons x R =>
            rw [nw_sk_cc h1 h2 e] at h
            obtain ⟨a, b, c⟩ := ih j (by omega) x R e
            obtain ⟨a', b', c'⟩ := ih x (by omega) o T (b.trans h)
            exact ⟨by omega, b', c'⟩
theorem nw_kt {W : Nat → Nat} {j o : Nat} {T : List Nat} (h : nw_sk W j = o :: T) : o < j ∧ nw_sk W o = T ∧ W o < 2 := nw_k1 j j (Nat.le_refl j) o T h
theorem nw_k2 {W : Nat → Nat} : ∀ j x : Nat, x ∈ nw_sk W j → x < j := by
  intro j
  induction j with
  | zero =>
    intro x h
    rw [nw_sk_0] at h
    cases h
  | succ j ih =>
    intro x h
    by_cases h1 : W j < 2
    · rw [nw_sk_o h1] at h
      rcases List.mem_cons.mp h with e | e
      · omega
      · have := ih x e
        omega
    · by_cases h2 : 4 ≤ W j
      · rw [nw_sk_p h2] at h
        have := ih x h
        omega
      · rw [nw_sk_c h1 h2] at h
        have := ih x (List.mem_of_mem_tail h)
        omega
theorem nw_skl {W : Nat → Nat} : ∀ j : Nat, (nw_sk W j).length ≤ j := by
  intro j
  induction j with
  | zero => exact Nat.le_refl 0
  | succ j ih =>
    by_cases h1 : W j < 2
    · rw [nw_sk_o h1, List.length_cons]
      omega
    · by_cases h2 : 4 ≤ W j
      · rw [nw_sk_p h2]
        omega
      · rw [nw_sk_c h1 h2, List.length_tail]
        omega
theorem nw_k4a {W : Nat → Nat} {a c : Nat} (hac : a < c) (h : ¬ a ∈ nw_sk W c) : ∀ d, ¬ a ∈ nw_sk W (c + d) := by
  intro d
  induction d with
  | zero => exact h
  | succ d ih =>
    intro z
    by_cases h1 : W (c + d) < 2
    · rw [← Nat.add_assoc, nw_sk_o h1] at z
      rcases List.mem_cons.mp z with e | e
      · omega
      · exact ih e
    · by_cases h2 : 4 ≤ W (c + d)
      · rw [← Nat.add_assoc, nw_sk_p h2] at z
        exact ih z
      · rw [← Nat.add_assoc, nw_sk_c h1 h2] at z
        exact ih (List.mem_of_mem_tail z)
theorem nw_k4 {W : Nat → Nat} {a c c' : Nat} {T T' : List Nat} (h1 : ¬ W c < 2) (h2 : ¬ 4 ≤ W c) (e : nw_sk W c = a :: T) (hc : c < c') (e' : nw_sk W c' = a :: T') : False := by
  obtain ⟨ha, hs, _⟩ := nw_kt e
  have hn : ¬ a ∈ nw_sk W (c + 1) := by
    rw [nw_sk_cc h1 h2 e, ← hs]
    intro z
    have := nw_k2 a a z
    omega
  have hh := nw_k4a (by omega) hn (c' - (c + 1))
  rw [show c + 1 + (c' - (c + 1)) = c' by omega, e'] at hh
  exact hh List.mem_cons_self
theorem nw_k3 {W : Nat → Nat} {a : Nat} (ha : W a < 2) : ∀ d, (∃ P, nw_sk W (a + 1 + d) = P ++ a :: nw_sk W a) ∨ ∃ c, a < c ∧ c < a + 1 + d ∧ ¬ W c < 2 ∧ ¬ 4 ≤ W c ∧ nw_sk W c = a :: nw_sk W a := by
  intro d
  induction d with
  | zero => exact Or.inl ⟨[], nw_sk_o ha⟩
  | succ d ih =>
    rcases ih with ⟨P, hP⟩ | ⟨c, x1, x2, x3⟩
    · by_cases h1 : W (a + 1 + d) < 2
      · exact Or.inl ⟨(a + 1 + d) :: P, by rw [← Nat.add_assoc, nw_sk_o h1, hP] <;> rfl⟩
      · by_cases h2 : 4 ≤ W (a + 1 + d)
        · exact Or.inl ⟨P, by rw [← Nat.add_assoc, nw_sk_p h2, hP]⟩
        · cases P with
          | nil => exact Or.inr ⟨a + 1 + d, by omega, by omega, h1, h2, hP⟩
          | cons x P => exact Or.inl ⟨P, by rw [← Nat.add_assoc, nw_sk_c h1 h2, hP] <;> rfl⟩
    · exact Or.inr ⟨c, x1, by omega, x3⟩
/-- between two places of one stack an opening letter has its closing one -/
theorem nw_k5 {W : Nat → Nat} {a p : Nat} (ha : W a < 2) (hp : a < p) (e : nw_sk W p = nw_sk W a) : ∃ c, a < c ∧ c < p ∧ ¬ W c < 2 ∧ ¬ 4 ≤ W c ∧ nw_sk W c = a :: nw_sk W a := by
  have h := nw_k3 ha (p - (a + 1))
  rw [show a + 1 + (p - (a + 1)) = p by omega] at h
  rcases h with ⟨P, hP⟩ | h
  · rw [e] at hP
    have hl := congrArg List.length hP
    rw [List.length_append, List.length_cons] at hl
    omega
  · exact h
/-! the relation from the place behind the last unclosed letter to place j -/
def nw_ta (M : Nat → Nat → Nat → Nat → Prop) (W : Nat → Nat) : Nat → Nat → (Nat → Nat → Prop)
  | 0, _ => nw_id
  | n + 1, i => if i ≤ n then nw_ta M W n i else
      if W n < 2 then nw_id else if 4 ≤ W n then nw_th (nw_ta M W n n) (M (W n) 0) else
      match nw_sk W n with
      | [] => nw_th (nw_ta M W n n) (M (W n) 3)
      | o :: _ => nw_th (nw_ta M W n o) (nw_pc M (W o) (nw_ta M W n n) (W n))
def nw_cu (M : Nat → Nat → Nat → Nat → Prop) (W : Nat → Nat) (j : Nat) : Nat → Nat → Prop := nw_ta M W j j
theorem nw_ta_le {M : Nat → Nat → Nat → Nat → Prop} {W : Nat → Nat} : ∀ n i : Nat, i ≤ n → nw_ta M W n i = nw_cu M W i := by
  intro n
  induction n with
  | zero =>
    intro i h
    have e : i = 0 := by omega
    subst e
    rfl
  | succ n ih =>
    intro i h
    by_cases e : i ≤ n
    · rw [← ih i e, nw_ta, if_pos e]
    · have e : i = n + 1 := by omega
      subst e
      rfl
theorem nw_cu_0 {M : Nat → Nat → Nat → Nat → Prop} {W : Nat → Nat} : nw_cu M W 0 = nw_id := rfl
theorem nw_cu_o {M : Nat → Nat → Nat → Nat → Prop} {W : Nat → Nat} {j : Nat} (h : W j < 2) : nw_cu M W (j + 1) = nw_id := by
  have e : nw_ta M W (j + 1) (j + 1) = nw_id := by
    rw [nw_ta, if_neg (by omega), if_pos h]
  exact e
theorem nw_cu_p {M : Nat → Nat → Nat → Nat → Prop} {W : Nat → Nat} {j : Nat} (h : 4 ≤ W j) : nw_cu M W (j + 1) = nw_th (nw_cu M W j) (M (W j) 0) := by
  have e : nw_ta M W (j + 1) (j + 1) = nw_th (nw_ta M W j j) (M (W j) 0) := by
    rw [nw_ta, if_neg (by omega), if_neg (by omega), if_pos h]
  exact e
theorem nw_cu_n {M : Nat → Nat → Nat → Nat → Prop} {W : Nat → Nat} {j : Nat} (h : ¬ W j < 2) (h' : ¬ 4 ≤ W j) (es : nw_sk W j = []) : nw_cu M W (j + 1) = nw_th (nw_cu M W j) (M (W j) 3) := by
  have e : nw_ta M W (j + 1) (j + 1) = nw_th (nw_ta M W j j) (M (W j) 3) := by
    rw [nw_ta, if_neg (by omega), if_neg h, if_neg h', es] <;> rfl
  exact e
theorem nw_cu_c {M : Nat → Nat → Nat → Nat → Prop} {W : Nat → Nat} {j o : Nat} {T : List Nat} (h : ¬ W j < 2) (h' : ¬ 4 ≤ W j) (es : nw_sk W j = o :: T) : nw_cu M W (j + 1) = nw_th (nw_cu M W o) (nw_pc M (W o) (nw_cu M W j) (W j)) := by
  have ho := (nw_kt es).1
  have e : nw_ta M W (j + 1) (j + 1) = nw_th (nw_ta M W j o) (nw_pc M (W o) (nw_ta M W j j) (W j)) := by
    rw [nw_ta, if_neg (by omega), if_neg h, if_neg h', es] <;> rfl
  rw [nw_ta_le j o (by omega)] at e
  exact e
/-! with which the runs begin there, by the mark on top and the state below; the rows; the live states -/
def nw_rb (M : Nat → Nat → Nat → Nat → Prop) (W : Nat → Nat) (S : Nat → Prop) : List Nat → Nat → Nat → Nat → Prop
  | [], t, b, s => t = 3 ∧ b = 0 ∧ S s
  | o :: T, t, b, s => t < 3 ∧ (∃ t' b', t' < 4 ∧ b' < 5 ∧ nw_im (nw_rb M W S T t' b') (nw_cu M W o) b) ∧ M (W o) t b s
def nw_ro (M : Nat → Nat → Nat → Nat → Prop) (W : Nat → Nat) (S : Nat → Prop) (i t b : Nat) : Nat → Prop := nw_im (nw_rb M W S (nw_sk W i) t b) (nw_cu M W i)
def nw_lv (M : Nat → Nat → Nat → Nat → Prop) (W : Nat → Nat) (S : Nat → Prop) (i : Nat) : Nat → Prop := fun j => ∃ t b, t < 4 ∧ b < 5 ∧ nw_ro M W S i t b j
section
variable {M : Nat → Nat → Nat → Nat → Prop} {W : Nat → Nat} {S : Nat → Prop}
theorem nw_rb_n {t b s : Nat} : nw_rb M W S [] t b s ↔ t = 3 ∧ b = 0 ∧ S s := Iff.rfl
theorem nw_rb_c {o t b s : Nat} : nw_rb M W S (o :: nw_sk W o) t b s ↔ t < 3 ∧ nw_lv M W S o b ∧ M (W o) t b s := Iff.rfl
theorem nw_ro_0 {t b r : Nat} (hr : r < 5) : nw_ro M W S 0 t b r ↔ t = 3 ∧ b = 0 ∧ S r := nw_im_id hr
theorem nw_lv_0 {r : Nat} (hr : r < 5) : nw_lv M W S 0 r ↔ S r := by
  constructor
  · rintro ⟨t, b, ht, hb, h⟩
    exact ((nw_ro_0 hr).mp h).2.2
  · intro h
    exact ⟨3, 0, by omega, by omega, (nw_ro_0 hr).mpr ⟨rfl, rfl, h⟩⟩
theorem nw_ro_st {A : Nat → Nat → Prop} {j j' t b r : Nat} (e : nw_sk W j' = nw_sk W j) (e' : nw_cu M W j' = nw_th (nw_cu M W j) A) : nw_ro M W S j' t b r ↔ nw_im (nw_ro M W S j t b) A r := by
  unfold nw_ro
  rw [e, e']
  exact nw_im_th
theorem nw_lv_st {A : Nat → Nat → Prop} {j j' r : Nat} (e : nw_sk W j' = nw_sk W j) (e' : nw_cu M W j' = nw_th (nw_cu M W j) A) : nw_lv M W S j' r ↔ nw_im (nw_lv M W S j) A r := by
  constructor
  · rintro ⟨t, b, ht, hb, h⟩
    obtain ⟨q, hq, h1, h2⟩ := (nw_ro_st e e').mp h
    exact ⟨q, hq, ⟨t, b, ht, hb, h1⟩, h2⟩
  · rintro ⟨q, hq, ⟨t, b, ht, hb, h1⟩, h2⟩
    exact ⟨t, b, ht, hb, (nw_ro_st e e').mpr ⟨q, hq, h1, h2⟩⟩
theorem nw_ro_o {j t b r : Nat} (h : W j < 2) (hr : r < 5) : nw_ro M W S (j + 1) t b r ↔ t < 3 ∧ nw_lv M W S j b ∧ M (W j) t b r := by
  unfold nw_ro
  rw [nw_sk_o h, nw_cu_o h, nw_im_id hr]
  exact nw_rb_c
theorem nw_lv_o {j r : Nat} (h : W j < 2) (hr : r < 5) : nw_lv M W S (j + 1) r ↔ nw_im (nw_lv M W S j) (nw_op M (W j)) r := by
  constructor
  · rintro ⟨t, b, ht, hb, hh⟩
    obtain ⟨h1, h2, h3⟩ := (nw_ro_o h hr).mp hh
    exact ⟨b, hb, h2, t, h1, h3⟩
  · rintro ⟨b, hb, h2, t, h1, h3⟩
    exact ⟨t, b, by omega, hb, (nw_ro_o h hr).mpr ⟨h1, h2, h3⟩⟩
theorem nw_lv_p {j r : Nat} (h : 4 ≤ W j) : nw_lv M W S (j + 1) r ↔ nw_im (nw_lv M W S j) (M (W j) 0) r := nw_lv_st (nw_sk_p h) (nw_cu_p h)
theorem nw_lv_n {j r : Nat} (h : ¬ W j < 2) (h' : ¬ 4 ≤ W j) (es : nw_sk W j = []) : nw_lv M W S (j + 1) r ↔ nw_im (nw_lv M W S j) (M (W j) 3) r := nw_lv_st ((nw_sk_cn h h' es).trans es.symm) (nw_cu_n h h' es)
theorem nw_lv_c {a c r : Nat} (h : ¬ W c < 2) (h' : ¬ 4 ≤ W c) (es : nw_sk W c = a :: nw_sk W a) : nw_lv M W S (c + 1) r ↔ nw_im (nw_lv M W S a) (nw_pc M (W a) (nw_cu M W c) (W c)) r := nw_lv_st (nw_sk_cc h h' es) (nw_cu_c h h' es)
theorem nw_ro_p {j t b r : Nat} (h : 4 ≤ W j) : nw_ro M W S (j + 1) t b r ↔ nw_im (nw_ro M W S j t b) (M (W j) 0) r := nw_ro_st (nw_sk_p h) (nw_cu_p h)
theorem nw_ro_n {j t b r : Nat} (h : ¬ W j < 2) (h' : ¬ 4 ≤ W j) (es : nw_sk W j = []) : nw_ro M W S (j + 1) t b r ↔ nw_im (nw_ro M W S j t b) (M (W j) 3) r := nw_ro_st ((nw_sk_cn h h' es).trans es.symm) (nw_cu_n h h' es)
theorem nw_ro_e {j t b r : Nat} (es : nw_sk W j = []) (h : nw_ro M W S j t b r) : t = 3 ∧ b = 0 := by
  unfold nw_ro at h
  rw [es] at h
  obtain ⟨q, hq, h1, h2⟩ := h
  exact ⟨h1.1, h1.2.1⟩
theorem nw_ro_c {j o t b r : Nat} {T : List Nat} (h : ¬ W j < 2) (h' : ¬ 4 ≤ W j) (es : nw_sk W j = o :: T) (ht : t < 4) (hb : b < 5) : nw_ro M W S (j + 1) t b r ↔ ∃ m w, m < 3 ∧ w < 5 ∧ nw_ro M W S o t b w ∧ nw_im (nw_ro M W S j m w) (M (W j) m) r := by
  obtain ⟨_, hs, _⟩ := nw_kt es
  have ex : nw_sk W j = o :: nw_sk W o := by rw [es, hs]
  rw [nw_ro_st (nw_sk_cc h h' ex) (nw_cu_c h h' ex)]
  have eb : ∀ m w q, nw_ro M W S j m w q ↔ m < 3 ∧ nw_lv M W S o w ∧ ∃ s, s < 5 ∧ M (W o) m w s ∧ nw_cu M W j s q := by
    intro m w q
    unfold nw_ro
    rw [ex]
    constructor
    · rintro ⟨s, hs, h1, h2⟩
      obtain ⟨h3, h4, h5⟩ := nw_rb_c.mp h1
      exact ⟨h3, h4, s, hs, h5, h2⟩
    · rintro ⟨h3, h4, s, hs, h5, h2⟩
      exact ⟨s, hs, nw_rb_c.mpr ⟨h3, h4, h5⟩, h2⟩
  constructor
  · rintro ⟨w, hw, h1, m, hm, s2, hs2, ⟨s, hs, h2, h3⟩, h4⟩
    exact ⟨m, w, hm, hw, h1, s2, hs2, (eb m w s2).mpr ⟨hm, ⟨t, b, ht, hb, h1⟩, s, hs, h2, h3⟩, h4⟩
  · rintro ⟨m, w, hm, hw, h1, s2, hs2, h5, h4⟩
    obtain ⟨_, _, s, hs, h2, h3⟩ := (eb m w s2).mp h5
    exact ⟨w, hw, h1, m, hm, s2, hs2, ⟨s, hs, h2, h3⟩, h4⟩
end
/-! the places kept in an array -/
def nw_un (f : Nat → Int32) : List Nat → Prop
  | [] => True
  | o :: T => f T.length = nI o ∧ nw_un f T
theorem nw_un_u {f : Nat → Int32} {k : Nat} {x : Int32} : ∀ L : List Nat, L.length ≤ k → nw_un f L → nw_un (upd f k x) L := by
  intro L
  induction L with
  | nil => exact fun _ _ => trivial
  | cons o T ih =>
    intro h hu
    rw [List.length_cons] at h
    exact ⟨(pk_un (by omega)).trans hu.1, ih (by omega) hu.2⟩
theorem nw_un_s {f : Nat → Int32} {L : List Nat} {i : Nat} (h : nw_un f L) : nw_un (upd f L.length (nI i)) (i :: L) := ⟨pk_us, nw_un_u L (Nat.le_refl _) h⟩
/-! Y's table of partners -/
def nw_pf (W : Nat → Nat) (n : Nat) (f : Nat → Int32) : Prop := ∀ i, i < n →
  (¬ W i < 2 → ¬ 4 ≤ W i → (nw_sk W i = [] → f i = -1) ∧ (∀ o T, nw_sk W i = o :: T → f i = nI o)) ∧
  (W i < 2 → (∀ c T, c < n → ¬ W c < 2 → ¬ 4 ≤ W c → nw_sk W c = i :: T → f i = nI c) ∧
    ((∀ c T, c < n → ¬ W c < 2 → ¬ 4 ≤ W c → ¬ nw_sk W c = i :: T) → f i = -1))
theorem nw_pf_0 (W : Nat → Nat) (f : Nat → Int32) : nw_pf W 0 f := fun i hi => absurd hi (by omega)
theorem nw_pf_o {W : Nat → Nat} {n : Nat} {f : Nat → Int32} (h : nw_pf W n f) (hn : W n < 2) : nw_pf W (n + 1) (upd f n (-1)) := by
  intro i hi
  by_cases e : i = n
  · subst e
    refine ⟨fun z => absurd hn z, fun _ => ⟨fun c T hc h1 h2 h3 => ?_, fun _ => pk_us⟩⟩
    have := (nw_kt h3).1
    have e2 : c = i := by omega
    subst e2
    exact absurd hn h1
  · obtain ⟨p1, p2⟩ := h i (by omega)
    rw [pk_un e]
    refine ⟨p1, fun z => ⟨fun c T hc h1 h2 h3 => ?_, fun z2 => (p2 z).2 fun c T hc => z2 c T (by omega)⟩⟩
    by_cases e2 : c = n
    · subst e2
      exact absurd hn h1
    · exact (p2 z).1 c T (by omega) h1 h2 h3
theorem nw_pf_p {W : Nat → Nat} {n : Nat} {f : Nat → Int32} (h : nw_pf W n f) (hn : 4 ≤ W n) : nw_pf W (n + 1) (upd f n (-1)) := by
  intro i hi
  by_cases e : i = n
  · subst e
    exact ⟨fun _ z => absurd hn z, fun z => absurd hn (by omega)⟩
  · obtain ⟨p1, p2⟩ := h i (by omega)
    rw [pk_un e]
    refine ⟨p1, fun z => ⟨fun c T hc h1 h2 h3 => ?_, fun z2 => (p2 z).2 fun c T hc => z2 c T (by omega)⟩⟩
    by_cases e2 : c = n
    · subst e2
      exact absurd hn h2
    · exact (p2 z).1 c T (by omega) h1 h2 h3
theorem nw_pf_n {W : Nat → Nat} {n : Nat} {f : Nat → Int32} (h : nw_pf W n f) (hn : ¬ W n < 2) (hs : nw_sk W n = []) : nw_pf W (n + 1) (upd f n (-1)) := by
  intro i hi
  by_cases e : i = n
  · subst e
    refine ⟨fun _ _ => ⟨fun _ => pk_us, fun o T z => ?_⟩, fun z => absurd z hn⟩
    rw [hs] at z
    cases z
  · obtain ⟨p1, p2⟩ := h i (by omega)
    rw [pk_un e]
    refine ⟨p1, fun z => ⟨fun c T hc h1 h2 h3 => ?_, fun z2 => (p2 z).2 fun c T hc => z2 c T (by omega)⟩⟩
    by_cases e2 : c = n
    · subst e2
      rw [hs] at h3
      cases h3
    · exact (p2 z).1 c T (by omega) h1 h2 h3
theorem nw_pf_c {W : Nat → Nat} {n o : Nat} {T : List Nat} {f : Nat → Int32} (h : nw_pf W n f) (hn : ¬ W n < 2) (hn' : ¬ 4 ≤ W n) (hs : nw_sk W n = o :: T) : nw_pf W (n + 1) (upd (upd (upd f n (-1)) n (nI o)) o (nI n)) := by
  obtain ⟨ho, _, hw⟩ := nw_kt hs
  intro i hi
  by_cases e : i = n
  · subst e
    rw [pk_un (by omega), pk_us]
    refine ⟨fun _ _ => ⟨fun z => ?_, fun o' T' z => ?_⟩, fun z => absurd z hn⟩
    · rw [hs] at z
      cases z
    · rw [hs] at z
      injection z with z1 _
      rw [z1]
  · by_cases e3 : i = o
    · subst e3
      rw [pk_us]
      refine ⟨fun z => absurd hw z, fun _ => ⟨fun c T' hc h1 h2 h3 => ?_, fun z => absurd hs (z n T (by omega) hn hn')⟩⟩
      by_cases e2 : c = n
      · rw [e2]
      · exact (nw_k4 h1 h2 h3 (by omega) hs).elim
    · obtain ⟨p1, p2⟩ := h i (by omega)
      rw [pk_un e3, pk_un e, pk_un e]
      refine ⟨p1, fun z => ⟨fun c T' hc h1 h2 h3 => ?_, fun z2 => (p2 z).2 fun c T' hc => z2 c T' (by omega)⟩⟩
      by_cases e2 : c = n
      · subst e2
        rw [hs] at h3
        injection h3 with z1 _
        exact absurd z1.symm e3
      · exact (p2 z).1 c T' (by omega) h1 h2 h3
end
section
/-! between the arrays and the pure picture: Y's sets -/
def nw_M (f : Nat → Int32) (l m q r : Nat) : Prop := ¬ f (120 * q + 20 * l + 4 * r + m) = 0
def nw_S (f : Nat → Int32) (q : Nat) : Prop := ¬ f q = 0
def nw_gp (f : Nat → Int32) (l m i j : Nat) : Prop := ¬ f (120 * (i / 5) + 20 * l + 4 * (i % 5) + m) = 0 ∧ i = j
def nw_gt (a b : Int32) (i j : Nat) : Prop := (bt a (5 * (i / 25) + i / 5 % 5) = true ∧ bt b (5 * (i / 5 % 5) + i % 5) = true) ∧ 5 * (i / 25) + i % 5 = j
def nw_gi (s x : Int32) (i j : Nat) : Prop := (bt s (i / 5) = true ∧ bt x i = true) ∧ i % 5 = j
def nw_gs (f : Nat → Int32) (i j : Nat) : Prop := ¬ f i = 0 ∧ i = j
theorem nw_y_pairs {f : Nat → Int32} {l m : Nat} {x : Int32} (h : nw_uo (nw_gp f l m) 25 x) : nw_br x (nw_M f l m) := by
  intro j
  rw [h j]
  constructor
  · rintro ⟨i, hi, h1, h2⟩
    subst h2
    exact ⟨hi, h1⟩
  · rintro ⟨hj, h1⟩
    exact ⟨j, hj, h1, rfl⟩
theorem nw_y_then {a b x : Int32} {A B : Nat → Nat → Prop} (ha : nw_br a A) (hb : nw_br b B) (h : nw_uo (nw_gt a b) 125 x) : nw_br x (nw_th A B) := by
  intro j
  rw [h j]
  constructor
  · rintro ⟨i, hi, ⟨h1, h2⟩, h3⟩
    rw [nw_br_at ha (by omega) (by omega)] at h1
    rw [nw_br_at hb (by omega) (by omega)] at h2
    refine ⟨by omega, i / 5 % 5, by omega, ?_, ?_⟩
    · rw [show j / 5 = i / 25 by omega]
      exact h1
    · rw [show j % 5 = i % 5 by omega]
      exact h2
  · rintro ⟨hj, s, hs, h1, h2⟩
    have e1 : (25 * (j / 5) + 5 * s + j % 5) / 25 = j / 5 := by omega
    have e2 : (25 * (j / 5) + 5 * s + j % 5) / 5 % 5 = s := by omega
    have e3 : (25 * (j / 5) + 5 * s + j % 5) % 5 = j % 5 := by omega
    refine ⟨25 * (j / 5) + 5 * s + j % 5, by omega, ⟨?_, ?_⟩, ?_⟩
    · rw [e1, e2, nw_br_at ha (by omega) hs]
      exact h1
    · rw [e2, e3, nw_br_at hb hs (by omega)]
      exact h2
    · rw [e1, e3]
      omega
theorem nw_y_image {s x y : Int32} {S : Nat → Prop} {A : Nat → Nat → Prop} (hs : nw_bs s S) (hx : nw_br x A) (h : nw_uo (nw_gi s x) 25 y) : nw_bs y (nw_im S A) := by
  intro j
  rw [h j]
  constructor
  · rintro ⟨i, hi, ⟨h1, h2⟩, h3⟩
    rw [hs] at h1
    rw [hx] at h2
    refine ⟨by omega, i / 5, by omega, h1.2, ?_⟩
    rw [← h3]
    exact h2.2
  · rintro ⟨hj, q, hq, h1, h2⟩
    have e1 : (5 * q + j) / 5 = q := by omega
    have e2 : (5 * q + j) % 5 = j := by omega
    refine ⟨5 * q + j, by omega, ⟨?_, ?_⟩, e2⟩
    · rw [e1, hs]
      exact ⟨hq, h1⟩
    · exact (nw_br_at hx hq hj).mpr h2
theorem nw_y_set {f : Nat → Int32} {x : Int32} (h : nw_uo (nw_gs f) 5 x) : nw_bs x (nw_S f) := by
  intro j
  rw [h j]
  constructor
  · rintro ⟨i, hi, h1, h2⟩
    subst h2
    exact ⟨hi, h1⟩
  · rintro ⟨hj, h1⟩
    exact ⟨j, hj, h1, rfl⟩
theorem nw_y_id : nw_br 17043521 nw_id := by
  intro i
  rcases Nat.lt_or_ge i 32 with h | h
  · have hh : ∀ i, i < 32 → bt 17043521 i = decide (i < 25 ∧ i / 5 = i % 5) := by decide +kernel
    rw [hh i h, decide_eq_true_iff]
    exact Iff.rfl
  · rw [b_big h]
    exact ⟨fun z => absurd z (by decide), fun z => absurd z.1 (by omega)⟩
theorem nw_y_or {x y : Int32} {A B : Nat → Nat → Prop} (hx : nw_br x A) (hy : nw_br y B) : nw_br (x ||| y) (fun q r => A q r ∨ B q r) := by
  intro i
  rw [nw_bor, hx i, hy i]
  constructor
  · rintro (⟨h1, h2⟩ | ⟨h1, h2⟩)
    · exact ⟨h1, Or.inl h2⟩
    · exact ⟨h1, Or.inr h2⟩
  · rintro ⟨h1, h2 | h2⟩
    · exact Or.inl ⟨h1, h2⟩
    · exact Or.inr ⟨h1, h2⟩
theorem nw_y_0 : nw_br 0 (fun _ _ => False) := fun i => ⟨fun z => absurd z (nw_z i), fun z => z.2.elim⟩
theorem nw_y_op {M : Nat → Nat → Nat → Nat → Prop} {l : Nat} {x y z : Int32} (hx : nw_br x (M l 0)) (hy : nw_br y (M l 1)) (hz : nw_br z (M l 2)) : nw_br (x ||| y ||| z) (nw_op M l) := by
  refine nw_br_cg (nw_y_or (nw_y_or hx hy) hz) fun q r _ _ => ⟨?_, ?_⟩
  · rintro ((h | h) | h)
    · exact ⟨0, by omega, h⟩
    · exact ⟨1, by omega, h⟩
    · exact ⟨2, by omega, h⟩
  · rintro ⟨m, hm, h⟩
    have e : m = 0 ∨ m = 1 ∨ m = 2 := by omega
    rcases e with e | e | e
    · subst e
      exact Or.inl (Or.inl h)
    · subst e
      exact Or.inl (Or.inr h)
    · subst e
      exact Or.inr h
/-! one piece, mark by mark -/
def nw_pk (M : Nat → Nat → Nat → Nat → Prop) (a : Nat) (A : Nat → Nat → Prop) (c n : Nat) : Nat → Nat → Prop := fun q r => ∃ m, m < n ∧ nw_th (nw_th (M a m) A) (M c m) q r
theorem nw_pk_0 {M : Nat → Nat → Nat → Nat → Prop} {a c : Nat} {A : Nat → Nat → Prop} : nw_br 0 (nw_pk M a A c 0) := nw_br_cg nw_y_0 fun _ _ _ _ => ⟨fun z => z.elim, fun ⟨m, hm, _⟩ => absurd hm (by omega)⟩
theorem nw_pk_s {M : Nat → Nat → Nat → Nat → Prop} {a c n : Nat} {A : Nat → Nat → Prop} {x y : Int32} (hx : nw_br x (nw_pk M a A c n)) (hy : nw_br y (nw_th (nw_th (M a n) A) (M c n))) : nw_br (x ||| y) (nw_pk M a A c (n + 1)) := by
  refine nw_br_cg (nw_y_or hx hy) fun q r _ _ => ⟨?_, ?_⟩
  · rintro (⟨m, hm, h⟩ | h)
    · exact ⟨m, by omega, h⟩
    · exact ⟨n, by omega, h⟩
  · rintro ⟨m, hm, h⟩
    by_cases e : m = n
    · subst e
      exact Or.inr h
    · exact Or.inl ⟨m, by omega, h⟩
/-! X's rows -/
def nw_mx (f : Nat → Int32) (M : Nat → Nat → Nat → Nat → Prop) : Prop := ∀ l m q, l < 6 → m < 4 → q < 5 → nw_bs (f ((l * 4 + m) * 5 + q)) (M l m q)
def nw_gl (s : Int32) (M : Nat → Nat → Nat → Nat → Prop) (l m q j : Nat) : Prop := bt s q = true ∧ j < 5 ∧ M l m q j
def nw_gr (a : Nat → Int32) (k i j : Nat) : Prop := bt (a (k + i)) j = true
theorem nw_x_led {s x : Int32} {M : Nat → Nat → Nat → Nat → Prop} {R : Nat → Prop} {l m : Nat} (hs : nw_bs s R) (h : nw_uo (nw_gl s M l m) 5 x) : nw_bs x (nw_im R (M l m)) := by
  intro j
  rw [h j]
  constructor
  · rintro ⟨q, hq, h1, h2, h3⟩
    exact ⟨h2, q, hq, ((hs q).mp h1).2, h3⟩
  · rintro ⟨h2, q, hq, h1, h3⟩
    exact ⟨q, hq, (hs q).mpr ⟨hq, h1⟩, h2, h3⟩
section
variable {M : Nat → Nat → Nat → Nat → Prop} {W : Nat → Nat} {S : Nat → Prop}
def nw_rx (M : Nat → Nat → Nat → Nat → Prop) (W : Nat → Nat) (S : Nat → Prop) (a : Nat → Int32) (i : Nat) : Prop := ∀ c, c < 20 → nw_bs (a (i * 20 + c)) (nw_ro M W S i (c / 5) (c % 5))
theorem nw_rx_cg {a a' : Nat → Int32} {i : Nat} (h : nw_rx M W S a i) (e : ∀ k, k < (i + 1) * 20 → a' k = a k) : nw_rx M W S a' i := by
  intro c hc
  rw [e _ (by omega)]
  exact h c hc
theorem nw_x_live {a : Nat → Int32} {i : Nat} {x : Int32} (h : nw_rx M W S a i) (hu : nw_uo (nw_gr a (i * 20)) 20 x) : nw_bs x (nw_lv M W S i) := by
  intro j
  rw [hu j]
  constructor
  · rintro ⟨c, hc, h1⟩
    have h2 := (h c hc j).mp h1
    exact ⟨h2.1, c / 5, c % 5, by omega, by omega, h2.2⟩
  · rintro ⟨hj, t, b, ht, hb, h2⟩
    have h1 := (h (t * 5 + b) (by omega) j)
    rw [show (t * 5 + b) / 5 = t by omega, show (t * 5 + b) % 5 = b by omega] at h1
    exact ⟨t * 5 + b, by omega, h1.mpr ⟨hj, h2⟩⟩
theorem nw_x_0 {a : Nat → Int32} {x : Int32} (hz : ∀ c, c < 20 → a c = 0) (hx : nw_bs x S) : nw_rx M W S (upd a 15 x) 0 := by
  intro c hc j
  rw [show 0 * 20 + c = c by omega]
  by_cases e : c = 15
  · subst e
    rw [pk_us, hx j]
    exact ⟨fun ⟨h1, h2⟩ => ⟨h1, (nw_ro_0 h1).mpr ⟨rfl, rfl, h2⟩⟩, fun ⟨h1, h2⟩ => ⟨h1, ((nw_ro_0 h1).mp h2).2.2⟩⟩
  · rw [pk_un e, hz c hc]
    refine ⟨fun z => absurd z (nw_z j), fun ⟨h1, h2⟩ => ?_⟩
    obtain ⟨h3, h4, _⟩ := (nw_ro_0 h1).mp h2
    omega
/-- row i + 1 while an opening letter is taken: cells below T are done -/
def nw_io (M : Nat → Nat → Nat → Nat → Prop) (W : Nat → Nat) (S : Nat → Prop) (rc r : Nat → Int32) (i T : Nat) : Prop := (∀ k, k < (i + 1) * 20 → r k = rc k) ∧ (∀ c, c < T → (nw_lv M W S i (c % 5) → nw_bs (r ((i + 1) * 20 + c)) (M (W i) (c / 5) (c % 5))) ∧ (¬ nw_lv M W S i (c % 5) → r ((i + 1) * 20 + c) = 0)) ∧ (∀ c, T ≤ c → c < 20 → r ((i + 1) * 20 + c) = 0)
theorem nw_io_s {rc r : Nat → Int32} {i T : Nat} {y : Int32} (h : nw_io M W S rc r i T) (hl : nw_lv M W S i (T % 5)) (hy : nw_bs y (M (W i) (T / 5) (T % 5))) : nw_io M W S rc (upd r ((i + 1) * 20 + T) y) i (T + 1) := by
  obtain ⟨h1, h2, h3⟩ := h
  refine ⟨fun k hk => ?_, fun c hc => ?_, fun c hc hc' => ?_⟩
  · rw [pk_un (by omega)]
    exact h1 k hk
  · by_cases e : c = T
    · subst e
      rw [pk_us]
      exact ⟨fun _ => hy, fun z => absurd hl z⟩
    · rw [pk_un (by omega)]
      exact h2 c (by omega)
  · rw [pk_un (by omega)]
    exact h3 c (by omega) hc'
theorem nw_io_n {rc r : Nat → Int32} {i T : Nat} (h : nw_io M W S rc r i T) (hT : T < 20) (hl : ¬ nw_lv M W S i (T % 5)) : nw_io M W S rc r i (T + 1) := by
  obtain ⟨h1, h2, h3⟩ := h
  refine ⟨h1, fun c hc => ?_, fun c hc hc' => h3 c (by omega) hc'⟩
  by_cases e : c = T
  · subst e
    exact ⟨fun z => absurd z hl, fun _ => h3 c (by omega) hT⟩
  · exact h2 c (by omega)
theorem nw_x_o {rc a : Nat → Int32} {i : Nat} (h : W i < 2) (hh : nw_io M W S rc a i 15) : nw_rx M W S a (i + 1) := by
  obtain ⟨_, h2, h3⟩ := hh
  intro c hc j
  by_cases e : c < 15
  · by_cases z : nw_lv M W S i (c % 5)
    · rw [(h2 c e).1 z j]
      exact ⟨fun ⟨x1, x2⟩ => ⟨x1, (nw_ro_o h x1).mpr ⟨by omega, z, x2⟩⟩, fun ⟨x1, x2⟩ => ⟨x1, ((nw_ro_o h x1).mp x2).2.2⟩⟩
    · rw [(h2 c e).2 z]
      exact ⟨fun x => absurd x (nw_z j), fun ⟨x1, x2⟩ => absurd ((nw_ro_o h x1).mp x2).2.1 z⟩
  · rw [h3 c (by omega) hc]
    refine ⟨fun x => absurd x (nw_z j), fun ⟨x1, x2⟩ => ?_⟩
    have := ((nw_ro_o h x1).mp x2).1
    omega
theorem nw_x_p {a : Nat → Int32} {i : Nat} (h : 4 ≤ W i) (hh : ∀ c, c < 20 → nw_bs (a ((i + 1) * 20 + c)) (nw_im (nw_ro M W S i (c / 5) (c % 5)) (M (W i) 0))) : nw_rx M W S a (i + 1) := by
  intro c hc
  exact nw_bs_cg (hh c hc) fun j hj => (nw_ro_p h).symm
theorem nw_x_n {a : Nat → Int32} {i : Nat} (h : ¬ W i < 2) (h' : ¬ 4 ≤ W i) (es : nw_sk W i = []) (hh : nw_bs (a ((i + 1) * 20 + 15)) (nw_im (nw_ro M W S i 3 0) (M (W i) 3))) (hz : ∀ c, c < 20 → c ≠ 15 → a ((i + 1) * 20 + c) = 0) : nw_rx M W S a (i + 1) := by
  intro c hc
  by_cases e : c = 15
  · subst e
    exact nw_bs_cg hh fun j hj => (nw_ro_n h h' es).symm
  · rw [hz c hc e]
    intro j
    refine ⟨fun x => absurd x (nw_z j), fun ⟨x1, x2⟩ => ?_⟩
    obtain ⟨h1, h2⟩ := nw_ro_e (nw_sk_cn h h' es) x2
    omega
/-- what a matched closing letter gathers in cell c, from the pairs (mark, state below) t -/
def nw_gm (M : Nat → Nat → Nat → Nat → Prop) (l : Nat) (a : Nat → Int32) (o i c t j : Nat) : Prop := bt (a (o * 20 + c)) (t % 5) = true ∧ ∃ q, q < 5 ∧ bt (a (i * 20 + t)) q = true ∧ j < 5 ∧ M l (t / 5) q j
theorem nw_x_c {a a' : Nat → Int32} {i o : Nat} {T : List Nat} (h : ¬ W i < 2) (h' : ¬ 4 ≤ W i) (es : nw_sk W i = o :: T) (hi : nw_rx M W S a i) (ho : nw_rx M W S a o) (hh : ∀ c, c < 20 → nw_uo (nw_gm M (W i) a o i c) 15 (a' ((i + 1) * 20 + c))) : nw_rx M W S a' (i + 1) := by
  intro c hc j
  rw [hh c hc j]
  constructor
  · rintro ⟨t, ht, h1, q, hq, h2, hj, h3⟩
    refine ⟨hj, (nw_ro_c h h' es (by omega) (by omega)).mpr ⟨t / 5, t % 5, by omega, by omega, ((ho c hc _).mp h1).2, q, hq, ?_, h3⟩⟩
    exact ((hi t (by omega) q).mp h2).2
  · rintro ⟨hj, h1⟩
    obtain ⟨m, w, hm, hw, h2, q, hq, h3, h4⟩ := (nw_ro_c h h' es (by omega) (by omega)).mp h1
    have e1 : (m * 5 + w) / 5 = m := by omega
    have e2 : (m * 5 + w) % 5 = w := by omega
    refine ⟨m * 5 + w, by omega, ?_, q, hq, ?_, hj, ?_⟩
    · rw [e2]
      exact (ho c hc w).mpr ⟨hw, h2⟩
    · refine (hi (m * 5 + w) (by omega) q).mpr ⟨hq, ?_⟩
      rw [e1, e2]
      exact h3
    · rw [e1]
      exact h4
end
/-! the number of states in a set; the least number of closing letters -/
def nw_ct (x : Int32) : Nat → Int32
  | 0 => 0
  | n + 1 => nw_ct x n + ((x >>> (nI n &&& 31)) &&& 1)
def nw_cl (P : Nat → Prop) (r : Int32) : Prop := (∃ n, n < 5 ∧ P n ∧ (∀ i, i < n → ¬ P i) ∧ r = nI n) ∨ ((∀ i, i < 5 → ¬ P i) ∧ r = -1)
theorem nw_cl_eq {P : Nat → Prop} {r r' : Int32} (h : nw_cl P r) (h' : nw_cl P r') : r' = r := by
  rcases h with ⟨n, hn, h1, h2, rfl⟩ | ⟨h1, rfl⟩
  · rcases h' with ⟨n', hn', h1', h2', rfl⟩ | ⟨h1', rfl⟩
    · rcases Nat.lt_trichotomy n n' with z | z | z
      · exact absurd h1 (h2' n z)
      · rw [z]
      · exact absurd h1' (h2 n' z)
    · exact absurd h1 (h1' n hn)
  · rcases h' with ⟨n', hn', h1', h2', rfl⟩ | ⟨h1', rfl⟩
    · exact absurd h1' (h1 n' hn')
    · rfl
theorem nw_uo_eq {g : Nat → Nat → Prop} {n : Nat} {x y : Int32} (h : nw_uo g n x) (h' : nw_uo g n y) : x = y := nw_bx fun i => (h i).trans (h' i).symm
theorem nw_ac {x e : Int32} {S E : Nat → Prop} (h : nw_bs x S) (h' : nw_bs e E) : ¬ x &&& e = 0 ↔ ∃ q, q < 5 ∧ S q ∧ E q := by
  rw [nw_bz]
  constructor
  · intro z
    refine Classical.byContradiction fun y => z fun i hi => ?_
    obtain ⟨h1, h2⟩ := (nw_band x e i).mp hi
    exact y ⟨i, ((h i).mp h1).1, ((h i).mp h1).2, ((h' i).mp h2).2⟩
  · rintro ⟨q, hq, h1, h2⟩ z
    exact z q ((nw_band x e q).mpr ⟨(h q).mpr ⟨hq, h1⟩, (h' q).mpr ⟨hq, h2⟩⟩)
theorem nw_nz {x : Int32} {S : Nat → Prop} (h : nw_bs x S) : ¬ x = 0 ↔ ∃ q, q < 5 ∧ S q := by
  rw [nw_bz]
  constructor
  · intro z
    refine Classical.byContradiction fun y => z fun i hi => ?_
    exact y ⟨i, (h i).mp hi⟩
  · rintro ⟨q, hq, h1⟩ z
    exact z q ((h q).mpr ⟨hq, h1⟩)
/-! Y's walk over the whole word: no letter unclosed here is closed before place n -/
def nw_cz (W : Nat → Nat) (c : Nat) : Prop := ¬ W c < 2 ∧ ¬ 4 ≤ W c
def nw_tw (W : Nat → Nat) (n a : Nat) : Prop := ∀ x, x ∈ nw_sk W a → ∀ c T, c < n → nw_cz W c → ¬ nw_sk W c = x :: T
theorem nw_tw_0 (W : Nat → Nat) (n : Nat) : nw_tw W n 0 := by
  intro x hx
  rw [nw_sk_0] at hx
  cases hx
theorem nw_tw_p {W : Nat → Nat} {n a : Nat} (h : nw_tw W n a) (hp : 4 ≤ W a) : nw_tw W n (a + 1) := by
  intro x hx
  rw [nw_sk_p hp] at hx
  exact h x hx
theorem nw_tw_e {W : Nat → Nat} {n a : Nat} (h : nw_tw W n a) (ha : a < n) (hc : nw_cz W a) : nw_sk W a = [] := by
  cases e : nw_sk W a with
  | nil => rfl
  | cons x T => exact absurd e (h x (by rw [e]; exact List.mem_cons_self) a T ha hc)
theorem nw_tw_n {W : Nat → Nat} {n a : Nat} (hc : nw_cz W a) (e : nw_sk W a = []) : nw_tw W n (a + 1) := by
  intro x hx
  rw [nw_sk_cn hc.1 hc.2 e] at hx
  cases hx
theorem nw_tw_o {W : Nat → Nat} {n a : Nat} (h : nw_tw W n a) (ha : W a < 2) (hn : ∀ c T, c < n → nw_cz W c → ¬ nw_sk W c = a :: T) : nw_tw W n (a + 1) := by
  intro x hx
  rw [nw_sk_o ha] at hx
  rcases List.mem_cons.mp hx with e | e
  · rw [e]
    exact hn
  · exact h x e
theorem nw_tw_c {W : Nat → Nat} {n a c : Nat} (h : nw_tw W n a) (hc : nw_cz W c) (e : nw_sk W c = a :: nw_sk W a) : nw_tw W n (c + 1) := by
  intro x hx
  rw [nw_sk_cc hc.1 hc.2 e] at hx
  exact h x hx
/-- an opening letter is closed before place n, or not; what the table of partners holds then -/
theorem nw_pm {W : Nat → Nat} {n a : Nat} {f : Nat → Int32} (h : nw_pf W n f) (ha : a < n) (hw : W a < 2) :
    (∃ c, a < c ∧ c < n ∧ nw_cz W c ∧ nw_sk W c = a :: nw_sk W a ∧ f a = nI c) ∨
    ((∀ c T, c < n → nw_cz W c → ¬ nw_sk W c = a :: T) ∧ f a = -1) := by
  by_cases z : ∃ c T, c < n ∧ nw_cz W c ∧ nw_sk W c = a :: T
  · obtain ⟨c, T, hc, h1, h2⟩ := z
    obtain ⟨h3, h4, _⟩ := nw_kt h2
    refine Or.inl ⟨c, h3, hc, h1, by rw [h4]; exact h2, ?_⟩
    exact ((h a ha).2 hw).1 c T hc h1.1 h1.2 h2
  · refine Or.inr ⟨fun c T hc h1 h2 => z ⟨c, T, hc, h1, h2⟩, ?_⟩
    exact ((h a ha).2 hw).2 fun c T hc h1 h2 h3 => z ⟨c, T, hc, ⟨h1, h2⟩, h3⟩
/-- inside a pair: where the stack is that of the closing place p, the letter at a does not close -/
theorem nw_in {W : Nat → Nat} {a p o : Nat} {T : List Nat} (h : nw_sk W a = o :: T) (hp : nw_sk W p = o :: T) (ha : a < p) : ¬ nw_cz W a := fun hc => nw_k4 hc.1 hc.2 h ha hp
/-- the table of pieces, for the closing places before k -/
def nw_ld (M : Nat → Nat → Nat → Nat → Prop) (W : Nat → Nat) (k : Nat) (f : Nat → Int32) : Prop := ∀ p o T, p < k → nw_cz W p → nw_sk W p = o :: T → nw_br (f p) (nw_pc M (W o) (nw_cu M W p) (W p))
theorem nw_ld_0 (M : Nat → Nat → Nat → Nat → Prop) (W : Nat → Nat) (f : Nat → Int32) : nw_ld M W 0 f := fun p o T hp => absurd hp (by omega)
theorem nw_ld_n {M : Nat → Nat → Nat → Nat → Prop} {W : Nat → Nat} {k : Nat} {f : Nat → Int32} (h : nw_ld M W k f) (hn : ∀ o T, nw_cz W k → ¬ nw_sk W k = o :: T) : nw_ld M W (k + 1) f := by
  intro p o T hp hc hs
  by_cases e : p = k
  · subst e
    exact absurd hs (hn o T hc)
  · exact h p o T (by omega) hc hs
theorem nw_ld_s {M : Nat → Nat → Nat → Nat → Prop} {W : Nat → Nat} {k o : Nat} {T : List Nat} {f : Nat → Int32} {x : Int32} (h : nw_ld M W k f) (hs : nw_sk W k = o :: T) (hx : nw_br x (nw_pc M (W o) (nw_cu M W k) (W k))) : nw_ld M W (k + 1) (upd f k x) := by
  intro p o' T' hp hc hs'
  by_cases e : p = k
  · subst e
    rw [hs] at hs'
    injection hs' with e1 e2
    rw [pk_us, ← e1]
    exact hx
  · rw [pk_un e]
    exact h p o' T' (by omega) hc hs'
end
section
/-! X: the small methods and the methods that take one letter -/
theorem nw_xmem {post : Int32 → Prop} {x : Int32} {n : Nat} (hn : n < 32) (h1 : bt x n = true → post 1) (h0 : ¬ bt x n = true → post 0) : wpX_isMember post x (nI n) :=
  ⟨fun z => h0 ((nw_t1z hn).mp z), fun z => h1 (Classical.byContradiction fun y => z ((nw_t1z hn).mpr y))⟩
theorem nw_xcell {post : Int32 → Prop} {q l m : Nat} (h : post (nI ((l * 4 + m) * 5 + q))) : wpX_moveCell post (nI q) (nI l) (nI m) := by
  unfold wpX_moveCell
  rw [nw_i5]
  exact h
section
variable {st en ln dp : Int32} {mv wd rc uc : Nat → Int32} {M : Nat → Nat → Nat → Nat → Prop} {W : Nat → Nat} {S : Nat → Prop}
theorem nw_xclear {post : SX → Prop} {i : Nat} (hi : i ≤ 20) (h : ∀ rc', (∀ c, c < 20 → rc' (i * 20 + c) = 0) → (∀ k, k < i * 20 → rc' k = rc k) → post (st, en, ln, dp, mv, wd, rc', uc)) : wpX_clearRow post (st, en, ln, dp, mv, wd, rc, uc) (nI i) := by
  refine loop_0 (fun n j r => wX_clearRow_2 post (nI i) st en ln dp n (nI j) mv wd r uc) (fun j r => (∀ c, c < j → r (i * 20 + c) = 0) ∧ (∀ k, k < i * 20 → r k = rc k)) 20 rc ⟨fun c hc => absurd hc (by omega), fun k _ => rfl⟩ ?_ ?_
  · rintro n r ⟨h1, h2⟩
    exact br_t (nI_le (a := 20) (b := 20) (by omega) (by omega)) (h r h1 h2)
  · rintro n j r hj ⟨h1, h2⟩ ih
    refine br_f (nI_ge (b := 20) hj (by decide)) ?_
    rw [nw_i20 i j, nI_clamp (by omega)]
    refine ⟨vp_in_nI (by omega) (by omega), nm_e (nm_r (nI_1 j) (ih _ ⟨fun c hc => ?_, fun k hk => ?_⟩))⟩
    · by_cases e : c = j
      · rw [e, pk_us]
      · rw [pk_un (by omega)]
        exact h1 c (by omega)
    · rw [pk_un (by omega)]
      exact h2 k hk
theorem nw_xlir {post : Int32 → Prop} {i : Nat} (hi : i ≤ 20) (hr : nw_rx M W S rc i) (h : ∀ x, nw_bs x (nw_lv M W S i) → post x) : wpX_liveInRow post (st, en, ln, dp, mv, wd, rc, uc) (nI i) := by
  refine loop_0 (fun n j s => wX_liveInRow_4 post (nI i) st en ln dp mv wd rc uc n s (nI j)) (fun j s => nw_uo (nw_gr rc (i * 20)) j s) 20 0 (nw_uo_0 _) (fun n s hs => br_t (nI_le (a := 20) (b := 20) (by omega) (by omega)) (h s (nw_x_live hr hs))) ?_
  intro n j s hj hs ih
  refine br_f (nI_ge (b := 20) hj (by decide)) ?_
  rw [nw_i20 i j, nI_clamp (by omega)]
  exact ⟨vp_in_nI (by omega) (by omega), nm_e (nm_r (nI_1 j) (ih _ (nw_uo_s hs fun _ => Iff.rfl)))⟩
theorem nw_xled {post : Int32 → Prop} {x : Int32} {l m : Nat} (hM : nw_mx mv M) (hl : l < 6) (hm : m < 4) (h : ∀ y, nw_uo (nw_gl x M l m) 5 y → post y) : wpX_ledTo post (st, en, ln, dp, mv, wd, rc, uc) x (nI l) (nI m) := by
  refine loop_0 (fun n j s => wX_ledTo_6 post x (nI l) (nI m) st en ln dp mv wd rc uc n s (nI j)) (fun j s => nw_uo (nw_gl x M l m) j s) 5 0 (nw_uo_0 _) (fun n s hs => br_t (nI_le (a := 5) (b := 5) (by omega) (by omega)) (h s hs)) ?_
  intro n j s hj hs ih
  refine br_f (nI_ge (b := 5) hj (by decide)) (nw_xmem (by omega) (fun hb => ?_) (fun hb => ?_))
  · refine br_f (by decide) (nw_xcell ?_)
    rw [nI_clamp (by omega)]
    refine ⟨vp_in_nI (by omega) (by omega), nm_e (nm_r (nI_1 j) (ih _ (nw_uo_s hs fun k => ?_)))⟩
    exact (hM l m j hl hm hj k).trans ⟨fun z => ⟨hb, z⟩, fun z => z.2⟩
  · exact br_t rfl (nm_r (nI_1 j) (ih _ (nw_uo_n hs fun k z => hb z.1)))
/-! an opening letter -/
theorem nw_xo18 {post : SX → Prop} {J : Int32 → (Nat → Int32) → (Nat → Int32) → (Nat → Int32) → (Nat → Int32) → Prop} {x : Int32} {i m : Nat} {r : Nat → Int32} (hx : nw_bs x (nw_lv M W S i)) (hM : nw_mx mv M) (hi : i < 20) (hl : W i < 2) (hm : m < 3) (hr : nw_io M W S rc r i (m * 5)) (h : ∀ r', nw_io M W S rc r' i ((m + 1) * 5) → J (nI (m + 1)) mv wd r' uc) : ∃ n, wX_takeOpening_18 post J (nI i) (nI (W i)) x (nI m) st en ln dp n (nI 0) mv wd r uc := by
  refine loop_0 (fun n j r => wX_takeOpening_18 post J (nI i) (nI (W i)) x (nI m) st en ln dp n (nI j) mv wd r uc) (fun j r => nw_io M W S rc r i (m * 5 + j)) 5 r hr ?_ ?_
  · intro n r hr
    refine br_t (nI_le (a := 5) (b := 5) (by omega) (by omega)) (nm_r (nI_1 m) (h r ?_))
    rw [show (m + 1) * 5 = m * 5 + 5 by omega]
    exact hr
  · intro n j r hj hr ih
    have e1 : (m * 5 + j) % 5 = j := by omega
    have e2 : (m * 5 + j) / 5 = m := by omega
    refine br_f (nI_ge (b := 5) hj (by decide)) (nw_xmem (by omega) (fun hb => ?_) (fun hb => ?_))
    · refine br_f (by decide) (nw_xcell ?_)
      rw [nI_1 i, nw_i20t (i + 1) m j, nI_clamp (by omega), nI_clamp (by omega)]
      refine ⟨vp_in_nI (by omega) (by omega), vp_in_nI (by omega) (by omega), nm_e (nm_r (nI_1 j) (ih _ (nw_io_s (T := m * 5 + j) hr ?_ ?_)))⟩
      · rw [e1]
        exact ((hx j).mp hb).2
      · rw [e1, e2]
        exact hM (W i) m j (by omega) (by omega) hj
    · refine br_t rfl (nm_r (nI_1 j) (ih _ (nw_io_n (T := m * 5 + j) hr (by omega) ?_)))
      rw [e1]
      exact fun z => hb ((hx j).mpr ⟨hj, z⟩)
theorem nw_xopen {post : SX → Prop} {i d : Nat} (hd : dp = nI d) (hd' : d < 20) (hM : nw_mx mv M) (hi : i < 20) (hl : W i < 2) (hr : nw_rx M W S rc i) (hz : ∀ c, c < 20 → rc ((i + 1) * 20 + c) = 0) (h : ∀ rc', (∀ k, k < (i + 1) * 20 → rc' k = rc k) → nw_rx M W S rc' (i + 1) → post (st, en, ln, nI (d + 1), mv, wd, rc', upd uc d (nI i))) : wpX_takeOpening post (st, en, ln, dp, mv, wd, rc, uc) (nI i) (nI (W i)) := by
  subst hd
  refine nw_xlir (by omega) hr fun x hx => ?_
  refine loop_0 (fun n j r => wX_takeOpening_9 post (nI i) (nI (W i)) x st en ln (nI d) n (nI j) mv wd r uc) (fun j r => nw_io M W S rc r i (j * 5)) 3 rc ⟨fun _ _ => rfl, fun c hc => absurd hc (by omega), fun c _ hc => hz c hc⟩ ?_ ?_
  · intro n r hr
    refine br_t (nI_le (a := 3) (b := 3) (by omega) (by omega)) ?_
    rw [nI_clamp (by omega)]
    exact ⟨vp_in_nI (by omega) (by omega), nm_e (nm_r (nI_1 d) (h r hr.1 (nw_x_o hl hr)))⟩
  · intro n j r hj hr ih
    exact br_f (nI_ge (b := 3) hj (by decide)) (nw_xo18 hx hM hi hl hj hr fun r' hr' => ih r' hr')
/-! a plain letter -/
theorem nw_xplain {post : SX → Prop} {i : Nat} (hM : nw_mx mv M) (hi : i < 20) (hl : 4 ≤ W i) (hl' : W i < 6) (hr : nw_rx M W S rc i) (h : ∀ rc', (∀ k, k < (i + 1) * 20 → rc' k = rc k) → nw_rx M W S rc' (i + 1) → post (st, en, ln, dp, mv, wd, rc', uc)) : wpX_takePlain post (st, en, ln, dp, mv, wd, rc, uc) (nI i) (nI (W i)) := by
  refine loop_0 (fun n j r => wX_takePlain_2 post (nI i) (nI (W i)) st en ln dp n (nI j) mv wd r uc) (fun j r => (∀ k, k < (i + 1) * 20 → r k = rc k) ∧ ∀ c, c < j → nw_bs (r ((i + 1) * 20 + c)) (nw_im (nw_ro M W S i (c / 5) (c % 5)) (M (W i) 0))) 20 rc ⟨fun _ _ => rfl, fun c hc => absurd hc (by omega)⟩ ?_ ?_
  · rintro n r ⟨h1, h2⟩
    exact br_t (nI_le (a := 20) (b := 20) (by omega) (by omega)) (h r h1 (nw_x_p hl h2))
  · rintro n j r hj ⟨h1, h2⟩ ih
    refine br_f (nI_ge (b := 20) hj (by decide)) ?_
    rw [nI_1 i, nw_i20 i j, nw_i20 (i + 1) j, nI_clamp (by omega), nI_clamp (by omega)]
    refine ⟨vp_in_nI (by omega) (by omega), nw_xled (m := 0) hM hl' (by omega) fun y hy => ⟨vp_in_nI (by omega) (by omega), nm_e (nm_r (nI_1 j) (ih _ ⟨fun k hk => ?_, fun c hc => ?_⟩))⟩⟩
    · rw [pk_un (by omega)]
      exact h1 k hk
    · by_cases e : c = j
      · subst e
        rw [pk_us]
        rw [h1 _ (by omega)] at hy
        exact nw_x_led (hr c hj) hy
      · rw [pk_un (by omega)]
        exact h2 c (by omega)
/-! a closing letter with nothing to close -/
theorem nw_xunm {post : SX → Prop} {i : Nat} (hM : nw_mx mv M) (hi : i < 20) (hl : ¬ W i < 2) (hl' : ¬ 4 ≤ W i) (es : nw_sk W i = []) (hr : nw_rx M W S rc i) (hz : ∀ c, c < 20 → rc ((i + 1) * 20 + c) = 0) (h : ∀ rc', (∀ k, k < (i + 1) * 20 → rc' k = rc k) → nw_rx M W S rc' (i + 1) → post (st, en, ln, dp, mv, wd, rc', uc)) : wpX_takeUnmatched post (st, en, ln, dp, mv, wd, rc, uc) (nI i) (nI (W i)) := by
  unfold wpX_takeUnmatched
  dsimp only
  rw [nI_1 i, nw_i20k i, nw_i20k (i + 1), nI_clamp (by omega), nI_clamp (by omega)]
  refine ⟨vp_in_nI (by omega) (by omega), nw_xled (m := 3) hM (by omega) (by omega) fun y hy => ⟨vp_in_nI (by omega) (by omega), nm_e (h _ (fun k hk => pk_un (by omega)) (nw_x_n hl hl' es ?_ fun c hc e => ?_))⟩⟩
  · rw [pk_us]
    exact nw_x_led (hr 15 (by omega)) hy
  · rw [pk_un (by omega)]
    exact hz c hc
/-! a closing letter that closes -/
def nw_ad (r : Nat → Int32) (w o b c : Nat) (x : Int32) (k : Nat) : Int32 := if w * 20 ≤ k ∧ k < w * 20 + c ∧ bt (r (o * 20 + (k - w * 20))) b = true then r k ||| x else r k
theorem nw_ad_lo {r : Nat → Int32} {w o b c : Nat} {x : Int32} {k : Nat} (h : k < w * 20) : nw_ad r w o b c x k = r k := if_neg fun z => by
  have := z.1
  omega
theorem nw_ad_ge {r : Nat → Int32} {w o b c : Nat} {x : Int32} {k : Nat} (h : w * 20 + c ≤ k) : nw_ad r w o b c x k = r k := if_neg fun z => by
  have := z.2.1
  omega
theorem nw_ad_t {r : Nat → Int32} {w o b c d : Nat} {x : Int32} (h : bt (r (o * 20 + d)) b = true) (hd : d < c) : nw_ad r w o b c x (w * 20 + d) = r (w * 20 + d) ||| x := if_pos ⟨by omega, by omega, by rw [show w * 20 + d - w * 20 = d by omega]; exact h⟩
theorem nw_ad_f {r : Nat → Int32} {w o b c d : Nat} {x : Int32} (h : ¬ bt (r (o * 20 + d)) b = true) : nw_ad r w o b c x (w * 20 + d) = r (w * 20 + d) := if_neg fun z => h (by
  have := z.2.2
  rw [show w * 20 + d - w * 20 = d by omega] at this
  exact this)
theorem nw_ad_ne {r : Nat → Int32} {w o b c : Nat} {x : Int32} {k : Nat} (h : k ≠ w * 20 + c) : nw_ad r w o b (c + 1) x k = nw_ad r w o b c x k := by
  unfold nw_ad
  by_cases z : w * 20 ≤ k ∧ k < w * 20 + c ∧ bt (r (o * 20 + (k - w * 20))) b = true
  · rw [if_pos z, if_pos ⟨z.1, by omega, z.2.2⟩]
  · rw [if_neg z, if_neg fun y => z ⟨y.1, by omega, y.2.2⟩]
theorem nw_xadd {post : SX → Prop} {w o b : Nat} {x : Int32} (hw : w ≤ 20) (ho : o < w) (hb : b < 5) (h : ∀ rc', (∀ k, rc' k = nw_ad rc w o b 20 x k) → post (st, en, ln, dp, mv, wd, rc', uc)) : wpX_addWhereOpened post (st, en, ln, dp, mv, wd, rc, uc) (nI w) (nI o) (nI b) x := by
  refine loop_0 (fun n j r => wX_addWhereOpened_3 post (nI w) (nI o) (nI b) x st en ln dp n (nI j) mv wd r uc) (fun j r => ∀ k, r k = nw_ad rc w o b j x k) 20 rc (fun k => ?_) (fun n r hr => br_t (nI_le (a := 20) (b := 20) (by omega) (by omega)) (h r hr)) ?_
  · rcases Nat.lt_or_ge k (w * 20) with z | z
    · exact (nw_ad_lo z).symm
    · exact (nw_ad_ge (by omega)).symm
  · intro n j r hj hr ih
    refine br_f (nI_ge (b := 20) hj (by decide)) ?_
    rw [nw_i20 o j, nw_i20 w j, nI_clamp (by omega), nI_clamp (by omega)]
    refine ⟨vp_in_nI (by omega) (by omega), ?_⟩
    rw [hr (o * 20 + j), nw_ad_lo (by omega)]
    refine nw_xmem (by omega) (fun z => ?_) (fun z => ?_)
    · refine br_f (by decide) ⟨vp_in_nI (by omega) (by omega), vp_in_nI (by omega) (by omega), nm_e (nm_r (nI_1 j) (ih _ fun k => ?_))⟩
      by_cases e : k = w * 20 + j
      · subst e
        rw [pk_us, hr, nw_ad_ge (by omega), nw_ad_t z (by omega)]
      · rw [pk_un e, hr, nw_ad_ne e]
    · refine br_t rfl (nm_r (nI_1 j) (ih _ fun k => ?_))
      by_cases e : k = w * 20 + j
      · subst e
        rw [hr, nw_ad_ge (by omega), nw_ad_f z]
      · rw [hr, nw_ad_ne e]
def nw_ic (M : Nat → Nat → Nat → Nat → Prop) (l : Nat) (rc r : Nat → Int32) (o i T : Nat) : Prop := (∀ k, k < (i + 1) * 20 → r k = rc k) ∧ ∀ c, c < 20 → nw_uo (nw_gm M l rc o i c) T (r ((i + 1) * 20 + c))
theorem nw_ic_s {l o i T : Nat} {r r' : Nat → Int32} {y : Int32} (h : nw_ic M l rc r o i T) (ho : o ≤ i) (hT : T < 15) (hy : nw_uo (nw_gl (r (i * 20 + T)) M l (T / 5)) 5 y) (hr : ∀ k, r' k = nw_ad r (i + 1) o (T % 5) 20 y k) : nw_ic M l rc r' o i (T + 1) := by
  obtain ⟨h1, h2⟩ := h
  refine ⟨fun k hk => ?_, fun c hc => ?_⟩
  · rw [hr, nw_ad_lo hk]
    exact h1 k hk
  · rw [hr]
    rw [h1 _ (by omega)] at hy
    by_cases z : bt (r (o * 20 + c)) (T % 5) = true
    · rw [nw_ad_t z hc]
      rw [h1 _ (by omega)] at z
      refine nw_uo_s (h2 c hc) fun j => ?_
      rw [hy j]
      constructor
      · rintro ⟨q, hq, x1, x2, x3⟩
        exact ⟨z, q, hq, x1, x2, x3⟩
      · rintro ⟨_, q, hq, x1, x2, x3⟩
        exact ⟨q, hq, x1, x2, x3⟩
    · rw [nw_ad_f z]
      rw [h1 _ (by omega)] at z
      exact nw_uo_n (h2 c hc) fun j y => z y.1
theorem nw_xm32 {post : SX → Prop} {J : Int32 → Int32 → Int32 → Int32 → Int32 → (Nat → Int32) → (Nat → Int32) → (Nat → Int32) → (Nat → Int32) → Prop} {i o l m : Nat} {r : Nat → Int32} (hM : nw_mx mv M) (hi : i < 20) (ho : o ≤ i) (hl : l < 6) (hm : m < 3) (hr : nw_ic M l rc r o i (m * 5)) (h : ∀ r', nw_ic M l rc r' o i ((m + 1) * 5) → J (nI (m + 1)) st en ln dp mv wd r' uc) : ∃ n, wX_takeMatched_32 post J (nI i) (nI l) (nI o) (nI m) n (nI 0) st en ln dp mv wd r uc := by
  refine loop_0 (fun n j r => wX_takeMatched_32 post J (nI i) (nI l) (nI o) (nI m) n (nI j) st en ln dp mv wd r uc) (fun j r => nw_ic M l rc r o i (m * 5 + j)) 5 r hr ?_ ?_
  · intro n r hr
    refine br_t (nI_le (a := 5) (b := 5) (by omega) (by omega)) (nm_r (nI_1 m) (h r ?_))
    rw [show (m + 1) * 5 = m * 5 + 5 by omega]
    exact hr
  · intro n j r hj hr ih
    have e1 : (m * 5 + j) % 5 = j := by omega
    have e2 : (m * 5 + j) / 5 = m := by omega
    refine br_f (nI_ge (b := 5) hj (by decide)) ?_
    rw [nI_1 i, nw_i20t i m j, nI_clamp (by omega)]
    refine ⟨vp_in_nI (by omega) (by omega), nw_xled hM hl (by omega) fun y hy => nw_xadd (by omega) (by omega) hj fun r' hr' => nm_r (nI_1 j) (ih r' (nw_ic_s (T := m * 5 + j) (y := y) hr ho (by omega) ?_ ?_))⟩
    · rw [e2]
      exact hy
    · rw [e1]
      exact hr'
theorem nw_xmat {post : SX → Prop} {i o : Nat} {T : List Nat} (hd : dp = nI (T.length + 1)) (hd' : T.length < 20) (hu : uc T.length = nI o) (hM : nw_mx mv M) (hi : i < 20) (hl : ¬ W i < 2) (hl' : ¬ 4 ≤ W i) (es : nw_sk W i = o :: T) (hr : nw_rx M W S rc i) (hro : nw_rx M W S rc o) (hz : ∀ c, c < 20 → rc ((i + 1) * 20 + c) = 0) (h : ∀ rc', (∀ k, k < (i + 1) * 20 → rc' k = rc k) → nw_rx M W S rc' (i + 1) → post (st, en, ln, nI T.length, mv, wd, rc', uc)) : wpX_takeMatched post (st, en, ln, dp, mv, wd, rc, uc) (nI i) (nI (W i)) := by
  subst hd
  obtain ⟨ho, _, _⟩ := nw_kt es
  refine nm_r (nI_pred _) ?_
  rw [nI_clamp (by omega), hu]
  refine ⟨vp_in_nI (by omega) (by omega), nm_e ?_⟩
  refine loop_0 (fun n j r => wX_takeMatched_23 post (nI i) (nI (W i)) (nI o) n (nI j) st en ln (nI T.length) mv wd r uc) (fun j r => nw_ic M (W i) rc r o i (j * 5)) 3 rc ⟨fun _ _ => rfl, fun c hc => ?_⟩ ?_ ?_
  · rw [hz c hc]
    exact nw_uo_0 _
  · intro n r hr'
    exact br_t (nI_le (a := 3) (b := 3) (by omega) (by omega)) (h r hr'.1 (nw_x_c hl hl' es hr hro hr'.2))
  · intro n j r hj hr' ih
    exact br_f (nI_ge (b := 3) hj (by decide)) (nw_xm32 hM hi (by omega) (by omega) hj hr' fun r' hr2 => ih r' hr2)
end
end
section
/-! X: the run over the word -/
theorem nw_xop {post : Int32 → Prop} {l : Nat} (hl : l < 6) (h1 : l < 2 → post 1) (h0 : ¬ l < 2 → post 0) : wpX_isOpening post (nI l) := pk_le 2 l (fun z => h0 (by omega)) (fun z => h1 (by omega))
theorem nw_xpl {post : Int32 → Prop} {l : Nat} (hl : l < 6) (h1 : 4 ≤ l → post 1) (h0 : ¬ 4 ≤ l → post 0) : wpX_isPlain post (nI l) := pk_lt l 4 (fun z => h0 (by omega)) (fun z => h1 (by omega))
section
variable {st en ln dp : Int32} {mv wd rc uc : Nat → Int32} {M : Nat → Nat → Nat → Nat → Prop} {W : Nat → Nat} {S : Nat → Prop}
def nw_ir (M : Nat → Nat → Nat → Nat → Prop) (W : Nat → Nat) (S : Nat → Prop) (i : Nat) (s : Int32 × (Nat → Int32) × (Nat → Int32)) : Prop := s.1 = nI (nw_sk W i).length ∧ (∀ j, j ≤ i → nw_rx M W S s.2.1 j) ∧ nw_un s.2.2 (nw_sk W i)
theorem nw_ir_s {i : Nat} {d : Int32} {r r' u : Nat → Int32} (h : ∀ j, j ≤ i → nw_rx M W S r j) (hf : ∀ k, k < (i + 1) * 20 → r' k = r k) (hr : nw_rx M W S r' (i + 1)) (hd : d = nI (nw_sk W (i + 1)).length) (hu : nw_un u (nw_sk W (i + 1))) : nw_ir M W S (i + 1) (d, r', u) := by
  refine ⟨hd, fun j hj => ?_, hu⟩
  by_cases e : j = i + 1
  · rw [e]
    exact hr
  · exact nw_rx_cg (h j (by omega)) fun k hk => hf k (by omega)
theorem nw_xrun {post : SX → Prop} {n : Nat} (hn : n ≤ 20) (hw : ∀ i, i < n → W i < 6 ∧ wd i = nI (W i)) (hM : nw_mx mv M) (hs : nw_bs st S) (h : ∀ rc' uc', nw_rx M W S rc' n → post (st, en, ln, nI (nw_sk W n).length, mv, wd, rc', uc')) : wpX_runOver post (st, en, ln, dp, mv, wd, rc, uc) (nI n) := by
  refine nw_xclear (i := 0) (by omega) fun rc1 hz _ => ?_
  refine nm_e ?_
  refine loop_0 (fun k i (s : Int32 × (Nat → Int32) × (Nat → Int32)) => wX_runOver_23 post (nI n) k (nI i) st en ln s.1 mv wd s.2.1 s.2.2) (nw_ir M W S) n (0, upd rc1 15 st, uc) ⟨rfl, fun j hj => ?_, trivial⟩ ?_ ?_
  · have e : j = 0 := by omega
    subst e
    exact nw_x_0 (fun c hc => by have := hz c hc; rwa [Nat.zero_mul, Nat.zero_add] at this) hs
  · rintro k ⟨d, r, u⟩ ⟨h1, h2, _⟩
    have h1' : d = nI (nw_sk W n).length := h1
    subst h1'
    exact br_t (nI_le (Nat.le_refl n) (by omega)) (h r u (h2 n (Nat.le_refl n)))
  · rintro k i ⟨d, r, u⟩ hi ⟨h1, h2, h3⟩ ih
    have h1' : d = nI (nw_sk W i).length := h1
    subst h1'
    have h2' : ∀ j, j ≤ i → nw_rx M W S r j := h2
    have h3' : nw_un u (nw_sk W i) := h3
    obtain ⟨hw1, hw2⟩ := hw i hi
    have hsl := nw_skl (W := W) i
    refine br_f (nI_ge hi (by omega)) ?_
    dsimp only
    rw [nI_clamp (by omega), nI_1 i, hw2]
    refine ⟨vp_in_nI (by omega) (by omega), nm_e (nw_xclear (by omega) fun r1 hz hf => ?_)⟩
    have hr1 : ∀ j, j ≤ i → nw_rx M W S r1 j := fun j hj => nw_rx_cg (h2' j hj) fun k hk => hf k (by omega)
    dsimp only
    refine nw_xop hw1 (fun z => br_f (by decide) ?_) (fun z => br_t rfl (nw_xpl hw1 (fun z2 => br_f (by decide) ?_) (fun z2 => br_t rfl ?_)))
    · refine nw_xopen rfl (by omega) hM (by omega) z (hr1 i (Nat.le_refl i)) hz fun r2 hf2 hr2 => ?_
      refine nm_e (ih (_, _, _) (nw_ir_s hr1 hf2 hr2 ?_ ?_))
      · rw [nw_sk_o z, List.length_cons]
      · rw [nw_sk_o z]
        exact nw_un_s h3'
    · refine nw_xplain hM (by omega) z2 hw1 (hr1 i (Nat.le_refl i)) fun r2 hf2 hr2 => ?_
      refine nm_e (ih (_, _, _) (nw_ir_s hr1 hf2 hr2 ?_ ?_))
      · rw [nw_sk_p z2]
      · rw [nw_sk_p z2]
        exact h3'
    · cases es : nw_sk W i with
      | nil =>
        refine br_t rfl ?_
        refine nw_xunm hM (by omega) z z2 es (hr1 i (Nat.le_refl i)) hz fun r2 hf2 hr2 => ?_
        refine nm_e (ih (_, _, _) (nw_ir_s hr1 hf2 hr2 ?_ ?_))
        · rw [nw_sk_cn z z2 es]
        · rw [nw_sk_cn z z2 es]
          exact trivial
      | cons o T =>
        rw [es] at h3' hsl
        rw [List.length_cons] at hsl
        refine br_f (nI_ne0 (by rw [List.length_cons]; omega) (by rw [List.length_cons]; omega)) ?_
        refine nw_xmat (T := T) rfl (by omega) h3'.1 hM (by omega) z z2 es (hr1 i (Nat.le_refl i)) (hr1 o (by have := (nw_kt es).1; omega)) hz fun r2 hf2 hr2 => ?_
        refine nm_e (ih (_, _, _) (nw_ir_s hr1 hf2 hr2 ?_ ?_))
        · rw [nw_sk_cc z z2 es]
        · rw [nw_sk_cc z z2 es]
          exact h3'.2
theorem nw_xlo {post : Int32 → SX → Prop} {n : Nat} (hn : n ≤ 20) (hw : ∀ i, i < n → W i < 6 ∧ wd i = nI (W i)) (hM : nw_mx mv M) (hs : nw_bs st S) (h : ∀ x dp' rc' uc', nw_bs x (nw_lv M W S n) → post x (st, en, ln, dp', mv, wd, rc', uc')) : wpX_liveOver post (st, en, ln, dp, mv, wd, rc, uc) (nI n) :=
  nw_xrun hn hw hM hs fun rc' uc' hr => nw_xlir hn hr fun x hx => h x _ rc' uc' hx
end
theorem nw_xsz {post : Int32 → Prop} {x : Int32} (h : post (nw_ct x 5)) : wpX_sizeOf post x := by
  refine loop_0 (fun n j s => wX_sizeOf_4 post x n s (nI j)) (fun j s => s = nw_ct x j) 5 0 rfl ?_ ?_
  · intro n s hs
    subst hs
    exact br_t (nI_le (a := 5) (b := 5) (by omega) (by omega)) h
  · intro n j s hj hs ih
    subst hs
    exact br_f (nI_ge (b := 5) hj (by decide)) (nm_e (nm_r (nI_1 j) (ih _ rfl)))
end
section
/-! Y: the small methods -/
section
variable {ln : Int32} {mv sa ea wd pt ld wt : Nat → Int32} {W : Nat → Nat}
theorem nw_ypairs {post : Int32 → Prop} {l m : Nat} (hl : l < 6) (hm : m < 4) (h : ∀ x, nw_br x (nw_M mv l m) → post x) : wpY_pairs post (ln, mv, sa, ea, wd, pt, ld, wt) (nI l) (nI m) := by
  refine loop_0 (fun n i s => wY_pairs_5 post (nI l) (nI m) ln mv sa ea wd pt ld wt n s (nI i)) (fun i s => nw_uo (nw_gp mv l m) i s) 25 0 (nw_uo_0 _) (fun n s hs => br_t (nI_le (a := 25) (b := 25) (by omega) (by omega)) (h s (nw_y_pairs hs))) ?_
  intro n i s hi hs ih
  refine br_f (nI_ge (b := 25) hi (by decide)) ⟨by decide, by decide, ?_⟩
  rw [nw_iP (by omega) l m, nI_clamp (by omega)]
  refine ⟨vp_in_nI (by omega) (by omega), br_c (fun z => nm_r (nI_1 i) (ih _ (nw_uo_n hs fun j y => y.1 z))) (fun z => nm_e (nm_r (nI_1 i) (ih _ (nw_uo_s hs fun j => ?_))))⟩
  rw [nw_b1 (by omega)]
  exact ⟨fun y => ⟨z, y⟩, fun y => y.2⟩
theorem nw_ythen {post : Int32 → Prop} {a b : Int32} {A B : Nat → Nat → Prop} (ha : nw_br a A) (hb : nw_br b B) (h : ∀ x, nw_br x (nw_th A B) → post x) : wpY_then post a b := by
  refine loop_0 (fun n i s => wY_then_4 post a b n s (nI i)) (fun i s => nw_uo (nw_gt a b) i s) 125 0 (nw_uo_0 _) (fun n s hs => br_t (nI_le (a := 125) (b := 125) (by omega) (by omega)) (h s (nw_y_then ha hb hs))) ?_
  intro n i s hi hs ih
  refine br_f (nI_ge (b := 125) hi (by decide)) ⟨by decide, nm_r (nw_d25 (by omega)) ⟨by decide, by decide, nm_r (nw_w5 (by omega)) ⟨by decide, nm_r (nw_r5 (by omega)) ?_⟩⟩⟩
  rw [nw_i55 (i / 25) (i / 5 % 5), nw_i55 (i / 5 % 5) (i % 5), nw_i55 (i / 25) (i % 5)]
  rw [nw_t1e (x := a) (by omega), nw_t1e (x := b) (by omega)]
  refine br_c (fun z => br_c (fun z' => nm_e (nm_r (nI_1 i) (ih _ (nw_uo_s hs fun j => ?_)))) (fun z' => nm_r (nI_1 i) (ih _ (nw_uo_n hs fun j y => z' y.1.2)))) (fun z => nm_r (nI_1 i) (ih _ (nw_uo_n hs fun j y => z y.1.1)))
  rw [nw_b1 (by omega)]
  exact ⟨fun y => ⟨⟨z, z'⟩, y⟩, fun y => y.2⟩
theorem nw_yimage {post : Int32 → Prop} {s0 a : Int32} {S : Nat → Prop} {A : Nat → Nat → Prop} (hs0 : nw_bs s0 S) (ha : nw_br a A) (h : ∀ x, nw_bs x (nw_im S A) → post x) : wpY_image post s0 a := by
  refine loop_0 (fun n i s => wY_image_4 post s0 a n s (nI i)) (fun i s => nw_uo (nw_gi s0 a) i s) 25 0 (nw_uo_0 _) (fun n s hs => br_t (nI_le (a := 25) (b := 25) (by omega) (by omega)) (h s (nw_y_image hs0 ha hs))) ?_
  intro n i s hi hs ih
  refine br_f (nI_ge (b := 25) hi (by decide)) ⟨by decide, ?_⟩
  rw [nw_r5 (by omega), nw_d5 (by omega), nw_t1e (x := s0) (by omega), nw_t1e (x := a) (by omega)]
  refine br_c (fun z => br_c (fun z' => ⟨by decide, nm_e (nm_r (nI_1 i) (ih _ (nw_uo_s hs fun j => ?_)))⟩) (fun z' => nm_r (nI_1 i) (ih _ (nw_uo_n hs fun j y => z' y.1.2)))) (fun z => nm_r (nI_1 i) (ih _ (nw_uo_n hs fun j y => z y.1.1)))
  rw [nw_b1 (by omega)]
  exact ⟨fun y => ⟨⟨z, z'⟩, y⟩, fun y => y.2⟩
theorem nw_yends {post : Int32 → Prop} (h : ∀ x, nw_bs x (nw_S ea) → post x) : wpY_endsOf post (ln, mv, sa, ea, wd, pt, ld, wt) := by
  refine loop_0 (fun n i s => wY_endsOf_4 post ln mv sa ea wd pt ld wt n s (nI i)) (fun i s => nw_uo (nw_gs ea) i s) 5 0 (nw_uo_0 _) (fun n s hs => br_t (nI_le (a := 5) (b := 5) (by omega) (by omega)) (h s (nw_y_set hs))) ?_
  intro n i s hi hs ih
  refine br_f (nI_ge (b := 5) hi (by decide)) ?_
  rw [nI_clamp (by omega)]
  refine ⟨vp_in_nI (by omega) (by omega), br_c (fun z => nm_r Int32.or_zero (nm_r (nI_1 i) (ih _ (nw_uo_n hs fun j y => y.1 z)))) (fun z => nm_e (nm_r (nI_1 i) (ih _ (nw_uo_s hs fun j => ?_))))⟩
  rw [nw_b1 (by omega)]
  exact ⟨fun y => ⟨z, y⟩, fun y => y.2⟩
/-! the pairs of letters -/
def nw_iy (W : Nat → Nat) (i : Nat) (s : Int32 × (Nat → Int32) × (Nat → Int32)) : Prop := s.1 = nI (nw_sk W i).length ∧ nw_pf W i s.2.1 ∧ nw_un s.2.2 (nw_sk W i)
theorem nw_ymatch {post : Int32 → SY → Prop} {n : Nat} (hn : n ≤ 20) (hw : ∀ i, i < n → W i < 6 ∧ wd i = nI (W i)) (h : ∀ pt' wt', nw_pf W n pt' → post (nI (nw_sk W n).length) (ln, mv, sa, ea, wd, pt', ld, wt')) : wpY_match post (ln, mv, sa, ea, wd, pt, ld, wt) (nI n) := by
  refine loop_0 (fun k i (s : Int32 × (Nat → Int32) × (Nat → Int32)) => wY_match_4 post (nI n) ln k s.1 (nI i) mv sa ea wd s.2.1 ld s.2.2) (nw_iy W) n (0, pt, wt) ⟨rfl, nw_pf_0 W pt, trivial⟩ ?_ ?_
  · rintro k ⟨d, p, w⟩ ⟨h1, h2, _⟩
    have h1' : d = nI (nw_sk W n).length := h1
    subst h1'
    exact br_t (nI_le (Nat.le_refl n) (by omega)) (h p w h2)
  · rintro k i ⟨d, p, w⟩ hi ⟨h1, h2, h3⟩ ih
    have h1' : d = nI (nw_sk W i).length := h1
    subst h1'
    have h2' : nw_pf W i p := h2
    have h3' : nw_un w (nw_sk W i) := h3
    obtain ⟨hw1, hw2⟩ := hw i hi
    have hsl := nw_skl (W := W) i
    refine br_f (nI_ge hi (by omega)) ?_
    dsimp only
    rw [nI_clamp (n := i) (by omega), hw2]
    refine ⟨vp_in_nI (by omega) (by omega), nm_e ⟨vp_in_nI (by omega) (by omega), pk_lt 1 (W i) (fun z => ⟨vp_in_nI (by omega) (by omega), pk_lt 3 (W i) (fun z2 => ?_) (fun z2 => ?_)⟩) (fun z => ?_)⟩⟩
    · have hp : 4 ≤ W i := z2
      refine nm_r (nI_1 i) (ih (_, _, _) ⟨?_, nw_pf_p h2' hp, ?_⟩)
      · rw [nw_sk_p hp] <;> rfl
      · rw [nw_sk_p hp]
        exact h3'
    · have hc1 : ¬ W i < 2 := by omega
      have hc2 : ¬ 4 ≤ W i := by omega
      cases es : nw_sk W i with
      | nil =>
        refine br_t (nI_le (a := 0) (b := 0) (by omega) (by omega)) (nm_r (nI_1 i) (ih (_, _, _) ⟨?_, nw_pf_n h2' hc1 es, ?_⟩))
        · rw [nw_sk_cn hc1 hc2 es] <;> rfl
        · rw [nw_sk_cn hc1 hc2 es]
          exact trivial
      | cons o T =>
        rw [es] at h3' hsl
        rw [List.length_cons] at hsl
        obtain ⟨ho, _, _⟩ := nw_kt es
        refine br_f (nI_nle (by rw [List.length_cons]; omega) (by rw [List.length_cons]; omega)) (nm_r (e' := nI T.length) (pk_m1 T.length) ?_)
        rw [nI_clamp (n := T.length) (by omega), h3'.1, nI_clamp (n := o) (by omega)]
        refine ⟨vp_in_nI (by omega) (by omega), vp_in_nI (by omega) (by omega), nm_e ⟨vp_in_nI (by omega) (by omega), vp_in_nI (by omega) (by omega), nm_e (nm_r (nI_1 i) (ih (_, _, _) ⟨?_, nw_pf_c h2' hc1 hc2 es, ?_⟩))⟩⟩
        · rw [nw_sk_cc hc1 hc2 es] <;> rfl
        · rw [nw_sk_cc hc1 hc2 es]
          exact h3'.2
    · have ho : W i < 2 := by omega
      rw [nI_clamp (by omega)]
      refine ⟨vp_in_nI (by omega) (by omega), nm_e (nm_r (nI_1 _) (nm_r (nI_1 i) (ih (_, _, _) ⟨?_, nw_pf_o h2' ho, ?_⟩)))⟩
      · rw [nw_sk_o ho, List.length_cons] <;> rfl
      · rw [nw_sk_o ho]
        exact nw_un_s h3'
end
end
section
/-! Y: the pieces and the walk over the word -/
section
variable {ln : Int32} {mv sa ea wd pt ld wt : Nat → Int32} {W : Nat → Nat}
theorem nw_ybetween {post : Int32 → Prop} {o p N : Nat} {T : List Nat} (hN : N ≤ 20) (hp : p < N) (hw : ∀ i, i < N → W i < 6 ∧ wd i = nI (W i)) (hpf : nw_pf W N pt) (hld : nw_ld (nw_M mv) W p ld) (es : nw_sk W p = o :: T) (h : ∀ x, nw_br x (nw_cu (nw_M mv) W p) → post x) : wpY_between post (ln, mv, sa, ea, wd, pt, ld, wt) (nI o) (nI p) := by
  obtain ⟨hop, hso, hwo⟩ := nw_kt es
  refine nm_r (nI_1 o) ?_
  refine loop_m (fun n (s : Int32 × Nat) => wY_between_8 post (nI p) ln mv sa ea wd pt ld wt n s.1 (nI s.2)) (fun s => s.2 ≤ p ∧ nw_sk W s.2 = o :: T ∧ nw_br s.1 (nw_cu (nw_M mv) W s.2)) (fun s => p - s.2) ?_ (17043521, o + 1) ⟨hop, ?_, ?_⟩
  · rintro n ⟨x, a⟩ ⟨h1, h2, h3⟩ ih
    have h1' : a ≤ p := h1
    have h2' : nw_sk W a = o :: T := h2
    have h3' : nw_br x (nw_cu (nw_M mv) W a) := h3
    refine pk_le p a (fun z => ?_) (fun z => ?_)
    · have e : a = p := by omega
      subst e
      exact h x h3'
    · obtain ⟨hw1, hw2⟩ := hw a (by omega)
      have hnc := nw_in h2' es z
      dsimp only
      rw [nI_clamp (n := a) (by omega), hw2]
      refine ⟨vp_in_nI (by omega) (by omega), pk_lt (W a) 4 (fun z2 => ?_) (fun z2 => ?_)⟩
      · have ho : W a < 2 := by
          by_cases y : W a < 2
          · exact y
          · exact absurd ⟨y, by omega⟩ hnc
        obtain ⟨c, c1, c2, c3, c4, c5⟩ := nw_k5 ho z (es.trans h2'.symm)
        have hpa : pt a = nI c := ((hpf a (by omega)).2 ho).1 c _ (by omega) c3 c4 c5
        rw [hpa, nI_clamp (n := c) (by omega)]
        refine ⟨vp_in_nI (by omega) (by omega), vp_in_nI (by omega) (by omega), nw_ythen h3' (hld c a _ c2 ⟨c3, c4⟩ c5) fun y hy => ?_⟩
        rw [nI_clamp (n := a) (by omega), hw2, hpa]
        refine ⟨vp_in_nI (by omega) (by omega), br_f (nI_nlt (a := 1) (b := W a) (by omega) (by omega)) ⟨vp_in_nI (by omega) (by omega), nm_e (nm_r (nI_1 c) (ih (y, c + 1) ⟨c2, ?_, ?_⟩ ?_))⟩⟩
        · exact (nw_sk_cc c3 c4 c5).trans h2'
        · show nw_br y (nw_cu (nw_M mv) W (c + 1))
          rw [nw_cu_c c3 c4 c5]
          exact hy
        · show p - (c + 1) < p - a
          omega
      · refine ⟨vp_in_nI (by omega) (by omega), nw_ypairs (m := 0) hw1 (by omega) fun y0 hy0 => nw_ythen h3' hy0 fun y hy => ?_⟩
        rw [nI_clamp (n := a) (by omega), hw2]
        refine ⟨vp_in_nI (by omega) (by omega), br_t (nI_lt (a := 1) (b := W a) (by omega) (by omega)) (nm_r (nI_1 a) (ih (y, a + 1) ⟨z, ?_, ?_⟩ ?_))⟩
        · exact (nw_sk_p z2).trans h2'
        · show nw_br y (nw_cu (nw_M mv) W (a + 1))
          rw [nw_cu_p z2]
          exact hy
        · show p - (a + 1) < p - a
          omega
  · exact (nw_sk_o hwo).trans (by rw [hso])
  · show nw_br 17043521 (nw_cu (nw_M mv) W (o + 1))
    rw [nw_cu_o hwo]
    exact nw_y_id
theorem nw_ypiece {post : Int32 → Prop} {o p N : Nat} {T : List Nat} (hN : N ≤ 20) (hp : p < N) (hw : ∀ i, i < N → W i < 6 ∧ wd i = nI (W i)) (hpf : nw_pf W N pt) (hld : nw_ld (nw_M mv) W p ld) (es : nw_sk W p = o :: T) (h : ∀ x, nw_br x (nw_pc (nw_M mv) (W o) (nw_cu (nw_M mv) W p) (W p)) → post x) : wpY_piece post (ln, mv, sa, ea, wd, pt, ld, wt) (nI o) (nI p) := by
  obtain ⟨hop, hso, hwo⟩ := nw_kt es
  obtain ⟨w1, w2⟩ := hw o (by omega)
  obtain ⟨w3, w4⟩ := hw p hp
  refine nw_ybetween hN hp hw hpf hld es fun x hx => ?_
  refine loop_0 (fun n m s => wY_piece_13 post (nI o) (nI p) x ln mv sa ea wd pt ld wt n s (nI m)) (fun m s => nw_br s (nw_pk (nw_M mv) (W o) (nw_cu (nw_M mv) W p) (W p) m)) 3 0 nw_pk_0 (fun n s hs => br_t (nI_le (a := 3) (b := 3) (by omega) (by omega)) (h s hs)) ?_
  intro n m s hm hs ih
  refine br_f (nI_ge (b := 3) hm (by decide)) ?_
  rw [nI_clamp (n := o) (by omega), nI_clamp (n := p) (by omega), w2, w4]
  exact ⟨vp_in_nI (by omega) (by omega), nw_ypairs w1 (by omega) fun y1 h1 => ⟨vp_in_nI (by omega) (by omega), nw_ypairs w3 (by omega) fun y2 h2 => nw_ythen h1 hx fun y3 h3 => nw_ythen h3 h2 fun y4 h4 => nm_e (nm_r (nI_1 m) (ih _ (nw_pk_s hs h4)))⟩⟩
/-! the walk -/
theorem nw_y101 {post : Int32 → SY → Prop} {S : Nat → Prop} {n : Nat} {x0 : Int32} (hn : n ≤ 20) (hw : ∀ i, i < n → W i < 6 ∧ wd i = nI (W i)) (hpf : nw_pf W n pt) (hld : nw_ld (nw_M mv) W n ld) (hs : nw_bs x0 S) (h : ∀ x, nw_bs x (nw_lv (nw_M mv) W S n) → post x (ln, mv, sa, ea, wd, pt, ld, wt)) : ∃ k, wY_liveAfter_101 post (nI n) ln mv sa ea wd pt ld wt k x0 (nI 0) := by
  refine loop_m (fun k (s : Int32 × Nat) => wY_liveAfter_101 post (nI n) ln mv sa ea wd pt ld wt k s.1 (nI s.2)) (fun s => s.2 ≤ n ∧ nw_tw W n s.2 ∧ nw_bs s.1 (nw_lv (nw_M mv) W S s.2)) (fun s => n - s.2) ?_ (x0, 0) ⟨Nat.zero_le n, nw_tw_0 W n, nw_bs_cg hs fun i hi => (nw_lv_0 hi).symm⟩
  rintro k ⟨x, a⟩ ⟨h1, h2, h3⟩ ih
  have h1' : a ≤ n := h1
  have h2' : nw_tw W n a := h2
  have h3' : nw_bs x (nw_lv (nw_M mv) W S a) := h3
  refine pk_le n a (fun z => ?_) (fun z => ?_)
  · have e : a = n := by omega
    subst e
    exact h x h3'
  · obtain ⟨hw1, hw2⟩ := hw a z
    dsimp only
    rw [nI_clamp (n := a) (by omega), hw2]
    refine ⟨vp_in_nI (by omega) (by omega), nm_e (pk_lt (W a) 4 (fun z2 => nw_ypairs (m := 3) hw1 (by omega) fun y hy => ?_) (fun z2 => nw_ypairs (m := 0) hw1 (by omega) fun y hy => ?_))⟩
    · by_cases ho : W a < 2
      · refine br_f (nI_nlt (a := 1) (b := W a) (by omega) (by omega)) (nw_ypairs (m := 0) hw1 (by omega) fun y0 hy0 => nw_ypairs (m := 1) hw1 (by omega) fun y1 hy1 => nw_ypairs (m := 2) hw1 (by omega) fun y2 hy2 => nm_e (br_f (nI_nlt (a := 1) (b := W a) (by omega) (by omega)) ?_))
        rw [nI_clamp (n := a) (by omega)]
        refine ⟨vp_in_nI (by omega) (by omega), ?_⟩
        rcases nw_pm hpf z ho with ⟨c, c1, c2, c3, c4, c5⟩ | ⟨c1, c2⟩
        · rw [c5]
          refine br_f (nI_pos (by omega)) ⟨vp_in_nI (by omega) (by omega), nm_e ?_⟩
          rw [nI_clamp (n := c) (by omega)]
          refine ⟨vp_in_nI (by omega) (by omega), nm_e (nw_yimage h3' (hld c a _ c2 c3 c4) fun y3 hy3 => nm_r (nI_1 c) (ih (y3, c + 1) ⟨c2, nw_tw_c h2' c3 c4, ?_⟩ ?_))⟩
          · exact nw_bs_cg hy3 fun i hi => (nw_lv_c c3.1 c3.2 c4).symm
          · show n - (c + 1) < n - a
            omega
        · rw [c2]
          refine br_t (by decide) (nw_yimage h3' (nw_y_op hy0 hy1 hy2) fun y3 hy3 => nm_r (nI_1 a) (ih (y3, a + 1) ⟨z, nw_tw_o h2' ho c1, ?_⟩ ?_))
          · exact nw_bs_cg hy3 fun i hi => (nw_lv_o ho hi).symm
          · show n - (a + 1) < n - a
            omega
      · have hcz : nw_cz W a := ⟨ho, by omega⟩
        have es := nw_tw_e h2' z hcz
        refine br_t (nI_lt (a := 1) (b := W a) (by omega) (by omega)) (br_t (nI_lt (a := 1) (b := W a) (by omega) (by omega)) (nw_yimage h3' hy fun y3 hy3 => nm_r (nI_1 a) (ih (y3, a + 1) ⟨z, nw_tw_n hcz es, ?_⟩ ?_)))
        · exact nw_bs_cg hy3 fun i hi => (nw_lv_n hcz.1 hcz.2 es).symm
        · show n - (a + 1) < n - a
          omega
    · refine br_t (nI_lt (a := 1) (b := W a) (by omega) (by omega)) (br_t (nI_lt (a := 1) (b := W a) (by omega) (by omega)) (nw_yimage h3' hy fun y3 hy3 => nm_r (nI_1 a) (ih (y3, a + 1) ⟨z, nw_tw_p h2' z2, ?_⟩ ?_)))
      · exact nw_bs_cg hy3 fun i hi => (nw_lv_p z2).symm
      · show n - (a + 1) < n - a
        omega
theorem nw_y67 {post : Int32 → SY → Prop} {J : Int32 → (Nat → Int32) → (Nat → Int32) → (Nat → Int32) → (Nat → Int32) → (Nat → Int32) → (Nat → Int32) → (Nat → Int32) → Prop} {n i : Nat} {x1 x2 : Int32} (hn : n ≤ 20) (hi : i < n) (hw : ∀ i, i < n → W i < 6 ∧ wd i = nI (W i)) (hpf : nw_pf W n pt) (hld : nw_ld (nw_M mv) W i ld) (hc : nw_cz W i) (h : ∀ ld', nw_ld (nw_M mv) W (i + 1) ld' → J (nI (i + 1)) mv sa ea wd pt ld' wt) : wY_liveAfter_67 post J x1 x2 (nI i) ln mv sa ea wd pt ld wt := by
  unfold wY_liveAfter_67
  rw [nI_clamp (n := i) (by omega)]
  refine ⟨vp_in_nI (by omega) (by omega), ?_⟩
  have hp := (hpf i hi).1 hc.1 hc.2
  cases es : nw_sk W i with
  | nil =>
    rw [hp.1 es]
    refine br_t (by decide) (nm_r (nI_1 i) (h ld (nw_ld_n hld fun o T _ z => ?_)))
    rw [es] at z
    cases z
  | cons o T =>
    rw [hp.2 o T es]
    have ho := (nw_kt es).1
    exact br_f (nI_pos (by omega)) ⟨vp_in_nI (by omega) (by omega), nw_ypiece hn hi hw hpf hld es fun x hx => ⟨vp_in_nI (by omega) (by omega), nm_e (nm_r (nI_1 i) (h _ (nw_ld_s hld es hx)))⟩⟩
theorem nw_y42 {post : Int32 → SY → Prop} {n : Nat} {x2 : Int32} (hn : n ≤ 20) (hw : ∀ i, i < n → W i < 6 ∧ wd i = nI (W i)) (hpf : nw_pf W n pt) (h : ∀ ld', nw_ld (nw_M mv) W n ld' → ∃ k, wY_liveAfter_101 post (nI n) ln mv sa ea wd pt ld' wt k x2 (nI 0)) : ∃ k, wY_liveAfter_42 post (nI n) x2 ln k (nI 0) mv sa ea wd pt ld wt := by
  refine loop_0 (fun k i l => wY_liveAfter_42 post (nI n) x2 ln k (nI i) mv sa ea wd pt l wt) (fun i l => nw_ld (nw_M mv) W i l) n ld (nw_ld_0 _ W ld) (fun k l hl => br_t (nI_le (Nat.le_refl n) (by omega)) (h l hl)) ?_
  intro k i l hi hl ih
  obtain ⟨hw1, hw2⟩ := hw i hi
  refine br_f (nI_ge hi (by omega)) ?_
  rw [nI_clamp (n := i) (by omega), hw2]
  refine ⟨vp_in_nI (by omega) (by omega), pk_eq (W i) 2 (fun z => ?_) (fun z => ⟨vp_in_nI (by omega) (by omega), pk_eq (W i) 3 (fun z2 => ?_) (fun z2 => ?_)⟩)⟩
  · exact nw_y67 hn hi hw hpf hl ⟨by omega, by omega⟩ fun l' hl' => ih l' hl'
  · exact nw_y67 hn hi hw hpf hl ⟨by omega, by omega⟩ fun l' hl' => ih l' hl'
  · refine nm_r (nI_1 i) (ih l (nw_ld_n hl fun o T hc _ => ?_))
    have := hc.1
    have := hc.2
    omega
theorem nw_yla {post : Int32 → SY → Prop} {n : Nat} (hn : n ≤ 20) (hw : ∀ i, i < n → W i < 6 ∧ wd i = nI (W i)) (h : ∀ x pt' ld' wt', nw_bs x (nw_lv (nw_M mv) W (nw_S sa) n) → post x (ln, mv, sa, ea, wd, pt', ld', wt')) : wpY_liveAfter post (ln, mv, sa, ea, wd, pt, ld, wt) (nI n) := by
  refine nw_ymatch hn hw fun pt' wt' hpf => ?_
  refine loop_0 (fun k i s => wY_liveAfter_10 post (nI n) ln mv sa ea wd pt' ld wt' k s (nI i)) (fun i s => nw_uo (nw_gs sa) i s) 5 0 (nw_uo_0 _) (fun k s hs => br_t (nI_le (a := 5) (b := 5) (by omega) (by omega)) (nw_y42 hn hw hpf fun ld' hld => nw_y101 hn hw hpf hld (nw_y_set hs) fun x hx => h x pt' ld' wt' hx)) ?_
  intro k i s hi hs ih
  refine br_f (nI_ge (b := 5) hi (by decide)) ?_
  rw [nI_clamp (by omega)]
  refine ⟨vp_in_nI (by omega) (by omega), br_c (fun z => nm_r Int32.or_zero (nm_r (nI_1 i) (ih _ (nw_uo_n hs fun j y => y.1 z)))) (fun z => nm_e (nm_r (nI_1 i) (ih _ (nw_uo_s hs fun j => ?_))))⟩
  rw [nw_b1 (by omega)]
  exact ⟨fun y => ⟨z, y⟩, fun y => y.2⟩
theorem nw_ysz {post : Int32 → SY → Prop} {x : Int32} (h : post (nw_ct x 5) (ln, mv, sa, ea, wd, pt, ld, wt)) : ∃ k, wY_read_54 post x ln mv sa ea wd pt ld wt k 0 (nI 0) := by
  refine loop_0 (fun n j s => wY_read_54 post x ln mv sa ea wd pt ld wt n s (nI j)) (fun j s => s = nw_ct x j) 5 0 rfl ?_ ?_
  · intro n s hs
    subst hs
    exact br_t (nI_le (a := 5) (b := 5) (by omega) (by omega)) h
  · intro n j s hj hs ih
    subst hs
    exact br_f (nI_ge (b := 5) hj (by decide)) (nm_e (nm_r (nI_1 j) (ih _ rfl)))
end
end
section
/-! the methods that are called from outside, each side by itself -/
def nw_we (W : Nat → Nat) (n l i : Nat) : Nat := if i = n then l else W i
def nw_wc (W : Nat → Nat) (n i : Nat) : Nat := if i < n then W i else 2
theorem nw_we_h {W : Nat → Nat} {n l : Nat} {wd : Nat → Int32} (hl : l < 6) (hw : ∀ i, i < n → W i < 6 ∧ wd i = nI (W i)) : ∀ i, i < n + 1 → nw_we W n l i < 6 ∧ upd wd n (nI l) i = nI (nw_we W n l i) := by
  intro i hi
  unfold nw_we
  by_cases e : i = n
  · rw [if_pos e, e, pk_us]
    exact ⟨hl, rfl⟩
  · rw [if_neg e, pk_un e]
    exact hw i (by omega)
theorem nw_we_k {n : Nat} {x : Int32} {wd : Nat → Int32} {i : Nat} (hi : i < n) : upd wd n x i = wd i := pk_un (by omega)
def nw_gn (M : Nat → Nat → Nat → Nat → Prop) (W : Nat → Nat) (S : Nat → Prop) (n l j : Nat) : Prop := (∃ q, q < 5 ∧ nw_lv M (nw_we W n l) S (n + 1) q) ∧ l = j
def nw_ak (M : Nat → Nat → Nat → Nat → Prop) (W : Nat → Nat) (S E : Nat → Prop) (n k : Nat) : Prop := ∃ q, q < 5 ∧ nw_lv M (nw_wc W n) S (n + k) q ∧ E q
section
variable {st en dp : Int32} {mv wd rc uc : Nat → Int32} {M : Nat → Nat → Nat → Nat → Prop} {W : Nat → Nat} {S E : Nat → Prop} {n : Nat}
theorem nw_xnext {post : Int32 → SX → Prop} (hn : n ≤ 16) (hw : ∀ i, i < n → W i < 6 ∧ wd i = nI (W i)) (hM : nw_mx mv M) (hs : nw_bs st S) (h : ∀ x dp' wd' rc' uc', nw_uo (nw_gn M W S n) 6 x → (∀ i, i < n → W i < 6 ∧ wd' i = nI (W i)) → post x (st, en, nI n, dp', mv, wd', rc', uc')) : wpX_next post (st, en, nI n, dp, mv, wd, rc, uc) := by
  refine loop_0 (fun k l (s : Int32 × Int32 × (Nat → Int32) × (Nat → Int32) × (Nat → Int32)) => wX_next_4 post k s.1 (nI l) st en (nI n) s.2.1 mv s.2.2.1 s.2.2.2.1 s.2.2.2.2) (fun l s => nw_uo (nw_gn M W S n) l s.1 ∧ ∀ i, i < n → W i < 6 ∧ s.2.2.1 i = nI (W i)) 6 (0, dp, wd, rc, uc) ⟨nw_uo_0 _, hw⟩ ?_ ?_
  · rintro k ⟨x, d, w, r, u⟩ ⟨h1, h2⟩
    exact br_t (nI_le (a := 6) (b := 6) (by omega) (by omega)) (h x d w r u h1 h2)
  · rintro k l ⟨x, d, w, r, u⟩ hl ⟨h1, h2⟩ ih
    have h1' : nw_uo (nw_gn M W S n) l x := h1
    have h2' : ∀ i, i < n → W i < 6 ∧ w i = nI (W i) := h2
    refine br_f (nI_ge (b := 6) hl (by decide)) ?_
    dsimp only
    rw [nI_clamp (n := n) (by omega), nI_1 n]
    refine ⟨vp_in_nI (by omega) (by omega), nm_e (nw_xlo (by omega) (nw_we_h hl h2') hM hs fun y d' r' u' hy => ?_)⟩
    have hk : ∀ i, i < n → W i < 6 ∧ upd w n (nI l) i = nI (W i) := fun i hi => ⟨(h2' i hi).1, (nw_we_k hi).trans (h2' i hi).2⟩
    refine br_c (fun z => nm_r (nI_1 l) (ih (x, d', _, r', u') ⟨nw_uo_n h1' fun j y' => ?_, hk⟩)) (fun z => nm_e (nm_r (nI_1 l) (ih (_, d', _, r', u') ⟨nw_uo_s h1' fun j => ?_, hk⟩)))
    · exact (nw_nz hy).mpr y'.1 z
    · rw [nw_b1 (by omega)]
      exact ⟨fun y' => ⟨(nw_nz hy).mp z, y'⟩, fun y' => y'.2⟩
theorem nw_xc27 {post : Int32 → SX → Prop} (hn : n ≤ 16) (hW : ∀ i, i < n → W i < 6) (hw : ∀ i, i < n + 4 → wd i = nI (nw_wc W n i)) (hM : nw_mx mv M) (hs : nw_bs st S) (he : nw_bs en E) (h : ∀ x dp' rc' uc', nw_cl (nw_ak M W S E n) x → post x (st, en, nI n, dp', mv, wd, rc', uc')) : ∃ k, wX_close_27 post k (nI 0) st en (nI n) dp mv wd rc uc := by
  refine loop_0 (fun k l (s : Int32 × (Nat → Int32) × (Nat → Int32)) => wX_close_27 post k (nI l) st en (nI n) s.1 mv wd s.2.1 s.2.2) (fun l _ => ∀ i, i < l → ¬ nw_ak M W S E n i) 5 (dp, rc, uc) (fun i hi => absurd hi (by omega)) ?_ ?_
  · rintro k ⟨d, r, u⟩ h1
    exact br_t (nI_lt (a := 4) (b := 5) (by omega) (by omega)) (h _ d r u (Or.inr ⟨h1, rfl⟩))
  · rintro k l ⟨d, r, u⟩ hl h1 ih
    refine br_f (nI_nlt (a := 4) (b := l) (by omega) (by omega)) ?_
    rw [nI_add]
    refine nw_xlo (W := nw_wc W n) (by omega) (fun i hi => ⟨?_, hw i (by omega)⟩) hM hs fun y d' r' u' hy => br_c (fun z => nm_r (nI_1 l) (ih (d', r', u') ?_)) (fun z => h _ d' r' u' (Or.inl ⟨l, hl, (nw_ac hy he).mp z, h1, rfl⟩))
    · unfold nw_wc
      by_cases e : i < n
      · rw [if_pos e]
        exact hW i e
      · rw [if_neg e]
        omega
    · intro i hi
      by_cases e : i = l
      · rw [e]
        exact fun y' => (nw_ac hy he).mpr y' z
      · exact h1 i (by omega)
theorem nw_xclose {post : Int32 → SX → Prop} (hn : n ≤ 16) (hw : ∀ i, i < n → W i < 6 ∧ wd i = nI (W i)) (hM : nw_mx mv M) (hs : nw_bs st S) (he : nw_bs en E) (h : ∀ x dp' wd' rc' uc', nw_cl (nw_ak M W S E n) x → (∀ i, i < n → W i < 6 ∧ wd' i = nI (W i)) → post x (st, en, nI n, dp', mv, wd', rc', uc')) : wpX_close post (st, en, nI n, dp, mv, wd, rc, uc) := by
  refine loop_0 (fun k l w => wX_close_2 post st en (nI n) dp k (nI l) mv w rc uc) (fun l w => ∀ i, i < n + l → w i = nI (nw_wc W n i)) 4 wd (fun i hi => ?_) (fun k w h1 => br_t (nI_le (a := 4) (b := 4) (by omega) (by omega)) (nw_xc27 hn (fun i hi => (hw i hi).1) h1 hM hs he fun x d r u hx => h x d w r u hx fun i hi => ⟨(hw i hi).1, ?_⟩)) ?_
  · have hi' : i < n := hi
    unfold nw_wc
    rw [if_pos hi']
    exact (hw i hi').2
  · rw [h1 i (by omega)]
    unfold nw_wc
    rw [if_pos hi]
  · intro k l w hl h1 ih
    refine br_f (nI_ge (b := 4) hl (by decide)) ?_
    rw [nI_add, nI_clamp (n := n + l) (by omega)]
    refine ⟨vp_in_nI (by omega) (by omega), nm_e (nm_r (nI_1 l) (ih _ fun i hi => ?_))⟩
    by_cases e : i = n + l
    · rw [e, pk_us]
      unfold nw_wc
      rw [if_neg (by omega)]
      rfl
    · rw [pk_un e]
      exact h1 i (by omega)
end
section
variable {ln : Int32} {mv sa ea wd pt ld wt : Nat → Int32} {W : Nat → Nat} {n : Nat}
theorem nw_ynext {post : Int32 → SY → Prop} (hn : n ≤ 16) (hw : ∀ i, i < n → W i < 6 ∧ wd i = nI (W i)) (h : ∀ x wd' pt' ld' wt', nw_uo (nw_gn (nw_M mv) W (nw_S sa) n) 6 x → (∀ i, i < n → W i < 6 ∧ wd' i = nI (W i)) → post x (nI n, mv, sa, ea, wd', pt', ld', wt')) : wpY_next post (nI n, mv, sa, ea, wd, pt, ld, wt) := by
  refine loop_0 (fun k l (s : Int32 × (Nat → Int32) × (Nat → Int32) × (Nat → Int32) × (Nat → Int32)) => wY_next_4 post k s.1 (nI l) (nI n) mv sa ea s.2.1 s.2.2.1 s.2.2.2.1 s.2.2.2.2) (fun l s => nw_uo (nw_gn (nw_M mv) W (nw_S sa) n) l s.1 ∧ ∀ i, i < n → W i < 6 ∧ s.2.1 i = nI (W i)) 6 (0, wd, pt, ld, wt) ⟨nw_uo_0 _, hw⟩ ?_ ?_
  · rintro k ⟨x, w, p, l, t⟩ ⟨h1, h2⟩
    exact br_t (nI_le (a := 6) (b := 6) (by omega) (by omega)) (h x w p l t h1 h2)
  · rintro k l ⟨x, w, p, d, t⟩ hl ⟨h1, h2⟩ ih
    have h1' : nw_uo (nw_gn (nw_M mv) W (nw_S sa) n) l x := h1
    have h2' : ∀ i, i < n → W i < 6 ∧ w i = nI (W i) := h2
    refine br_f (nI_ge (b := 6) hl (by decide)) ?_
    dsimp only
    rw [nI_clamp (n := n) (by omega), nI_1 n]
    refine ⟨vp_in_nI (by omega) (by omega), nm_e (nw_yla (by omega) (nw_we_h hl h2') fun y p' d' t' hy => ?_)⟩
    have hk : ∀ i, i < n → W i < 6 ∧ upd w n (nI l) i = nI (W i) := fun i hi => ⟨(h2' i hi).1, (nw_we_k hi).trans (h2' i hi).2⟩
    refine br_c (fun z => nm_r (nI_1 l) (ih (x, _, p', d', t') ⟨nw_uo_n h1' fun j y' => ?_, hk⟩)) (fun z => nm_e (nm_r (nI_1 l) (ih (_, _, p', d', t') ⟨nw_uo_s h1' fun j => ?_, hk⟩)))
    · exact (nw_nz hy).mpr y'.1 z
    · rw [nw_b1 (by omega)]
      exact ⟨fun y' => ⟨(nw_nz hy).mp z, y'⟩, fun y' => y'.2⟩
theorem nw_yclose {post : Int32 → SY → Prop} (hn : n ≤ 16) (hw : ∀ i, i < n → W i < 6 ∧ wd i = nI (W i)) (h : ∀ x wd' pt' ld' wt', nw_cl (nw_ak (nw_M mv) W (nw_S sa) (nw_S ea) n) x → (∀ i, i < n → W i < 6 ∧ wd' i = nI (W i)) → post x (nI n, mv, sa, ea, wd', pt', ld', wt')) : wpY_close post (nI n, mv, sa, ea, wd, pt, ld, wt) := by
  have hb : ∀ w : Nat → Int32, (∀ i, i < n → w i = nI (nw_wc W n i)) → ∀ i, i < n → W i < 6 ∧ w i = nI (W i) := by
    intro w h1 i hi
    refine ⟨(hw i hi).1, ?_⟩
    rw [h1 i hi]
    unfold nw_wc
    rw [if_pos hi]
  have hc : ∀ i, nw_wc W n i < 6 := by
    intro i
    unfold nw_wc
    by_cases e : i < n
    · rw [if_pos e]
      exact (hw i e).1
    · rw [if_neg e]
      omega
  refine loop_0 (fun k l (s : (Nat → Int32) × (Nat → Int32) × (Nat → Int32) × (Nat → Int32)) => wY_close_2 post k (nI l) (nI n) mv sa ea s.1 s.2.1 s.2.2.1 s.2.2.2) (fun l s => (∀ i, i < l → ¬ nw_ak (nw_M mv) W (nw_S sa) (nw_S ea) n i) ∧ ∀ i, i < n + l → i < n + 4 → s.1 i = nI (nw_wc W n i)) 5 (wd, pt, ld, wt) ⟨fun i hi => absurd hi (by omega), fun i hi _ => ?_⟩ ?_ ?_
  · have hi' : i < n := hi
    unfold nw_wc
    rw [if_pos hi']
    exact (hw i hi').2
  · rintro k ⟨w, p, l, t⟩ ⟨h1, h2⟩
    exact br_t (nI_lt (a := 4) (b := 5) (by omega) (by omega)) (h _ w p l t (Or.inr ⟨h1, rfl⟩) (hb w fun i hi => h2 i (by omega) (by omega)))
  · rintro k l ⟨w, p, d, t⟩ hl ⟨h1, h2⟩ ih
    have h2' : ∀ i, i < n + l → i < n + 4 → w i = nI (nw_wc W n i) := h2
    refine br_f (nI_nlt (a := 4) (b := l) (by omega) (by omega)) ?_
    rw [nI_add]
    refine nw_yla (W := nw_wc W n) (by omega) (fun i hi => ⟨hc i, h2' i (by omega) (by omega)⟩) fun y p' d' t' hy => nw_yends fun e he => br_c (fun z => ?_) (fun z => h _ w p' d' t' (Or.inl ⟨l, hl, (nw_ac hy he).mp z, h1, rfl⟩) (hb w fun i hi => h2' i (by omega) (by omega)))
    have h1' : ∀ i, i < l + 1 → ¬ nw_ak (nw_M mv) W (nw_S sa) (nw_S ea) n i := by
      intro i hi
      by_cases e' : i = l
      · rw [e']
        exact fun y' => (nw_ac hy he).mpr y' z
      · exact h1 i (by omega)
    refine pk_le 4 l (fun z2 => nm_r (nI_1 l) (ih (w, p', d', t') ⟨h1', fun i _ hi => h2' i (by omega) hi⟩)) (fun z2 => ?_)
    rw [nI_add, nI_clamp (n := n + l) (by omega)]
    refine ⟨vp_in_nI (by omega) (by omega), nm_e (nm_r (nI_1 l) (ih (_, p', d', t') ⟨h1', fun i hi hi' => ?_⟩))⟩
    show upd w (n + l) 2 i = _
    by_cases e' : i = n + l
    · rw [e', pk_us]
      unfold nw_wc
      rw [if_neg (by omega)]
      rfl
    · rw [pk_un e']
      exact h2' i (by omega) hi'
end
/-! numbers that are states, letters, marks -/
theorem nw_xst0 {post : Int32 → Prop} {x : Int32} (h : x < 0 ∨ nI 5 ≤ x) (p : post 0) : wpX_isState post x := ⟨fun _ => p, fun z => ⟨fun _ => p, fun z' => h.elim (fun y => absurd y z) (fun y => absurd y z')⟩⟩
theorem nw_xst1 {post : Int32 → Prop} {j : Nat} (h : j < 5) (p : post 1) : wpX_isState post (nI j) := br_f (nI_pos (by omega)) (br_f (nI_ge (b := 5) h (by decide)) p)
theorem nw_xle0 {post : Int32 → Prop} {x : Int32} (h : x < 0 ∨ nI 6 ≤ x) (p : post 0) : wpX_isLetter post x := ⟨fun _ => p, fun z => ⟨fun _ => p, fun z' => h.elim (fun y => absurd y z) (fun y => absurd y z')⟩⟩
theorem nw_xle1 {post : Int32 → Prop} {j : Nat} (h : j < 6) (p : post 1) : wpX_isLetter post (nI j) := br_f (nI_pos (by omega)) (br_f (nI_ge (b := 6) h (by decide)) p)
theorem nw_yb1 {post : Int32 → Prop} {x : Int32} (h : x < 0 ∨ nI 5 ≤ x) (p : post 1) : wpY_bad post x := ⟨fun _ => p, fun z => ⟨fun z' => h.elim (fun y => absurd y z) (fun y => absurd (Int32.le_trans y z') (by decide)), fun _ => p⟩⟩
theorem nw_yb0 {post : Int32 → Prop} {j : Nat} (h : j < 5) (p : post 0) : wpY_bad post (nI j) := br_f (nI_pos (by omega)) (br_t (nI_le (a := j) (b := 4) (by omega) (by omega)) p)
/-! one member more or less -/
theorem nw_xwm {post : Int32 → Prop} {x b : Int32} {r : Nat} (hr : r < 32) (h : ∀ y, (∀ j, bt y j = true ↔ (j = r ∧ ¬ b = 0) ∨ (j ≠ r ∧ bt x j = true)) → post y) : wpX_withMember post x (nI r) b := by
  refine br_c (fun z => h _ fun j => ?_) (fun z => h _ fun j => ?_)
  · rw [nw_band]
    constructor
    · rintro ⟨h1, h2⟩
      have hj := nw_lt32 h1
      refine Or.inr ⟨fun e => ?_, h1⟩
      rw [b_xor, b_m1 j hj, (nw_b1 hr j).mpr e.symm] at h2
      exact absurd h2 (by decide)
    · rintro (⟨_, h2⟩ | ⟨h1, h2⟩)
      · exact absurd z h2
      · have hj := nw_lt32 h2
        refine ⟨h2, ?_⟩
        rw [b_xor, b_m1 j hj]
        cases e : bt ((1 : Int32) <<< (nI r &&& 31)) j
        · rfl
        · exact absurd ((nw_b1 hr j).mp e).symm h1
  · rw [nw_bor, nw_b1 hr]
    constructor
    · rintro (h1 | h1)
      · by_cases e : j = r
        · exact Or.inl ⟨e, z⟩
        · exact Or.inr ⟨e, h1⟩
      · exact Or.inl ⟨h1.symm, z⟩
    · rintro (⟨h1, _⟩ | ⟨_, h1⟩)
      · exact Or.inr h1.symm
      · exact Or.inl h1
theorem nw_bool (v : Int32) : vp_nar .boolean (lw_bz v) = lw_bz v := by
  unfold vp_nar
  rw [lw_bz_n]
theorem nw_bs_up {x y b : Int32} {f : Nat → Int32} {q : Nat} (h : nw_bs x (nw_S f)) (hq : q < 5) (hy : ∀ j, bt y j = true ↔ (j = q ∧ ¬ b = 0) ∨ (j ≠ q ∧ bt x j = true)) : nw_bs y (nw_S (upd f q b)) := by
  intro j
  rw [hy j, h j]
  unfold nw_S
  by_cases e : j = q
  · rw [e, pk_us]
    exact ⟨fun z => z.elim (fun z => ⟨hq, z.2⟩) (fun z => absurd rfl z.1), fun z => Or.inl ⟨rfl, z.2⟩⟩
  · rw [pk_un e]
    exact ⟨fun z => z.elim (fun z => absurd z.1 e) (fun z => z.2), fun z => Or.inr ⟨e, z⟩⟩
theorem nw_mx_up {mv mv' : Nat → Int32} {y b : Int32} {l m q r : Nat} (h : nw_mx mv (nw_M mv')) (hl : l < 6) (hm : m < 4) (hq : q < 5) (hr : r < 5) (hy : ∀ j, bt y j = true ↔ (j = r ∧ ¬ b = 0) ∨ (j ≠ r ∧ bt (mv ((l * 4 + m) * 5 + q)) j = true)) : nw_mx (upd mv ((l * 4 + m) * 5 + q) y) (nw_M (upd mv' (120 * q + 20 * l + 4 * r + m) b)) := by
  intro l' m' q' hl' hm' hq' j
  unfold nw_M
  have h0 := h l' m' q' hl' hm' hq' j
  unfold nw_M at h0
  by_cases e : (l' * 4 + m') * 5 + q' = (l * 4 + m) * 5 + q
  · have e1 : q' = q := by omega
    have e2 : m' = m := by omega
    have e3 : l' = l := by omega
    subst e1
    subst e2
    subst e3
    rw [pk_us, hy j, h0]
    by_cases er : j = r
    · rw [er, pk_us]
      exact ⟨fun z => z.elim (fun z => ⟨hr, z.2⟩) (fun z => absurd rfl z.1), fun z => Or.inl ⟨rfl, z.2⟩⟩
    · rw [pk_un (by omega)]
      exact ⟨fun z => z.elim (fun z => absurd z.1 er) (fun z => z.2), fun z => Or.inr ⟨er, z⟩⟩
  · rw [pk_un e, h0]
    constructor
    · rintro ⟨z1, z2⟩
      rw [pk_un (by omega)]
      exact ⟨z1, z2⟩
    · rintro ⟨z1, z2⟩
      rw [pk_un (by omega)] at z2
      exact ⟨z1, z2⟩
end
section
/-! the relation, and what is owed -/
def i_Rel (k : Nat) (u : SX) (v : SY) : Prop := match u, v with
  | (st, en, ln, _, mv, wd, _, _), (ln', mv', sa, ea, wd', _, _, _) => ∃ (W : Nat → Nat) (n : Nat), n ≤ 16 ∧ ln = nI n ∧ ln' = nI n ∧ (∀ i, i < n → W i < 6 ∧ wd i = nI (W i)) ∧ (∀ i, i < n → W i < 6 ∧ wd' i = nI (W i)) ∧ nw_mx mv (nw_M mv') ∧ nw_bs st (nw_S sa) ∧ nw_bs en (nw_S ea)
theorem i_up {k : Nat} {u : SX} {v : SY} (h : i_Rel k u v) : i_Rel (k + 6) u v := h
theorem i_vc0 : wpX_init (fun u => wpY_init (fun v => i_Rel 0 u v)) := by
  have h0 : nw_bs 0 (nw_S (fun _ => 0)) := fun i => ⟨fun z => absurd z (nw_z i), fun z => absurd rfl z.2⟩
  exact ⟨fun _ => 0, 0, by omega, rfl, rfl, fun i hi => absurd hi (by omega), fun i hi => absurd hi (by omega), fun l m q _ _ _ i => ⟨fun z => absurd z (nw_z i), fun z => absurd rfl z.2⟩, h0, h0⟩
/-! move -/
theorem nw_mv_x {post : Int32 → SX → Prop} {st en ln dp b : Int32} {mv wd rc uc : Nat → Int32} {q l r m : Nat} (hq : q < 5) (hl : l < 6) (hr : r < 5) (hm : m < 4) (hm' : l < 2 → m < 3) (h : ∀ y, (∀ j, bt y j = true ↔ (j = r ∧ ¬ b = 0) ∨ (j ≠ r ∧ bt (mv ((l * 4 + m) * 5 + q)) j = true)) → post ((mv ((l * 4 + m) * 5 + q) >>> (nI r &&& 31)) &&& 1) (st, en, ln, dp, upd mv ((l * 4 + m) * 5 + q) y, wd, rc, uc)) : wX_move_36 post (nI q) (nI l) (nI r) b (nI m) st en ln dp mv wd rc uc := by
  have hk : ∀ p : Int32 → Prop, p 1 → wpX_isMarkFor p (nI l) (nI m) := fun p hp => br_f (nI_pos (by omega)) (nw_xop hl (fun z => br_f (by decide) (br_f (nI_ge (b := 3) (hm' z) (by decide)) hp)) (fun z => br_t rfl (br_f (nI_ge (b := 4) hm (by decide)) hp)))
  refine hk _ (br_f (by decide) (nw_xcell ?_))
  rw [nI_clamp (by omega)]
  exact ⟨vp_in_nI (by omega) (by omega), nm_e ⟨vp_in_nI (by omega) (by omega), nw_xwm (by omega) fun y hy => ⟨vp_in_nI (by omega) (by omega), nm_e (h y hy)⟩⟩⟩
theorem nw_mv_x0 {post : Int32 → SX → Prop} {st en ln dp b x3 : Int32} {mv wd rc uc : Nat → Int32} {l : Nat} {x1 x : Int32} (hl : l < 6) (hx : x < 0 ∨ nI 4 ≤ x ∨ (l < 2 ∧ nI 3 ≤ x)) (h : post (-1) (st, en, ln, dp, mv, wd, rc, uc)) : wX_move_36 post x1 (nI l) x3 b x st en ln dp mv wd rc uc := by
  have hk : ∀ p : Int32 → Prop, p 0 → wpX_isMarkFor p (nI l) x := by
    intro p hp
    refine br_c (fun _ => hp) (fun z0 => nw_xop hl (fun z => br_f (by decide) (br_c (fun _ => hp) (fun z2 => ?_))) (fun z => br_t rfl (br_c (fun _ => hp) (fun z2 => ?_))))
    · rcases hx with y | y | ⟨_, y⟩
      · exact absurd y z0
      · exact absurd (Int32.le_trans (by decide) y) z2
      · exact absurd y z2
    · rcases hx with y | y | ⟨y, _⟩
      · exact absurd y z0
      · exact absurd y z2
      · exact absurd y z
  exact hk _ (br_t rfl h)
theorem nw_mv_y {post : Int32 → SY → Prop} {ln b : Int32} {mv sa ea wd pt ld wt : Nat → Int32} {q l r m : Nat} (hq : q < 5) (hl : l < 6) (hr : r < 5) (hm : m < 4) (h0 : mv (120 * q + 20 * l + 4 * r + m) = 0 → post 0 (ln, upd mv (120 * q + 20 * l + 4 * r + m) (vp_nar .boolean b), sa, ea, wd, pt, ld, wt)) (h1 : ¬ mv (120 * q + 20 * l + 4 * r + m) = 0 → post 1 (ln, upd mv (120 * q + 20 * l + 4 * r + m) (vp_nar .boolean b), sa, ea, wd, pt, ld, wt)) : wY_move_76 post b (nI m) (((120 * nI q) + (20 * nI l)) + (4 * nI r)) ln mv sa ea wd pt ld wt := by
  refine nm_r (nw_iM q l r m) ?_
  rw [nI_clamp (by omega)]
  exact ⟨vp_in_nI (by omega) (by omega), nm_e ⟨vp_in_nI (by omega) (by omega), nm_e (br_c h0 h1)⟩⟩
theorem i_vc_move {k : Nat} {u : SX} {v : SY} (I : i_Rel k u v) (hk : k + 6 ≤ 3072) (v1 : Int32) (v2 : Int32) (v3 : Int32) (v4 : Int32) (v5 : Int32) : wpX_move (fun r u' => wpY_move (fun r' v' => r' = r ∧ i_Rel (k + 6) u' v') v v1 v2 v3 v4 (lw_bz v5)) u v1 v2 v3 v4 (lw_bz v5) := by
  obtain ⟨st, en, ln, dp, mv, wd, rc, uc⟩ := u
  obtain ⟨ln', mv', sa, ea, wd', pt, ld, wt⟩ := v
  have I' := I
  obtain ⟨W, n, hn, rfl, rfl, hw, hw', hM, hs, he⟩ := I
  unfold wpX_move wpY_move
  dsimp only
  have c5 : ∀ x : Int32, (x < 0 ∨ nI 5 ≤ x) ∨ ∃ j : Nat, j < 5 ∧ x = nI j := fun x => (pk_ix x (n := 5) (by omega)).elim (fun z => Or.inl (Or.inl z)) (fun z => z.elim (fun z => Or.inl (Or.inr z)) Or.inr)
  rcases c5 v1 with hq | ⟨q, hq, rfl⟩
  · exact nw_xst0 hq (br_t rfl (nw_yb1 hq (br_f (by decide) ⟨rfl, I'⟩)))
  refine nw_xst1 hq (br_f (by decide) ?_)
  rcases c5 v3 with hr | ⟨r, hr, rfl⟩
  · exact nw_xst0 hr (br_t rfl (nw_yb0 hq (br_t rfl (nw_yb1 hr (br_f (by decide) ⟨rfl, I'⟩)))))
  refine nw_xst1 hr (br_f (by decide) ?_)
  rcases pk_ix v2 (n := 6) (by omega) with hl | hl | ⟨l, hl, rfl⟩
  · exact nw_xle0 (Or.inl hl) (br_t rfl (nw_yb0 hq (br_t rfl (nw_yb0 hr (br_t rfl (br_t hl ⟨rfl, I'⟩))))))
  · refine nw_xle0 (Or.inr hl) (br_t rfl (nw_yb0 hq (br_t rfl (nw_yb0 hr (br_t rfl (br_c (fun _ => ⟨rfl, I'⟩) fun _ => br_f (fun z => ?_) ⟨rfl, I'⟩))))))
    exact absurd (Int32.le_trans hl z) (by decide)
  refine nw_xle1 hl (br_f (by decide) ?_)
  have hb : ∀ m, m < 4 → (mv ((l * 4 + m) * 5 + q) >>> (nI r &&& 31) &&& 1 = if bt (mv ((l * 4 + m) * 5 + q)) r = true then 1 else 0) := fun m _ => nw_t1 _ (by omega)
  have hd : ∀ m, m < 4 → (bt (mv ((l * 4 + m) * 5 + q)) r = true ↔ ¬ mv' (120 * q + 20 * l + 4 * r + m) = 0) := fun m hm => (hM l m q hl hm hq r).trans ⟨fun z => z.2, fun z => ⟨hr, z⟩⟩
  have hgo : ∀ (m : Nat) (y : Int32), m < 4 → (∀ j, bt y j = true ↔ (j = r ∧ ¬ lw_bz v5 = 0) ∨ (j ≠ r ∧ bt (mv ((l * 4 + m) * 5 + q)) j = true)) → wY_move_76 (fun r' v' => r' = (mv ((l * 4 + m) * 5 + q) >>> (nI r &&& 31)) &&& 1 ∧ i_Rel (k + 6) (st, en, nI n, dp, upd mv ((l * 4 + m) * 5 + q) y, wd, rc, uc) v') (lw_bz v5) (nI m) (((120 * nI q) + (20 * nI l)) + (4 * nI r)) (nI n) mv' sa ea wd' pt ld wt := by
    intro m y hm hy
    refine nw_mv_y hq hl hr hm (fun z => ⟨?_, ?_⟩) (fun z => ⟨?_, ?_⟩)
    · rw [hb m hm, if_neg fun y' => (hd m hm).mp y' z]
    · rw [nw_bool]
      exact ⟨W, n, hn, rfl, rfl, hw, hw', nw_mx_up hM hl hm hq hr hy, hs, he⟩
    · rw [hb m hm, if_pos ((hd m hm).mpr z)]
    · rw [nw_bool]
      exact ⟨W, n, hn, rfl, rfl, hw, hw', nw_mx_up hM hl hm hq hr hy, hs, he⟩
  by_cases hp : 4 ≤ l
  · refine nw_xpl hl (fun _ => br_f (by decide) ?_) (fun z => absurd hp z)
    refine nw_mv_x (m := 0) hq hl hr (by omega) (fun z => by omega) fun y hy => ?_
    exact nw_yb0 hq (br_t rfl (nw_yb0 hr (br_t rfl (br_f (nI_pos (by omega)) (br_t (nI_le (a := l) (b := 5) (by omega) (by omega)) (br_t (nI_le (a := 4) (b := l) hp (by omega)) (br_t (nI_le (a := 4) (b := l) hp (by omega)) (hgo 0 y (by omega) hy))))))))
  refine nw_xpl hl (fun z => absurd z hp) (fun _ => br_t rfl ?_)
  by_cases ho : l < 2
  · rcases pk_ix v4 (n := 3) (by omega) with hm | hm | ⟨m, hm, rfl⟩
    · exact nw_mv_x0 hl (Or.inl hm) (nw_yb0 hq (br_t rfl (nw_yb0 hr (br_t rfl (br_f (nI_pos (by omega)) (br_t (nI_le (a := l) (b := 5) (by omega) (by omega)) (br_f (nI_ge (a := l) (b := 4) (by omega) (by decide)) (br_t hm ⟨rfl, I'⟩))))))))
    · refine nw_mv_x0 hl (Or.inr (Or.inr ⟨ho, hm⟩)) (nw_yb0 hq (br_t rfl (nw_yb0 hr (br_t rfl (br_f (nI_pos (by omega)) (br_t (nI_le (a := l) (b := 5) (by omega) (by omega)) (br_f (nI_ge (a := l) (b := 4) (by omega) (by decide)) (br_c (fun _ => ⟨rfl, I'⟩) fun _ => br_f (nI_ge (a := l) (b := 2) ho (by decide)) (br_f (fun z => ?_) ⟨rfl, I'⟩)))))))))
      exact absurd (Int32.le_trans hm z) (by decide)
    · exact nw_mv_x hq hl hr (by omega) (fun _ => hm) fun y hy => nw_yb0 hq (br_t rfl (nw_yb0 hr (br_t rfl (br_f (nI_pos (by omega)) (br_t (nI_le (a := l) (b := 5) (by omega) (by omega)) (br_f (nI_ge (a := l) (b := 4) (by omega) (by decide)) (br_f (nI_pos (by omega)) (br_f (nI_ge (a := l) (b := 2) ho (by decide)) (br_t (nI_le (a := m) (b := 2) (by omega) (by omega)) (br_f (nI_ge (a := l) (b := 4) (by omega) (by decide)) (hgo m y (by omega) hy)))))))))))
  · rcases pk_ix v4 (n := 4) (by omega) with hm | hm | ⟨m, hm, rfl⟩
    · exact nw_mv_x0 hl (Or.inl hm) (nw_yb0 hq (br_t rfl (nw_yb0 hr (br_t rfl (br_f (nI_pos (by omega)) (br_t (nI_le (a := l) (b := 5) (by omega) (by omega)) (br_f (nI_ge (a := l) (b := 4) (by omega) (by decide)) (br_t hm ⟨rfl, I'⟩))))))))
    · refine nw_mv_x0 hl (Or.inr (Or.inl hm)) (nw_yb0 hq (br_t rfl (nw_yb0 hr (br_t rfl (br_f (nI_pos (by omega)) (br_t (nI_le (a := l) (b := 5) (by omega) (by omega)) (br_f (nI_ge (a := l) (b := 4) (by omega) (by decide)) (br_c (fun _ => ⟨rfl, I'⟩) fun _ => br_t (nI_le (a := 2) (b := l) (by omega) (by omega)) (br_f (fun z => ?_) ⟨rfl, I'⟩)))))))))
      exact absurd (Int32.le_trans hm z) (by decide)
    · exact nw_mv_x hq hl hr hm (fun z => absurd z ho) fun y hy => nw_yb0 hq (br_t rfl (nw_yb0 hr (br_t rfl (br_f (nI_pos (by omega)) (br_t (nI_le (a := l) (b := 5) (by omega) (by omega)) (br_f (nI_ge (a := l) (b := 4) (by omega) (by decide)) (br_f (nI_pos (by omega)) (br_t (nI_le (a := 2) (b := l) (by omega) (by omega)) (br_t (nI_le (a := m) (b := 3) (by omega) (by omega)) (br_f (nI_ge (a := l) (b := 4) (by omega) (by decide)) (hgo m y hm hy)))))))))))
theorem i_vc_state {k : Nat} {u : SX} {v : SY} (I : i_Rel k u v) (hk : k + 6 ≤ 3072) (v1 : Int32) (v2 : Int32) (v3 : Int32) : wpX_state (fun r u' => wpY_state (fun r' v' => r' = r ∧ i_Rel (k + 6) u' v') v v1 (lw_bz v2) (lw_bz v3)) u v1 (lw_bz v2) (lw_bz v3) := by
  obtain ⟨st, en, ln, dp, mv, wd, rc, uc⟩ := u
  obtain ⟨ln', mv', sa, ea, wd', pt, ld, wt⟩ := v
  have I' := I
  obtain ⟨W, n, hn, rfl, rfl, hw, hw', hM, hs, he⟩ := I
  unfold wpX_state wpY_state
  dsimp only
  rcases pk_ix v1 (n := 5) (by omega) with hq | hq | ⟨q, hq, rfl⟩
  · exact nw_xst0 (Or.inl hq) (br_t rfl (nw_yb1 (Or.inl hq) (br_f (by decide) ⟨rfl, I'⟩)))
  · exact nw_xst0 (Or.inr hq) (br_t rfl (nw_yb1 (Or.inr hq) (br_f (by decide) ⟨rfl, I'⟩)))
  refine nw_xst1 hq (br_f (by decide) (nw_xwm (by omega) fun y hy => nw_xwm (by omega) fun y2 hy2 => nw_yb0 hq (br_t rfl ?_)))
  rw [nI_clamp (by omega), nw_bool, nw_bool]
  exact ⟨vp_in_nI (by omega) (by omega), nm_e ⟨vp_in_nI (by omega) (by omega), nm_e ⟨rfl, W, n, hn, rfl, rfl, hw, hw', hM, nw_bs_up hs hq hy, nw_bs_up he hq hy2⟩⟩⟩
theorem i_vc_read {k : Nat} {u : SX} {v : SY} (I : i_Rel k u v) (hk : k + 6 ≤ 3072) (v1 : Int32) : wpX_read (fun r u' => wpY_read (fun r' v' => r' = r ∧ i_Rel (k + 6) u' v') v v1) u v1 := by
  obtain ⟨st, en, ln, dp, mv, wd, rc, uc⟩ := u
  obtain ⟨ln', mv', sa, ea, wd', pt, ld, wt⟩ := v
  have I' := I
  obtain ⟨W, n, hn, rfl, rfl, hw, hw', hM, hs, he⟩ := I
  unfold wpX_read wpY_read
  dsimp only
  rcases pk_ix v1 (n := 6) (by omega) with hl | hl | ⟨l, hl, rfl⟩
  · exact nw_xle0 (Or.inl hl) (br_t rfl (br_t hl ⟨rfl, I'⟩))
  · refine nw_xle0 (Or.inr hl) (br_t rfl (br_c (fun _ => ⟨rfl, I'⟩) fun _ => br_t ?_ ⟨rfl, I'⟩))
    exact Int32.lt_of_lt_of_le (by decide) hl
  refine nw_xle1 hl (br_f (by decide) (pk_lt n 16 (fun z => ?_) (fun z => ?_)))
  · rw [nI_clamp (by omega)]
    refine ⟨vp_in_nI (by omega) (by omega), nm_e (nm_r (nI_1 n) (nw_xlo (by omega) (nw_we_h hl hw) hM hs fun x d' r' u' hx => nw_xsz ?_))⟩
    refine br_f (nI_pos (by omega)) (br_f (nI_nlt (a := 5) (b := l) (by omega) (by omega)) (pk_eq n 16 (fun z2 => absurd z2 (by omega)) (fun z2 => ?_)))
    refine ⟨vp_in_nI (by omega) (by omega), nm_e (nm_r (nI_1 n) (nw_yla (by omega) (nw_we_h hl hw') fun x2 p' d' t' hx2 => nw_ysz ⟨?_, ?_⟩))⟩
    · rw [nw_bs_eq hx2 hx]
    · exact ⟨nw_we W n l, n + 1, z, rfl, rfl, nw_we_h hl hw, nw_we_h hl hw', hM, hs, he⟩
  · have e : n = 16 := by omega
    subst e
    exact br_f (nI_pos (by omega)) (br_f (nI_nlt (a := 5) (b := l) (by omega) (by omega)) (br_t rfl ⟨rfl, I'⟩))
theorem i_vc_back {k : Nat} {u : SX} {v : SY} (I : i_Rel k u v) (hk : k + 6 ≤ 3072) : wpX_back (fun r u' => wpY_back (fun r' v' => r' = r ∧ i_Rel (k + 6) u' v') v) u := by
  obtain ⟨st, en, ln, dp, mv, wd, rc, uc⟩ := u
  obtain ⟨ln', mv', sa, ea, wd', pt, ld, wt⟩ := v
  have I' := I
  obtain ⟨W, n, hn, rfl, rfl, hw, hw', hM, hs, he⟩ := I
  cases n with
  | zero => exact br_t rfl (br_t rfl ⟨rfl, I'⟩)
  | succ n =>
    refine br_f (nI_ne0 (by omega) (by omega)) (nm_r (nI_pred n) ?_)
    rw [nI_clamp (by omega)]
    refine ⟨vp_in_nI (by omega) (by omega), br_f (nI_ne0 (by omega) (by omega)) (nm_r (nI_pred n) ?_)⟩
    rw [nI_clamp (by omega)]
    refine ⟨vp_in_nI (by omega) (by omega), ?_, W, n, by omega, rfl, rfl, fun i hi => hw i (by omega), fun i hi => hw' i (by omega), hM, hs, he⟩
    rw [(hw n (by omega)).2, (hw' n (by omega)).2]
theorem i_vc_erase {k : Nat} {u : SX} {v : SY} (I : i_Rel k u v) (hk : k + 6 ≤ 3072) : wpX_erase (fun u' => wpY_erase (fun v' => i_Rel (k + 6) u' v') v) u := by
  obtain ⟨st, en, ln, dp, mv, wd, rc, uc⟩ := u
  obtain ⟨ln', mv', sa, ea, wd', pt, ld, wt⟩ := v
  obtain ⟨W, n, hn, rfl, rfl, hw, hw', hM, hs, he⟩ := I
  exact ⟨W, 0, by omega, rfl, rfl, fun i hi => absurd hi (by omega), fun i hi => absurd hi (by omega), hM, hs, he⟩
theorem i_vc_live {k : Nat} {u : SX} {v : SY} (I : i_Rel k u v) (hk : k + 6 ≤ 3072) : wpX_live (fun r u' => wpY_live (fun r' v' => r' = r ∧ i_Rel (k + 6) u' v') v) u := by
  obtain ⟨st, en, ln, dp, mv, wd, rc, uc⟩ := u
  obtain ⟨ln', mv', sa, ea, wd', pt, ld, wt⟩ := v
  obtain ⟨W, n, hn, rfl, rfl, hw, hw', hM, hs, he⟩ := I
  unfold wpX_live wpY_live
  dsimp only
  exact nw_xlo (by omega) hw hM hs fun x d r u hx => nw_yla (by omega) hw' fun x2 p l t hx2 => ⟨nw_bs_eq hx2 hx, W, n, hn, rfl, rfl, hw, hw', hM, hs, he⟩
theorem i_vc_accepted {k : Nat} {u : SX} {v : SY} (I : i_Rel k u v) (hk : k + 6 ≤ 3072) : wpX_accepted (fun r u' => wpY_accepted (fun r' v' => r' = r ∧ i_Rel (k + 6) u' v') v) u := by
  obtain ⟨st, en, ln, dp, mv, wd, rc, uc⟩ := u
  obtain ⟨ln', mv', sa, ea, wd', pt, ld, wt⟩ := v
  obtain ⟨W, n, hn, rfl, rfl, hw, hw', hM, hs, he⟩ := I
  unfold wpX_accepted wpY_accepted wpY_live
  dsimp only
  have R : ∀ d r u p l t, i_Rel (k + 6) (st, en, nI n, d, mv, wd, r, u) (nI n, mv', sa, ea, wd', p, l, t) := fun d r u p l t => ⟨W, n, hn, rfl, rfl, hw, hw', hM, hs, he⟩
  refine nw_xlo (by omega) hw hM hs fun x d r u hx => br_c (fun z => ?_) (fun z => ?_)
  · refine nw_yla (by omega) hw' fun x2 p l t hx2 => nw_yends fun e2 he2 => ?_
    rw [nw_bs_eq hx2 hx, nw_bs_eq he2 he]
    exact br_t z ⟨rfl, R _ _ _ _ _ _⟩
  · refine nw_yla (by omega) hw' fun x2 p l t hx2 => nw_yends fun e2 he2 => ?_
    rw [nw_bs_eq hx2 hx, nw_bs_eq he2 he]
    exact br_f z ⟨rfl, R _ _ _ _ _ _⟩
theorem i_vc_open {k : Nat} {u : SX} {v : SY} (I : i_Rel k u v) (hk : k + 6 ≤ 3072) : wpX_open (fun r u' => wpY_open (fun r' v' => r' = r ∧ i_Rel (k + 6) u' v') v) u := by
  obtain ⟨st, en, ln, dp, mv, wd, rc, uc⟩ := u
  obtain ⟨ln', mv', sa, ea, wd', pt, ld, wt⟩ := v
  obtain ⟨W, n, hn, rfl, rfl, hw, hw', hM, hs, he⟩ := I
  unfold wpX_open wpY_open
  dsimp only
  exact nw_xrun (by omega) hw hM hs fun r u _ => nw_ymatch (by omega) hw' fun p t _ => ⟨rfl, W, n, hn, rfl, rfl, hw, hw', hM, hs, he⟩
theorem i_vc_next {k : Nat} {u : SX} {v : SY} (I : i_Rel k u v) (hk : k + 6 ≤ 3072) : wpX_next (fun r u' => wpY_next (fun r' v' => r' = r ∧ i_Rel (k + 6) u' v') v) u := by
  obtain ⟨st, en, ln, dp, mv, wd, rc, uc⟩ := u
  obtain ⟨ln', mv', sa, ea, wd', pt, ld, wt⟩ := v
  obtain ⟨W, n, hn, rfl, rfl, hw, hw', hM, hs, he⟩ := I
  exact nw_xnext hn hw hM hs fun x d w r u hx h1 => nw_ynext hn hw' fun x2 w2 p l t hx2 h2 => ⟨nw_uo_eq hx2 hx, W, n, hn, rfl, rfl, h1, h2, hM, hs, he⟩
theorem i_vc_close {k : Nat} {u : SX} {v : SY} (I : i_Rel k u v) (hk : k + 6 ≤ 3072) : wpX_close (fun r u' => wpY_close (fun r' v' => r' = r ∧ i_Rel (k + 6) u' v') v) u := by
  obtain ⟨st, en, ln, dp, mv, wd, rc, uc⟩ := u
  obtain ⟨ln', mv', sa, ea, wd', pt, ld, wt⟩ := v
  obtain ⟨W, n, hn, rfl, rfl, hw, hw', hM, hs, he⟩ := I
  exact nw_xclose hn hw hM hs he fun x d w r u hx h1 => nw_yclose hn hw' fun x2 w2 p l t hx2 h2 => ⟨nw_cl_eq hx hx2, W, n, hn, rfl, rfl, h1, h2, hM, hs, he⟩
end
