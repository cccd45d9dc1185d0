/-! the pure picture: words by their letters W, a machine by its moves M (letter, mark, from, to), starts S -/
def nw_th (A B : Nat → Nat → Prop) : Nat → Nat → Prop := fun q r => ∃ s, s < 5 ∧ A q s ∧ B s r
def nw_im (S : Nat → Prop) (A : Nat → Nat → Prop) : Nat → Prop := fun r => ∃ q, q < 5 ∧ S q ∧ A q r
def nw_id : Nat → Nat → Prop := fun q r => q = r
def nw_op (M : Nat → Nat → Nat → Nat → Prop) (l : Nat) : Nat → Nat → Prop := fun q r => ∃ m, m < 3 ∧ M l m q r
def nw_pc (M : Nat → Nat → Nat → Nat → Prop) (a : Nat) (A : Nat → Nat → Prop) (c : Nat) : Nat → Nat → Prop := fun q r => ∃ m, m < 3 ∧ nw_th (nw_th (M a m) A) (M c m) q r
theorem nw_im_th {S : Nat → Prop} {A B : Nat → Nat → Prop} {r : Nat} : nw_im S (nw_th A B) r ↔ nw_im (nw_im S A) B r := by
  constructor
  · rintro ⟨q, hq, hS, s, hs, hA, hB⟩
    exact ⟨s, hs, ⟨q, hq, hS, hA⟩, hB⟩
  · rintro ⟨s, hs, ⟨q, hq, hS, hA⟩, hB⟩
    exact ⟨q, hq, hS, s, hs, hA, hB⟩
theorem nw_im_id {S : Nat → Prop} {r : Nat} (hr : r < 5) : nw_im S nw_id r ↔ S r := by
  constructor
  · rintro ⟨q, hq, hS, e⟩
    have e' : q = r := e
    subst e'
    exact hS
  · intro h
    exact ⟨r, hr, h, rfl⟩
/-! the unclosed places before place j, the last one first -/
def nw_sk (W : Nat → Nat) : Nat → List Nat
  | 0 => []
  | j + 1 => if W j < 2 then j :: nw_sk W j else if 4 ≤ W j then nw_sk W j else (nw_sk W j).tail
theorem nw_sk_0 (W : Nat → Nat) : nw_sk W 0 = [] := rfl
theorem nw_sk_o {W : Nat → Nat} {j : Nat} (h : W j < 2) : nw_sk W (j + 1) = j :: nw_sk W j := by
  rw [nw_sk, if_pos h]
theorem nw_sk_p {W : Nat → Nat} {j : Nat} (h : 4 ≤ W j) : nw_sk W (j + 1) = nw_sk W j := by
  rw [nw_sk, if_neg (by omega), if_pos h]
theorem nw_sk_c {W : Nat → Nat} {j : Nat} (h : ¬ W j < 2) (h' : ¬ 4 ≤ W j) : nw_sk W (j + 1) = (nw_sk W j).tail := by
  rw [nw_sk, if_neg h, if_neg h']
theorem nw_sk_cc {W : Nat → Nat} {j o : Nat} {T : List Nat} (h : ¬ W j < 2) (h' : ¬ 4 ≤ W j) (e : nw_sk W j = o :: T) : nw_sk W (j + 1) = T := by
  rw [nw_sk_c h h', e] <;> rfl
theorem nw_sk_cn {W : Nat → Nat} {j : Nat} (h : ¬ W j < 2) (h' : ¬ 4 ≤ W j) (e : nw_sk W j = []) : nw_sk W (j + 1) = [] := by
  rw [nw_sk_c h h', e] <;> rfl
theorem nw_k1 {W : Nat → Nat} : ∀ n j : Nat, j ≤ n → ∀ o T, nw_sk W j = o :: T → o < j ∧ nw_sk W o = T ∧ W o < 2 := by
  intro n
  induction n with
  | zero =>
    intro j hj o T h
    have e : j = 0 := by omega
    subst e
    rw [nw_sk_0] at h
    cases h
  | succ n ih =>
    intro j hj o T h
    cases j with
    | zero =>
      rw [nw_sk_0] at h
      cases h
    | succ j =>
      by_cases h1 : W j < 2
      · rw [nw_sk_o h1] at h
        injection h with h2 h3
        subst h2
        exact ⟨by omega, h3, h1⟩
      · by_cases h2 : 4 ≤ W j
        · rw [nw_sk_p h2] at h
          obtain ⟨a, b, c⟩ := ih j (by omega) o T h
          exact ⟨by omega, b, c⟩
        · cases e : nw_sk W j with
          | nil =>
            rw [nw_sk_cn h1 h2 e] at h
            cases h
          | cons x R =>
            rw [nw_sk_cc h1 h2 e] at h
            obtain ⟨a, b, c⟩ := ih j (by omega) x R e
            obtain ⟨a', b', c'⟩ := ih x (by omega) o T (b.trans h)
            exact ⟨by omega, b', c'⟩
theorem nw_kt {W : Nat → Nat} {j o : Nat} {T : List Nat} (h : nw_sk W j = o :: T) : o < j ∧ nw_sk W o = T ∧ W o < 2 := nw_k1 j j (Nat.le_refl j) o T h
theorem nw_k2 {W : Nat → Nat} : ∀ j x : Nat, x ∈ nw_sk W j → x < j := by
  intro j
  induction j with
  | zero =>
    intro x h
    rw [nw_sk_0] at h
    cases h
  | succ j ih =>
    intro x h
    by_cases h1 : W j < 2
    · rw [nw_sk_o h1] at h
      rcases List.mem_cons.mp h with e | e
      · omega
      · have := ih x e
        omega
    · by_cases h2 : 4 ≤ W j
      · rw [nw_sk_p h2] at h
        have := ih x h
        omega
      · rw [nw_sk_c h1 h2] at h
        have := ih x (List.mem_of_mem_tail h)
        omega
theorem nw_skl {W : Nat → Nat} : ∀ j : Nat, (nw_sk W j).length ≤ j := by
  intro j
  induction j with
  | zero => exact Nat.le_refl 0
  | succ j ih =>
    by_cases h1 : W j < 2
    · rw [nw_sk_o h1, List.length_cons]
      omega
    · by_cases h2 : 4 ≤ W j
      · rw [nw_sk_p h2]
        omega
      · rw [nw_sk_c h1 h2, List.length_tail]
        omega
theorem nw_k4a {W : Nat → Nat} {a c : Nat} (hac : a < c) (h : ¬ a ∈ nw_sk W c) : ∀ d, ¬ a ∈ nw_sk W (c + d) := by
  intro d
  induction d with
  | zero => exact h
  | succ d ih =>
    intro z
    by_cases h1 : W (c + d) < 2
    · rw [← Nat.add_assoc, nw_sk_o h1] at z
      rcases List.mem_cons.mp z with e | e
      · omega
      · exact ih e
    · by_cases h2 : 4 ≤ W (c + d)
      · rw [← Nat.add_assoc, nw_sk_p h2] at z
        exact ih z
      · rw [← Nat.add_assoc, nw_sk_c h1 h2] at z
        exact ih (List.mem_of_mem_tail z)
theorem nw_k4 {W : Nat → Nat} {a c c' : Nat} {T T' : List Nat} (h1 : ¬ W c < 2) (h2 : ¬ 4 ≤ W c) (e : nw_sk W c = a :: T) (hc : c < c') (e' : nw_sk W c' = a :: T') : False := by
  obtain ⟨ha, hs, _⟩ := nw_kt e
  have hn : ¬ a ∈ nw_sk W (c + 1) := by
    rw [nw_sk_cc h1 h2 e, ← hs]
    intro z
    have := nw_k2 a a z
    omega
  have hh := nw_k4a (by omega) hn (c' - (c + 1))
  rw [show c + 1 + (c' - (c + 1)) = c' by omega, e'] at hh
  exact hh List.mem_cons_self
theorem nw_k3 {W : Nat → Nat} {a : Nat} (ha : W a < 2) : ∀ d, (∃ P, nw_sk W (a + 1 + d) = P ++ a :: nw_sk W a) ∨ ∃ c, a < c ∧ c < a + 1 + d ∧ ¬ W c < 2 ∧ ¬ 4 ≤ W c ∧ nw_sk W c = a :: nw_sk W a := by
  intro d
  induction d with
  | zero => exact Or.inl ⟨[], nw_sk_o ha⟩
  | succ d ih =>
    rcases ih with ⟨P, hP⟩ | ⟨c, x1, x2, x3⟩
    · by_cases h1 : W (a + 1 + d) < 2
      · exact Or.inl ⟨(a + 1 + d) :: P, by rw [← Nat.add_assoc, nw_sk_o h1, hP] <;> rfl⟩
      · by_cases h2 : 4 ≤ W (a + 1 + d)
        · exact Or.inl ⟨P, by rw [← Nat.add_assoc, nw_sk_p h2, hP]⟩
        · cases P with
          | nil => exact Or.inr ⟨a + 1 + d, by omega, by omega, h1, h2, hP⟩
          | cons x P => exact Or.inl ⟨P, by rw [← Nat.add_assoc, nw_sk_c h1 h2, hP] <;> rfl⟩
    · exact Or.inr ⟨c, x1, by omega, x3⟩
/-- between two places of one stack an opening letter has its closing one -/
theorem nw_k5 {W : Nat → Nat} {a p : Nat} (ha : W a < 2) (hp : a < p) (e : nw_sk W p = nw_sk W a) : ∃ c, a < c ∧ c < p ∧ ¬ W c < 2 ∧ ¬ 4 ≤ W c ∧ nw_sk W c = a :: nw_sk W a := by
  have h := nw_k3 ha (p - (a + 1))
  rw [show a + 1 + (p - (a + 1)) = p by omega] at h
  rcases h with ⟨P, hP⟩ | h
  · rw [e] at hP
    have hl := congrArg List.length hP
    rw [List.length_append, List.length_cons] at hl
    omega
  · exact h
/-! the relation from the place behind the last unclosed letter to place j -/
def nw_ta (M : Nat → Nat → Nat → Nat → Prop) (W : Nat → Nat) : Nat → Nat → (Nat → Nat → Prop)
  | 0, _ => nw_id
  | n + 1, i => if i ≤ n then nw_ta M W n i else
      if W n < 2 then nw_id else if 4 ≤ W n then nw_th (nw_ta M W n n) (M (W n) 0) else
      match nw_sk W n with
      | [] => nw_th (nw_ta M W n n) (M (W n) 3)
      | o :: _ => nw_th (nw_ta M W n o) (nw_pc M (W o) (nw_ta M W n n) (W n))
def nw_cu (M : Nat → Nat → Nat → Nat → Prop) (W : Nat → Nat) (j : Nat) : Nat → Nat → Prop := nw_ta M W j j
theorem nw_ta_le {M : Nat → Nat → Nat → Nat → Prop} {W : Nat → Nat} : ∀ n i : Nat, i ≤ n → nw_ta M W n i = nw_cu M W i := by
  intro n
  induction n with
  | zero =>
    intro i h
    have e : i = 0 := by omega
    subst e
    rfl
  | succ n ih =>
    intro i h
    by_cases e : i ≤ n
    · rw [← ih i e, nw_ta, if_pos e]
    · have e : i = n + 1 := by omega
      subst e
      rfl
theorem nw_cu_0 {M : Nat → Nat → Nat → Nat → Prop} {W : Nat → Nat} : nw_cu M W 0 = nw_id := rfl
theorem nw_cu_o {M : Nat → Nat → Nat → Nat → Prop} {W : Nat → Nat} {j : Nat} (h : W j < 2) : nw_cu M W (j + 1) = nw_id := by
  have e : nw_ta M W (j + 1) (j + 1) = nw_id := by
    rw [nw_ta, if_neg (by omega), if_pos h]
  exact e
theorem nw_cu_p {M : Nat → Nat → Nat → Nat → Prop} {W : Nat → Nat} {j : Nat} (h : 4 ≤ W j) : nw_cu M W (j + 1) = nw_th (nw_cu M W j) (M (W j) 0) := by
  have e : nw_ta M W (j + 1) (j + 1) = nw_th (nw_ta M W j j) (M (W j) 0) := by
    rw [nw_ta, if_neg (by omega), if_neg (by omega), if_pos h]
  exact e
theorem nw_cu_n {M : Nat → Nat → Nat → Nat → Prop} {W : Nat → Nat} {j : Nat} (h : ¬ W j < 2) (h' : ¬ 4 ≤ W j) (es : nw_sk W j = []) : nw_cu M W (j + 1) = nw_th (nw_cu M W j) (M (W j) 3) := by
  have e : nw_ta M W (j + 1) (j + 1) = nw_th (nw_ta M W j j) (M (W j) 3) := by
    rw [nw_ta, if_neg (by omega), if_neg h, if_neg h', es] <;> rfl
  exact e
theorem nw_cu_c {M : Nat → Nat → Nat → Nat → Prop} {W : Nat → Nat} {j o : Nat} {T : List Nat} (h : ¬ W j < 2) (h' : ¬ 4 ≤ W j) (es : nw_sk W j = o :: T) : nw_cu M W (j + 1) = nw_th (nw_cu M W o) (nw_pc M (W o) (nw_cu M W j) (W j)) := by
  have ho := (nw_kt es).1
  have e : nw_ta M W (j + 1) (j + 1) = nw_th (nw_ta M W j o) (nw_pc M (W o) (nw_ta M W j j) (W j)) := by
    rw [nw_ta, if_neg (by omega), if_neg h, if_neg h', es] <;> rfl
  rw [nw_ta_le j o (by omega)] at e
  exact e
/-! with which the runs begin there, by the mark on top and the state below; the rows; the live states -/
def nw_rb (M : Nat → Nat → Nat → Nat → Prop) (W : Nat → Nat) (S : Nat → Prop) : List Nat → Nat → Nat → Nat → Prop
  | [], t, b, s => t = 3 ∧ b = 0 ∧ S s
  | o :: T, t, b, s => t < 3 ∧ (∃ t' b', t' < 4 ∧ b' < 5 ∧ nw_im (nw_rb M W S T t' b') (nw_cu M W o) b) ∧ M (W o) t b s
def nw_ro (M : Nat → Nat → Nat → Nat → Prop) (W : Nat → Nat) (S : Nat → Prop) (i t b : Nat) : Nat → Prop := nw_im (nw_rb M W S (nw_sk W i) t b) (nw_cu M W i)
def nw_lv (M : Nat → Nat → Nat → Nat → Prop) (W : Nat → Nat) (S : Nat → Prop) (i : Nat) : Nat → Prop := fun j => ∃ t b, t < 4 ∧ b < 5 ∧ nw_ro M W S i t b j
section
variable {M : Nat → Nat → Nat → Nat → Prop} {W : Nat → Nat} {S : Nat → Prop}
theorem nw_rb_n {t b s : Nat} : nw_rb M W S [] t b s ↔ t = 3 ∧ b = 0 ∧ S s := Iff.rfl
theorem nw_rb_c {o t b s : Nat} : nw_rb M W S (o :: nw_sk W o) t b s ↔ t < 3 ∧ nw_lv M W S o b ∧ M (W o) t b s := Iff.rfl
theorem nw_ro_0 {t b r : Nat} (hr : r < 5) : nw_ro M W S 0 t b r ↔ t = 3 ∧ b = 0 ∧ S r := nw_im_id hr
theorem nw_lv_0 {r : Nat} (hr : r < 5) : nw_lv M W S 0 r ↔ S r := by
  constructor
  · rintro ⟨t, b, ht, hb, h⟩
    exact ((nw_ro_0 hr).mp h).2.2
  · intro h
    exact ⟨3, 0, by omega, by omega, (nw_ro_0 hr).mpr ⟨rfl, rfl, h⟩⟩
theorem nw_ro_st {A : Nat → Nat → Prop} {j j' t b r : Nat} (e : nw_sk W j' = nw_sk W j) (e' : nw_cu M W j' = nw_th (nw_cu M W j) A) : nw_ro M W S j' t b r ↔ nw_im (nw_ro M W S j t b) A r := by
  unfold nw_ro
  rw [e, e']
  exact nw_im_th
theorem nw_lv_st {A : Nat → Nat → Prop} {j j' r : Nat} (e : nw_sk W j' = nw_sk W j) (e' : nw_cu M W j' = nw_th (nw_cu M W j) A) : nw_lv M W S j' r ↔ nw_im (nw_lv M W S j) A r := by
  constructor
  · rintro ⟨t, b, ht, hb, h⟩
    obtain ⟨q, hq, h1, h2⟩ := (nw_ro_st e e').mp h
    exact ⟨q, hq, ⟨t, b, ht, hb, h1⟩, h2⟩
  · rintro ⟨q, hq, ⟨t, b, ht, hb, h1⟩, h2⟩
    exact ⟨t, b, ht, hb, (nw_ro_st e e').mpr ⟨q, hq, h1, h2⟩⟩
theorem nw_ro_o {j t b r : Nat} (h : W j < 2) (hr : r < 5) : nw_ro M W S (j + 1) t b r ↔ t < 3 ∧ nw_lv M W S j b ∧ M (W j) t b r := by
  unfold nw_ro
  rw [nw_sk_o h, nw_cu_o h, nw_im_id hr]
  exact nw_rb_c
theorem nw_lv_o {j r : Nat} (h : W j < 2) (hr : r < 5) : nw_lv M W S (j + 1) r ↔ nw_im (nw_lv M W S j) (nw_op M (W j)) r := by
  constructor
  · rintro ⟨t, b, ht, hb, hh⟩
    obtain ⟨h1, h2, h3⟩ := (nw_ro_o h hr).mp hh
    exact ⟨b, hb, h2, t, h1, h3⟩
  · rintro ⟨b, hb, h2, t, h1, h3⟩
    exact ⟨t, b, by omega, hb, (nw_ro_o h hr).mpr ⟨h1, h2, h3⟩⟩
theorem nw_lv_p {j r : Nat} (h : 4 ≤ W j) : nw_lv M W S (j + 1) r ↔ nw_im (nw_lv M W S j) (M (W j) 0) r := nw_lv_st (nw_sk_p h) (nw_cu_p h)
theorem nw_lv_n {j r : Nat} (h : ¬ W j < 2) (h' : ¬ 4 ≤ W j) (es : nw_sk W j = []) : nw_lv M W S (j + 1) r ↔ nw_im (nw_lv M W S j) (M (W j) 3) r := nw_lv_st ((nw_sk_cn h h' es).trans es.symm) (nw_cu_n h h' es)
theorem nw_lv_c {a c r : Nat} (h : ¬ W c < 2) (h' : ¬ 4 ≤ W c) (es : nw_sk W c = a :: nw_sk W a) : nw_lv M W S (c + 1) r ↔ nw_im (nw_lv M W S a) (nw_pc M (W a) (nw_cu M W c) (W c)) r := nw_lv_st (nw_sk_cc h h' es) (nw_cu_c h h' es)
theorem nw_ro_p {j t b r : Nat} (h : 4 ≤ W j) : nw_ro M W S (j + 1) t b r ↔ nw_im (nw_ro M W S j t b) (M (W j) 0) r := nw_ro_st (nw_sk_p h) (nw_cu_p h)
theorem nw_ro_n {j t b r : Nat} (h : ¬ W j < 2) (h' : ¬ 4 ≤ W j) (es : nw_sk W j = []) : nw_ro M W S (j + 1) t b r ↔ nw_im (nw_ro M W S j t b) (M (W j) 3) r := nw_ro_st ((nw_sk_cn h h' es).trans es.symm) (nw_cu_n h h' es)
theorem nw_ro_e {j t b r : Nat} (es : nw_sk W j = []) (h : nw_ro M W S j t b r) : t = 3 ∧ b = 0 := by
  unfold nw_ro at h
  rw [es] at h
  obtain ⟨q, hq, h1, h2⟩ := h
  exact ⟨h1.1, h1.2.1⟩
theorem nw_ro_c {j o t b r : Nat} {T : List Nat} (h : ¬ W j < 2) (h' : ¬ 4 ≤ W j) (es : nw_sk W j = o :: T) (ht : t < 4) (hb : b < 5) : nw_ro M W S (j + 1) t b r ↔ ∃ m w, m < 3 ∧ w < 5 ∧ nw_ro M W S o t b w ∧ nw_im (nw_ro M W S j m w) (M (W j) m) r := by
  obtain ⟨_, hs, _⟩ := nw_kt es
  have ex : nw_sk W j = o :: nw_sk W o := by rw [es, hs]
  rw [nw_ro_st (nw_sk_cc h h' ex) (nw_cu_c h h' ex)]
  have eb : ∀ m w q, nw_ro M W S j m w q ↔ m < 3 ∧ nw_lv M W S o w ∧ ∃ s, s < 5 ∧ M (W o) m w s ∧ nw_cu M W j s q := by
    intro m w q
    unfold nw_ro
    rw [ex]
    constructor
    · rintro ⟨s, hs, h1, h2⟩
      obtain ⟨h3, h4, h5⟩ := nw_rb_c.mp h1
      exact ⟨h3, h4, s, hs, h5, h2⟩
    · rintro ⟨h3, h4, s, hs, h5, h2⟩
      exact ⟨s, hs, nw_rb_c.mpr ⟨h3, h4, h5⟩, h2⟩
  constructor
  · rintro ⟨w, hw, h1, m, hm, s2, hs2, ⟨s, hs, h2, h3⟩, h4⟩
    exact ⟨m, w, hm, hw, h1, s2, hs2, (eb m w s2).mpr ⟨hm, ⟨t, b, ht, hb, h1⟩, s, hs, h2, h3⟩, h4⟩
  · rintro ⟨m, w, hm, hw, h1, s2, hs2, h5, h4⟩
    obtain ⟨_, _, s, hs, h2, h3⟩ := (eb m w s2).mp h5
    exact ⟨w, hw, h1, m, hm, s2, hs2, ⟨s, hs, h2, h3⟩, h4⟩
end
/-! the places kept in an array -/
def nw_un (f : Nat → Int32) : List Nat → Prop
  | [] => True
  | o :: T => f T.length = nI o ∧ nw_un f T
theorem nw_un_u {f : Nat → Int32} {k : Nat} {x : Int32} : ∀ L : List Nat, L.length ≤ k → nw_un f L → nw_un (upd f k x) L := by
  intro L
  induction L with
  | nil => exact fun _ _ => trivial
  | cons o T ih =>
    intro h hu
    rw [List.length_cons] at h
    exact ⟨(pk_un (by omega)).trans hu.1, ih (by omega) hu.2⟩
theorem nw_un_s {f : Nat → Int32} {L : List Nat} {i : Nat} (h : nw_un f L) : nw_un (upd f L.length (nI i)) (i :: L) := ⟨pk_us, nw_un_u L (Nat.le_refl _) h⟩
/-! Y's table of partners -/
def nw_pf (W : Nat → Nat) (n : Nat) (f : Nat → Int32) : Prop := ∀ i, i < n →
  (¬ W i < 2 → ¬ 4 ≤ W i → (nw_sk W i = [] → f i = -1) ∧ (∀ o T, nw_sk W i = o :: T → f i = nI o)) ∧
  (W i < 2 → (∀ c T, c < n → ¬ W c < 2 → ¬ 4 ≤ W c → nw_sk W c = i :: T → f i = nI c) ∧
    ((∀ c T, c < n → ¬ W c < 2 → ¬ 4 ≤ W c → ¬ nw_sk W c = i :: T) → f i = -1))
theorem nw_pf_0 (W : Nat → Nat) (f : Nat → Int32) : nw_pf W 0 f := fun i hi => absurd hi (by omega)
theorem nw_pf_o {W : Nat → Nat} {n : Nat} {f : Nat → Int32} (h : nw_pf W n f) (hn : W n < 2) : nw_pf W (n + 1) (upd f n (-1)) := by
  intro i hi
  by_cases e : i = n
  · subst e
    refine ⟨fun z => absurd hn z, fun _ => ⟨fun c T hc h1 h2 h3 => ?_, fun _ => pk_us⟩⟩
    have := (nw_kt h3).1
    have e2 : c = i := by omega
    subst e2
    exact absurd hn h1
  · obtain ⟨p1, p2⟩ := h i (by omega)
    rw [pk_un e]
    refine ⟨p1, fun z => ⟨fun c T hc h1 h2 h3 => ?_, fun z2 => (p2 z).2 fun c T hc => z2 c T (by omega)⟩⟩
    by_cases e2 : c = n
    · subst e2
      exact absurd hn h1
    · exact (p2 z).1 c T (by omega) h1 h2 h3
theorem nw_pf_p {W : Nat → Nat} {n : Nat} {f : Nat → Int32} (h : nw_pf W n f) (hn : 4 ≤ W n) : nw_pf W (n + 1) (upd f n (-1)) := by
  intro i hi
  by_cases e : i = n
  · subst e
    exact ⟨fun _ z => absurd hn z, fun z => absurd hn (by omega)⟩
  · obtain ⟨p1, p2⟩ := h i (by omega)
    rw [pk_un e]
    refine ⟨p1, fun z => ⟨fun c T hc h1 h2 h3 => ?_, fun z2 => (p2 z).2 fun c T hc => z2 c T (by omega)⟩⟩
    by_cases e2 : c = n
    · subst e2
      exact absurd hn h2
    · exact (p2 z).1 c T (by omega) h1 h2 h3
theorem nw_pf_n {W : Nat → Nat} {n : Nat} {f : Nat → Int32} (h : nw_pf W n f) (hn : ¬ W n < 2) (hs : nw_sk W n = []) : nw_pf W (n + 1) (upd f n (-1)) := by
  intro i hi
  by_cases e : i = n
  · subst e
    refine ⟨fun _ _ => ⟨fun _ => pk_us, fun o T z => ?_⟩, fun z => absurd z hn⟩
    rw [hs] at z
    cases z
  · obtain ⟨p1, p2⟩ := h i (by omega)
    rw [pk_un e]
    refine ⟨p1, fun z => ⟨fun c T hc h1 h2 h3 => ?_, fun z2 => (p2 z).2 fun c T hc => z2 c T (by omega)⟩⟩
    by_cases e2 : c = n
    · subst e2
      rw [hs] at h3
      cases h3
    · exact (p2 z).1 c T (by omega) h1 h2 h3
theorem nw_pf_c {W : Nat → Nat} {n o : Nat} {T : List Nat} {f : Nat → Int32} (h : nw_pf W n f) (hn : ¬ W n < 2) (hn' : ¬ 4 ≤ W n) (hs : nw_sk W n = o :: T) : nw_pf W (n + 1) (upd (upd (upd f n (-1)) n (nI o)) o (nI n)) := by
  obtain ⟨ho, _, hw⟩ := nw_kt hs
  intro i hi
  by_cases e : i = n
  · subst e
    rw [pk_un (by omega), pk_us]
    refine ⟨fun _ _ => ⟨fun z => ?_, fun o' T' z => ?_⟩, fun z => absurd z hn⟩
    · rw [hs] at z
      cases z
    · rw [hs] at z
      injection z with z1 _
      rw [z1]
  · by_cases e3 : i = o
    · subst e3
      rw [pk_us]
      refine ⟨fun z => absurd hw z, fun _ => ⟨fun c T' hc h1 h2 h3 => ?_, fun z => absurd hs (z n T (by omega) hn hn')⟩⟩
      by_cases e2 : c = n
      · rw [e2]
      · exact (nw_k4 h1 h2 h3 (by omega) hs).elim
    · obtain ⟨p1, p2⟩ := h i (by omega)
      rw [pk_un e3, pk_un e, pk_un e]
      refine ⟨p1, fun z => ⟨fun c T' hc h1 h2 h3 => ?_, fun z2 => (p2 z).2 fun c T' hc => z2 c T' (by omega)⟩⟩
      by_cases e2 : c = n
      · subst e2
        rw [hs] at h3
        injection h3 with z1 _
        exact absurd z1.symm e3
      · exact (p2 z).1 c T' (by omega) h1 h2 h3
