/-! pure: the text, counts over it -/
def bk (t : Nat → Int32) (j : Nat) : Bool := decide (t j = 32)
def sl (t : Nat → Int32) (j : Nat) : Bool := decide (t j = 47)
def pn (t : Nat → Int32) (j : Nat) : Bool := (sg_slot (t j)).isSome
def wb (t : Nat → Int32) (j : Nat) : Bool := !bk t j && (Nat.beq j 0 || bk t (j - 1))
def we (N : Nat) (t : Nat → Int32) (j : Nat) : Bool := !bk t j && (Nat.beq (j + 1) N || bk t (j + 1))
def pl (N : Nat) (t : Nat → Int32) (j : Nat) : Bool := sl t j || we N t j
def ct (p : Nat → Bool) : Nat → Nat
  | 0 => 0
  | k + 1 => ct p k + (if p k = true then 1 else 0)
theorem ct_s (p : Nat → Bool) (k : Nat) : ct p (k + 1) = ct p k + (if p k = true then 1 else 0) := rfl
theorem ct_le (p : Nat → Bool) : ∀ {a b : Nat}, a ≤ b → ct p a ≤ ct p b
  | a, 0, h => by rw [show a = 0 by omega]; exact Nat.le_refl _
  | a, b + 1, h => by
    by_cases e : a = b + 1
    · rw [e]; exact Nat.le_refl _
    · have := ct_le p (a := a) (b := b) (by omega)
      rw [ct_s]; omega
theorem ct_lt {p : Nat → Bool} {a b : Nat} (h : a < b) (hp : p a = true) : ct p a < ct p b := by
  have h1 := ct_le p (show a + 1 ≤ b from h)
  rw [ct_s, if_pos hp] at h1
  omega
/-- the k-th place at which p holds -/
theorem ct_at {p : Nat → Bool} : ∀ {n k : Nat}, k < ct p n → ∃ j, j < n ∧ p j = true ∧ ct p j = k
  | 0, k, h => by simp [ct] at h
  | n + 1, k, h => by
    rw [ct_s] at h
    by_cases h1 : k < ct p n
    · obtain ⟨j, a, b, c⟩ := ct_at h1
      exact ⟨j, by omega, b, c⟩
    · by_cases hp : p n = true
      · rw [if_pos hp] at h
        exact ⟨n, by omega, hp, by omega⟩
      · rw [if_neg hp] at h
        omega
theorem ct_inj {p : Nat → Bool} {a b : Nat} (ha : p a = true) (hb : p b = true) (h : ct p a = ct p b) : a = b := by
  rcases Nat.lt_trichotomy a b with h1 | h1 | h1
  · have := ct_lt h1 ha; omega
  · exact h1
  · have := ct_lt h1 hb; omega
theorem ct_lt_iff {p : Nat → Bool} {a b : Nat} (ha : p a = true) (hb : p b = true) : ct p a < ct p b ↔ a < b := by
  constructor
  · intro h
    rcases Nat.lt_trichotomy a b with h1 | h1 | h1
    · exact h1
    · rw [h1] at h; omega
    · have := ct_lt h1 hb; omega
  · intro h; exact ct_lt h ha
theorem ct_bound (p : Nat → Bool) : ∀ n, ct p n ≤ n
  | 0 => Nat.le_refl _
  | n + 1 => by
    have := ct_bound p n
    rw [ct_s]
    split <;> omega
/-- how many signs stand just ahead of k, without a blank -/
def rn (t : Nat → Int32) : Nat → Nat
  | 0 => 0
  | k + 1 => if bk t k = true then 0 else rn t k + 1
theorem rn_s (t : Nat → Int32) (k : Nat) : rn t (k + 1) = if bk t k = true then 0 else rn t k + 1 := rfl
theorem rn_0 {t : Nat → Int32} {k : Nat} : rn t k = 0 ↔ k = 0 ∨ bk t (k - 1) = true := by
  cases k with
  | zero => simp [rn]
  | succ k =>
    rw [rn_s]
    by_cases h : bk t k = true
    · simp [h]
    · simp [h]
theorem wb_iff {t : Nat → Int32} {j : Nat} : wb t j = true ↔ bk t j = false ∧ rn t j = 0 := by
  rw [rn_0]
  unfold wb
  cases hb : bk t j with
  | true => simp
  | false => simp [Nat.beq_eq]
/-- a letter at which there is no fault, but for how many there are -/
def lt_ok (N : Nat) (t : Nat → Int32) (j : Nat) : Prop := bk t j = true ∨ pn t j = true ∨ (sl t j = true ∧ 0 < j ∧ j + 1 < N ∧ pn t (j - 1) = true ∧ pn t (j + 1) = true)
def tx_ok (N : Nat) (t : Nat → Int32) : Prop := N ≤ 200 ∧ (∀ j, j < N → lt_ok N t j ∧ rn t (j + 1) ≤ 16) ∧ ct (wb t) N ≤ 30
theorem pn_bk {t : Nat → Int32} {j : Nat} (h : pn t j = true) : bk t j = false ∧ sl t j = false := by
  unfold pn at h
  constructor
  · cases hb : bk t j with
    | false => rfl
    | true =>
      unfold bk at hb
      rw [of_decide_eq_true hb] at h
      exact absurd h (by decide)
  · cases hb : sl t j with
    | false => rfl
    | true =>
      unfold sl at hb
      rw [of_decide_eq_true hb] at h
      exact absurd h (by decide)
theorem sl_bk {t : Nat → Int32} {j : Nat} (h : sl t j = true) : bk t j = false := by
  unfold sl at h
  unfold bk
  rw [of_decide_eq_true h]
  decide
