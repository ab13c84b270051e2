/-! pure: counts of a text without fault -/
def nb (t : Nat → Int32) (j : Nat) : Bool := !bk t j
def pq (t : Nat → Int32) (j : Nat) : Bool := !bk t j && !sl t j
theorem we_iff {N : Nat} {t : Nat → Int32} {j : Nat} : we N t j = true ↔ bk t j = false ∧ (j + 1 = N ∨ bk t (j + 1) = true) := by
  unfold we
  cases hb : bk t j with
  | true => simp
  | false => simp [Nat.beq_eq]
theorem wb_iff2 {t : Nat → Int32} {j : Nat} : wb t j = true ↔ bk t j = false ∧ (j = 0 ∨ bk t (j - 1) = true) := by
  rw [wb_iff, rn_0]
/-- words begun and words ended -/
theorem ct_open {N : Nat} {t : Nat → Int32} : ∀ {k : Nat}, k ≤ N → ct (wb t) k = ct (we N t) k + (if 0 < k ∧ k < N ∧ bk t (k - 1) = false ∧ bk t k = false then 1 else 0)
  | 0, _ => by simp [ct]
  | k + 1, h => by
    have ih := ct_open (N := N) (t := t) (k := k) (by omega)
    have hlast : (0 < k + 1 ∧ k + 1 < N ∧ bk t (k + 1 - 1) = false ∧ bk t (k + 1) = false) ↔ (bk t k = false ∧ ¬ we N t k = true) := by
      rw [show k + 1 - 1 = k by omega, we_iff]
      cases h1 : bk t k <;> cases h2 : bk t (k + 1) <;> simp <;> omega
    have hprev : (0 < k ∧ k < N ∧ bk t (k - 1) = false ∧ bk t k = false) ↔ (bk t k = false ∧ ¬ wb t k = true) := by
      rw [wb_iff2]
      cases h1 : bk t k <;> cases h2 : bk t (k - 1) <;> simp <;> omega
    have hwb : wb t k = true → bk t k = false := fun z => (wb_iff.mp z).1
    have hwe : we N t k = true → bk t k = false := fun z => (we_iff.mp z).1
    rw [ct_s, ct_s, ih]
    simp only [hlast, hprev]
    cases h1 : bk t k with
    | true =>
      have a1 : ¬ wb t k = true := fun z => by rw [hwb z] at h1; cases h1
      have a2 : ¬ we N t k = true := fun z => by rw [hwe z] at h1; cases h1
      simp [a1, a2]
    | false =>
      by_cases a1 : wb t k = true <;> by_cases a2 : we N t k = true <;> simp [a1, a2]
theorem ct_in {N : Nat} {t : Nat → Int32} {j : Nat} (h : j < N) (hb : bk t j = false) : ct (wb t) (j + 1) = ct (we N t) j + 1 := by
  have h1 := ct_open (N := N) (t := t) (k := j + 1) (by omega)
  have hlast : (0 < j + 1 ∧ j + 1 < N ∧ bk t (j + 1 - 1) = false ∧ bk t (j + 1) = false) ↔ (¬ we N t j = true) := by
    rw [show j + 1 - 1 = j by omega, we_iff]
    cases h2 : bk t (j + 1) <;> simp [hb] <;> omega
  simp only [hlast] at h1
  rw [h1, ct_s]
  by_cases a2 : we N t j = true <;> simp [a2]
theorem ct_words {N : Nat} {t : Nat → Int32} : ct (wb t) N = ct (we N t) N := by
  rw [ct_open (Nat.le_refl N), if_neg (fun z => by omega)]
  rfl
theorem ok_sl {N : Nat} {t : Nat → Int32} (h : tx_ok N t) {j : Nat} (hj : j < N) (hs : sl t j = true) : 0 < j ∧ j + 1 < N ∧ pn t (j - 1) = true ∧ pn t (j + 1) = true := (lt_sl hs).mp (h.2.1 j hj).1
theorem ok_pn {N : Nat} {t : Nat → Int32} (h : tx_ok N t) {j : Nat} (hj : j < N) (hb : bk t j = false) (hs : sl t j = false) : pn t j = true := (lt_nsl hb hs).mp (h.2.1 j hj).1
theorem sl_nwe {N : Nat} {t : Nat → Int32} (h : tx_ok N t) {j : Nat} (hj : j < N) (hs : sl t j = true) : we N t j = false := by
  obtain ⟨h1, h2, h3, h4⟩ := ok_sl h hj hs
  cases hw : we N t j with
  | false => rfl
  | true =>
    rcases (we_iff.mp hw).2 with z | z
    · omega
    · rw [(pn_bk h4).1] at z; cases z
theorem pl_bound {N : Nat} {t : Nat → Int32} (h : tx_ok N t) : ∀ k, (k ≤ N → 2 * ct (pl N t) k ≤ k + (if 0 < k ∧ we N t (k - 1) = true then 1 else 0)) ∧ (k + 1 ≤ N → 2 * ct (pl N t) (k + 1) ≤ k + 1 + (if we N t k = true then 1 else 0)) := by
  intro k
  induction k with
  | zero =>
    refine ⟨fun _ => by simp [ct], fun hk => ?_⟩
    rw [ct_s]
    by_cases hp : pl N t 0 = true
    · rw [if_pos hp]
      have hw : we N t 0 = true := by
        cases hs : sl t 0 with
        | true => exact absurd (ok_sl h (by omega) hs).1 (by omega)
        | false => unfold pl at hp; rw [hs] at hp; simpa using hp
      rw [if_pos hw]
      simp [ct]
    · rw [if_neg hp]
      simp [ct]
  | succ k ih =>
    refine ⟨fun hk => ?_, fun hk => ?_⟩
    · have := ih.2 hk
      rw [show k + 1 - 1 = k by omega]
      by_cases hw : we N t k = true
      · rw [if_pos hw] at this; rw [if_pos ⟨by omega, hw⟩]; exact this
      · rw [if_neg hw] at this; rw [if_neg (fun z => hw z.2)]; exact this
    · rw [ct_s]
      have h1 := ih.2 (by omega)
      by_cases hp : pl N t (k + 1) = true
      · rw [if_pos hp]
        cases hs : sl t (k + 1) with
        | true =>
          obtain ⟨a1, a2, a3, a4⟩ := ok_sl h (by omega) hs
          rw [show k + 1 - 1 = k by omega] at a3
          have b1 := pn_bk a3
          have hnk : pl N t k = false := by
            cases hz : pl N t k with
            | false => rfl
            | true =>
              unfold pl at hz
              rw [b1.2, Bool.false_or] at hz
              rcases (we_iff.mp hz).2 with z | z
              · omega
              · rw [sl_bk hs] at z; cases z
          have h2 := ih.1 (by omega)
          rw [ct_s, if_neg (by rw [hnk]; decide), Nat.add_zero]
          have h3 : ¬ (0 < k ∧ we N t (k - 1) = true) := by
            intro z
            rcases (we_iff.mp z.2).2 with y | y
            · omega
            · rw [show k - 1 + 1 = k by omega, b1.1] at y; cases y
          rw [if_neg h3] at h2
          rw [if_neg (by rw [sl_nwe h (by omega) hs]; decide)]
          omega
        | false =>
          have hw : we N t (k + 1) = true := by unfold pl at hp; rw [hs] at hp; simpa using hp
          rw [if_pos hw]
          have h3 : ¬ we N t k = true := by
            intro z
            rcases (we_iff.mp z).2 with y | y
            · omega
            · rw [(we_iff.mp hw).1] at y; cases y
          rw [if_neg h3] at h1
          omega
      · rw [if_neg hp]
        have : (if we N t k = true then 1 else 0) ≤ 1 := by split <;> omega
        omega
theorem pl_100 {N : Nat} {t : Nat → Int32} (h : tx_ok N t) : ct (pl N t) N ≤ 100 := by
  have h1 := (pl_bound h N).1 (Nat.le_refl N)
  have : (if 0 < N ∧ we N t (N - 1) = true then 1 else 0) ≤ 1 := by split <;> omega
  have := h.1
  omega
/-- an array that is filled where p holds -/
def fil (p : Nat → Bool) (val : Nat → Int32) (k : Nat) (f : Nat → Int32) : Prop := ∀ j, j < k → p j = true → f (ct p j) = val j
theorem fil_0 {p : Nat → Bool} {val f : Nat → Int32} : fil p val 0 f := fun j h => by omega
theorem fil_y {p : Nat → Bool} {val f : Nat → Int32} {k : Nat} (h : fil p val k f) (hp : p k = true) {x : Int32} (hx : x = val k) : fil p val (k + 1) (upd f (ct p k) x) := by
  intro j hj hpj
  by_cases e : j = k
  · rw [e, ud_s, hx]
  · have := ct_lt (p := p) (show j < k by omega) hpj
    rw [ud_n (by omega)]
    exact h j (by omega) hpj
theorem fil_n {p : Nat → Bool} {val f : Nat → Int32} {k : Nat} (h : fil p val k f) (hp : p k = false) : fil p val (k + 1) f := by
  intro j hj hpj
  by_cases e : j = k
  · rw [e, hp] at hpj; cases hpj
  · exact h j (by omega) hpj
theorem ct_y {p : Nat → Bool} {k : Nat} (h : p k = true) : ct p (k + 1) = ct p k + 1 := by rw [ct_s, if_pos h]
theorem ct_n {p : Nat → Bool} {k : Nat} (h : p k = false) : ct p (k + 1) = ct p k := by rw [ct_s, if_neg (by rw [h]; decide), Nat.add_zero]
theorem ct_lt_N {p : Nat → Bool} {k n : Nat} (h : p k = true) (hk : k < n) : ct p k < ct p n := ct_lt hk h
