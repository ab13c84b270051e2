/-! pure: type, clear, word, place, sees, forget -/
section SML
variable {N : Nat} {t : Nat → Int32}
theorem in_cases (x : Int32) {n : Nat} (hn : n ≤ 1000) : (∃ k, k < n ∧ x = nI k ∧ ¬ x < 0 ∧ ¬ nI n ≤ x ∧ f_X8_in x 0 (nI n - 1) = some 1) ∨ ((x < 0 ∨ (¬ x < 0 ∧ nI n ≤ x)) ∧ f_X8_in x 0 (nI n - 1) = some 0) := by
  obtain ⟨c, c1, c2, rfl⟩ := zI_of x
  rw [md_in]
  by_cases hp : 0 ≤ c ∧ c < n
  · refine Or.inl ⟨c.toNat, by omega, zI_N hp.1, ?_, ?_, ?_⟩
    · rw [zl_0, zI_lt (by omega) (by omega) (by omega) (by omega)]; omega
    · rw [zI_nat, zI_le (by omega) (by omega) (by omega) (by omega)]; omega
    · rw [if_pos]
      refine ⟨?_, ?_⟩
      · rw [zl_0, zI_le (by omega) (by omega) (by omega) (by omega)]; omega
      · rw [zI_nat, zl_1, zI_sub, zI_le (by omega) (by omega) (by omega) (by omega)]; omega
  · refine Or.inr ⟨?_, ?_⟩
    · by_cases h0 : c < 0
      · exact Or.inl (by rw [zl_0, zI_lt (by omega) (by omega) (by omega) (by omega)]; exact h0)
      · refine Or.inr ⟨?_, ?_⟩
        · rw [zl_0, zI_lt (by omega) (by omega) (by omega) (by omega)]; exact h0
        · rw [zI_nat, zI_le (by omega) (by omega) (by omega) (by omega)]; omega
    · rw [if_neg]
      intro hh
      have t1 := hh.1
      have t2 := hh.2
      rw [zl_0, zI_le (by omega) (by omega) (by omega) (by omega)] at t1
      rw [zI_nat, zl_1, zI_sub, zI_le (by omega) (by omega) (by omega) (by omega)] at t2
      omega
/-- the text that is typed -/
def ty_is (r : hm_SR) (a : Nat → Int32) (z : Int32) : Prop := ∃ n : Nat, n ≤ 200 ∧ r.1 = nI n ∧ z = nI n ∧ ∀ j, j < n → r.2 j = a j
theorem two_type {r : hm_SR} {a : Nat → Int32} {z : Int32} (h : ty_is r a z) (x : Int32) : ∃ (q : Int32 × hm_SR) (q9 : Int32 × (Nat → Int32) × Int32), f_X7_type r x = some q ∧ f_X8_type a z x = some q9 ∧ q.1 = q9.1 ∧ ty_is q.2 q9.2.1 q9.2.2 := by
  have h' := h
  obtain ⟨n, h1, h2, h3, h4⟩ := h
  rw [f_X7_type, f_X8_type]
  rcases in_cases x (n := 256) (by omega) with ⟨k, k1, k2, k3, k4, k5⟩ | ⟨k1, k5⟩
  · have k5' : f_X8_in x 0 255 = some 1 := k5
    rw [if_neg k3, if_pos (show x ≤ 255 by rw [k2, nl_255, nI_lei (by omega) (by omega)]; omega), k5', Option.bind_some, if_neg n10, h3]
    by_cases hn : n = 200
    · rw [rg_full (by rw [h2, hn]) (by omega), Option.bind_some, if_pos n00, if_pos (show nI n = 200 by rw [hn]; rfl)]
      exact ⟨_, _, rfl, rfl, rfl, n, h1, h2, rfl, h4⟩
    · rw [rg_add h2 (by omega) (by omega), Option.bind_some, if_neg n10, rg_size, Option.bind_some, if_neg (show ¬ nI n = 200 by rw [nl_200, nI_eqi (by omega) (by omega)]; exact hn), wr_in (by omega) (by omega), Option.bind_some, nI_1]
      refine ⟨_, _, rfl, rfl, rfl, n + 1, by omega, rfl, rfl, fun j hj => ?_⟩
      dsimp only
      by_cases e : j = n
      · rw [e, ud_s, ud_s]
      · rw [ud_n e, ud_n e]; exact h4 j (by omega)
  · have k5' : f_X8_in x 0 255 = some 0 := k5
    rw [k5', Option.bind_some, if_pos n00]
    rcases k1 with k1 | ⟨k1, k2⟩
    · rw [if_pos k1]; exact ⟨_, _, rfl, rfl, rfl, h'⟩
    · rw [if_neg k1, if_neg (show ¬ x ≤ 255 from fun hh => by
        have a1 := Int32.le_iff_toInt_le.1 hh
        have a2 := Int32.le_iff_toInt_le.1 k2
        rw [nI_toInt (by omega)] at a2
        have a3 : (255 : Int32).toInt = 255 := rfl
        omega)]
      exact ⟨_, _, rfl, rfl, rfl, h'⟩
theorem two_clear {r : hm_SR} {a : Nat → Int32} {z : Int32} (h : ty_is r a z) : ∃ (q : Int32 × hm_SR) (q9 : Int32 × Int32), f_X7_clear r = some q ∧ f_X8_clear z = some q9 ∧ q.1 = q9.1 ∧ ty_is q.2 a q9.2 := by
  obtain ⟨n, h1, h2, h3, h4⟩ := h
  rw [f_X7_clear, f_X8_clear, rg_size, Option.bind_some, rg_empty, Option.bind_some]
  refine ⟨_, _, rfl, rfl, ?_, 0, by omega, rfl, rfl, fun j hj => absurd hj (Nat.not_lt_zero _)⟩
  dsimp only
  rw [h2, h3]
/-- words that were seen -/
def sn_is (W m : Nat) (S : Nat → Nat) (B : Nat → Bool) (r2 r3 : hm_SR) (a12 a13 : Nat → Int32) (z6 : Int32) : Prop := m ≤ 6 ∧ r2.1 = nI m ∧ r3.1 = nI m ∧ z6 = nI m ∧ ∀ j, j < m → r2.2 j = nI (S j) ∧ a12 j = nI (S j) ∧ S j < W ∧ r3.2 j = bi (B j) ∧ a13 j = bi (B j)
theorem two_sees {w1 r2 r3 : hm_SR} {a12 a13 : Nat → Int32} {z6 : Int32} {W m : Nat} (hW : W ≤ 30) (hw1 : w1.1 = nI W) {S : Nat → Nat} {B : Nat → Bool} (h : sn_is W m S B r2 r3 a12 a13 z6) (x x1 : Int32) : ∃ (q : Int32 × hm_SR × hm_SR) (q9 : Int32 × (Nat → Int32) × (Nat → Int32) × Int32), f_X7_sees r2 r3 w1 x x1 = some q ∧ f_X8_sees a12 a13 (nI W) z6 x x1 = some q9 ∧ q.1 = q9.1 ∧ ∃ m' S' B', sn_is W m' S' B' q.2.1 q.2.2 q9.2.1 q9.2.2.1 q9.2.2.2 := by
  have h' := h
  obtain ⟨h1, h2, h3, h4, h5⟩ := h
  rw [f_X7_sees, f_X8_sees, f_X8_isWord]
  rcases in_cases x (n := W) (by omega) with ⟨k, k1, k2, k3, k4, k5⟩ | ⟨k1, k5⟩
  · rw [if_neg k3, f_X3_wordCount, rg_size, Option.bind_some, Option.bind_some, hw1, if_neg k4, k5, Option.bind_some, bl_1, Option.bind_some, Option.bind_some, if_neg n10]
    rcases in_cases x1 (n := 2) (by omega) with ⟨i, i1, i2, i3, i4, i5⟩ | ⟨i1, i5⟩
    · have i5' : f_X8_in x1 0 1 = some 1 := i5
      rw [if_neg i3, if_pos (show x1 ≤ 1 by rw [i2, nl_1, nI_lei (by omega) (by omega)]; omega), i5', Option.bind_some, if_neg n10, rg_size, Option.bind_some, h2, h4]
      by_cases hm : m = 6
      · rw [if_neg (show ¬ nI m < 6 by rw [nl_6, nI_lti (by omega) (by omega)]; omega), if_pos (show nI m = 6 by rw [hm]; rfl)]
        rw [h4] at h'
        exact ⟨_, _, rfl, rfl, rfl, m, S, B, h'⟩
      · rw [if_pos (show nI m < 6 by rw [nl_6, nI_lti (by omega) (by omega)]; omega), if_neg (show ¬ nI m = 6 by rw [nl_6, nI_eqi (by omega) (by omega)]; omega), rg_add h2 (by omega) (by omega), Option.bind_some, rg_add h3 (by omega) (by omega), Option.bind_some, rg_size, Option.bind_some, wr_in (by omega) (by omega), Option.bind_some, wr_in (by omega) (by omega), Option.bind_some, nI_1]
        refine ⟨_, _, rfl, rfl, rfl, m + 1, (fun j => if j = m then k else S j), (fun j => if j = m then decide (i = 1) else B j), by omega, rfl, rfl, rfl, fun j hj => ?_⟩
        dsimp only
        by_cases e : j = m
        · rw [if_pos e, if_pos e, e, ud_s, ud_s, ud_s, ud_s]
          have hb : x1 = bi (decide (i = 1)) := by
            rw [i2]
            rcases (show i = 0 ∨ i = 1 by omega) with e | e
            · rw [e]; rfl
            · rw [e]; rfl
          exact ⟨k2, k2, k1, hb, hb⟩
        · rw [if_neg e, if_neg e, ud_n e, ud_n e, ud_n e, ud_n e]; exact h5 j (by omega)
    · have i5' : f_X8_in x1 0 1 = some 0 := i5
      rw [i5', Option.bind_some, if_pos n00]
      rcases i1 with i1 | ⟨i1, i2⟩
      · rw [if_pos i1]; exact ⟨_, _, rfl, rfl, rfl, m, S, B, h'⟩
      · rw [if_neg i1, if_neg (show ¬ x1 ≤ 1 from fun hh => by
          have a1 := Int32.le_iff_toInt_le.1 hh
          have a2 := Int32.le_iff_toInt_le.1 i2
          rw [nI_toInt (by omega)] at a2
          have a3 : (1 : Int32).toInt = 1 := rfl
          omega)]
        exact ⟨_, _, rfl, rfl, rfl, m, S, B, h'⟩
  · rw [k5, Option.bind_some, bl_0, Option.bind_some, Option.bind_some, if_pos n00]
    rcases k1 with k1 | ⟨k1, k2⟩
    · rw [if_pos k1]; exact ⟨_, _, rfl, rfl, rfl, m, S, B, h'⟩
    · rw [if_neg k1, f_X3_wordCount, rg_size, Option.bind_some, Option.bind_some, hw1, if_pos k2]
      exact ⟨_, _, rfl, rfl, rfl, m, S, B, h'⟩
theorem two_forget {r2 r3 : hm_SR} {a12 a13 : Nat → Int32} {z6 : Int32} {W m : Nat} {S : Nat → Nat} {B : Nat → Bool} (h : sn_is W m S B r2 r3 a12 a13 z6) : ∃ (q : Int32 × hm_SR × hm_SR) (q9 : Int32 × Int32), f_X7_forget r2 r3 = some q ∧ f_X8_forget z6 = some q9 ∧ q.1 = q9.1 ∧ ∃ m' S' B', sn_is W m' S' B' q.2.1 q.2.2 a12 a13 q9.2 := by
  obtain ⟨h1, h2, h3, h4, h5⟩ := h
  rw [f_X7_forget, f_X8_forget, rg_size, Option.bind_some, rg_empty, Option.bind_some, rg_empty, Option.bind_some]
  refine ⟨_, _, rfl, rfl, ?_, 0, S, B, by omega, rfl, rfl, rfl, fun j hj => absurd hj (Nat.not_lt_zero _)⟩
  dsimp only
  rw [h2, h4]
end SML
