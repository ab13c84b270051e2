def sg_slot (x : Int32) : Option Nat := if 97 ≤ x ∧ x ≤ 122 then some (x.toInt - 97).toNat else (sg_mark x).map (fun m => 26 + m)
theorem sg_letter {x : Int32} (h : 97 ≤ x ∧ x ≤ 122) : ∃ c : Nat, c < 26 ∧ x = nI (97 + c) ∧ (x.toInt - 97).toNat = c ∧ x - 97 = nI c := by
  have h1 := Int32.le_iff_toInt_le.mp h.1
  have h2 := Int32.le_iff_toInt_le.mp h.2
  rw [show (97 : Int32).toInt = 97 from rfl] at h1
  rw [show (122 : Int32).toInt = 122 from rfl] at h2
  obtain ⟨z, z1, z2, rfl⟩ := zI_of x
  rw [zI_to z1 z2] at h1 h2 ⊢
  refine ⟨(z - 97).toNat, by omega, ?_, rfl, ?_⟩
  · rw [zI_N (by omega)]; congr 1; omega
  · rw [zl_97, zI_sub, zI_N (by omega)]
theorem sg_slot_lt {x : Int32} {k : Nat} (h : sg_slot x = some k) : k < 30 := by
  unfold sg_slot at h
  split at h
  · obtain ⟨c, h1, -, h3, -⟩ := sg_letter (by assumption)
    rw [h3] at h
    cases h
    omega
  · cases hm : sg_mark x with
    | none => rw [hm] at h; cases h
    | some m =>
      rw [hm] at h
      have := sg_mark_lt hm
      cases h
      show 26 + m < 30
      omega
theorem sg_mark_not {x : Int32} (h : 97 ≤ x ∧ x ≤ 122) : sg_mark x = none := by
  obtain ⟨c, h1, rfl, -, -⟩ := sg_letter h
  unfold sg_mark
  rw [nl_46, nl_44, nl_45, nl_39, if_neg, if_neg, if_neg, if_neg] <;> (rw [nI_eqi (by omega) (by omega)]; omega)
theorem sg_case {x : Int32} : (97 ≤ x ∧ x ≤ 122 ∧ ¬ x < 97 ∧ ¬ 122 < x) ∨ ((x < 97 ∨ (¬ x < 97 ∧ 122 < x)) ∧ ¬ (97 ≤ x ∧ x ≤ 122)) := by
  by_cases h1 : x < 97
  · exact Or.inr ⟨Or.inl h1, fun h => absurd h1 (Int32.not_lt.mpr h.1)⟩
  · by_cases h2 : 122 < x
    · exact Or.inr ⟨Or.inr ⟨h1, h2⟩, fun h => absurd h2 (Int32.not_lt.mpr h.2)⟩
    · exact Or.inl ⟨Int32.not_lt.mp h1, Int32.not_lt.mp h2, h1, h2⟩
theorem cl_wslot (x : Int32) : f_X7_widthSlot x = some (match sg_slot x with | some k => nI k | none => -1) := by
  unfold f_X7_widthSlot f_X7_isLetter sg_slot
  rcases sg_case (x := x) with ⟨a, b, c, d⟩ | ⟨a, b⟩
  · rw [if_neg c, if_neg d, Option.bind_some, if_neg (by decide), if_pos ⟨a, b⟩]
    obtain ⟨k, h1, h2, h3, h4⟩ := sg_letter ⟨a, b⟩
    rw [h4, h3]
  · have hz : (if x < 97 then some (0 : Int32) else if (122 : Int32) < x then some 0 else some 1) = some 0 := by
      rcases a with a | ⟨a, c⟩
      · rw [if_pos a]
      · rw [if_neg a, if_pos c]
    rw [hz, Option.bind_some, if_pos rfl, cl_mark, Option.bind_some, if_neg b]
    cases hm : sg_mark x with
    | none => rfl
    | some m =>
      have := sg_mark_lt hm
      dsimp only [Option.map]
      rw [if_pos (nI_pos' (by omega)), nl_26, nI_add]
theorem cl_plain (x : Int32) : f_X7_isPlainSign x = some (if (sg_slot x).isSome = true then 1 else 0) := by
  rw [f_X7_isPlainSign, cl_wslot, Option.bind_some]
  cases hs : sg_slot x with
  | none => rfl
  | some k =>
    have := sg_slot_lt hs
    dsimp only
    rw [if_neg (nI_pos (by omega))]
    rfl
theorem md_in (x a b : Int32) : f_X8_in x a b = some (if a ≤ x ∧ x ≤ b then 1 else 0) := by
  unfold f_X8_in
  by_cases h1 : x < a
  · rw [if_pos h1, if_neg (fun h => absurd h1 (Int32.not_lt.mpr h.1))]
  · rw [if_neg h1]
    by_cases h2 : b < x
    · rw [if_pos h2, if_neg (fun h => absurd h2 (Int32.not_lt.mpr h.2))]
    · rw [if_neg h2, if_pos ⟨Int32.not_lt.mp h1, Int32.not_lt.mp h2⟩]
theorem md_whole (x : Int32) : f_X8_isWhole x = some (if (sg_slot x).isSome = true then 1 else 0) := by
  rw [f_X8_isWhole, md_in, Option.bind_some]
  unfold sg_slot f_X8_isWhole_l20
  by_cases h : 97 ≤ x ∧ x ≤ 122
  · rw [if_pos h, if_neg (by decide), if_pos h]
    rfl
  · rw [if_neg h, if_pos rfl, md_mark, Option.bind_some, if_neg h]
    cases hm : sg_mark x with
    | none => rfl
    | some m =>
      have := sg_mark_lt hm
      dsimp only [Option.map]
      rw [if_neg]
      · rfl
      · rw [zI_nat, zl_9, zI_neg, zI_eq (by omega) (by omega) (by omega) (by omega)]; omega
theorem md_wof {x : Int32} {k : Nat} (h : sg_slot x = some k) : f_X8_widthOf x = some (nI k) := by
  rw [f_X8_widthOf, md_in, Option.bind_some]
  unfold sg_slot at h
  by_cases hl : 97 ≤ x ∧ x ≤ 122
  · rw [if_pos hl] at h
    obtain ⟨c, h1, h2, h3, h4⟩ := sg_letter hl
    rw [h3] at h
    cases h
    rw [if_pos hl, if_neg (by decide), h4]
  · rw [if_neg hl] at h
    rw [if_neg hl, if_pos rfl, md_mark, Option.bind_some]
    cases hm : sg_mark x with
    | none => rw [hm] at h; cases h
    | some m =>
      rw [hm] at h
      cases h
      dsimp only
      rw [nl_26, nI_add]
theorem cl_hslot (x : Int32) : f_X7_hangSlot x = some (match sg_mark x with | some m => nI (30 + m) | none => -1) := by
  rw [f_X7_hangSlot, cl_mark, Option.bind_some]
  cases hm : sg_mark x with
  | none => rfl
  | some m =>
    have := sg_mark_lt hm
    dsimp only
    rw [if_pos (nI_pos' (by omega)), nl_30, nI_add]
/-- a change of a slot, on both sides -/
theorem ch_both {r0 r1 : hm_SR} {u Z0 Z1 : Int32} {past f A : Nat → Int32} {v : Nat → Nat} {k x : Nat} (hU : ud_is r0 r1 u past v) (hv : sv_ok v) (hf : sv_at f v) (hA : sv_at A v) (hm : sv_may k x) :
    (v k = x ∧ f_X7_change Z0 Z1 r0 r1 f (nI k) (nI x) = some (-2, f, r0, r1, Z0, Z1) ∧ f_X8_becomes A past u (nI k) (nI x) = some (-2, A, past, u)) ∨
    (∃ (r0' r1' : hm_SR) (past' : Nat → Int32) (u' : Int32), f_X7_change Z0 Z1 r0 r1 f (nI k) (nI x) = some (nI (v k), upd f k (nI x), r0', r1', 1, if k = 35 then Z1 else 1) ∧ f_X8_becomes A past u (nI k) (nI x) = some (nI (v k), upd A k (nI x), past', u') ∧ ud_is r0' r1' u' past' (sv_up v k x)) := by
  have hk := hm.1
  have hx := hm.2.2.2.2.2
  have hvk := sv_le hv hk
  rw [f_X7_change, f_X8_becomes, se_get hk, rd_in hk (by omega), Option.bind_some, Option.bind_some, hf k hk, hA k hk]
  by_cases e : v k = x
  · left
    rw [if_pos (by rw [e]), if_pos (by rw [e])]
    exact ⟨e, rfl, rfl⟩
  · right
    have hne : ¬ nI (v k) = nI x := by rw [nI_eqi (by omega) (by omega)]; exact e
    rw [if_neg hne, if_neg hne]
    obtain ⟨r0', r1', past', u', e1, e2, e3⟩ := ud_step (x := x) hU hv hf hA hk
    refine ⟨r0', r1', past', u', ?_, ?_, e3⟩
    · rw [e1, Option.bind_some, f_X7_markStale]
      by_cases h35 : k = 35
      · rw [if_pos (by rw [h35]; rfl), if_pos h35]
        rfl
      · rw [if_neg (by rw [nl_35, nI_eqi (by omega) (by omega)]; exact h35), if_neg h35]
        rfl
    · rw [e2, Option.bind_some, wr_in hk (by omega)]
      rfl
/-- an argument that is between two numbers -/
theorem in_nat {x : Int32} {a b : Nat} (ha : a < 2147483648) (hb : b < 2147483648) (h : nI a ≤ x ∧ x ≤ nI b) : ∃ n : Nat, x = nI n ∧ a ≤ n ∧ n ≤ b := by
  have h1 := Int32.le_iff_toInt_le.mp h.1
  have h2 := Int32.le_iff_toInt_le.mp h.2
  rw [nI_toInt (by omega)] at h1 h2
  obtain ⟨z, z1, z2, rfl⟩ := zI_of x
  rw [zI_to z1 z2] at h1 h2
  exact ⟨z.toNat, zI_N (by omega), by omega, by omega⟩
