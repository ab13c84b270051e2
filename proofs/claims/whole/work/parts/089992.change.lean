/-! pure: wide, hangs, sets -/
theorem in_no {x a b : Int32} (h : x < a ∨ ¬ x ≤ b) : f_X8_in x a b = some 0 := by
  rw [md_in, if_neg]
  rintro ⟨h1, h2⟩
  rcases h with h | h
  · exact absurd h (Int32.not_lt.mpr h1)
  · exact h h2
theorem in_yes {x a b : Int32} (h1 : ¬ x < a) (h2 : x ≤ b) : f_X8_in x a b = some 1 := by
  rw [md_in, if_pos ⟨i_le h1, h2⟩]
def sx_is (v : Nat → Nat) (Z0 Z1 : Int32) (f' : Nat → Int32) (r0' r1' : hm_SR) (y0 y1 : Int32) (A7 A8 : Nat → Int32) (z4 : Int32) : Prop := ∃ v' : Nat → Nat, sv_ok v' ∧ sv_at f' v' ∧ sv_at A7 v' ∧ ud_is r0' r1' z4 A8 v' ∧ ((v' = v ∧ y0 = Z0 ∧ y1 = Z1) ∨ (y0 = 1 ∧ (y1 = 1 ∨ (y1 = Z1 ∧ sv_same v v'))))
section CHG
variable {r0 r1 : hm_SR} {u : Int32} {past f A : Nat → Int32} {v : Nat → Nat}
theorem sx_none (hU : ud_is r0 r1 u past v) (hv : sv_ok v) (hf : sv_at f v) (hA : sv_at A v) (Z0 Z1 : Int32) : sx_is v Z0 Z1 f r0 r1 Z0 Z1 A past u := ⟨v, hv, hf, hA, hU, Or.inl ⟨rfl, rfl, rfl⟩⟩
theorem sx_change (hU : ud_is r0 r1 u past v) (hv : sv_ok v) (hf : sv_at f v) (hA : sv_at A v) (Z0 Z1 : Int32) {k x : Nat} (hm : sv_may k x) : ∃ (q : Int32 × (Nat → Int32) × hm_SR × hm_SR × Int32 × Int32) (q9 : Int32 × (Nat → Int32) × (Nat → Int32) × Int32), f_X7_change Z0 Z1 r0 r1 f (nI k) (nI x) = some q ∧ f_X8_becomes A past u (nI k) (nI x) = some q9 ∧ q.1 = q9.1 ∧ sx_is v Z0 Z1 q.2.1 q.2.2.1 q.2.2.2.1 q.2.2.2.2.1 q.2.2.2.2.2 q9.2.1 q9.2.2.1 q9.2.2.2 := by
  rcases ch_both (Z0 := Z0) (Z1 := Z1) hU hv hf hA hm with ⟨-, e1, e2⟩ | ⟨r0', r1', past', u', e1, e2, e3⟩
  · exact ⟨_, _, e1, e2, rfl, sx_none hU hv hf hA Z0 Z1⟩
  · refine ⟨_, _, e1, e2, rfl, sv_up v k x, sv_up_ok hv hm, sv_up_at hf, sv_up_at hA, e3, Or.inr ⟨rfl, ?_⟩⟩
    by_cases h35 : k = 35
    · right
      refine ⟨if_pos h35, fun j hj hne => ?_⟩
      unfold sv_up
      rw [if_neg (by omega)]
    · left
      exact if_neg h35
theorem two_wide (hU : ud_is r0 r1 u past v) (hv : sv_ok v) (hf : sv_at f v) (hA : sv_at A v) (Z0 Z1 x x1 : Int32) : ∃ (q : Int32 × (Nat → Int32) × hm_SR × hm_SR × Int32 × Int32) (q9 : Int32 × (Nat → Int32) × (Nat → Int32) × Int32), f_X7_wide Z0 Z1 r0 r1 f x x1 = some q ∧ f_X8_wide A past u x x1 = some q9 ∧ q.1 = q9.1 ∧ sx_is v Z0 Z1 q.2.1 q.2.2.1 q.2.2.2.1 q.2.2.2.2.1 q.2.2.2.2.2 q9.2.1 q9.2.2.1 q9.2.2.2 := by
  have hno := sx_none hU hv hf hA Z0 Z1
  rw [f_X7_wide, f_X8_wide, cl_wslot, md_whole, Option.bind_some, Option.bind_some]
  cases hs : sg_slot x with
  | none => exact ⟨_, _, if_pos (by decide), if_pos (by rfl), rfl, hno⟩
  | some k =>
    have hk := sg_slot_lt hs
    dsimp only
    rw [if_neg (nI_pos (by omega)), if_neg (show ¬ (if (some k).isSome = true then (1 : Int32) else 0) = 0 from n10)]
    by_cases h0 : x1 < 0
    · rw [if_pos h0, in_no (Or.inl h0), Option.bind_some]
      exact ⟨_, _, rfl, if_pos n00, rfl, hno⟩
    · rw [if_neg h0]
      by_cases h9 : x1 ≤ 9
      · rw [if_pos h9, in_yes h0 h9, Option.bind_some, if_neg n10, md_wof hs, Option.bind_some]
        obtain ⟨n, rfl, -, hn⟩ := in_nat (a := 0) (b := 9) (by omega) (by omega) ⟨i_le h0, h9⟩
        obtain ⟨q, q9, e1, e2, e3, e4⟩ := sx_change hU hv hf hA Z0 Z1 (k := k) (x := n) ⟨by omega, fun _ => hn, fun _ => by omega, fun h => by omega, fun h => by omega, by omega⟩
        rw [e1, e2, Option.bind_some, Option.bind_some]
        exact ⟨_, _, rfl, rfl, e3, e4⟩
      · rw [if_neg h9, in_no (Or.inr h9), Option.bind_some]
        exact ⟨_, _, rfl, if_pos n00, rfl, hno⟩
theorem two_hangs (hU : ud_is r0 r1 u past v) (hv : sv_ok v) (hf : sv_at f v) (hA : sv_at A v) (Z0 Z1 x x1 : Int32) : ∃ (q : Int32 × (Nat → Int32) × hm_SR × hm_SR × Int32 × Int32) (q9 : Int32 × (Nat → Int32) × (Nat → Int32) × Int32), f_X7_hangs Z0 Z1 r0 r1 f x x1 = some q ∧ f_X8_hangs A past u x x1 = some q9 ∧ q.1 = q9.1 ∧ sx_is v Z0 Z1 q.2.1 q.2.2.1 q.2.2.2.1 q.2.2.2.2.1 q.2.2.2.2.2 q9.2.1 q9.2.2.1 q9.2.2.2 := by
  have hno := sx_none hU hv hf hA Z0 Z1
  rw [f_X7_hangs, f_X8_hangs, cl_hslot, md_mark, Option.bind_some, Option.bind_some]
  cases hs : sg_mark x with
  | none => exact ⟨_, _, if_pos (by decide), if_pos (by rfl), rfl, hno⟩
  | some m =>
    have hk := sg_mark_lt hs
    dsimp only
    have hn9 : ¬ nI m = -9 := by
      rw [zI_nat, zl_9, zI_neg, zI_eq (by omega) (by omega) (by omega) (by omega)]; omega
    rw [if_neg (nI_pos (by omega)), if_neg hn9]
    by_cases h0 : x1 < 0
    · rw [if_pos h0, in_no (Or.inl h0), Option.bind_some]
      exact ⟨_, _, rfl, if_pos n00, rfl, hno⟩
    · rw [if_neg h0]
      by_cases h9 : x1 ≤ 10
      · rw [if_pos h9, in_yes h0 h9, Option.bind_some, if_neg n10, Option.bind_some]
        obtain ⟨n, rfl, -, hn⟩ := in_nat (a := 0) (b := 10) (by omega) (by omega) ⟨i_le h0, h9⟩
        obtain ⟨q, q9, e1, e2, e3, e4⟩ := sx_change hU hv hf hA Z0 Z1 (k := 30 + m) (x := n) ⟨by omega, fun h => by omega, fun _ => by omega, fun h => by omega, fun h => by omega, by omega⟩
        rw [show (30 : Int32) + nI m = nI (30 + m) by rw [nl_30, nI_add], e1, e2, Option.bind_some, Option.bind_some]
        exact ⟨_, _, rfl, rfl, e3, e4⟩
      · rw [if_neg h9, in_no (Or.inr h9), Option.bind_some]
        exact ⟨_, _, rfl, if_pos n00, rfl, hno⟩
/-- one of the four that can be set -/
theorem sets_at (hU : ud_is r0 r1 u past v) (hv : sv_ok v) (hf : sv_at f v) (hA : sv_at A v) (Z0 Z1 x1 : Int32) {k lo hi : Nat} (hk : k < 4) (h0 : hm_sx0 k = nI lo) (h1 : hm_sx1 k = nI hi) (hl : lo ≤ hi) (hh : hi ≤ 999) (hmay : ∀ n, lo ≤ n → n ≤ hi → sv_may (34 + k) n) : (∃ (q : Int32 × (Nat → Int32) × hm_SR × hm_SR × Int32 × Int32) (q9 : Int32 × (Nat → Int32) × (Nat → Int32) × Int32), f_X7_sets Z0 Z1 r0 r1 f (nI k) x1 = some q ∧ f_X8_in x1 (nI lo) (nI hi) = some 1 ∧ f_X8_becomes A past u (34 + nI k) x1 = some q9 ∧ q.1 = q9.1 ∧ sx_is v Z0 Z1 q.2.1 q.2.2.1 q.2.2.2.1 q.2.2.2.2.1 q.2.2.2.2.2 q9.2.1 q9.2.2.1 q9.2.2.2) ∨ (f_X7_sets Z0 Z1 r0 r1 f (nI k) x1 = some (-1, f, r0, r1, Z0, Z1) ∧ f_X8_in x1 (nI lo) (nI hi) = some 0) := by
  rw [f_X7_sets, if_neg (nI_pos (by omega)), if_neg (show ¬ (4 : Int32) ≤ nI k by rw [nl_4, nI_lei (by omega) (by omega)]; omega), if_pos (show nI k < (4 : Int32) by rw [nl_4, nI_lti (by omega) (by omega)]; omega), rd_in hk (by omega), Option.bind_some, h0]
  by_cases a : x1 < nI lo
  · right
    exact ⟨if_pos a, in_no (Or.inl a)⟩
  · rw [if_neg a, rd_in hk (by omega), Option.bind_some, h1]
    by_cases b : x1 ≤ nI hi
    · left
      obtain ⟨n, rfl, hn1, hn2⟩ := in_nat (a := lo) (b := hi) (by omega) (by omega) ⟨i_le a, b⟩
      obtain ⟨q, q9, e1, e2, e3, e4⟩ := sx_change hU hv hf hA Z0 Z1 (hmay n hn1 hn2)
      rw [show (34 : Int32) + nI k = nI (34 + k) by rw [nl_34, nI_add], if_pos b, e1, Option.bind_some]
      exact ⟨_, _, rfl, in_yes a b, e2, e3, e4⟩
    · right
      exact ⟨if_neg b, in_no (Or.inr b)⟩
theorem two_sets (hU : ud_is r0 r1 u past v) (hv : sv_ok v) (hf : sv_at f v) (hA : sv_at A v) (Z0 Z1 x x1 : Int32) : ∃ (q : Int32 × (Nat → Int32) × hm_SR × hm_SR × Int32 × Int32) (q9 : Int32 × (Nat → Int32) × (Nat → Int32) × Int32), f_X7_sets Z0 Z1 r0 r1 f x x1 = some q ∧ f_X8_sets A past u x x1 = some q9 ∧ q.1 = q9.1 ∧ sx_is v Z0 Z1 q.2.1 q.2.2.1 q.2.2.2.1 q.2.2.2.2.1 q.2.2.2.2.2 q9.2.1 q9.2.2.1 q9.2.2.2 := by
  have hno := sx_none hU hv hf hA Z0 Z1
  by_cases h0 : x < 0
  · have e1 : f_X8_sets A past u x x1 = some (-1, A, past, u) := by
      rw [f_X8_sets, if_neg (fun e => by rw [e] at h0; exact absurd h0 (by decide)), if_neg (fun e => by rw [e] at h0; exact absurd h0 (by decide)), in_no, Option.bind_some, if_pos n00, f_X8_sets_l55, f_X8_sets_l56, if_pos n00]
      left
      have := Int32.lt_iff_toInt_lt.mp h0
      rw [Int32.lt_iff_toInt_lt, show (2 : Int32).toInt = 2 from rfl]
      rw [show (0 : Int32).toInt = 0 from rfl] at this
      omega
    rw [f_X7_sets, if_pos h0, e1]
    exact ⟨_, _, rfl, rfl, rfl, hno⟩
  · by_cases h4 : (4 : Int32) ≤ x
    · have h4' := Int32.le_iff_toInt_le.mp h4
      rw [show (4 : Int32).toInt = 4 from rfl] at h4'
      have e1 : f_X8_sets A past u x x1 = some (-1, A, past, u) := by
        rw [f_X8_sets, if_neg (fun e => by rw [e] at h4; exact absurd h4 (by decide)), if_neg (fun e => by rw [e] at h4; exact absurd h4 (by decide)), in_no, Option.bind_some, if_pos n00, f_X8_sets_l55, f_X8_sets_l56, if_pos n00]
        right
        rw [Int32.le_iff_toInt_le, show (3 : Int32).toInt = 3 from rfl]
        omega
      rw [f_X7_sets, if_neg h0, if_pos h4, e1]
      exact ⟨_, _, rfl, rfl, rfl, hno⟩
    · obtain ⟨k, rfl, hk⟩ := to_nat (x := x) (n := 4) (by omega) h0 (Int32.not_le.mp h4)
      rcases (show k = 0 ∨ k = 1 ∨ k = 2 ∨ k = 3 by omega) with rfl | rfl | rfl | rfl
      · rw [f_X8_sets, if_pos (show nI 0 = 0 from rfl)]
        rcases sets_at hU hv hf hA Z0 Z1 x1 (k := 0) (lo := 1) (hi := 9) (by omega) rfl rfl (by omega) (by omega) (fun n a b => ⟨by omega, fun h => by omega, fun h => by omega, fun _ => ⟨a, b⟩, fun h => by omega, by omega⟩) with ⟨q, q9, e1, e2, e3, e4, e5⟩ | ⟨e1, e2⟩
        · rw [show f_X8_in x1 1 9 = some 1 from e2, Option.bind_some, f_X8_sets_l56, if_neg n10, e1, e3, Option.bind_some]
          exact ⟨_, _, rfl, rfl, e4, e5⟩
        · rw [show f_X8_in x1 1 9 = some 0 from e2, Option.bind_some, f_X8_sets_l56, if_pos n00, e1]
          exact ⟨_, _, rfl, rfl, rfl, hno⟩
      · rw [f_X8_sets, if_neg (show ¬ nI 1 = 0 from n10), if_pos (show nI 1 = 1 from rfl)]
        rcases sets_at hU hv hf hA Z0 Z1 x1 (k := 1) (lo := 10) (hi := 200) (by omega) rfl rfl (by omega) (by omega) (fun n a b => ⟨by omega, fun h => by omega, fun h => by omega, fun h => by omega, fun _ => ⟨a, b⟩, by omega⟩) with ⟨q, q9, e1, e2, e3, e4, e5⟩ | ⟨e1, e2⟩
        · rw [show f_X8_in x1 10 200 = some 1 from e2, Option.bind_some, f_X8_sets_l56, if_neg n10, e1, e3, Option.bind_some]
          exact ⟨_, _, rfl, rfl, e4, e5⟩
        · rw [show f_X8_in x1 10 200 = some 0 from e2, Option.bind_some, f_X8_sets_l56, if_pos n00, e1]
          exact ⟨_, _, rfl, rfl, rfl, hno⟩
      · rw [f_X8_sets, if_neg (show ¬ nI 2 = 0 by decide), if_neg (show ¬ nI 2 = 1 by decide), show f_X8_in (nI 2) 2 3 = some 1 from in_yes (by decide) (by decide), Option.bind_some, if_neg n10]
        rcases sets_at hU hv hf hA Z0 Z1 x1 (k := 2) (lo := 0) (hi := 999) (by omega) rfl rfl (by omega) (by omega) (fun n a b => ⟨by omega, fun h => by omega, fun h => by omega, fun h => by omega, fun h => by omega, by omega⟩) with ⟨q, q9, e1, e2, e3, e4, e5⟩ | ⟨e1, e2⟩
        · rw [show f_X8_in x1 0 999 = some 1 from e2, Option.bind_some, if_neg n10, f_X8_sets_l56, if_neg n10, e1, e3, Option.bind_some]
          exact ⟨_, _, rfl, rfl, e4, e5⟩
        · rw [show f_X8_in x1 0 999 = some 0 from e2, Option.bind_some, if_pos n00, f_X8_sets_l55, f_X8_sets_l56, if_pos n00, e1]
          exact ⟨_, _, rfl, rfl, rfl, hno⟩
      · rw [f_X8_sets, if_neg (show ¬ nI 3 = 0 by decide), if_neg (show ¬ nI 3 = 1 by decide), show f_X8_in (nI 3) 2 3 = some 1 from in_yes (by decide) (by decide), Option.bind_some, if_neg n10]
        rcases sets_at hU hv hf hA Z0 Z1 x1 (k := 3) (lo := 0) (hi := 999) (by omega) rfl rfl (by omega) (by omega) (fun n a b => ⟨by omega, fun h => by omega, fun h => by omega, fun h => by omega, fun h => by omega, by omega⟩) with ⟨q, q9, e1, e2, e3, e4, e5⟩ | ⟨e1, e2⟩
        · rw [show f_X8_in x1 0 999 = some 1 from e2, Option.bind_some, if_neg n10, f_X8_sets_l56, if_neg n10, e1, e3, Option.bind_some]
          exact ⟨_, _, rfl, rfl, e4, e5⟩
        · rw [show f_X8_in x1 0 999 = some 0 from e2, Option.bind_some, if_pos n00, f_X8_sets_l55, f_X8_sets_l56, if_pos n00, e1]
          exact ⟨_, _, rfl, rfl, rfl, hno⟩
end CHG
