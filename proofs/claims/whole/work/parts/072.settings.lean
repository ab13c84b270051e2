/-! pure: settings, what can be undone, images -/
def sv_ok (v : Nat → Nat) : Prop := (∀ k, k < 30 → v k ≤ 9) ∧ (∀ k, k < 34 → v k ≤ 10) ∧ 1 ≤ v 34 ∧ v 34 ≤ 9 ∧ 10 ≤ v 35 ∧ v 35 ≤ 200 ∧ v 36 ≤ 999 ∧ v 37 ≤ 999
def sv_at (f : Nat → Int32) (v : Nat → Nat) : Prop := ∀ k, k < 38 → f k = nI (v k)
theorem sv_le {v : Nat → Nat} (h : sv_ok v) {k : Nat} (hk : k < 38) : v k ≤ 999 := by
  obtain ⟨h1, h2, h3, h4, h5, h6, h7, h8⟩ := h
  by_cases a : k < 34
  · have := h2 k a; omega
  · rcases (show k = 34 ∨ k = 35 ∨ k = 36 ∨ k = 37 by omega) with rfl | rfl | rfl | rfl <;> omega
theorem sv_congr {v w : Nat → Nat} (h : sv_ok v) (e : ∀ k, k < 38 → w k = v k) : sv_ok w := by
  obtain ⟨h1, h2, h3, h4, h5, h6, h7, h8⟩ := h
  refine ⟨fun k hk => ?_, fun k hk => ?_, ?_, ?_, ?_, ?_, ?_, ?_⟩
  · rw [e k (by omega)]; exact h1 k hk
  · rw [e k (by omega)]; exact h2 k hk
  · rw [e 34 (by omega)]; exact h3
  · rw [e 34 (by omega)]; exact h4
  · rw [e 35 (by omega)]; exact h5
  · rw [e 35 (by omega)]; exact h6
  · rw [e 36 (by omega)]; exact h7
  · rw [e 37 (by omega)]; exact h8
/-- a value that a slot may have -/
def sv_may (k x : Nat) : Prop := k < 38 ∧ (k < 30 → x ≤ 9) ∧ (k < 34 → x ≤ 10) ∧ (k = 34 → 1 ≤ x ∧ x ≤ 9) ∧ (k = 35 → 10 ≤ x ∧ x ≤ 200) ∧ x ≤ 999
def sv_up (v : Nat → Nat) (k x : Nat) : Nat → Nat := fun j => if j = k then x else v j
theorem sv_up_ok {v : Nat → Nat} {k x : Nat} (h : sv_ok v) (hm : sv_may k x) : sv_ok (sv_up v k x) := by
  obtain ⟨h1, h2, h3, h4, h5, h6, h7, h8⟩ := h
  obtain ⟨m1, m2, m3, m4, m5, m6⟩ := hm
  unfold sv_up
  refine ⟨fun j hj => ?_, fun j hj => ?_, ?_, ?_, ?_, ?_, ?_, ?_⟩
  · dsimp only; split
    · subst_vars; exact m2 hj
    · exact h1 j hj
  · dsimp only; split
    · subst_vars; exact m3 hj
    · exact h2 j hj
  all_goals (dsimp only; split <;> (try subst_vars) <;> omega)
theorem sv_up_at {f : Nat → Int32} {v : Nat → Nat} {k x : Nat} (h : sv_at f v) : sv_at (upd f k (nI x)) (sv_up v k x) := by
  intro j hj
  unfold upd sv_up
  split
  · rfl
  · exact h j hj
theorem se_get {f : Nat → Int32} {k : Nat} (h : k < 38) : f_X4_get f (nI k) = some (f k) := by
  rw [f_X4_get, if_neg (nI_pos (by omega)), if_neg, rd_in h (by omega)]
  · rfl
  · rw [nl_38, nI_lei (by omega) (by omega)]; omega
theorem se_store {f : Nat → Int32} {k : Nat} {x : Int32} (h : k < 38) : f_X4_store f (nI k) x = some (upd f k x) := by
  rw [f_X4_store, if_neg (nI_pos (by omega)), if_neg, wr_in h (by omega)]
  · rfl
  · rw [nl_38, nI_lei (by omega) (by omega)]; omega
/-- what can be undone: h i is how all was before the i-th change that is known -/
def ud_is (r0 r1 : hm_SR) (u : Int32) (past : Nat → Int32) (v : Nat → Nat) : Prop := ∃ (n : Nat) (sl : Nat → Nat) (h : Nat → Nat → Nat), n ≤ 10 ∧ r0.1 = nI n ∧ r1.1 = nI n ∧ u = nI n ∧ (∀ k, k < 38 → h n k = v k) ∧ ∀ i, i < n → sl i < 38 ∧ r0.2 i = nI (sl i) ∧ r1.2 i = nI (h i (sl i)) ∧ (∀ k, k < 38 → k ≠ sl i → h i k = h (i + 1) k) ∧ sv_ok (h i) ∧ ∀ k, k < 38 → past (38 * i + k) = nI (h i k)
theorem ud_none {r0 r1 : hm_SR} {past : Nat → Int32} {v : Nat → Nat} (h0 : r0.1 = 0) (h1 : r1.1 = 0) : ud_is r0 r1 0 past v := ⟨0, fun _ => 0, fun _ => v, by omega, h0, h1, rfl, fun _ _ => rfl, fun i hi => by omega⟩
/-- the model's note of all that is set -/
theorem md_copy {A : Nat → Int32} {u : Nat} (hu : u < 10) : ∀ (fuel k : Nat) (past : Nat → Int32), k ≤ 38 → 38 - k < fuel → ∃ past' : Nat → Int32, f_X8_notes_l51 A fuel (nI k) past (nI u) = some (past', nI (u + 1)) ∧ (∀ j, k ≤ j → j < 38 → past' (38 * u + j) = A j) ∧ ∀ j, (j < 38 * u + k ∨ 38 * u + 38 ≤ j) → past' j = past j := by
  intro fuel
  induction fuel with
  | zero => intro k past h1 h2; omega
  | succ fuel ih =>
    intro k past h1 h2
    rw [f_X8_notes_l51_s]
    by_cases hk : k = 38
    · rw [if_pos (by rw [nl_38, nI_lei (by omega) (by omega)]; omega), nI_1]
      exact ⟨past, rfl, fun j h3 h4 => by omega, fun j h3 => rfl⟩
    · rw [if_neg (by rw [nl_38, nI_lei (by omega) (by omega)]; omega), rd_in (by omega) (by omega), Option.bind_some, nl_38, pk_mul, nI_add, wr_in (by omega) (by omega), Option.bind_some, nI_1]
      obtain ⟨past', e1, e2, e3⟩ := ih (k + 1) (upd past (38 * u + k) (A k)) (by omega) (by omega)
      refine ⟨past', e1, fun j h3 h4 => ?_, fun j h3 => ?_⟩
      · by_cases hj : j = k
        · subst hj
          rw [e3 _ (by omega), ud_s]
        · exact e2 j (by omega) h4
      · rw [e3 j (by omega), ud_n (by omega)]
theorem md_shift {A : Nat → Int32} {Z : Int32} : ∀ (fuel k : Nat) (past : Nat → Int32), k ≤ 342 → 342 - k < fuel → ∃ past' : Nat → Int32, f_X8_notes_l11 A Z fuel (nI k) past = f_X8_notes_l49 A past' (Z - 1) ∧ (∀ j, k ≤ j → j < 342 → past' j = past (j + 38)) ∧ ∀ j, j < k → past' j = past j := by
  intro fuel
  induction fuel with
  | zero => intro k past h1 h2; omega
  | succ fuel ih =>
    intro k past h1 h2
    rw [f_X8_notes_l11_s]
    by_cases hk : k = 342
    · rw [if_pos (by rw [nl_342, nI_lei (by omega) (by omega)]; omega)]
      exact ⟨past, rfl, fun j h3 h4 => by omega, fun j _ => rfl⟩
    · rw [if_neg (by rw [nl_342, nI_lei (by omega) (by omega)]; omega), nl_38, nI_add, rd_in (by omega) (by omega), Option.bind_some, wr_in (by omega) (by omega), Option.bind_some, nI_1]
      obtain ⟨past', e1, e2, e3⟩ := ih (k + 1) (upd past k (past (k + 38))) (by omega) (by omega)
      refine ⟨past', e1, fun j h3 h4 => ?_, fun j h3 => ?_⟩
      · by_cases hj : j = k
        · rw [hj, e3 k (by omega), ud_s]
        · rw [e2 j (by omega) h4, ud_n (by omega)]
      · rw [e3 j (by omega), ud_n (by omega)]
/-- notes(): all that is set now is the last that is known; of eleven the first is lost -/
theorem md_notes {A past : Nat → Int32} {n : Nat} (hn : n ≤ 10) : ∃ (past' : Nat → Int32) (d : Nat), f_X8_notes A past (nI n) = some (past', nI (n + 1 - d)) ∧ (d = if n = 10 then 1 else 0) ∧ (∀ j, j < 38 → past' (38 * (n - d) + j) = A j) ∧ ∀ i j, i + d < n → j < 38 → past' (38 * i + j) = past (38 * (i + d) + j) := by
  by_cases h10 : n = 10
  · subst h10
    obtain ⟨p1, e1, e2, e3⟩ := md_shift (A := A) (Z := nI 10) hm_fu 0 past (by omega) (by unfold hm_fu; omega)
    obtain ⟨p2, g1, g2, g3⟩ := md_copy (A := A) (u := 9) (by omega) hm_fu 0 p1 (by omega) (by unfold hm_fu; omega)
    refine ⟨p2, 1, ?_, rfl, fun j hj => g2 j (by omega) hj, fun i j hi hj => ?_⟩
    · rw [f_X8_notes, if_pos (show nI 10 = 10 from rfl)]
      show f_X8_notes_l11 A (nI 10) hm_fu (nI 0) past = _
      rw [e1, f_X8_notes_l49]
      exact g1
    · rw [g3 _ (by omega), e2 _ (by omega) (by omega), show 38 * i + j + 38 = 38 * (i + 1) + j by omega]
  · obtain ⟨p2, g1, g2, g3⟩ := md_copy (A := A) (u := n) (by omega) hm_fu 0 past (by omega) (by unfold hm_fu; omega)
    refine ⟨p2, 0, ?_, by rw [if_neg h10], fun j hj => g2 j (by omega) hj, fun i j hi hj => ?_⟩
    · rw [f_X8_notes, if_neg (by rw [nl_10, nI_eqi (by omega) (by omega)]; exact h10), f_X8_notes_l49]
      exact g1
    · rw [g3 _ (by omega)]
      rfl
/-- the class's change of a slot: the same, in pairs -/
theorem se_change {r0 r1 : hm_SR} {f : Nat → Int32} {n k : Nat} {x : Int32} (h0 : r0.1 = nI n) (h1 : r1.1 = nI n) (hn : n ≤ 10) (hk : k < 38) : ∃ (r0' r1' : hm_SR) (d : Nat), f_X4_change r0 r1 f (nI k) x = some (upd f k x, r0', r1') ∧ (d = if n = 10 then 1 else 0) ∧ r0'.1 = nI (n + 1 - d) ∧ r1'.1 = nI (n + 1 - d) ∧ r0'.2 (n - d) = nI k ∧ r1'.2 (n - d) = f k ∧ ∀ i, i + d < n → r0'.2 i = r0.2 (i + d) ∧ r1'.2 i = r1.2 (i + d) := by
  have last : ∀ (w0 w1 : hm_SR) (u : Nat), w0.1 = nI u → w1.1 = nI u → u < 10 → f_X4_change_l26 f (nI k) x w0 w1 = some (upd f k x, (nI (u + 1), upd w0.2 u (nI k)), (nI (u + 1), upd w1.2 u (f k))) := by
    intro w0 w1 u e0 e1 hu
    rw [f_X4_change_l26, rg_add e0 hu (by omega), Option.bind_some, se_get hk, Option.bind_some, rg_add e1 hu (by omega), Option.bind_some, se_store hk]
    rfl
  by_cases h10 : n = 10
  · subst h10
    obtain ⟨w0, a1, a2, a3⟩ := rg_dropF (cap := 10) (n := 9) h0 (by omega) (by omega)
    obtain ⟨w1, b1, b2, b3⟩ := rg_dropF (cap := 10) (n := 9) h1 (by omega) (by omega)
    refine ⟨(nI 10, upd w0.2 9 (nI k)), (nI 10, upd w1.2 9 (f k)), 1, ?_, rfl, rfl, rfl, ?_, ?_, fun i hi => ?_⟩
    · rw [f_X4_change, rg_size, Option.bind_some, h0, if_neg (by rw [nl_10, nI_lti (by omega) (by omega)]; omega), a1, Option.bind_some, b1, Option.bind_some, last w0 w1 9 a2 b2 (by omega)]
    · show upd w0.2 9 (nI k) 9 = _
      exact ud_s
    · show upd w1.2 9 (f k) 9 = _
      exact ud_s
    · exact ⟨(ud_n (by omega)).trans (a3 i (by omega)), (ud_n (by omega)).trans (b3 i (by omega))⟩
  · refine ⟨(nI (n + 1), upd r0.2 n (nI k)), (nI (n + 1), upd r1.2 n (f k)), 0, ?_, by rw [if_neg h10], rfl, rfl, ?_, ?_, fun i hi => ?_⟩
    · rw [f_X4_change, rg_size, Option.bind_some, h0, if_pos (by rw [nl_10, nI_lti (by omega) (by omega)]; omega), last r0 r1 n h0 h1 (by omega)]
    · exact ud_s
    · exact ud_s
    · exact ⟨ud_n (by omega), ud_n (by omega)⟩
/-- both sides' change of a slot to another value keeps what can be undone -/
theorem ud_step {r0 r1 : hm_SR} {u : Int32} {past f A : Nat → Int32} {v : Nat → Nat} {k x : Nat} (hU : ud_is r0 r1 u past v) (hv : sv_ok v) (hf : sv_at f v) (hA : sv_at A v) (hk : k < 38) : ∃ (r0' r1' : hm_SR) (past' : Nat → Int32) (u' : Int32), f_X4_change r0 r1 f (nI k) (nI x) = some (upd f k (nI x), r0', r1') ∧ f_X8_notes A past u = some (past', u') ∧ ud_is r0' r1' u' past' (sv_up v k x) := by
  obtain ⟨n, sl, h, hn, h0, h1, hu, hv2, hi⟩ := hU
  obtain ⟨r0', r1', d, e1, ed, e2, e3, e4, e5, e6⟩ := se_change (f := f) (k := k) (x := nI x) h0 h1 hn hk
  obtain ⟨past', d2, g1, gd, g2, g3⟩ := md_notes (A := A) (past := past) hn
  have hd : d2 = d := by rw [gd, ed]
  subst hd
  have hd1 : d2 ≤ n ∧ n + 1 - d2 ≤ 10 ∧ n + 1 - d2 = n - d2 + 1 := by
    by_cases h10 : n = 10
    · rw [if_pos h10] at ed; omega
    · rw [if_neg h10] at ed; omega
  refine ⟨r0', r1', past', _, e1, by rw [hu]; exact g1, n + 1 - d2, fun i => if i = n - d2 then k else sl (i + d2), fun i => if i = n - d2 + 1 then sv_up v k x else h (i + d2), hd1.2.1, e2, e3, rfl, fun j hj => ?_, fun i hi2 => ?_⟩
  · dsimp only
    rw [if_pos hd1.2.2]
  · dsimp only
    have hne : ¬ i = n - d2 + 1 := by omega
    rw [if_neg hne]
    by_cases hl : i = n - d2
    · subst hl
      rw [if_pos rfl, if_pos rfl]
      have hh : ∀ j, j < 38 → h (n - d2 + d2) j = v j := by
        intro j hj
        rw [show n - d2 + d2 = n by omega]
        exact hv2 j hj
      refine ⟨hk, e4, by rw [e5, hh k hk]; exact hf k hk, fun j hj hjk => ?_, sv_congr hv hh, fun j hj => ?_⟩
      · rw [hh j hj]
        unfold sv_up
        rw [if_neg hjk]
      · rw [g2 j hj, hh j hj]
        exact hA j hj
    · rw [if_neg hl]
      have hlt : i + d2 < n := by omega
      obtain ⟨a1, a2, a3, a4, a5, a6⟩ := hi (i + d2) hlt
      obtain ⟨b1, b2⟩ := e6 i hlt
      refine ⟨a1, by rw [b1]; exact a2, by rw [b2]; exact a3, fun j hj hjs => ?_, a5, fun j hj => ?_⟩
      · rw [a4 j hj hjs]
        rw [if_neg (by omega), show i + d2 + 1 = i + 1 + d2 by omega]
      · rw [g3 i j hlt hj]
        exact a6 j hj
/-- signs and their slots, on both sides -/
def sg_mark (x : Int32) : Option Nat := if x = 46 then some 0 else if x = 44 then some 1 else if x = 45 then some 2 else if x = 39 then some 3 else none
def sg_let (x : Int32) : Prop := 97 ≤ x ∧ x ≤ 122
theorem sg_mark_lt {x : Int32} {m : Nat} (h : sg_mark x = some m) : m < 4 := by
  unfold sg_mark at h
  split at h
  · cases h; omega
  · split at h
    · cases h; omega
    · split at h
      · cases h; omega
      · split at h
        · cases h; omega
        · cases h
theorem md_mark (x : Int32) : f_X8_markOf x = some (match sg_mark x with | some m => nI m | none => -9) := by
  unfold f_X8_markOf sg_mark
  by_cases h1 : x = 46
  · simp only [h1, if_true]; rfl
  · by_cases h2 : x = 44
    · simp only [h2, if_true]; rfl
    · by_cases h3 : x = 45
      · simp only [h3, if_true]; rfl
      · by_cases h4 : x = 39
        · simp only [h4, if_true]; rfl
        · simp only [h1, h2, h3, h4, if_false]
theorem cl_mark (x : Int32) : f_X7_markNumber x = some (match sg_mark x with | some m => nI m | none => -1) := by
  unfold f_X7_markNumber sg_mark
  by_cases h1 : x = 46
  · simp only [h1, if_true]; rfl
  · by_cases h2 : x = 44
    · simp only [h2, if_true]; rfl
    · by_cases h3 : x = 45
      · simp only [h3, if_true]; rfl
      · by_cases h4 : x = 39
        · simp only [h4, if_true]; rfl
        · simp only [h1, h2, h3, h4, if_false]
          split <;> (try rfl)
          split <;> (try rfl)
          split <;> (try rfl)
          split <;> rfl
