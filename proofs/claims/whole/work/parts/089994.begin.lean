/-! pure: all that is set, as at the start -/
def sv0 (k : Nat) : Nat := if k < 26 then 4 else if k < 30 then 2 else if k < 34 then 0 else if k = 34 then 3 else if k = 35 then 60 else if k = 36 then 50 else 100
theorem sv0_ok : sv_ok sv0 := by
  refine ⟨fun k hk => ?_, fun k hk => ?_, by decide, by decide, by decide, by decide, by decide, by decide⟩
  · unfold sv0
    split
    · omega
    · omega
  · unfold sv0
    split
    · omega
    · split
      · omega
      · omega
section BGN
variable {r0 r1 : hm_SR} {A2 : Nat → Int32}
theorem cl_begin3 (f : Nat → Int32) : f_X4_begin_l69 r0 r1 A2 f = some (f, upd (upd A2 0 0) 1 0, (0, r0.2), (0, r1.2)) := by
  have key : ∀ m, f_X4_begin_l71 r0 r1 (m + 3) (nI 0) f A2 = some (f, upd (upd A2 0 0) 1 0, (0, r0.2), (0, r1.2)) := by
    intro m
    rw [show m + 3 = m + 2 + 1 from rfl, f_X4_begin_l71_s, if_neg (by decide), wz_in (by omega) (by omega) (Or.inl rfl), Option.bind_some, nI_1, show m + 2 = m + 1 + 1 from rfl, f_X4_begin_l71_s, if_neg (by decide), wz_in (by omega) (by omega) (Or.inl rfl), Option.bind_some, nI_1, f_X4_begin_l71_s, if_pos (by decide), f_X4_begin_l93, f_X4_loseUndone, rg_empty, rg_empty, Option.bind_some, Option.bind_some, Option.bind_some]
  rw [f_X4_begin_l69]
  exact key 999997
theorem cl_begin2 : ∀ (d k fuel : Nat) (f : Nat → Int32), 4 = k + d → d < fuel → ∃ f' : Nat → Int32, f_X4_begin_l42 r0 r1 A2 fuel (nI k) f = f_X4_begin_l69 r0 r1 A2 f' ∧ (∀ j, 34 + k ≤ j → j < 38 → f' j = nI (sv0 j)) ∧ ∀ j, j < 34 + k → f' j = f j := by
  intro d
  induction d with
  | zero =>
    intro k fuel f h1 h2
    obtain ⟨fuel, rfl⟩ : ∃ z, fuel = z + 1 := ⟨fuel - 1, by omega⟩
    rw [f_X4_begin_l42_s, if_pos (by rw [nl_4, nI_lei (by omega) (by omega)]; omega)]
    exact ⟨f, rfl, fun j a b => by omega, fun j _ => rfl⟩
  | succ d ih =>
    intro k fuel f h1 h2
    obtain ⟨fuel, rfl⟩ : ∃ z, fuel = z + 1 := ⟨fuel - 1, by omega⟩
    have hs : hm_sx2 k = nI (sv0 (34 + k)) := by
      rcases (show k = 0 ∨ k = 1 ∨ k = 2 ∨ k = 3 by omega) with rfl | rfl | rfl | rfl <;> rfl
    rw [f_X4_begin_l42_s, if_neg (by rw [nl_4, nI_lei (by omega) (by omega)]; omega), rd_in (by omega) (by omega), Option.bind_some, show (34 : Int32) + nI k = nI (34 + k) by rw [nl_34, nI_add], se_store (by omega), Option.bind_some, nI_1]
    obtain ⟨f', e1, e2, e3⟩ := ih (k + 1) fuel (upd f (34 + k) (hm_sx2 k)) (by omega) (by omega)
    refine ⟨f', e1, fun j a b => ?_, fun j a => ?_⟩
    · by_cases e : j = 34 + k
      · rw [e, e3 _ (by omega), ud_s, hs]
      · exact e2 j (by omega) b
    · rw [e3 j (by omega), ud_n (by omega)]
theorem cl_begin1 : ∀ (d k fuel : Nat) (f : Nat → Int32), 34 = k + d → d < fuel → ∃ f' : Nat → Int32, f_X4_begin_l2 r0 r1 A2 fuel (nI k) f = f_X4_begin_l40 r0 r1 A2 f' ∧ (∀ j, k ≤ j → j < 34 → f' j = nI (sv0 j)) ∧ ∀ j, j < k → f' j = f j := by
  intro d
  induction d with
  | zero =>
    intro k fuel f h1 h2
    obtain ⟨fuel, rfl⟩ : ∃ z, fuel = z + 1 := ⟨fuel - 1, by omega⟩
    rw [f_X4_begin_l2_s, if_pos (by rw [nl_34, nI_lei (by omega) (by omega)]; omega)]
    exact ⟨f, rfl, fun j a b => by omega, fun j _ => rfl⟩
  | succ d ih =>
    intro k fuel f h1 h2
    obtain ⟨fuel, rfl⟩ : ∃ z, fuel = z + 1 := ⟨fuel - 1, by omega⟩
    rw [f_X4_begin_l2_s, if_neg (show ¬ (34 : Int32) ≤ nI k by rw [nl_34, nI_lei (by omega) (by omega)]; omega)]
    obtain ⟨f', e1, e2, e3⟩ := ih (k + 1) fuel (upd f k (nI (sv0 k))) (by omega) (by omega)
    refine ⟨f', ?_, fun j a b => ?_, fun j a => ?_⟩
    · have one : f_X4_begin_l31 (fun zv1 zwA_0 => f_X4_begin_l2 r0 r1 A2 fuel zv1 zwA_0) (nI (sv0 k)) (nI k) (nI k) f = f_X4_begin_l40 r0 r1 A2 f' := by
        rw [f_X4_begin_l31, se_store (by omega), Option.bind_some, nI_1]
        exact e1
      by_cases a : k < 26
      · rw [if_neg (show ¬ (26 : Int32) ≤ nI k by rw [nl_26, nI_lei (by omega) (by omega)]; omega)]
        rw [show sv0 k = 4 by unfold sv0; rw [if_pos a]] at one
        exact one
      · rw [if_pos (show (26 : Int32) ≤ nI k by rw [nl_26, nI_lei (by omega) (by omega)]; omega)]
        by_cases b : k < 30
        · rw [if_neg (show ¬ (30 : Int32) ≤ nI k by rw [nl_30, nI_lei (by omega) (by omega)]; omega)]
          rw [show sv0 k = 2 by unfold sv0; rw [if_neg a, if_pos b]] at one
          exact one
        · rw [if_pos (show (30 : Int32) ≤ nI k by rw [nl_30, nI_lei (by omega) (by omega)]; omega)]
          rw [show sv0 k = 0 by unfold sv0; rw [if_neg a, if_neg b, if_pos (by omega)]] at one
          exact one
    · by_cases e : j = k
      · rw [e, e3 _ (by omega), ud_s]
      · exact e2 j (by omega) b
    · rw [e3 j (by omega), ud_n (by omega)]
theorem cl_begin (f : Nat → Int32) : ∃ f' : Nat → Int32, f_X4_begin r0 r1 f A2 = some (f', upd (upd A2 0 0) 1 0, (0, r0.2), (0, r1.2)) ∧ sv_at f' sv0 := by
  obtain ⟨f1, a1, a2, -⟩ := cl_begin1 (r0 := r0) (r1 := r1) (A2 := A2) 34 0 hm_fu f (by omega) (by unfold hm_fu; omega)
  obtain ⟨f2, b1, b2, b3⟩ := cl_begin2 (r0 := r0) (r1 := r1) (A2 := A2) 4 0 hm_fu f1 (by omega) (by unfold hm_fu; omega)
  refine ⟨f2, ?_, fun j hj => ?_⟩
  · rw [f_X4_begin, show f_X4_begin_l2 r0 r1 A2 hm_fu 0 f = _ from a1, f_X4_begin_l40, show f_X4_begin_l42 r0 r1 A2 hm_fu 0 f1 = _ from b1, cl_begin3]
  · by_cases h : j < 34
    · rw [b3 j (by omega), a2 j (by omega) h]
    · exact b2 j (by omega) hj
end BGN
theorem md_begin1 {A9 : Nat → Int32} : ∀ (d k fuel : Nat) (f : Nat → Int32), 38 = k + d → d < fuel → ∃ f' : Nat → Int32, f_X8_begins_l2 A9 fuel (nI k) f = f_X8_begins_l41 A9 f' ∧ (∀ j, k ≤ j → j < 34 → f' j = nI (sv0 j)) ∧ ∀ j, j < k → f' j = f j := by
  intro d
  induction d with
  | zero =>
    intro k fuel f h1 h2
    obtain ⟨fuel, rfl⟩ : ∃ z, fuel = z + 1 := ⟨fuel - 1, by omega⟩
    rw [f_X8_begins_l2_s, if_pos (by rw [nl_38, nI_lei (by omega) (by omega)]; omega)]
    exact ⟨f, rfl, fun j a b => by omega, fun j _ => rfl⟩
  | succ d ih =>
    intro k fuel f h1 h2
    obtain ⟨fuel, rfl⟩ : ∃ z, fuel = z + 1 := ⟨fuel - 1, by omega⟩
    have step : ∀ x : Int32, (k < 34 → x = nI (sv0 k)) → ∃ f' : Nat → Int32, f_X8_begins_l34 (fun zv1 zwA_7 => f_X8_begins_l2 A9 fuel zv1 zwA_7) x (nI k) (nI k) f = f_X8_begins_l41 A9 f' ∧ (∀ j, k ≤ j → j < 34 → f' j = nI (sv0 j)) ∧ ∀ j, j < k → f' j = f j := by
      intro x hx
      obtain ⟨f', e1, e2, e3⟩ := ih (k + 1) fuel (upd f k x) (by omega) (by omega)
      refine ⟨f', ?_, fun j a b => ?_, fun j a => ?_⟩
      · rw [f_X8_begins_l34, wr_in (by omega) (by omega), Option.bind_some, nI_1]
        exact e1
      · by_cases e : j = k
        · rw [e, e3 _ (by omega), ud_s]
          exact hx (by omega)
        · exact e2 j (by omega) b
      · rw [e3 j (by omega), ud_n (by omega)]
    rw [f_X8_begins_l2_s, if_neg (show ¬ (38 : Int32) ≤ nI k by rw [nl_38, nI_lei (by omega) (by omega)]; omega)]
    by_cases a : k < 26
    · rw [if_neg (show ¬ (26 : Int32) ≤ nI k by rw [nl_26, nI_lei (by omega) (by omega)]; omega)]
      exact step 4 (fun _ => by rw [show sv0 k = 4 by unfold sv0; rw [if_pos a]]; rfl)
    · rw [if_pos (show (26 : Int32) ≤ nI k by rw [nl_26, nI_lei (by omega) (by omega)]; omega)]
      by_cases b : k < 30
      · rw [if_neg (show ¬ (30 : Int32) ≤ nI k by rw [nl_30, nI_lei (by omega) (by omega)]; omega)]
        exact step 2 (fun _ => by rw [show sv0 k = 2 by unfold sv0; rw [if_neg a, if_pos b]]; rfl)
      · rw [if_pos (show (30 : Int32) ≤ nI k by rw [nl_30, nI_lei (by omega) (by omega)]; omega)]
        exact step 0 (fun h => by rw [show sv0 k = 0 by unfold sv0; rw [if_neg a, if_neg b, if_pos h]]; rfl)
theorem md_begin (A A9 : Nat → Int32) : ∃ A' : Nat → Int32, f_X8_begins A A9 = some (A', upd (upd A9 0 0) 1 0, 0, 0, 0) ∧ sv_at A' sv0 := by
  obtain ⟨f1, a1, a2, -⟩ := md_begin1 (A9 := A9) 38 0 hm_fu A (by omega) (by unfold hm_fu; omega)
  refine ⟨upd (upd (upd (upd f1 34 3) 35 60) 36 50) 37 100, ?_, fun j hj => ?_⟩
  · rw [f_X8_begins, show f_X8_begins_l2 A9 hm_fu 0 A = _ from a1, f_X8_begins_l41]
    rw [show hm_wr 38 f1 34 3 = some (upd f1 34 3) from wr_in (i := 34) (by omega) (by omega), Option.bind_some]
    rw [show hm_wr 38 (upd f1 34 3) 35 60 = some (upd (upd f1 34 3) 35 60) from wr_in (i := 35) (by omega) (by omega), Option.bind_some]
    rw [show hm_wr 38 (upd (upd f1 34 3) 35 60) 36 50 = some (upd (upd (upd f1 34 3) 35 60) 36 50) from wr_in (i := 36) (by omega) (by omega), Option.bind_some]
    rw [show hm_wr 38 (upd (upd (upd f1 34 3) 35 60) 36 50) 37 100 = some (upd (upd (upd (upd f1 34 3) 35 60) 36 50) 37 100) from wr_in (i := 37) (by omega) (by omega), Option.bind_some]
    rw [show hm_wz 2 A9 0 0 = some (upd A9 0 0) from wz_in (i := 0) (by omega) (by omega) (Or.inl rfl), Option.bind_some]
    rw [show hm_wz 2 (upd A9 0 0) 1 0 = some (upd (upd A9 0 0) 1 0) from wz_in (i := 1) (by omega) (by omega) (Or.inl rfl), Option.bind_some]
  · by_cases h : j < 34
    · rw [ud_n (by omega), ud_n (by omega), ud_n (by omega), ud_n (by omega)]
      exact a2 j (by omega) h
    · rcases (show j = 34 ∨ j = 35 ∨ j = 36 ∨ j = 37 by omega) with rfl | rfl | rfl | rfl <;> rfl
theorem im_none {g k k9 g9 : Nat → Int32} : im_is g (upd (upd k 0 0) 1 0) (upd (upd k9 0 0) 1 0) g9 := by
  intro i hi
  left
  rcases (show i = 0 ∨ i = 1 by omega) with rfl | rfl <;> exact ⟨rfl, rfl⟩
