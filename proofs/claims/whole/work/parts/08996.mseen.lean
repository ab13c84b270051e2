/-! pure: the model's unseen -/
section MSN
variable {N : Nat} {t : Nat → Int32} {v : Nat → Nat} {a1 a2 a3 a4 a5 a6 A7 : Nat → Int32} {z2 z3 : Int32}
/-- a place is the last of the word w - 1 -/
theorem lpw_iff (hok : tx_ok N t) {p w : Nat} (hp : p < nP N t) (hw : w < nW N t) (h0 : 0 < w) : (sP N t p = false ∧ w = wP N t p + 1) ↔ p = lpw N t (w - 1) := by
  have hw1 : w - 1 < nW N t := by omega
  have he := ew_sp hw1
  constructor
  · rintro ⟨h1, h2⟩
    have hwe := lp_we hp h1
    have e : lp N t p = ew N t (w - 1) := ct_inj hwe he.2.2.2 (by rw [he.2.2.1]; show wP N t p = w - 1; omega)
    unfold lpw
    rw [← e, (lp_sp hp).2.2]
  · intro e
    have e1 : lp N t p = ew N t (w - 1) := by
      rw [e]
      exact nth_ct he.1 (ew_place hw1)
    constructor
    · cases hs : sP N t p with
      | false => rfl
      | true =>
        have h1 := sl_nwe hok (lp_sp hp).1 hs
        rw [e1, he.2.2.2] at h1
        cases h1
    · show w = ct (we N t) (lp N t p) + 1
      rw [e1, he.2.2.1]; omega
theorem md_begun (hok : tx_ok N t) (h : mw_k N t N a1 a2 a3 a4 a5 a6 z2 z3) {ms : Nat} {o : Nat × Nat × Nat} (hT : TB N t v ms 0 = some o) (hle : nL N t v ms ≤ nP N t) {E : Nat → Int32} (hE : ∀ k, k < nL N t v ms → E k = nI (lb N t v ms (k + 1) - 1)) {w : Nat} (hw : w < nW N t) : f_X8_isBegun a2 a4 a5 a6 E (nI (nL N t v ms)) (nI w) = some (bi (anb (fun k => decide ((lb N t v ms k = 0 ∧ w = 0) ∨ (0 < lb N t v ms k ∧ sP N t (lb N t v ms k - 1) = false ∧ w = wP N t (lb N t v ms k - 1) + 1))) (nL N t v ms))) := by
  have hP : nP N t ≤ 100 := pl_100 hok
  have hN := hok.1
  have hW : nW N t ≤ 30 := by unfold nW; rw [← ct_words]; exact hok.2.2
  have bef : ∀ k, k < nL N t v ms → f_X8_before E (nI k) = some (fr (lb N t v ms k)) := by
    intro k hk
    cases k with
    | zero => rw [f_X8_before, if_pos (show nI 0 = 0 from rfl)]; rfl
    | succ k =>
      obtain ⟨q, q1, q2, q3, q4, q5⟩ := lb_next hT (show k < nL N t v ms by omega)
      rw [f_X8_before, if_neg (by rw [nl_0, nI_eqi (by omega) (by omega)]; omega), nI_m1 (by omega), Nat.add_sub_cancel, rd_in (by omega) (by omega), Option.bind_some, hE k (by omega), ← fr_s, q2, Nat.add_sub_cancel]
  have key : ∀ (d k fuel : Nat), nL N t v ms = k + d → d < fuel → f_X8_isBegun_l4 a2 a4 a5 a6 E (nI (nL N t v ms)) (nI w) fuel (bi (anb (fun k => decide ((lb N t v ms k = 0 ∧ w = 0) ∨ (0 < lb N t v ms k ∧ sP N t (lb N t v ms k - 1) = false ∧ w = wP N t (lb N t v ms k - 1) + 1))) k)) (nI k) = some (bi (anb (fun k => decide ((lb N t v ms k = 0 ∧ w = 0) ∨ (0 < lb N t v ms k ∧ sP N t (lb N t v ms k - 1) = false ∧ w = wP N t (lb N t v ms k - 1) + 1))) (nL N t v ms))) := by
    intro d
    induction d with
    | zero =>
      intro k fuel hk hf
      obtain ⟨fuel, rfl⟩ : ∃ z, fuel = z + 1 := ⟨fuel - 1, by omega⟩
      rw [f_X8_isBegun_l4_s, if_pos (show nI (nL N t v ms) ≤ nI k by rw [nI_lei (by omega) (by omega)]; omega), bl_in (bi_01 _), Option.bind_some, show k = nL N t v ms by omega]
    | succ d ih =>
      intro k fuel hk hf
      obtain ⟨fuel, rfl⟩ : ∃ z, fuel = z + 1 := ⟨fuel - 1, by omega⟩
      have hkL : k < nL N t v ms := by omega
      have next := ih (k + 1) fuel (by omega) (by omega)
      rw [anb] at next
      have hlt := lb_lt hT hkL
      obtain ⟨L, m1, m2, m3, m4, -⟩ := md_fl hok h hlt
      rw [f_X8_isBegun_l4_s, if_neg (show ¬ nI (nL N t v ms) ≤ nI k by rw [nI_lei (by omega) (by omega)]; omega)]
      cases ha : anb (fun k => decide ((lb N t v ms k = 0 ∧ w = 0) ∨ (0 < lb N t v ms k ∧ sP N t (lb N t v ms k - 1) = false ∧ w = wP N t (lb N t v ms k - 1) + 1))) k with
      | true =>
        rw [ha, Bool.true_or] at next
        rw [if_neg (show ¬ bi true = 0 from n10), f_X8_isBegun_l34, f_X8_isBegun_l39, nI_1]
        exact next
      | false =>
        rw [ha, Bool.false_or] at next
        have hsw := (sw_sp hw).1
        rw [if_pos (show bi false = 0 from rfl), bef k hkL, Option.bind_some, m1, Option.bind_some, rd_in (by omega) (by omega), Option.bind_some, (md_se h hw).1]
        by_cases e : L = sw N t w
        · rw [decide_eq_true ((m4 w hw).1 e)] at next
          rw [if_pos (by rw [e]), f_X8_isBegun_l34, f_X8_isBegun_l39, nI_1]
          exact next
        · rw [decide_eq_false (fun z => e ((m4 w hw).2 z))] at next
          rw [if_neg (by rw [nI_eqi (by omega) (by omega)]; exact e), f_X8_isBegun_l39, nI_1]
          exact next
  exact key (nL N t v ms) 0 hm_fu (by omega) (by unfold hm_fu; omega)
end MSN
