/-! pure: leftOf, the draft, judged -/
section DRF
variable {N : Nat} {t : Nat → Int32} {v : Nat → Nat} {ms : Nat}
theorem dstep_some {f to : Nat} {T : Nat → Option (Nat × Nat × Nat)} {acc : Option (Nat × Nat × Nat)} (h : acc ≠ none) : dstep N t v ms f T acc to ≠ none := by
  obtain ⟨o, rfl⟩ : ∃ o, acc = some o := by
    cases acc with
    | none => exact absurd rfl h
    | some o => exact ⟨o, rfl⟩
  unfold dstep
  split
  · split
    · exact h
    · dsimp only
      split
      · intro z; cases z
      · exact h
  · exact h
theorem dfo_some {f : Nat} {T : Nat → Option (Nat × Nat × Nat)} : ∀ (d to : Nat) (acc : Option (Nat × Nat × Nat)), acc ≠ none → dfo N t v ms f T d to acc ≠ none
  | 0, _, _, h => h
  | d + 1, to, acc, h => by
    rw [dfo]
    exact dfo_some d (to + 1) _ (dstep_some h)
theorem dfo_hit {f x : Nat} {T : Nat → Option (Nat × Nat × Nat)} (hl : 0 ≤ lf N t v ms f x) (hT : T (x + 1) ≠ none) : ∀ (d to : Nat) (acc : Option (Nat × Nat × Nat)), to ≤ x → x < to + d → dfo N t v ms f T d to acc ≠ none
  | 0, _, _, h1, h2 => by omega
  | d + 1, to, acc, h1, h2 => by
    rw [dfo]
    by_cases e : x = to
    · subst e
      refine dfo_some d (x + 1) _ ?_
      unfold dstep
      rw [if_pos hl]
      obtain ⟨q, hq⟩ : ∃ q, T (x + 1) = some q := by
        cases hT' : T (x + 1) with
        | none => exact absurd hT' hT
        | some q => exact ⟨q, rfl⟩
      rw [hq]
      cases acc with
      | none => intro z; cases z
      | some o =>
        dsimp only
        split
        · intro z; cases z
        · intro z; cases z
    · exact dfo_hit hl hT d (to + 1) _ (by omega) (by omega)
theorem TB_path {j x : Nat} (h1 : j ≤ x) (h2 : x < nP N t) (hl : 0 ≤ lf N t v ms j x) (hT : TB N t v ms (x + 1) ≠ none) : TB N t v ms j ≠ none := by
  have e : TB N t v ms j = tbl N t v ms (nP N t - j) j := by
    have := tbl_stable (N := N) (t := t) (v := v) (ms := ms) (j := j) (k := nP N t - j) (d := j) (by omega)
    rw [show nP N t - j + j = nP N t by omega] at this
    exact this
  obtain ⟨k, hk⟩ : ∃ k, nP N t - j = k + 1 := ⟨nP N t - j - 1, by omega⟩
  rw [hk, tbl_s, if_pos (by omega)] at e
  rw [e]
  have e2 := tbl_stable (N := N) (t := t) (v := v) (ms := ms) (j := x + 1) (k := k) (d := nP N t - k) (by omega)
  rw [show k + (nP N t - k) = nP N t by omega] at e2
  refine dfo_hit hl ?_ _ _ _ h1 (by omega)
  rw [← e2]
  exact hT
/-- the draft -/
def dr_is (P : Nat) (n : Nat) (D : Nat → Nat) (r : hm_SR) (a : Nat → Int32) (z : Int32) : Prop := n ≤ P ∧ r.1 = nI n ∧ z = nI n ∧ (∀ j, j < n → r.2 j = nI (D j) ∧ a j = nI (D j) ∧ D j < P ∧ j ≤ D j) ∧ ∀ j, j + 1 < n → D j < D (j + 1)
def st (D : Nat → Nat) (j : Nat) : Nat := if j = 0 then 0 else D (j - 1) + 1
theorem st_s {D : Nat → Nat} {j : Nat} : st D (j + 1) = D j + 1 := by unfold st; rw [if_neg (by omega), Nat.add_sub_cancel]
theorem st_le {P n : Nat} {D : Nat → Nat} {r : hm_SR} {a : Nat → Int32} {z : Int32} (h : dr_is P n D r a z) {j : Nat} (hj : j < n) : st D j ≤ D j := by
  cases j with
  | zero => exact Nat.zero_le _
  | succ j => rw [st_s]; exact h.2.2.2.2 j hj
theorem two_puts {w7 r : hm_SR} {a : Nat → Int32} {z : Int32} (hok : tx_ok N t) (h7 : w7.1 = nI (nP N t)) {n : Nat} {D : Nat → Nat} (h : dr_is (nP N t) n D r a z) (x : Int32) : ∃ (q : Int32 × hm_SR) (q9 : Int32 × (Nat → Int32) × Int32), f_X7_puts r w7 x = some q ∧ f_X8_puts a (nI (nP N t)) z x = some q9 ∧ q.1 = q9.1 ∧ ∃ n' D', dr_is (nP N t) n' D' q.2 q9.2.1 q9.2.2 := by
  have hPc : nP N t ≤ 100 := pl_100 hok
  obtain ⟨h1, h2, h3, h4, h5⟩ := h
  rw [f_X7_puts, f_X8_puts, f_X7_isPlace, f_X3_placeCount, f_X8_isPlace, md_in, Option.bind_some, h3]
  by_cases hx0 : x < 0
  · rw [if_pos hx0, if_neg (show ¬ (0 ≤ x ∧ x ≤ nI (nP N t) - 1) from fun hh => by have := Int32.lt_iff_toInt_lt.1 hx0; have := Int32.le_iff_toInt_le.1 hh.1; omega), Option.bind_some, if_pos n00, bl_0, Option.bind_some, Option.bind_some, if_pos n00]
    exact ⟨_, _, rfl, rfl, rfl, n, D, h1, h2, rfl, h4, h5⟩
  rw [if_neg hx0, rg_size, Option.bind_some, Option.bind_some, h7]
  by_cases hxn : nI (nP N t) ≤ x
  · rw [if_pos hxn, if_neg (show ¬ (0 ≤ x ∧ x ≤ nI (nP N t) - 1) from fun hh => by
      obtain ⟨c, c1, c2, rfl⟩ := zI_of x
      have d1 := Int32.le_iff_toInt_le.1 hxn
      have d2 := Int32.le_iff_toInt_le.1 hh.2
      rw [zI_nat, zl_1, zI_sub, zI_to c1 c2, zI_to (by omega) (by omega)] at d2
      rw [nI_toInt (by omega), zI_to c1 c2] at d1
      omega), Option.bind_some, if_pos n00, bl_0, Option.bind_some, Option.bind_some, if_pos n00]
    exact ⟨_, _, rfl, rfl, rfl, n, D, h1, h2, rfl, h4, h5⟩
  obtain ⟨k, rfl, hk⟩ := to_nat (n := nP N t) (x := x) (by omega) hx0 (by
    rw [Int32.lt_iff_toInt_lt]
    have hh : ¬ (nI (nP N t)).toInt ≤ x.toInt := fun z => hxn (Int32.le_iff_toInt_le.2 z)
    omega)
  rw [if_neg hxn, if_pos (show 0 ≤ nI k ∧ nI k ≤ nI (nP N t) - 1 from ⟨nI_pos' (by omega), by rw [nI_m1 (by omega), nI_lei (by omega) (by omega)]; omega⟩), Option.bind_some, if_neg n10, bl_1, Option.bind_some, Option.bind_some, if_neg n10, f_X7_lastOfDraft, rg_size, Option.bind_some, h2]
  have add : (n = 0 ∨ D (n - 1) < k) → ∃ (q : Int32 × hm_SR) (q9 : Int32 × (Nat → Int32) × Int32), ((f_X2_add 100 r (nI k)).bind fun t3 => (f_X2_size t3.2).bind fun t4 => some (t4, t3.2)) = some q ∧ f_X8_puts_l32 a (nI n) (nI k) = some q9 ∧ q.1 = q9.1 ∧ ∃ n' D', dr_is (nP N t) n' D' q.2 q9.2.1 q9.2.2 := by
    intro hd
    have hnk : n ≤ k := by
      rcases Nat.eq_zero_or_pos n with e | e
      · omega
      · have := (h4 (n - 1) (by omega)).2.2.2
        omega
    rw [rg_add h2 (by omega) (by omega), Option.bind_some, rg_size, Option.bind_some, f_X8_puts_l32, wr_in (by omega) (by omega), Option.bind_some, nI_1]
    refine ⟨_, _, rfl, rfl, rfl, n + 1, fun j => if j = n then k else D j, by omega, rfl, rfl, fun j hj => ?_, fun j hj => ?_⟩
    · dsimp only
      by_cases e : j = n
      · rw [if_pos e, e, ud_s, ud_s]; exact ⟨rfl, rfl, hk, hnk⟩
      · rw [if_neg e, ud_n e, ud_n e]; exact h4 j (by omega)
    · dsimp only
      rw [if_neg (show ¬ j = n by omega)]
      by_cases e : j + 1 = n
      · rw [if_pos e]
        rw [show j = n - 1 by omega]
        omega
      · rw [if_neg e]; exact h5 j (by omega)
  by_cases hn0 : n = 0
  · rw [if_pos (show nI n = 0 by rw [hn0]; rfl), Option.bind_some, if_pos (show (-1 : Int32) < nI k by rw [zI_nat, zl_1, zI_neg, zI_lt (by omega) (by omega) (by omega) (by omega)]; omega), if_pos (show nI n ≤ 0 by rw [hn0]; exact Int32.le_refl _)]
    exact add (Or.inl hn0)
  · obtain ⟨g1, g2, g3, g4⟩ := h4 (n - 1) (by omega)
    rw [if_neg (show ¬ nI n = 0 by rw [nl_0, nI_eqi (by omega) (by omega)]; exact hn0), Option.bind_some, nI_m1 (by omega), rg_in h2 (by omega) (by omega) (by omega), Option.bind_some, Option.bind_some, g1, if_neg (show ¬ nI n ≤ 0 by rw [nl_0, nI_lei (by omega) (by omega)]; omega), rd_in (by omega) (by omega), Option.bind_some, g2]
    by_cases hlt : D (n - 1) < k
    · rw [if_pos (show nI (D (n - 1)) < nI k by rw [nI_lti (by omega) (by omega)]; exact hlt), if_pos (show nI (D (n - 1)) < nI k by rw [nI_lti (by omega) (by omega)]; exact hlt)]
      exact add (Or.inr hlt)
    · rw [if_neg (show ¬ nI (D (n - 1)) < nI k by rw [nI_lti (by omega) (by omega)]; exact hlt), if_neg (show ¬ nI (D (n - 1)) < nI k by rw [nI_lti (by omega) (by omega)]; exact hlt)]
      exact ⟨_, _, rfl, rfl, rfl, n, D, h1, h2, rfl, h4, h5⟩
theorem two_takes {r : hm_SR} {a : Nat → Int32} {z : Int32} (hok : tx_ok N t) {n : Nat} {D : Nat → Nat} (h : dr_is (nP N t) n D r a z) : ∃ (q : Int32 × hm_SR) (q9 : Int32 × Int32), f_X7_takes r = some q ∧ f_X8_takes a z = some q9 ∧ q.1 = q9.1 ∧ ∃ n' D', dr_is (nP N t) n' D' q.2 a q9.2 := by
  have hPc : nP N t ≤ 100 := pl_100 hok
  obtain ⟨h1, h2, h3, h4, h5⟩ := h
  rw [f_X7_takes, f_X8_takes, rg_size, Option.bind_some, h2, h3]
  by_cases hn0 : n = 0
  · rw [if_pos (show nI n = 0 by rw [hn0]; rfl), if_pos (show nI n = 0 by rw [hn0]; rfl)]
    exact ⟨_, _, rfl, rfl, rfl, n, D, h1, h2, rfl, h4, h5⟩
  · obtain ⟨g1, g2, g3, g4⟩ := h4 (n - 1) (by omega)
    have hne : ¬ nI n = 0 := by rw [nl_0, nI_eqi (by omega) (by omega)]; exact hn0
    rw [if_neg hne, if_neg hne, f_X7_lastOfDraft, rg_size, Option.bind_some, h2, if_neg hne, Option.bind_some, nI_m1 (by omega), rg_in h2 (by omega) (by omega) (by omega), Option.bind_some, Option.bind_some, rg_drop (n := n - 1) (by rw [h2]; congr 1; omega) (by omega), Option.bind_some, rd_in (by omega) (by omega), Option.bind_some]
    refine ⟨_, _, rfl, rfl, ?_, n - 1, D, by omega, rfl, rfl, fun j hj => h4 j (by omega), fun j hj => h5 j (by omega)⟩
    dsimp only
    rw [g1, g2]
end DRF
