/-! pure: line and blank, both sides at once -/
section LNQ
variable {N : Nat} {t : Nat → Int32} {v : Nat → Nat} {a1 a2 a3 a4 a5 a6 A7 : Nat → Int32} {z2 z3 : Int32}
theorem two_line (hok : tx_ok N t) (hv : sv_ok v) {f : Nat → Int32} (hf : sv_at f v) {w0 w1 : hm_SR} (h0 : w0.1 = nI (ct (nb t) N) ∧ fil (nb t) t N w0.2) (h1 : w1.1 = nI (ct (we N t) N) ∧ fil (we N t) (fun j => nI (ct (nb t) (j + 1))) N w1.2) {b0 b1 b2 : Nat → Int32} {l0 l1 l2 l3 l4 : hm_SR} {y0 y1 y2 y3 : Int32} {s0 s1 s2 s3 s4 s5 : hm_SR} {y4 y5 z : Int32} (h : fr_t N t v (b0, b1, b2, l0, l1, l2, l3, l4, y0, y1, y2, y3, s0, s1, s2, s3, s4, s5, y4, y5, z)) (hA : sv_at A7 v) (hmw : mw_k N t N a1 a2 a3 a4 a5 a6 z2 z3) (A14 A15 A16 A17 A18 : Nat → Int32) (z7 x x1 : Int32) : ∃ (q : Int32 × hm_FT) (q9 : Int32 × (Nat → Int32) × (Nat → Int32) × (Nat → Int32) × (Nat → Int32) × (Nat → Int32) × Int32), f_X7_line z w0 w1 f l0 l1 l2 l3 l4 y0 y1 y2 y3 b0 b1 b2 s0 s1 s2 s3 s4 s5 y4 y5 x x1 = some q ∧ f_X8_line a1 a2 a4 a5 a6 A7 A14 A15 A16 A17 A18 (nI N) (nI (nP N t)) z7 x x1 = some q9 ∧ q.1 = q9.1 ∧ fr_t N t v q.2 := by
  have hPc : nP N t ≤ 100 := pl_100 hok
  rw [f_X7_line, f_X8_line]
  by_cases hx0 : x < 0
  · rw [if_pos hx0, if_pos hx0]
    exact ⟨_, _, rfl, rfl, rfl, h⟩
  rw [if_neg hx0, if_neg hx0, md_in, Option.bind_some]
  by_cases hx10 : x1 < 0
  · rw [if_pos hx10, if_neg (show ¬ (0 ≤ x1 ∧ x1 ≤ 6) from fun hh => by have := Int32.lt_iff_toInt_lt.1 hx10; have := Int32.le_iff_toInt_le.1 hh.1; omega), if_pos n00]
    exact ⟨_, _, rfl, rfl, rfl, h⟩
  rw [if_neg hx10]
  by_cases hx16n : ¬ x1 ≤ 6
  · rw [if_neg hx16n, if_neg (show ¬ (0 ≤ x1 ∧ x1 ≤ 6) from fun hh => hx16n hh.2), if_pos n00]
    exact ⟨_, _, rfl, rfl, rfl, h⟩
  have hx16 : x1 ≤ 6 := Decidable.not_not.1 hx16n
  rw [if_pos hx16, if_pos (show 0 ≤ x1 ∧ x1 ≤ 6 from ⟨i_le hx10, hx16⟩), if_neg n10, nl_35, rd_in (by omega) (by omega), Option.bind_some, hA 35 (by omega)]
  obtain ⟨y, e1, hs, hz⟩ := cl_fresh hok hv hf h0 h1 h
  have hfin : fr_t N t v y := Or.inr ⟨hz, hs⟩
  obtain ⟨hln, ⟨g0, g1, g2, g3⟩, hm⟩ := hs
  obtain ⟨w, p, g, q, e, hw, hmp⟩ := md_page hok hv hv.2.2.2.2.2.1 hA hmw A14 A15 A16 A17 A18
  rw [e1, Option.bind_some]
  cases hT : TB N t v (v 35) 0 with
  | none =>
    rw [hT] at hm hmp
    have hm' : y.2.2.2.2.2.2.2.2.2.2.2.2.2.2.2.2.2.2.1 = 0 := hm
    dsimp only at hmp
    rw [show f_X5_isThere y.2.2.2.2.2.2.2.2.2.2.2.2.2.2.2.2.2.2.1 = some 0 by rw [hm']; rfl, Option.bind_some, if_pos n00, hmp, Option.bind_some, if_pos n00]
    exact ⟨_, _, rfl, rfl, rfl, hfin⟩
  | some o =>
    rw [hT] at hm hmp
    obtain ⟨m1, m2, m3, m4, m5⟩ := hm
    obtain ⟨p1, p2, hE⟩ := hmp
    have hL := pL_le hv hT
    rw [show f_X5_isThere y.2.2.2.2.2.2.2.2.2.2.2.2.2.2.2.2.2.2.1 = some 1 by rw [m1]; rfl, Option.bind_some, if_neg n10, p1, Option.bind_some, if_neg n10, f_X5_lineCount, rg_size, Option.bind_some, Option.bind_some]
    dsimp only
    rw [m3.1]
    by_cases hxn : ¬ x < nI (pL N t v)
    · rw [if_neg hxn, if_neg (show ¬ x < nI (nL N t v (v 35)) from hxn)]
      exact ⟨_, _, rfl, rfl, rfl, hfin⟩
    have hxl : x < nI (pL N t v) := Decidable.not_not.1 hxn
    rw [if_pos hxl, if_pos (show x < nI (nL N t v (v 35)) from hxl)]
    obtain ⟨k, rfl, hk⟩ : ∃ k : Nat, x = nI k ∧ k < pL N t v := by
      obtain ⟨c, c1, c2, rfl⟩ := zI_of x
      have d1 := Int32.lt_iff_toInt_lt.1 hxl
      rw [nI_toInt (by omega), zI_to c1 c2] at d1
      have d2 : ¬ (zI c).toInt < (0 : Int32).toInt := fun z => hx0 (Int32.lt_iff_toInt_lt.2 z)
      rw [zI_to c1 c2] at d2
      have d3 : (0 : Int32).toInt = 0 := rfl
      exact ⟨c.toNat, zI_N (by omega), by omega⟩
    obtain ⟨k1, k2, k3⟩ := cl_start0 hok hv hT m3 hk
    obtain ⟨j1, j2, j3, j4⟩ := pB_line hT hk
    have hlf := lfk_le hv hT hk
    have hE' : ∀ k, k < pL N t v → e k = nI (pB N t v (k + 1) - 1) := hE
    have hlz : zI (lf N t v (v 35) (pB N t v k) (pB N t v (k + 1) - 1)) = nI (lfk N t v k) := zI_N j4
    have hleft : f_X1_left y.2.2.2.1 y.2.2.2.2.1 y.2.2.2.2.2.2.2.1 y.2.2.2.2.2.2.2.2.2.1 (fr (pB N t v k)) (nI (pB N t v (k + 1) - 1)) = some (nI (lfk N t v k)) := by
      rw [f_X1_left, g1, cl_leftBy hok hln j1 j2, Option.bind_some, hlz]
    rw [k1, Option.bind_some, k2, Option.bind_some]
    by_cases c0 : x1 = 0
    · rw [if_pos c0, if_pos c0, rd_in (by omega) (by omega), Option.bind_some, hE' k hk]
      exact ⟨_, _, rfl, rfl, rfl, hfin⟩
    rw [if_neg c0, if_neg c0]
    by_cases c1 : x1 = 1
    · rw [if_pos c1, if_pos c1, cl_natural hok hln j1 j2, Option.bind_some, md_bef hok hv hT hE' hk, Option.bind_some, rd_in (by omega) (by omega), Option.bind_some, hE' k hk, md_natural hok hv hA hmw hw j1 j2, Option.bind_some]
      exact ⟨_, _, rfl, rfl, rfl, hfin⟩
    rw [if_neg c1, if_neg c1]
    by_cases c2 : x1 = 2
    · rw [if_pos c2, if_pos c2, f_X1_hungAt, (cl_g0 hok hln j2).2.1, Option.bind_some, Option.bind_some, rd_in (by omega) (by omega), Option.bind_some, hE' k hk, md_hung hok hv hA hmw j2, Option.bind_some]
      exact ⟨_, _, rfl, rfl, rfl, hfin⟩
    rw [if_neg c2, if_neg c2]
    by_cases c3 : x1 = 3
    · rw [if_pos c3, if_pos c3, hleft, Option.bind_some, md_lin hok hv hA hmw hw hT hE' hk, Option.bind_some]
      exact ⟨_, _, rfl, rfl, rfl, hfin⟩
    rw [if_neg c3, if_neg c3]
    by_cases c4 : x1 = 4
    · have hcost : f_X1_cost y.2.2.2.1 y.2.2.2.2.1 y.2.2.2.2.2.1 y.2.2.2.2.2.2.2.1 y.2.2.2.2.2.2.2.2.2.1 y.2.2.2.2.2.2.2.2.2.2.1 y.2.2.2.2.2.2.2.2.2.2.2.1 (fr (pB N t v k)) (nI (pB N t v (k + 1) - 1)) = some (nI (cst N t v (pB N t v k) (pB N t v (k + 1) - 1) (lfk N t v k))) := by
        rw [f_X1_cost, hleft, Option.bind_some, g2, g3, cl_costBy hok hv hln j1 j2 hlf.1, Option.bind_some]
      rw [if_pos c4, if_pos c4, hcost, Option.bind_some, md_bef hok hv hT hE' hk, Option.bind_some, rd_in (by omega) (by omega), Option.bind_some, hE' k hk, md_lin hok hv hA hmw hw hT hE' hk, Option.bind_some, md_cost hok hv hA hmw j1 j2 hlf.1, Option.bind_some]
      exact ⟨_, _, rfl, rfl, rfl, hfin⟩
    rw [if_neg c4, if_neg c4]
    have hsp := cl_spread hok hv hln hT hk
    by_cases c5 : x1 = 5
    · rw [if_pos c5, if_pos c5, hsp.1, Option.bind_some, md_bnk hok hv hmw hT hE' hk, Option.bind_some]
      exact ⟨_, _, rfl, rfl, rfl, hfin⟩
    have hspr : f_X1_spread y.2.2.2.1 y.2.2.2.2.1 y.2.2.2.2.2.2.1 y.2.2.2.2.2.2.2.1 y.2.2.2.2.2.2.2.2.2.1 (fr (pB N t v k)) (nI (pB N t v (k + 1) - 1)) = some (nI (spk N t v k)) := by
      rw [g1]; exact hsp.2.1
    rw [if_neg c5, if_neg c5, cl_natural hok hln j1 j2, Option.bind_some, hspr, Option.bind_some, show nI (nL N t v (v 35)) = nI (pL N t v) from rfl, md_end hok hv hA hmw hw hT hE' hk, Option.bind_some]
    refine ⟨_, _, rfl, rfl, ?_, hfin⟩
    dsimp only
    rw [zI_nat, zI_add]
end LNQ
