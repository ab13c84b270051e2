/-! pure: blank, both sides at once -/
section BLQ
variable {N : Nat} {t : Nat → Int32} {v : Nat → Nat} {a1 a2 a3 a4 a5 a6 A7 : Nat → Int32} {z2 z3 : Int32}
theorem to_nat {x : Int32} {n : Nat} (hn : n < 2147483648) (h0 : ¬ x < 0) (h : x < nI n) : ∃ k : Nat, x = nI k ∧ k < n := by
  obtain ⟨c, c1, c2, rfl⟩ := zI_of x
  have d1 := Int32.lt_iff_toInt_lt.1 h
  rw [nI_toInt (by omega), zI_to c1 c2] at d1
  have d2 : ¬ (zI c).toInt < (0 : Int32).toInt := fun z => h0 (Int32.lt_iff_toInt_lt.2 z)
  rw [zI_to c1 c2] at d2
  have d3 : (0 : Int32).toInt = 0 := rfl
  exact ⟨c.toNat, zI_N (by omega), by omega⟩
theorem two_blank (hok : tx_ok N t) (hv : sv_ok v) {f : Nat → Int32} (hf : sv_at f v) {w0 w1 : hm_SR} (h0 : w0.1 = nI (ct (nb t) N) ∧ fil (nb t) t N w0.2) (h1 : w1.1 = nI (ct (we N t) N) ∧ fil (we N t) (fun j => nI (ct (nb t) (j + 1))) N w1.2) {b0 b1 b2 : Nat → Int32} {l0 l1 l2 l3 l4 : hm_SR} {y0 y1 y2 y3 : Int32} {s0 s1 s2 s3 s4 s5 : hm_SR} {y4 y5 z : Int32} (h : fr_t N t v (b0, b1, b2, l0, l1, l2, l3, l4, y0, y1, y2, y3, s0, s1, s2, s3, s4, s5, y4, y5, z)) (hA : sv_at A7 v) (hmw : mw_k N t N a1 a2 a3 a4 a5 a6 z2 z3) (A14 A15 A16 A17 A18 A19 A20 A21 A22 A23 : Nat → Int32) (z7 z8 x x1 x2 : Int32) : ∃ (q : Int32 × hm_FT) (q9 : Int32 × (Nat → Int32) × (Nat → Int32) × (Nat → Int32) × (Nat → Int32) × (Nat → Int32) × (Nat → Int32) × (Nat → Int32) × (Nat → Int32) × (Nat → Int32) × (Nat → Int32) × Int32 × Int32), f_X7_blank z w0 w1 f l0 l1 l2 l3 l4 y0 y1 y2 y3 b0 b1 b2 s0 s1 s2 s3 s4 s5 y4 y5 x x1 x2 = some q ∧ f_X8_blank a1 a2 a3 a4 a5 a6 A7 A14 A15 A16 A17 A18 A19 A20 A21 A22 A23 (nI N) (nI (nP N t)) z7 z8 x x1 x2 = some q9 ∧ q.1 = q9.1 ∧ fr_t N t v q.2 := by
  have hPc : nP N t ≤ 100 := pl_100 hok
  rw [f_X7_blank, f_X8_blank]
  by_cases hx0 : x < 0
  · rw [if_pos hx0, if_pos hx0]
    exact ⟨_, _, rfl, rfl, rfl, h⟩
  rw [if_neg hx0, if_neg hx0]
  by_cases hx10 : x1 < 0
  · rw [if_pos hx10, if_pos hx10]
    exact ⟨_, _, rfl, rfl, rfl, h⟩
  rw [if_neg hx10, if_neg hx10, md_in, Option.bind_some]
  by_cases hx20 : x2 < 0
  · rw [if_pos hx20, if_neg (show ¬ (0 ≤ x2 ∧ x2 ≤ 3) from fun hh => by have := Int32.lt_iff_toInt_lt.1 hx20; have := Int32.le_iff_toInt_le.1 hh.1; omega), if_pos n00]
    exact ⟨_, _, rfl, rfl, rfl, h⟩
  rw [if_neg hx20]
  by_cases hx23n : ¬ x2 ≤ 3
  · rw [if_neg hx23n, if_neg (show ¬ (0 ≤ x2 ∧ x2 ≤ 3) from fun hh => hx23n hh.2), if_pos n00]
    exact ⟨_, _, rfl, rfl, rfl, h⟩
  have hx23 : x2 ≤ 3 := Decidable.not_not.1 hx23n
  rw [if_pos hx23, if_pos (show 0 ≤ x2 ∧ x2 ≤ 3 from ⟨i_le hx20, hx23⟩), if_neg n10, nl_35, rd_in (by omega) (by omega), Option.bind_some, hA 35 (by omega)]
  obtain ⟨y, e1, hs, hz⟩ := cl_fresh hok hv hf h0 h1 h
  have hfin : fr_t N t v y := Or.inr ⟨hz, hs⟩
  obtain ⟨hln, ⟨g0, g1, g2, g3⟩, hm⟩ := hs
  obtain ⟨w, p, g, q, e, hw, hmp⟩ := md_page hok hv hv.2.2.2.2.2.1 hA hmw A14 A15 A16 A17 A18
  rw [e1, Option.bind_some]
  cases hT : TB N t v (v 35) 0 with
  | none =>
    rw [hT] at hm hmp
    have hm' : y.2.2.2.2.2.2.2.2.2.2.2.2.2.2.2.2.2.2.1 = 0 := hm
    dsimp only at hmp
    rw [show f_X5_isThere y.2.2.2.2.2.2.2.2.2.2.2.2.2.2.2.2.2.2.1 = some 0 by rw [hm']; rfl, Option.bind_some, if_pos n00, hmp, Option.bind_some, if_pos n00]
    exact ⟨_, _, rfl, rfl, rfl, hfin⟩
  | some o =>
    rw [hT] at hm hmp
    obtain ⟨m1, m2, m3, m4, m5⟩ := hm
    obtain ⟨p1, p2, hE⟩ := hmp
    have hE' : ∀ k, k < pL N t v → e k = nI (pB N t v (k + 1) - 1) := hE
    have hL := pL_le hv hT
    rw [show f_X5_isThere y.2.2.2.2.2.2.2.2.2.2.2.2.2.2.2.2.2.2.1 = some 1 by rw [m1]; rfl, Option.bind_some, if_neg n10, p1, Option.bind_some, if_neg n10, f_X5_lineCount, rg_size, Option.bind_some, Option.bind_some]
    dsimp only
    rw [m3.1, show nI (nL N t v (v 35)) = nI (pL N t v) from rfl]
    by_cases hxn : ¬ x < nI (pL N t v)
    · rw [if_neg hxn, if_neg hxn]
      exact ⟨_, _, rfl, rfl, rfl, hfin⟩
    have hxl : x < nI (pL N t v) := Decidable.not_not.1 hxn
    rw [if_pos hxl, if_pos hxl]
    obtain ⟨k, rfl, hk⟩ := to_nat (by omega) hx0 hxl
    have hn : nB N t v ≤ 29 := (bo_le hok hT (pL N t v) (Nat.le_refl _)).2
    have hme : bo N t v (pL N t v) = nB N t v := rfl
    have hmo := bo_mono (N := N) (t := t) (v := v) (show k + 1 ≤ pL N t v by omega)
    have hbe : bo N t v (k + 1) = bo N t v k + bn N t v k := rfl
    have hbc : f_X5_blankCount y.2.2.2.2.2.2.2.2.2.2.2.2.2.1 (nI k) = some (nI (bn N t v k)) := by
      rw [f_X5_blankCount, nI_1, cl_fblank hok hv hT m3 (by omega), Option.bind_some, cl_fblank hok hv hT m3 (by omega), Option.bind_some, pk_sub (by omega), hbe, Nat.add_sub_cancel_left]
    rw [hbc, Option.bind_some, md_bnk hok hv hmw hT hE' hk, Option.bind_some]
    by_cases hin : ¬ x1 < nI (bn N t v k)
    · rw [if_neg hin, if_neg hin]
      exact ⟨_, _, rfl, rfl, rfl, hfin⟩
    have hil : x1 < nI (bn N t v k) := Decidable.not_not.1 hin
    rw [if_pos hil, if_pos hil]
    obtain ⟨i, rfl, hi⟩ := to_nat (by omega) hx10 hil
    obtain ⟨b19, b20, b21, u1, u2⟩ := md_lay hok hv hA hmw hw hT hE' A19 A20 A21 A22 A23
    obtain ⟨c22, c23, u3, u4⟩ := md_rivers hok hv hT u2 A22 A23
    rw [u1, f_X8_laysBlanks_l235, show bo N t v (pL N t v) = nB N t v from rfl, u3, Option.bind_some, Option.bind_some]
    dsimp only
    have hbi : bo N t v k + i < nB N t v := by omega
    -- the model finds the line's first blank
    have key : ∀ (d j fuel : Nat), bo N t v k = j + d → d < fuel → f_X8_blank_l65 (nI k) (nI i) x2 fuel (nI (j + i)) w p g q e b19 b20 b21 c22 c23 (nI (pL N t v)) (nI (nB N t v)) = f_X8_blank_l84 x2 (nI (bo N t v k + i)) w p g q e b19 b20 b21 c22 c23 (nI (pL N t v)) (nI (nB N t v)) := by
      intro d
      induction d with
      | zero =>
        intro j fuel hj hfu
        obtain ⟨fuel, rfl⟩ : ∃ z, fuel = z + 1 := ⟨fuel - 1, by omega⟩
        have ej : j = bo N t v k := by omega
        have h00 : 0 < bn N t v k := by omega
        rw [f_X8_blank_l65_s, pk_sub (by omega), Nat.add_sub_cancel, rd_in (by omega) (by omega), Option.bind_some, (u2 j (by omega)).1, ej, show bo N t v k = bo N t v k + 0 from rfl, LN_at hk h00, if_pos rfl]
      | succ d ih =>
        intro j fuel hj hfu
        obtain ⟨fuel, rfl⟩ : ∃ z, fuel = z + 1 := ⟨fuel - 1, by omega⟩
        have hjb : j < nB N t v := by omega
        have hlj := LN_lt hjb
        have hne : LN N t v j ≠ k := by
          intro ek
          rw [ek] at hlj
          omega
        rw [f_X8_blank_l65_s, pk_sub (by omega), Nat.add_sub_cancel, rd_in (by omega) (by omega), Option.bind_some, (u2 j hjb).1, if_neg (by rw [nI_eqi (by omega) (by omega)]; exact hne), nI_1, show j + i + 1 = j + 1 + i by omega]
        exact ih (j + 1) fuel (by omega) (by omega)
    have hk0 := key (bo N t v k) 0 hm_fu (by omega) (by unfold hm_fu; omega)
    rw [Nat.zero_add] at hk0
    rw [hk0, f_X5_blankOf, cl_fblank hok hv hT m3 (by omega), Option.bind_some, nI_add, f_X8_blank_l84]
    obtain ⟨r1, r2, r3⟩ := u2 _ hbi
    obtain ⟨r4, r5⟩ := u4 _ hbi
    obtain ⟨v1, v2, v3, v4, v5⟩ := m4
    obtain ⟨v6, v7⟩ := v5 _ hbi
    obtain ⟨v8, v9⟩ := m5.2.2 _ (Nat.zero_le _) hbi
    by_cases c0 : x2 = 0
    · rw [if_pos c0, if_pos c0, rg_in v1 hbi (by omega) (by omega), Option.bind_some, Option.bind_some, rd_in (by omega) (by omega), Option.bind_some, r2, v6]
      exact ⟨_, _, rfl, rfl, rfl, hfin⟩
    rw [if_neg c0, if_neg c0]
    by_cases c1 : x2 = 1
    · rw [if_pos c1, if_pos c1, rg_in v2 hbi (by omega) (by omega), Option.bind_some, Option.bind_some, rd_in (by omega) (by omega), Option.bind_some, r3, v7]
      exact ⟨_, _, rfl, rfl, rfl, hfin⟩
    rw [if_neg c1, if_neg c1]
    by_cases c2 : x2 = 2
    · rw [if_pos c2, if_pos c2, rg_in v3 hbi (by omega) (by omega), Option.bind_some, Option.bind_some, rd_in (by omega) (by omega), Option.bind_some, r4, v8]
      exact ⟨_, _, rfl, rfl, rfl, hfin⟩
    rw [if_neg c2, if_neg c2, rg_in v4 hbi (by omega) (by omega), Option.bind_some, Option.bind_some, rd_in (by omega) (by omega), Option.bind_some, r5, v9]
    cases SPR N t v (bo N t v k + i) with
    | false => rw [if_pos (show bi false = 0 from rfl)]; exact ⟨_, _, rfl, rfl, rfl, hfin⟩
    | true => rw [if_neg (show ¬ bi true = 0 from n10)]; exact ⟨_, _, rfl, rfl, rfl, hfin⟩
end BLQ
