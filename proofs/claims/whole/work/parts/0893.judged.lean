/-! pure: leftOf, judged -/
section JDG
variable {N : Nat} {t : Nat → Int32} {v : Nat → Nat} {a1 a2 a3 a4 a5 a6 A7 : Nat → Int32} {z2 z3 : Int32}
theorem two_leftOf (hok : tx_ok N t) (hv : sv_ok v) {f : Nat → Int32} (hf : sv_at f v) {w0 w1 w7 : hm_SR} (h0 : w0.1 = nI (ct (nb t) N) ∧ fil (nb t) t N w0.2) (h1 : w1.1 = nI (ct (we N t) N) ∧ fil (we N t) (fun j => nI (ct (nb t) (j + 1))) N w1.2) (h7 : w7.1 = nI (nP N t)) {b0 b1 b2 : Nat → Int32} {l0 l1 l2 l3 l4 : hm_SR} {y0 y1 y2 y3 : Int32} {s0 s1 s2 s3 s4 s5 : hm_SR} {y4 y5 z : Int32} (h : fr_t N t v (b0, b1, b2, l0, l1, l2, l3, l4, y0, y1, y2, y3, s0, s1, s2, s3, s4, s5, y4, y5, z)) (hA : sv_at A7 v) (hmw : mw_k N t N a1 a2 a3 a4 a5 a6 z2 z3) (A14 : Nat → Int32) (x x1 : Int32) : ∃ (q : Int32 × hm_FT) (q9 : Int32 × (Nat → Int32)), f_X7_leftOf z w0 w1 w7 f l0 l1 l2 l3 l4 y0 y1 y2 y3 b0 b1 b2 s0 s1 s2 s3 s4 s5 y4 y5 x x1 = some q ∧ f_X8_leftOf a1 a2 a4 a5 a6 A7 A14 (nI N) (nI (nP N t)) x x1 = some q9 ∧ q.1 = q9.1 ∧ fr_t N t v q.2 := by
  have hPc : nP N t ≤ 100 := pl_100 hok
  obtain ⟨c, c1, c2, rfl⟩ := zI_of x
  obtain ⟨d, d1, d2, rfl⟩ := zI_of x1
  have m1 : (-1 : Int32) = zI (-1) := rfl
  by_cases hp : 0 ≤ d ∧ d < nP N t
  · have hpl : f_X8_isPlace (nI (nP N t)) (zI d) = some 1 := by
      rw [f_X8_isPlace, md_in, Option.bind_some, if_pos (show 0 ≤ zI d ∧ zI d ≤ nI (nP N t) - 1 from ⟨by rw [zl_0, zI_le (by omega) (by omega) (by omega) (by omega)]; omega, by rw [zI_nat, zl_1, zI_sub, zI_le (by omega) (by omega) (by omega) (by omega)]; omega⟩), bl_1, Option.bind_some]
    rw [f_X7_leftOf, f_X8_leftOf, hpl, Option.bind_some, if_neg n10, md_in, Option.bind_some]
    by_cases hc : -1 ≤ c ∧ c < d
    · have e1 : zI c = fr (c + 1).toNat := by unfold fr; congr 1; omega
      have e2 : zI d = nI d.toNat := zI_N hp.1
      rw [if_neg (show ¬ zI c < -1 by rw [m1, zI_lt (by omega) (by omega) (by omega) (by omega)]; omega), if_neg (show ¬ zI d ≤ zI c by rw [zI_le (by omega) (by omega) (by omega) (by omega)]; omega), if_pos (show -1 ≤ zI c ∧ zI c ≤ zI d - 1 from ⟨by rw [m1, zI_le (by omega) (by omega) (by omega) (by omega)]; omega, by rw [zl_1, zI_sub, zI_le (by omega) (by omega) (by omega) (by omega)]; omega⟩), if_neg n10, f_X7_isPlace, if_neg (show ¬ zI d < 0 by rw [zl_0, zI_lt (by omega) (by omega) (by omega) (by omega)]; omega), f_X3_placeCount, rg_size, Option.bind_some, Option.bind_some, h7, if_neg (show ¬ nI (nP N t) ≤ zI d by rw [zI_nat, zI_le (by omega) (by omega) (by omega) (by omega)]; omega), Option.bind_some, if_neg n10]
      obtain ⟨y, q1, hs, hz⟩ := cl_fresh hok hv hf h0 h1 h
      have hfin : fr_t N t v y := Or.inr ⟨hz, hs⟩
      obtain ⟨hln, ⟨g0, g1, g2, g3⟩, hm⟩ := hs
      obtain ⟨W, w2, w3⟩ := md_sums (A14 := A14) hok hv hA hmw.1
      have hcl : f_X1_left y.2.2.2.1 y.2.2.2.2.1 y.2.2.2.2.2.2.2.1 y.2.2.2.2.2.2.2.2.2.1 (zI c) (zI d) = some (zI (lf N t v (v 35) (c + 1).toNat d.toNat)) := by
        rw [e1, e2, f_X1_left, g1, cl_leftBy hok hln (by omega) (by omega), Option.bind_some]
      rw [q1, Option.bind_some, hcl, Option.bind_some, w2, Option.bind_some, nl_35, rd_in (by omega) (by omega), Option.bind_some, hA 35 (by omega), e1, e2, md_left hok hv hA hmw w3 (by omega) (by omega), Option.bind_some]
      exact ⟨_, _, rfl, rfl, rfl, hfin⟩
    · rw [if_neg (show ¬ (-1 ≤ zI c ∧ zI c ≤ zI d - 1) from fun hh => hc (by
        have t1 := hh.1
        have t2 := hh.2
        rw [m1, zI_le (by omega) (by omega) (by omega) (by omega)] at t1
        rw [zl_1, zI_sub, zI_le (by omega) (by omega) (by omega) (by omega)] at t2
        omega)), if_pos n00]
      by_cases hc1 : c < -1
      · rw [if_pos (show zI c < -1 by rw [m1, zI_lt (by omega) (by omega) (by omega) (by omega)]; omega)]
        exact ⟨_, _, rfl, rfl, rfl, h⟩
      · rw [if_neg (show ¬ zI c < -1 by rw [m1, zI_lt (by omega) (by omega) (by omega) (by omega)]; omega), if_pos (show zI d ≤ zI c by rw [zI_le (by omega) (by omega) (by omega) (by omega)]; omega)]
        exact ⟨_, _, rfl, rfl, rfl, h⟩
  · have hpl : f_X8_isPlace (nI (nP N t)) (zI d) = some 0 := by
      rw [f_X8_isPlace, md_in, Option.bind_some, if_neg (show ¬ (0 ≤ zI d ∧ zI d ≤ nI (nP N t) - 1) from fun hh => hp (by
        have t1 := hh.1
        have t2 := hh.2
        rw [zl_0, zI_le (by omega) (by omega) (by omega) (by omega)] at t1
        rw [zI_nat, zl_1, zI_sub, zI_le (by omega) (by omega) (by omega) (by omega)] at t2
        omega)), bl_0, Option.bind_some]
    rw [f_X7_leftOf, f_X8_leftOf, hpl, Option.bind_some, if_pos n00]
    by_cases hc1 : zI c < -1
    · rw [if_pos hc1]
      exact ⟨_, _, rfl, rfl, rfl, h⟩
    rw [if_neg hc1]
    by_cases hc2 : zI d ≤ zI c
    · rw [if_pos hc2]
      exact ⟨_, _, rfl, rfl, rfl, h⟩
    rw [if_neg hc2, f_X7_isPlace]
    by_cases hc3 : zI d < 0
    · rw [if_pos hc3, Option.bind_some, if_pos n00]
      exact ⟨_, _, rfl, rfl, rfl, h⟩
    have hc3' : ¬ d < 0 := fun z => hc3 (by rw [zl_0, zI_lt (by omega) (by omega) (by omega) (by omega)]; omega)
    rw [if_neg hc3, f_X3_placeCount, rg_size, Option.bind_some, Option.bind_some, h7, if_pos (show nI (nP N t) ≤ zI d by rw [zI_nat, zI_le (by omega) (by omega) (by omega) (by omega)]; omega), Option.bind_some, if_pos n00]
    exact ⟨_, _, rfl, rfl, rfl, h⟩
theorem least (p : Nat → Prop) [DecidablePred p] : ∀ n, (∀ j, j < n → p j) ∨ ∃ k, k < n ∧ ¬ p k ∧ ∀ j, j < k → p j
  | 0 => Or.inl (fun j hj => absurd hj (Nat.not_lt_zero _))
  | n + 1 => by
    rcases least p n with h | ⟨k, h1, h2, h3⟩
    · by_cases hp : p n
      · refine Or.inl (fun j hj => ?_)
        by_cases e : j = n
        · rw [e]; exact hp
        · exact h j (by omega)
      · exact Or.inr ⟨n, by omega, hp, h⟩
    · exact Or.inr ⟨k, by omega, h2, h3⟩
/-- costs of the draft's first lines -/
def dc (N : Nat) (t : Nat → Int32) (v : Nat → Nat) (D : Nat → Nat) : Nat → Nat := sm (fun j => cst N t v (st D j) (D j) (lf N t v (v 35) (st D j) (D j)).toNat)
theorem cl_wrong (hok : tx_ok N t) (hv : sv_ok v) {w7 r r0 r1 r2 r3 r4 : hm_SR} (hln : ln_k N t v N r0 r1 r2 r3 r4) {n : Nat} {D : Nat → Nat} {a : Nat → Int32} {z : Int32} (hd : dr_is (nP N t) n D r a z) {k : Nat} (hk : k ≤ n) (hall : ∀ j, j < k → 0 ≤ lf N t v (v 35) (st D j) (D j)) : f_X7_firstWrongLine r w7 r0 r1 r4 (nI (v 35)) = f_X7_firstWrongLine_l4 r w7 r0 r1 r4 (nI (v 35)) (hm_fu - k) (fr (st D k)) (nI k) ∧ f_X7_costOfDraft r r0 r1 r2 r4 (nI (v 35)) (nI (v 36)) (nI (v 37)) = f_X7_costOfDraft_l6 r r0 r1 r2 r4 (nI (v 35)) (nI (v 36)) (nI (v 37)) (hm_fu - k) (nI (dc N t v D k)) (fr (st D k)) (nI k) := by
  have hPc : nP N t ≤ 100 := pl_100 hok
  have hfu : hm_fu = 1000000 := rfl
  have hms := hv.2.2.2.2.2.1
  have hd' := hd
  obtain ⟨h1, h2, h3, h4, h5⟩ := hd
  induction k with
  | zero => exact ⟨rfl, rfl⟩
  | succ k ih =>
    obtain ⟨g1, g2, g3, g4⟩ := h4 k (by omega)
    obtain ⟨i1, i2⟩ := ih (by omega) (fun j hj => hall j (by omega))
    have hst := st_le hd' (show k < n by omega)
    have hlk := hall k (by omega)
    have hle := lf_le (ms := v 35) hv hst g3
    have hleft : f_X1_left r0 r1 r4 (nI (v 35)) (fr (st D k)) (nI (D k)) = some (nI (lf N t v (v 35) (st D k) (D k)).toNat) := by
      rw [f_X1_left, cl_leftBy hok hln hst g3, Option.bind_some, zI_N hlk]
    constructor
    · rw [i1, show hm_fu - k = hm_fu - (k + 1) + 1 by omega, f_X7_firstWrongLine_l4_s, rg_size, Option.bind_some, h2, if_neg (by rw [nI_lei (by omega) (by omega)]; omega), rg_in h2 (by omega) (by omega) (by omega), Option.bind_some, g1, hleft, Option.bind_some, if_pos (show (0 : Int32) ≤ nI _ from nI_pos' (by omega)), nI_1, st_s, fr_s]
    · rw [i2, show hm_fu - k = hm_fu - (k + 1) + 1 by omega, f_X7_costOfDraft_l6_s, rg_size, Option.bind_some, h2, if_neg (by rw [nI_lei (by omega) (by omega)]; omega), rg_in h2 (by omega) (by omega) (by omega), Option.bind_some, g1, f_X1_cost, hleft, Option.bind_some, cl_costBy hok hv hln hst g3 (by omega), Option.bind_some, Option.bind_some, nI_add, nI_1, st_s, fr_s]
      rfl
theorem md_wrong (hok : tx_ok N t) (hv : sv_ok v) (hA : sv_at A7 v) (h : mw_k N t N a1 a2 a3 a4 a5 a6 z2 z3) {W : Nat → Int32} (hw : ∀ j, j ≤ N → W j = nI (wsm v t j)) {n : Nat} {D : Nat → Nat} {r : hm_SR} {a : Nat → Int32} {z : Int32} (hd : dr_is (nP N t) n D r a z) (A15 A16 A17 A18 : Nat → Int32) (z7 x : Int32) {k : Nat} (hk : k ≤ n) (hall : ∀ j, j < k → 0 ≤ lf N t v (v 35) (st D j) (D j)) : f_X8_judged_l22 a1 a2 a4 a5 a6 A7 a A15 A16 A17 A18 (nI N) (nI (nP N t)) z z7 x hm_fu 0 (-1) 0 W = f_X8_judged_l22 a1 a2 a4 a5 a6 A7 a A15 A16 A17 A18 (nI N) (nI (nP N t)) z z7 x (hm_fu - k) (nI (dc N t v D k)) (fr (st D k)) (nI k) W := by
  have hPc : nP N t ≤ 100 := pl_100 hok
  have hfu : hm_fu = 1000000 := rfl
  have hms := hv.2.2.2.2.2.1
  have hd' := hd
  obtain ⟨h1, h2, h3, h4, h5⟩ := hd
  induction k with
  | zero => rfl
  | succ k ih =>
    obtain ⟨g1, g2, g3, g4⟩ := h4 k (by omega)
    have hst := st_le hd' (show k < n by omega)
    have hlk := hall k (by omega)
    have hle := lf_le (ms := v 35) hv hst g3
    rw [ih (by omega) (fun j hj => hall j (by omega)), show hm_fu - k = hm_fu - (k + 1) + 1 by omega, f_X8_judged_l22_s, h3, if_neg (by rw [nI_lei (by omega) (by omega)]; omega), rd_in (by omega) (by omega), Option.bind_some, g2, nl_35, rd_in (by omega) (by omega), Option.bind_some, hA 35 (by omega), md_left hok hv hA h hw hst g3, Option.bind_some, zI_N hlk, if_pos (show (0 : Int32) ≤ nI _ from nI_pos' (by omega)), Option.bind_some, md_cost hok hv hA h hst g3 (by omega), Option.bind_some, Option.bind_some, nI_add, nI_1, st_s, fr_s]
    rfl
theorem two_judged (hok : tx_ok N t) (hv : sv_ok v) {f : Nat → Int32} (hf : sv_at f v) {w0 w1 w7 : hm_SR} (h0 : w0.1 = nI (ct (nb t) N) ∧ fil (nb t) t N w0.2) (h1 : w1.1 = nI (ct (we N t) N) ∧ fil (we N t) (fun j => nI (ct (nb t) (j + 1))) N w1.2) (h7 : w7.1 = nI (nP N t)) {b0 b1 b2 : Nat → Int32} {l0 l1 l2 l3 l4 : hm_SR} {y0 y1 y2 y3 : Int32} {s0 s1 s2 s3 s4 s5 : hm_SR} {y4 y5 z : Int32} (h : fr_t N t v (b0, b1, b2, l0, l1, l2, l3, l4, y0, y1, y2, y3, s0, s1, s2, s3, s4, s5, y4, y5, z)) (hA : sv_at A7 v) (hmw : mw_k N t N a1 a2 a3 a4 a5 a6 z2 z3) {n : Nat} {D : Nat → Nat} {r : hm_SR} {a : Nat → Int32} {z5 : Int32} (hd : dr_is (nP N t) n D r a z5) (A14 A15 A16 A17 A18 : Nat → Int32) (z7 x : Int32) : ∃ (q : Int32 × hm_FT) (q9 : Int32 × (Nat → Int32) × (Nat → Int32) × (Nat → Int32) × (Nat → Int32) × (Nat → Int32) × Int32), f_X7_judged r z w0 w1 w7 f l0 l1 l2 l3 l4 y0 y1 y2 y3 b0 b1 b2 s0 s1 s2 s3 s4 s5 y4 y5 x = some q ∧ f_X8_judged a1 a2 a4 a5 a6 A7 a A14 A15 A16 A17 A18 (nI N) (nI (nP N t)) z5 z7 x = some q9 ∧ q.1 = q9.1 ∧ fr_t N t v q.2 := by
  have hPc : nP N t ≤ 100 := pl_100 hok
  have hfu : hm_fu = 1000000 := rfl
  have hms := hv.2.2.2.2.2.1
  rw [f_X7_judged, f_X8_judged, md_in, Option.bind_some]
  by_cases hx0 : x < 0
  · rw [if_pos hx0, if_neg (show ¬ (0 ≤ x ∧ x ≤ 2) from fun hh => by have := Int32.lt_iff_toInt_lt.1 hx0; have := Int32.le_iff_toInt_le.1 hh.1; omega), if_pos n00]
    exact ⟨_, _, rfl, rfl, rfl, h⟩
  rw [if_neg hx0]
  by_cases hx2n : ¬ x ≤ 2
  · rw [if_neg hx2n, if_neg (show ¬ (0 ≤ x ∧ x ≤ 2) from fun hh => hx2n hh.2), if_pos n00]
    exact ⟨_, _, rfl, rfl, rfl, h⟩
  have hx2 : x ≤ 2 := Decidable.not_not.1 hx2n
  rw [if_pos hx2, if_pos (show 0 ≤ x ∧ x ≤ 2 from ⟨i_le hx0, hx2⟩), if_neg n10]
  obtain ⟨y, e1, hs, hz⟩ := cl_fresh hok hv hf h0 h1 h
  have hfin : fr_t N t v y := Or.inr ⟨hz, hs⟩
  obtain ⟨hln, ⟨g0, g1, g2, g3⟩, hm⟩ := hs
  obtain ⟨W, w2, w3⟩ := md_sums (A14 := A14) hok hv hA hmw.1
  rw [e1, Option.bind_some, w2, Option.bind_some]
  have hd' := hd
  obtain ⟨d1, d2, d3, d4, d5⟩ := hd
  rcases least (fun j => 0 ≤ lf N t v (v 35) (st D j) (D j)) n with hall | ⟨k, hk, hbad, hall⟩
  · -- every line fits
    obtain ⟨c1, c2⟩ := cl_wrong (w7 := w7) hok hv hln hd' (Nat.le_refl n) hall
    rw [md_wrong hok hv hA hmw w3 hd' A15 A16 A17 A18 z7 x (Nat.le_refl n) hall, show hm_fu - n = hm_fu - n - 1 + 1 by omega, f_X8_judged_l22_s, d3, if_pos (Int32.le_refl _), f_X8_judged_l109]
    have hstn : st D n ≤ nP N t := by
      cases n with
      | zero => exact Nat.zero_le _
      | succ m => rw [st_s]; exact (d4 m (by omega)).2.2.1
    have hfw : f_X7_firstWrongLine r w7 y.2.2.2.1 y.2.2.2.2.1 y.2.2.2.2.2.2.2.1 y.2.2.2.2.2.2.2.2.2.1 = some (if st D n = nP N t then -1 else nI n) := by
      rw [g1, c1, show hm_fu - n = hm_fu - n - 1 + 1 by omega, f_X7_firstWrongLine_l4_s, rg_size, Option.bind_some, d2, if_pos (Int32.le_refl _), f_X7_firstWrongLine_l46, f_X3_placeCount, rg_size, Option.bind_some, Option.bind_some, h7]
      by_cases he : st D n = nP N t
      · rw [if_pos (show fr (st D n) = nI (nP N t) - 1 by rw [he]; unfold fr; rw [zI_nat, zl_1, zI_sub]), if_pos he]
      · rw [if_neg (show ¬ fr (st D n) = nI (nP N t) - 1 by unfold fr; rw [zI_nat, zl_1, zI_sub, zI_eq (by omega) (by omega) (by omega) (by omega)]; omega), rg_size, Option.bind_some, d2, if_neg he]
    rw [hfw, Option.bind_some]
    by_cases he : st D n = nP N t
    · rw [if_pos he, if_neg (show ¬ (0 : Int32) ≤ -1 by decide), if_pos (show nI (nP N t) - 1 ≤ fr (st D n) by rw [he]; unfold fr; rw [zI_nat, zl_1, zI_sub]; exact Int32.le_refl _), nl_35, rd_in (by omega) (by omega), Option.bind_some, hA 35 (by omega), f_X7_judged_l29]
      have hT : TB N t v (v 35) 0 ≠ none := by
        have back : ∀ d j, n = j + d → TB N t v (v 35) (st D j) ≠ none := by
          intro d
          induction d with
          | zero =>
            intro j hj
            rw [show j = n by omega, he, TB_end]
            intro z; cases z
          | succ d ih =>
            intro j hj
            have hn := ih (j + 1) (by omega)
            rw [st_s] at hn
            exact TB_path (st_le hd' (by omega)) (d4 j (by omega)).2.2.1 (hall j (by omega)) hn
        exact back n 0 (by omega)
      obtain ⟨w, p, g, q, e, hw, hmp⟩ := md_page hok hv hv.2.2.2.2.2.1 hA hmw W A15 A16 A17 A18
      cases hTe : TB N t v (v 35) 0 with
      | none => exact absurd hTe hT
      | some o =>
        rw [hTe] at hm hmp
        obtain ⟨m1, m2, m3, m4, m5⟩ := hm
        obtain ⟨p1, p2, hE⟩ := hmp
        rw [p1, Option.bind_some]
        by_cases x0 : x = 0
        · rw [if_pos x0, if_pos x0, if_neg n10]
          exact ⟨_, _, rfl, rfl, rfl, hfin⟩
        rw [if_neg x0, if_neg x0]
        by_cases x1 : x = 1
        · rw [if_pos x1, if_pos x1, if_neg n10]
          exact ⟨_, _, rfl, rfl, rfl, hfin⟩
        have hcd : f_X7_costOfDraft r y.2.2.2.1 y.2.2.2.2.1 y.2.2.2.2.2.1 y.2.2.2.2.2.2.2.1 y.2.2.2.2.2.2.2.2.2.1 y.2.2.2.2.2.2.2.2.2.2.1 y.2.2.2.2.2.2.2.2.2.2.2.1 = some (nI (dc N t v D n)) := by
          rw [g1, g2, g3, c2, show hm_fu - n = hm_fu - n - 1 + 1 by omega, f_X7_costOfDraft_l6_s, rg_size, Option.bind_some, d2, if_pos (Int32.le_refl _)]
        rw [if_neg x1, if_neg x1, if_neg n10, hcd, Option.bind_some, f_X5_cost, Option.bind_some, nl_0, rd_in (by omega) (by omega), Option.bind_some]
        refine ⟨_, _, rfl, rfl, ?_, hfin⟩
        dsimp only
        rw [m2, p2]
    · rw [if_neg he, if_pos (show (0 : Int32) ≤ nI n from nI_pos' (by omega)), if_neg (show ¬ nI (nP N t) - 1 ≤ fr (st D n) by unfold fr; rw [zI_nat, zl_1, zI_sub, zI_le (by omega) (by omega) (by omega) (by omega)]; omega), f_X7_judged_l29]
      by_cases x0 : x = 0
      · rw [if_pos x0, if_pos x0, if_pos n00, rg_size, Option.bind_some, d2, if_pos (Int32.le_refl _)]
        exact ⟨_, _, rfl, rfl, rfl, hfin⟩
      rw [if_neg x0, if_neg x0]
      by_cases x1 : x = 1
      · rw [if_pos x1, if_pos x1, if_pos n00]
        exact ⟨_, _, rfl, rfl, rfl, hfin⟩
      rw [if_neg x1, if_neg x1, if_pos n00]
      exact ⟨_, _, rfl, rfl, rfl, hfin⟩
  · obtain ⟨c1, c2⟩ := cl_wrong (w7 := w7) hok hv hln hd' (show k ≤ n by omega) hall
    obtain ⟨e1', e2', e3', e4'⟩ := d4 k hk
    have hst := st_le hd' hk
    have hlo := lf_ge (ms := v 35) (f := st D k) hok hv e3'
    have hneg : ¬ (0 : Int32) ≤ zI (lf N t v (v 35) (st D k) (D k)) := by
      rw [zl_0, zI_le (by omega) (by omega) (by omega) (by omega)]; exact hbad
    have hfw : f_X7_firstWrongLine r w7 y.2.2.2.1 y.2.2.2.2.1 y.2.2.2.2.2.2.2.1 y.2.2.2.2.2.2.2.2.2.1 = some (nI k) := by
      rw [g1, c1, show hm_fu - k = hm_fu - k - 1 + 1 by omega, f_X7_firstWrongLine_l4_s, rg_size, Option.bind_some, d2, if_neg (by rw [nI_lei (by omega) (by omega)]; omega), rg_in d2 hk (by omega) (by omega), Option.bind_some, e1', f_X1_left, cl_leftBy hok hln hst e3', Option.bind_some, Option.bind_some, if_neg hneg]
    rw [md_wrong hok hv hA hmw w3 hd' A15 A16 A17 A18 z7 x (show k ≤ n by omega) hall, show hm_fu - k = hm_fu - k - 1 + 1 by omega, f_X8_judged_l22_s, d3, if_neg (show ¬ nI n ≤ nI k by rw [nI_lei (by omega) (by omega)]; omega), rd_in (by omega) (by omega), Option.bind_some, e2', nl_35, rd_in (by omega) (by omega), Option.bind_some, hA 35 (by omega), md_left hok hv hA hmw w3 hst e3', Option.bind_some, if_neg hneg, hfw, Option.bind_some, if_pos (show (0 : Int32) ≤ nI k from nI_pos' (by omega)), f_X7_judged_l29]
    by_cases x0 : x = 0
    · rw [if_pos x0, if_pos x0, if_pos n00, rg_size, Option.bind_some, d2, if_neg (show ¬ nI n ≤ nI k by rw [nI_lei (by omega) (by omega)]; omega)]
      exact ⟨_, _, rfl, rfl, rfl, hfin⟩
    rw [if_neg x0, if_neg x0]
    by_cases x1 : x = 1
    · rw [if_pos x1, if_pos x1, if_pos n00]
      exact ⟨_, _, rfl, rfl, rfl, hfin⟩
    rw [if_neg x1, if_neg x1, if_pos n00]
    exact ⟨_, _, rfl, rfl, rfl, hfin⟩
end JDG
