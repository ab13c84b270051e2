/-! pure: page, both sides -/
theorem i_le {x y : Int32} (h : ¬ x < y) : y ≤ x := by
  rw [Int32.le_iff_toInt_le]
  have hh : ¬ x.toInt < y.toInt := fun z => h (Int32.lt_iff_toInt_lt.2 z)
  omega
section PQM
variable {N : Nat} {t : Nat → Int32} {v : Nat → Nat} {a1 a2 a3 a4 a5 a6 A7 W E : Nat → Int32} {z2 z3 : Int32}
theorem md_end (hok : tx_ok N t) (hv : sv_ok v) (hA : sv_at A7 v) (h : mw_k N t N a1 a2 a3 a4 a5 a6 z2 z3) (hw : ∀ j, j ≤ N → W j = nI (wsm v t j)) {o : Nat × Nat × Nat} (hT : TB N t v (v 35) 0 = some o) (hE : ∀ k, k < pL N t v → E k = nI (pB N t v (k + 1) - 1)) {k : Nat} (hk : k < pL N t v) : f_X8_endOf a1 a2 a4 a5 a6 A7 W E (nI (pL N t v)) (nI k) = some (zI ((eP N t v (pB N t v (k + 1) - 1) : Int) - bP N t v (pB N t v k) + spk N t v k)) := by
  have hP : nP N t ≤ 100 := pl_100 hok
  have hL := pL_le hv hT
  obtain ⟨l1, l2, l3, l4⟩ := pB_line hT hk
  rw [f_X8_endOf, md_bef hok hv hT hE hk, Option.bind_some, rd_in (by omega) (by omega), Option.bind_some, hE k hk, md_natural hok hv hA h hw l1 l2, Option.bind_some, md_giv hok hv h hT hE hk, Option.bind_some]
  by_cases hg : k + 1 < pL N t v ∧ 0 < bn N t v k
  · have hs : spk N t v k = lfk N t v k := by unfold spk; rw [if_pos hg]
    rw [if_pos hg, if_neg n10, md_lin hok hv hA h hw hT hE hk, Option.bind_some, zI_nat, zI_add, hs]
  · have hs : spk N t v k = 0 := by unfold spk; rw [if_neg hg]
    rw [if_neg hg, if_pos n00, zl_0, zI_add, hs]
    rfl
theorem md_rough (hok : tx_ok N t) (hv : sv_ok v) (hA : sv_at A7 v) (h : mw_k N t N a1 a2 a3 a4 a5 a6 z2 z3) (hw : ∀ j, j ≤ N → W j = nI (wsm v t j)) {o : Nat × Nat × Nat} (hT : TB N t v (v 35) 0 = some o) (hE : ∀ k, k < pL N t v → E k = nI (pB N t v (k + 1) - 1)) : f_X8_rough a1 a2 a4 a5 a6 A7 W E (nI (pL N t v)) = some (nI (sm (rgh N t v) (pL N t v - 1))) := by
  have hPc : nP N t ≤ 100 := pl_100 hok
  have hL := pL_le hv hT
  have key : ∀ (d k fuel : Nat), pL N t v - 1 = k + d → d < fuel → f_X8_rough_l4 a1 a2 a4 a5 a6 A7 W E (nI (pL N t v)) fuel (nI (sm (rgh N t v) k)) (nI k) = some (nI (sm (rgh N t v) (pL N t v - 1))) := by
    intro d
    induction d with
    | zero =>
      intro k fuel hk hf
      obtain ⟨fuel, rfl⟩ : ∃ z, fuel = z + 1 := ⟨fuel - 1, by omega⟩
      rw [f_X8_rough_l4_s, if_pos (by rw [zI_nat, zI_nat, zl_1, zI_sub, zI_le (by omega) (by omega) (by omega) (by omega)]; omega), show k = pL N t v - 1 by omega]
    | succ d ih =>
      intro k fuel hk hf
      obtain ⟨fuel, rfl⟩ : ∃ z, fuel = z + 1 := ⟨fuel - 1, by omega⟩
      have hkL : k < pL N t v := by omega
      obtain ⟨l1, l2, l3, l4⟩ := pB_line hT hkL
      have hlf := lfk_le hv hT hkL
      have next := ih (k + 1) fuel (by omega) (by omega)
      have he : (lfk N t v k : Int) = lf N t v (v 35) (pB N t v k) (pB N t v (k + 1) - 1) := by unfold lfk; omega
      have hlfe : lf N t v (v 35) (pB N t v k) (pB N t v (k + 1) - 1) = (v 35 : Int) + hP N t v (pB N t v (k + 1) - 1) - eP N t v (pB N t v (k + 1) - 1) + bP N t v (pB N t v k) := rfl
      have hval : zI ((eP N t v (pB N t v (k + 1) - 1) : Int) - bP N t v (pB N t v k) + spk N t v k) - nI (v 35) - nI (hP N t v (pB N t v (k + 1) - 1)) = zI (-(rgh N t v k : Int)) := by
        rw [zI_nat, zI_nat, zI_sub, zI_sub]
        congr 1
        unfold rgh
        omega
      have hr : rgh N t v k ≤ 209 := by unfold rgh; omega
      have hsm : sm (rgh N t v) (k + 1) = sm (rgh N t v) k + rgh N t v k := rfl
      rw [hsm] at next
      rw [f_X8_rough_l4_s, if_neg (by rw [zI_nat, zI_nat, zl_1, zI_sub, zI_le (by omega) (by omega) (by omega) (by omega)]; omega), md_end hok hv hA h hw hT hE hkL, Option.bind_some, nl_35, rd_in (by omega) (by omega), Option.bind_some, hA 35 (by omega), rd_in (by omega) (by omega), Option.bind_some, hE k hkL, md_hung hok hv hA h l2, Option.bind_some, hval]
      by_cases h0 : rgh N t v k = 0
      · rw [if_pos (by rw [h0]; decide), f_X8_rough_l50, nI_1, h0, show zI (-((0 : Nat) : Int)) = nI 0 from rfl, nI_add]
        rw [h0] at next
        exact next
      · rw [if_neg (by rw [zl_0, zI_le (by omega) (by omega) (by omega) (by omega)]; omega), f_X8_rough_l50, nI_1, zI_neg, Int.neg_neg, ← zI_nat, nI_add]
        exact next
  exact key (pL N t v - 1) 0 hm_fu (by omega) (by unfold hm_fu; omega)
theorem md_pageq (hok : tx_ok N t) (hv : sv_ok v) (hA : sv_at A7 v) (h : mw_k N t N a1 a2 a3 a4 a5 a6 z2 z3) (A14 A15 A16 A17 A18 A19 A20 A21 A22 A23 : Nat → Int32) (z7 z8 x : Int32) : ∃ q9, f_X8_page a1 a2 a3 a4 a5 a6 A7 A14 A15 A16 A17 A18 A19 A20 A21 A22 A23 (nI N) (nI (nP N t)) z7 z8 x = some q9 ∧ q9.1 = pgv N t v x := by
  have hP : nP N t ≤ 100 := pl_100 hok
  have hin : f_X8_in x 0 5 = some (if 0 ≤ x ∧ x ≤ 5 then 1 else 0) := md_in x 0 5
  rw [f_X8_page, hin, Option.bind_some]
  by_cases hx : 0 ≤ x ∧ x ≤ 5
  · rw [if_pos hx, if_neg n10, nl_35, rd_in (by omega) (by omega), Option.bind_some, hA 35 (by omega)]
    unfold pgv
    rw [if_pos hx]
    obtain ⟨w, p, g, q, e, hw, hm⟩ := md_page hok hv hv.2.2.2.2.2.1 hA h A14 A15 A16 A17 A18
    cases hT : TB N t v (v 35) 0 with
    | none =>
      rw [hT] at hm
      dsimp only at hm
      rw [hm, Option.bind_some, if_pos n00]
      exact ⟨_, rfl, rfl⟩
    | some o =>
      rw [hT] at hm
      obtain ⟨m1, m2, hE⟩ := hm
      have hL := pL_le hv hT
      have hn : nB N t v ≤ 29 := (bo_le hok hT (pL N t v) (Nat.le_refl _)).2
      rw [m1, Option.bind_some, if_neg n10]
      obtain ⟨n, rfl, hn1, hn2⟩ := in_nat (a := 0) (b := 5) (by omega) (by omega) hx
      dsimp only
      have hcase : n = 0 ∨ n = 1 ∨ n = 3 ∨ (2 ≤ n ∧ n ≠ 3) := by omega
      rcases hcase with hn0 | hn0 | hn0 | ⟨hn0, hn3⟩
      · rw [hn0, if_neg (by decide), if_pos (by decide), if_pos (by decide), nl_0, rd_in (by omega) (by omega), Option.bind_some]
        exact ⟨_, rfl, m2⟩
      · rw [hn0, if_neg (by decide), if_neg (by decide), if_neg (by decide), if_pos (by decide)]
        exact ⟨_, rfl, rfl⟩
      · rw [hn0, if_pos (by decide), if_pos (by decide), if_neg (by decide), if_neg (by decide), if_neg (by decide), if_pos (by decide), show nI (nL N t v (v 35)) = nI (pL N t v) from rfl, md_rough hok hv hA h hw hT hE, Option.bind_some]
        exact ⟨_, rfl, rfl⟩
      · rw [if_pos (by rw [nl_2, nI_lei (by omega) (by omega)]; exact hn0), if_neg (by rw [nl_3, nI_eqi (by omega) (by omega)]; exact hn3), if_neg (by rw [nl_0, nI_eqi (by omega) (by omega)]; omega), if_neg (by rw [nl_1, nI_eqi (by omega) (by omega)]; omega), if_neg (show ¬ nI n = 3 by rw [nl_3, nI_eqi (by omega) (by omega)]; exact hn3)]
        obtain ⟨b19, b20, b21, g1, g2⟩ := md_lay hok hv hA h hw hT hE A19 A20 A21 A22 A23
        obtain ⟨c22, c23, g3, g4⟩ := md_rivers hok hv hT g2 A22 A23
        rw [show nI (nL N t v (v 35)) = nI (pL N t v) from rfl, g1, f_X8_laysBlanks_l235, show bo N t v (pL N t v) = nB N t v from rfl, g3, Option.bind_some, Option.bind_some]
        dsimp only
        have k2 : ∀ (d k fuel : Nat), nB N t v = k + d → d < fuel → ∀ s : Nat, ∃ q9, f_X8_page_l113 (nI n) fuel (nI s) (nI (ct (SPR N t v) k)) (nI (mxl (fun _ => true) (LG N t v) k)) (nI k) w p g q e b19 b20 b21 c22 c23 (nI (pL N t v)) (nI (nB N t v)) = some q9 ∧ q9.1 = (if nI n = 2 then nI s else if nI n = 4 then nI (ct (SPR N t v) (nB N t v)) else nI (mxl (fun _ => true) (LG N t v) (nB N t v))) := by
          intro d
          induction d with
          | zero =>
            intro k fuel hk hf s
            obtain ⟨fuel, rfl⟩ : ∃ z, fuel = z + 1 := ⟨fuel - 1, by omega⟩
            rw [f_X8_page_l113_s, if_pos (by rw [nI_lei (by omega) (by omega)]; omega), f_X8_page_l172, show k = nB N t v by omega]
            by_cases e2 : nI n = 2
            · rw [if_pos e2, if_pos e2]; exact ⟨_, rfl, rfl⟩
            · by_cases e4 : nI n = 4
              · rw [if_neg e2, if_neg e2, if_pos e4, if_pos e4]; exact ⟨_, rfl, rfl⟩
              · rw [if_neg e2, if_neg e2, if_neg e4, if_neg e4]; exact ⟨_, rfl, rfl⟩
          | succ d ih =>
            intro k fuel hk hf s
            obtain ⟨fuel, rfl⟩ : ∃ z, fuel = z + 1 := ⟨fuel - 1, by omega⟩
            have next := ih (k + 1) fuel (by omega) (by omega) s
            have hmx := mxl_le (p := fun _ => true) (n := k) (LG_le (N := N) (t := t) (v := v))
            have hg := LG_le (N := N) (t := t) (v := v) k
            rw [f_X8_page_l113_s, if_neg (by rw [nI_lei (by omega) (by omega)]; omega), rd_in (by omega) (by omega), Option.bind_some, (g4 k (by omega)).2]
            have tail : ∀ y : Nat, ct (SPR N t v) (k + 1) = y → ∀ c c' : Int32, c' + c = nI y → ∃ q9, f_X8_page_l138 (fun zv2 zv3 zv4 zv5 zwA_14 zwA_15 zwA_16 zwA_17 zwA_18 zwA_19 zwA_20 zwA_21 zwA_22 zwA_23 zwZ_7 zwZ_8 => f_X8_page_l113 (nI n) fuel zv2 zv3 zv4 zv5 zwA_14 zwA_15 zwA_16 zwA_17 zwA_18 zwA_19 zwA_20 zwA_21 zwA_22 zwA_23 zwZ_7 zwZ_8) c c' (nI s) (nI (mxl (fun _ => true) (LG N t v) k)) (nI k) w p g q e b19 b20 b21 c22 c23 (nI (pL N t v)) (nI (nB N t v)) = some q9 ∧ q9.1 = (if nI n = 2 then nI s else if nI n = 4 then nI (ct (SPR N t v) (nB N t v)) else nI (mxl (fun _ => true) (LG N t v) (nB N t v))) := by
              intro y hy c c' hcc
              rw [hy, mxl, if_pos rfl] at next
              rw [f_X8_page_l138, rd_in (by omega) (by omega), Option.bind_some, (g4 k (by omega)).1, hcc]
              by_cases hlt : mxl (fun _ => true) (LG N t v) k < LG N t v k
              · rw [if_pos hlt] at next
                rw [if_neg (by rw [nI_lei (by omega) (by omega)]; omega), Option.bind_some, f_X8_page_l164, nI_1]
                exact next
              · rw [if_neg hlt] at next
                rw [if_pos (by rw [nI_lei (by omega) (by omega)]; omega), f_X8_page_l164, nI_1]
                exact next
            cases hs : SPR N t v k with
            | false =>
              rw [show bi false = 0 from rfl, if_pos n00]
              exact tail _ (ct_n hs) _ _ (by rw [nl_0, nI_add]; rfl)
            | true =>
              rw [show bi true = 1 from rfl, if_neg n10]
              exact tail _ (ct_y hs) _ _ (by rw [nI_1])
        have k1 : ∀ (d k fuel : Nat), pL N t v = k + d → d < fuel → ∃ q9, f_X8_page_l69 a6 (nI n) fuel (nI (ct (sE N t v) k)) (nI k) w p g q e b19 b20 b21 c22 c23 (nI (pL N t v)) (nI (nB N t v)) = some q9 ∧ q9.1 = (if nI n = 2 then nI (ct (sE N t v) (pL N t v)) else if nI n = 4 then nI (ct (SPR N t v) (nB N t v)) else nI (mxl (fun _ => true) (LG N t v) (nB N t v))) := by
          intro d
          induction d with
          | zero =>
            intro k fuel hk hf
            obtain ⟨fuel, rfl⟩ : ∃ z, fuel = z + 1 := ⟨fuel - 1, by omega⟩
            rw [f_X8_page_l69_s, if_pos (by rw [nI_lei (by omega) (by omega)]; omega), f_X8_page_l105, show k = pL N t v by omega]
            exact k2 (nB N t v) 0 hm_fu (by omega) (by unfold hm_fu; omega) _
          | succ d ih =>
            intro k fuel hk hf
            obtain ⟨fuel, rfl⟩ : ∃ z, fuel = z + 1 := ⟨fuel - 1, by omega⟩
            obtain ⟨l1, l2, l3, l4⟩ := pB_line hT (show k < pL N t v by omega)
            have next := ih (k + 1) fuel (by omega) (by omega)
            have hpw : a6 (lb N t v (v 35) (k + 1) - 1) = if sP N t (pB N t v (k + 1) - 1) = true then 1 else 0 := (md_pw h l2).2.2
            rw [f_X8_page_l69_s, if_neg (by rw [nI_lei (by omega) (by omega)]; omega), rd_in (by omega) (by omega), Option.bind_some, hE k (show k < pL N t v by omega), rd_in (show lb N t v (v 35) (k + 1) - 1 < 104 by have : pB N t v (k + 1) = lb N t v (v 35) (k + 1) := rfl; omega) (by omega), Option.bind_some, hpw]
            cases hs : sP N t (pB N t v (k + 1) - 1) with
            | true =>
              rw [ct_y (show sE N t v k = true from hs)] at next
              rw [bq_t, if_neg n10, f_X8_page_l97, nI_1, nI_1]
              exact next
            | false =>
              rw [ct_n (show sE N t v k = false from hs)] at next
              rw [bq_f, if_pos n00, f_X8_page_l97, nI_1, nl_0, nI_add, Nat.add_zero]
              exact next
        exact k1 (pL N t v) 0 hm_fu (by omega) (by unfold hm_fu; omega)
  · rw [if_neg hx, if_pos n00]
    unfold pgv
    rw [if_neg hx]
    exact ⟨_, rfl, rfl⟩
theorem cl_pageq (hok : tx_ok N t) (hv : sv_ok v) {f : Nat → Int32} (hf : sv_at f v) {w0 w1 : hm_SR} (h0 : w0.1 = nI (ct (nb t) N) ∧ fil (nb t) t N w0.2) (h1 : w1.1 = nI (ct (we N t) N) ∧ fil (we N t) (fun j => nI (ct (nb t) (j + 1))) N w1.2) {b0 b1 b2 : Nat → Int32} {l0 l1 l2 l3 l4 : hm_SR} {y0 y1 y2 y3 : Int32} {s0 s1 s2 s3 s4 s5 : hm_SR} {y4 y5 z : Int32} (h : fr_t N t v (b0, b1, b2, l0, l1, l2, l3, l4, y0, y1, y2, y3, s0, s1, s2, s3, s4, s5, y4, y5, z)) (x : Int32) : ∃ q : Int32 × hm_FT, f_X7_page z w0 w1 f l0 l1 l2 l3 l4 y0 y1 y2 y3 b0 b1 b2 s0 s1 s2 s3 s4 s5 y4 y5 x = some q ∧ q.1 = pgv N t v x ∧ fr_t N t v q.2 := by
  unfold pgv
  rw [f_X7_page]
  by_cases hx0 : x < 0
  · rw [if_pos hx0, if_neg (fun hh => by have := Int32.lt_iff_toInt_lt.1 hx0; have := Int32.le_iff_toInt_le.1 hh.1; omega)]
    exact ⟨_, rfl, rfl, h⟩
  · rw [if_neg hx0]
    by_cases hx5 : x ≤ 5
    · have hx : 0 ≤ x ∧ x ≤ 5 := ⟨i_le hx0, hx5⟩
      rw [if_pos hx5, if_pos hx]
      obtain ⟨y, e1, hs, hz⟩ := cl_fresh hok hv hf h0 h1 h
      have hfin : fr_t N t v y := Or.inr ⟨hz, hs⟩
      obtain ⟨hln, ⟨g0, g1, g2, g3⟩, hm⟩ := hs
      rw [e1, Option.bind_some]
      cases hT : TB N t v (v 35) 0 with
      | none =>
        rw [hT] at hm
        have hm' : y.2.2.2.2.2.2.2.2.2.2.2.2.2.2.2.2.2.2.1 = 0 := hm
        rw [show f_X5_isThere y.2.2.2.2.2.2.2.2.2.2.2.2.2.2.2.2.2.2.1 = some 0 by rw [hm']; rfl, Option.bind_some, if_pos n00]
        exact ⟨_, rfl, rfl, hfin⟩
      | some o =>
        rw [hT] at hm
        obtain ⟨m1, m2, m3, m4, m5⟩ := hm
        dsimp only
        rw [show f_X5_isThere y.2.2.2.2.2.2.2.2.2.2.2.2.2.2.2.2.2.2.1 = some 1 by rw [m1]; rfl, Option.bind_some, if_neg n10]
        by_cases c0 : x = 0
        · rw [if_pos c0, if_pos c0, f_X5_cost, Option.bind_some]
          exact ⟨_, rfl, m2, hfin⟩
        · rw [if_neg c0, if_neg c0]
          by_cases c1 : x = 1
          · rw [if_pos c1, if_pos c1, f_X5_lineCount, rg_size, Option.bind_some, Option.bind_some]
            exact ⟨_, rfl, m3.1, hfin⟩
          · rw [if_neg c1, if_neg c1]
            by_cases c2 : x = 2
            · rw [if_pos c2, if_pos c2, cl_slends hok hv hT m3 hln, Option.bind_some]
              exact ⟨_, rfl, rfl, hfin⟩
            · rw [if_neg c2, if_neg c2]
              by_cases c3 : x = 3
              · rw [if_pos c3, if_pos c3, show f_X5_rough y.2.2.2.2.2.2.2.2.2.2.2.2.1 y.2.2.2.1 y.2.2.2.2.1 y.2.2.2.2.2.2.1 y.2.2.2.2.2.2.2.1 y.2.2.2.2.2.2.2.2.2.1 = some (nI (sm (rgh N t v) (pL N t v - 1))) by rw [g1]; exact cl_rough hok hv hT m3 hln, Option.bind_some]
                exact ⟨_, rfl, rfl, hfin⟩
              · rw [if_neg c3, if_neg c3]
                by_cases c4 : x = 4
                · rw [if_pos c4, if_pos c4, cl_springs hok hT m5, Option.bind_some]
                  exact ⟨_, rfl, rfl, hfin⟩
                · rw [if_neg c4, if_neg c4, cl_longall hok hv hT m5, Option.bind_some]
                  exact ⟨_, rfl, rfl, hfin⟩
    · rw [if_neg hx5, if_neg (fun hh => hx5 hh.2)]
      exact ⟨_, rfl, rfl, h⟩
end PQM
