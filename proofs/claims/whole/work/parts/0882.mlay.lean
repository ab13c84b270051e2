/-! pure: the model lays the blanks, the loops -/
section MLY
variable {N : Nat} {t : Nat → Int32} {v : Nat → Nat} {a1 a2 a3 a4 a5 a6 A7 W E : Nat → Int32} {z2 z3 : Int32}
theorem pL_le (hv : sv_ok v) {o : Nat × Nat × Nat} (hT : TB N t v (v 35) 0 = some o) : pL N t v ≤ nP N t := by
  have h := (TB_le hv hv.2.2.2.2.2.1 (Nat.zero_le _) hT).2
  have e : pL N t v = o.2.1 := by unfold pL nL; rw [hT]
  omega
theorem md_bef (hok : tx_ok N t) (hv : sv_ok v) {o : Nat × Nat × Nat} (hT : TB N t v (v 35) 0 = some o) (hE : ∀ k, k < pL N t v → E k = nI (pB N t v (k + 1) - 1)) {k : Nat} (hk : k < pL N t v) : f_X8_before E (nI k) = some (fr (pB N t v k)) := by
  have hP : nP N t ≤ 100 := pl_100 hok
  have hL := pL_le hv hT
  cases k with
  | zero => rw [f_X8_before, if_pos (show nI 0 = 0 from rfl)]; rfl
  | succ k =>
    rw [f_X8_before, if_neg (by rw [nl_0, nI_eqi (by omega) (by omega)]; omega), nI_m1 (by omega), Nat.add_sub_cancel, rd_in (by omega) (by omega), Option.bind_some, hE k (by omega)]
    obtain ⟨l1, l2, l3, l4⟩ := pB_line hT (show k < pL N t v by omega)
    rw [← fr_s, l3]
theorem md_bnk (hok : tx_ok N t) (hv : sv_ok v) (h : mw_k N t N a1 a2 a3 a4 a5 a6 z2 z3) {o : Nat × Nat × Nat} (hT : TB N t v (v 35) 0 = some o) (hE : ∀ k, k < pL N t v → E k = nI (pB N t v (k + 1) - 1)) {k : Nat} (hk : k < pL N t v) : f_X8_blanksOf a4 a6 E (nI k) = some (nI (bn N t v k)) := by
  have hP : nP N t ≤ 100 := pl_100 hok
  have hL := pL_le hv hT
  obtain ⟨l1, l2, l3, l4⟩ := pB_line hT hk
  have hfl := fwd_le hok l1 l2
  rw [f_X8_blanksOf, rd_in (by omega) (by omega), Option.bind_some, hE k hk, rd_in (by omega) (by omega), Option.bind_some, (md_pw h l2).1, md_bef hok hv hT hE hk, Option.bind_some, md_fw hok h (by omega), Option.bind_some, pk_sub hfl]
  rfl
theorem md_giv (hok : tx_ok N t) (hv : sv_ok v) (h : mw_k N t N a1 a2 a3 a4 a5 a6 z2 z3) {o : Nat × Nat × Nat} (hT : TB N t v (v 35) 0 = some o) (hE : ∀ k, k < pL N t v → E k = nI (pB N t v (k + 1) - 1)) {k : Nat} (hk : k < pL N t v) : f_X8_isGiving a4 a6 E (nI (pL N t v)) (nI k) = some (if k + 1 < pL N t v ∧ 0 < bn N t v k then 1 else 0) := by
  have hP : nP N t ≤ 100 := pl_100 hok
  have hL := pL_le hv hT
  have hb : bn N t v k ≤ 30 := by
    obtain ⟨l1, l2, l3, l4⟩ := pB_line hT hk
    have hW : nW N t ≤ 30 := by unfold nW; rw [← ct_words]; exact hok.2.2
    have := wP_lt l2
    unfold bn; omega
  rw [f_X8_isGiving, nI_m1 (by omega)]
  by_cases h1 : k + 1 < pL N t v
  · rw [if_neg (by rw [nI_lei (by omega) (by omega)]; omega), md_bnk hok hv h hT hE hk, Option.bind_some]
    by_cases h2 : 0 < bn N t v k
    · rw [if_neg (by rw [nl_0, nI_lei (by omega) (by omega)]; omega), if_pos ⟨h1, h2⟩]
    · rw [if_pos (by rw [nl_0, nI_lei (by omega) (by omega)]; omega), if_neg (by omega)]
  · rw [if_pos (by rw [nI_lei (by omega) (by omega)]; omega), if_neg (by omega)]
theorem md_lin (hok : tx_ok N t) (hv : sv_ok v) (hA : sv_at A7 v) (h : mw_k N t N a1 a2 a3 a4 a5 a6 z2 z3) (hw : ∀ j, j ≤ N → W j = nI (wsm v t j)) {o : Nat × Nat × Nat} (hT : TB N t v (v 35) 0 = some o) (hE : ∀ k, k < pL N t v → E k = nI (pB N t v (k + 1) - 1)) {k : Nat} (hk : k < pL N t v) : f_X8_leftIn a1 a2 a4 a5 a6 A7 W E (nI k) = some (nI (lfk N t v k)) := by
  have hP : nP N t ≤ 100 := pl_100 hok
  have hL := pL_le hv hT
  obtain ⟨l1, l2, l3, l4⟩ := pB_line hT hk
  rw [f_X8_leftIn, md_bef hok hv hT hE hk, Option.bind_some, rd_in (by omega) (by omega), Option.bind_some, hE k hk, nl_35, rd_in (by omega) (by omega), Option.bind_some, hA 35 (by omega), md_left hok hv hA h hw l1 l2, Option.bind_some, zI_N l4]
  rfl
theorem md_lay (hok : tx_ok N t) (hv : sv_ok v) (hA : sv_at A7 v) (h : mw_k N t N a1 a2 a3 a4 a5 a6 z2 z3) (hw : ∀ j, j ≤ N → W j = nI (wsm v t j)) {o : Nat × Nat × Nat} (hT : TB N t v (v 35) 0 = some o) (hE : ∀ k, k < pL N t v → E k = nI (pB N t v (k + 1) - 1)) (A19 A20 A21 A22 A23 : Nat → Int32) : ∃ b19 b20 b21 : Nat → Int32, f_X8_laysBlanks a1 a2 a3 a4 a5 a6 A7 W E A19 A20 A21 A22 A23 (nI (pL N t v)) = f_X8_laysBlanks_l235 A22 A23 b19 b20 b21 (nI (bo N t v (pL N t v))) ∧ brow N t v (bo N t v (pL N t v)) b19 b20 b21 := by
  have hP : nP N t ≤ 100 := pl_100 hok
  have hL := pL_le hv hT
  have hN := hok.1
  have hW : nW N t ≤ 30 := by unfold nW; rw [← ct_words]; exact hok.2.2
  have key : ∀ (d k fuel : Nat), pL N t v = k + d → d < fuel → ∀ c19 c20 c21 : Nat → Int32, brow N t v (bo N t v k) c19 c20 c21 → ∃ b19 b20 b21 : Nat → Int32, f_X8_laysBlanks_l7 a1 a2 a3 a4 a5 a6 A7 W E A22 A23 (nI (pL N t v)) fuel (nI k) c19 c20 c21 (nI (bo N t v k)) = f_X8_laysBlanks_l235 A22 A23 b19 b20 b21 (nI (bo N t v (pL N t v))) ∧ brow N t v (bo N t v (pL N t v)) b19 b20 b21 := by
    intro d
    induction d with
    | zero =>
      intro k fuel hk hf c19 c20 c21 hc
      obtain ⟨fuel, rfl⟩ : ∃ z, fuel = z + 1 := ⟨fuel - 1, by omega⟩
      have e : k = pL N t v := by omega
      rw [f_X8_laysBlanks_l7_s, if_pos (by rw [e]; exact Int32.le_refl _), e]
      rw [e] at hc
      exact ⟨_, _, _, rfl, hc⟩
    | succ d ih =>
      intro k fuel hk hf c19 c20 c21 hc
      obtain ⟨fuel, rfl⟩ : ∃ z, fuel = z + 1 := ⟨fuel - 1, by omega⟩
      have hkL : k < pL N t v := by omega
      obtain ⟨l1, l2, l3, l4⟩ := pB_line hT hkL
      have hwt := wP_lt l2
      have hfl := fwd_le hok l1 l2
      have hbn : bn N t v k = wP N t (pB N t v (k + 1) - 1) - fwd N t (pB N t v k) := rfl
      have hbo := (bo_le hok hT (k + 1) (by omega)).2
      have hbe : bo N t v (k + 1) = bo N t v k + bn N t v k := rfl
      have hfw : fwd N t (pB N t v k) < nW N t := by omega
      obtain ⟨L, q1, q2, q3, -⟩ := md_fl hok h (show pB N t v k < nP N t by omega)
      have hsp : spk N t v k ≤ 209 := by
        have hle := lf_le (ms := v 35) hv l1 l2
        have hms := hv.2.2.2.2.2.1
        unfold spk lfk
        split <;> omega
      rw [f_X8_laysBlanks_l7_s, if_neg (by rw [nI_lei (by omega) (by omega)]; omega), md_bnk hok hv h hT hE hkL, Option.bind_some, md_giv hok hv h hT hE hkL, Option.bind_some]
      have inner : ∀ (d' i fuel' : Nat), bn N t v k = i + d' → d' < fuel' → ∀ c19 c20 c21 : Nat → Int32, brow N t v (bo N t v k + i) c19 c20 c21 → ∃ b19 b20 b21 : Nat → Int32, f_X8_laysBlanks_l105 (fun zv1 zwA_19 zwA_20 zwA_21 zwZ_8 => f_X8_laysBlanks_l7 a1 a2 a3 a4 a5 a6 A7 W E A22 A23 (nI (pL N t v)) fuel zv1 zwA_19 zwA_20 zwA_21 zwZ_8) a2 a3 A7 W fuel' (nI k) (nI (bn N t v k)) (nI (spk N t v k / bn N t v k)) (nI (spk N t v k % bn N t v k)) (nI (fwd N t (pB N t v k))) (nI (bF N t v k i)) (nI i) c19 c20 c21 (nI (bo N t v k + i)) = f_X8_laysBlanks_l235 A22 A23 b19 b20 b21 (nI (bo N t v (pL N t v))) ∧ brow N t v (bo N t v (pL N t v)) b19 b20 b21 := by
        intro d'
        induction d' with
        | zero =>
          intro i fuel' hi hf' c19 c20 c21 hc
          obtain ⟨fuel', rfl⟩ : ∃ z, fuel' = z + 1 := ⟨fuel' - 1, by omega⟩
          have e : i = bn N t v k := by omega
          rw [f_X8_laysBlanks_l105_s, if_pos (by rw [e]; exact Int32.le_refl _), f_X8_laysBlanks_l229, nI_1, e, ← hbe]
          rw [e, ← hbe] at hc
          exact ih (k + 1) fuel (by omega) (by omega) _ _ _ hc
        | succ d' ih' =>
          intro i fuel' hi hf' c19 c20 c21 hc
          obtain ⟨fuel', rfl⟩ : ∃ z, fuel' = z + 1 := ⟨fuel' - 1, by omega⟩
          have hib : i < bn N t v k := by omega
          obtain ⟨g1, g2, g3⟩ := bF_le hok hv hT hkL hib
          have hst := bF_step hok hT hkL hib
          have hw1 : fwd N t (pB N t v k) + i + 1 < nW N t := by omega
          have hse := md_se h hw1
          have hsw := sw_sp hw1
          have hew := ew_sp hw1
          have hm : spk N t v k % bn N t v k ≤ 209 := Nat.le_trans (Nat.mod_le _ _) hsp
          have hmono := wsm_mono (v := v) (t := t) (show sw N t (fwd N t (pB N t v k) + i + 1) ≤ ew N t (fwd N t (pB N t v k) + i + 1) + 1 by have := sw_le_ew (N := N) (t := t) hw1; omega)
          rw [f_X8_laysBlanks_l105_s, if_neg (by rw [nI_lei (by omega) (by omega)]; omega), wr_in (by omega) (by omega), Option.bind_some, wr_in (by omega) (by omega), Option.bind_some, nl_34, rd_in (by omega) (by omega), Option.bind_some, hA 34 (by omega)]
          have tail : ∀ x : Int32, x = nI (bT N t v k i) → ∀ c c' : Int32, c + c' = x → ∃ b19 b20 b21 : Nat → Int32, f_X8_laysBlanks_l164 (fun zv1 zwA_19 zwA_20 zwA_21 zwZ_8 => f_X8_laysBlanks_l7 a1 a2 a3 a4 a5 a6 A7 W E A22 A23 (nI (pL N t v)) fuel zv1 zwA_19 zwA_20 zwA_21 zwZ_8) (fun zv1 zv2 zv3 zv4 zv5 zv6 zv7 zwA_19 zwA_20 zwA_21 zwZ_8 => f_X8_laysBlanks_l105 (fun zv1 zwA_19 zwA_20 zwA_21 zwZ_8 => f_X8_laysBlanks_l7 a1 a2 a3 a4 a5 a6 A7 W E A22 A23 (nI (pL N t v)) fuel zv1 zwA_19 zwA_20 zwA_21 zwZ_8) a2 a3 A7 W fuel' zv1 zv2 zv3 zv4 zv5 zv6 zv7 zwA_19 zwA_20 zwA_21 zwZ_8) a2 a3 W c' c (nI (bo N t v k + i)) (nI k) (nI (bn N t v k)) (nI (spk N t v k / bn N t v k)) (nI (spk N t v k % bn N t v k)) (nI (fwd N t (pB N t v k))) (nI i) (upd c19 (bo N t v k + i) (nI k)) (upd c20 (bo N t v k + i) (nI (bF N t v k i))) c21 (nI (bo N t v k + i)) = f_X8_laysBlanks_l235 A22 A23 b19 b20 b21 (nI (bo N t v (pL N t v))) ∧ brow N t v (bo N t v (pL N t v)) b19 b20 b21 := by
            intro x hx c c' hcc
            rw [f_X8_laysBlanks_l164, hcc, hx, wr_in (by omega) (by omega), Option.bind_some, rd_in (by omega) (by omega), Option.bind_some, ud_s, nI_add, nI_1, rd_in (by omega) (by omega), Option.bind_some, hse.2, rd_in (by omega) (by omega), Option.bind_some, rd_in (by omega) (by omega), Option.bind_some, hse.1, rd_in (by omega) (by omega), Option.bind_some, hw _ (by omega), hw _ (by omega), nI_add, pk_sub (by omega), nI_1, nI_1, show bT N t v k i + wsm v t (ew N t (fwd N t (pB N t v k) + i + 1) + 1) - wsm v t (sw N t (fwd N t (pB N t v k) + i + 1)) = bF N t v k (i + 1) by omega]
            exact ih' (i + 1) fuel' (by omega) (by omega) _ _ _ (brow_add hkL hib hc rfl rfl rfl)
          by_cases hlt : i < spk N t v k % bn N t v k
          · rw [if_neg (by rw [nI_lei (by omega) (by omega)]; omega)]
            refine tail _ rfl _ _ ?_
            rw [nI_add, nI_add, nI_1]
            unfold bT
            rw [if_pos hlt]
          · rw [if_pos (by rw [nI_lei (by omega) (by omega)]; omega)]
            refine tail _ rfl _ _ ?_
            rw [nI_add, nI_add, nl_0, nI_add]
            unfold bT
            rw [if_neg hlt]
      have l60 : ∃ b19 b20 b21 : Nat → Int32, f_X8_laysBlanks_l60 (fun zv1 zwA_19 zwA_20 zwA_21 zwZ_8 => f_X8_laysBlanks_l7 a1 a2 a3 a4 a5 a6 A7 W E A22 A23 (nI (pL N t v)) fuel zv1 zwA_19 zwA_20 zwA_21 zwZ_8) a2 a3 a4 a5 a6 A7 W E (nI (spk N t v k % bn N t v k)) (nI k) (nI (bn N t v k)) (nI (spk N t v k / bn N t v k)) c19 c20 c21 (nI (bo N t v k)) = f_X8_laysBlanks_l235 A22 A23 b19 b20 b21 (nI (bo N t v (pL N t v))) ∧ brow N t v (bo N t v (pL N t v)) b19 b20 b21 := by
        have hew := ew_sp hfw
        have e3 : bP N t v (pB N t v k) ≤ wsm v t (ew N t (fwd N t (pB N t v k)) + 1) + v 34 * fwd N t (pB N t v k) := bP_le_w (v := v) (i := 0) hok (show pB N t v k < nP N t by omega) (by omega)
        have hq := q3 v
        rw [f_X8_laysBlanks_l60, md_bef hok hv hT hE hkL, Option.bind_some, md_fw hok h (by omega), Option.bind_some, rd_in (by omega) (by omega), Option.bind_some, (md_se h hfw).2, rd_in (by omega) (by omega), Option.bind_some, Option.bind_some, q1, Option.bind_some, rd_in (by omega) (by omega), Option.bind_some, hw _ (by omega), hw _ (by omega)]
        have e0 : nI (wsm v t (ew N t (fwd N t (pB N t v k)) + 1)) - nI (wsm v t L) = nI (bF N t v k 0) := by
          have e4 : bF N t v k 0 = wsm v t (ew N t (fwd N t (pB N t v k)) + 1) + v 34 * fwd N t (pB N t v k) - bP N t v (pB N t v k) := by
            unfold bF
            rw [Nat.add_zero, Nat.zero_mul, Nat.add_zero]
            rw [show Nat.min 0 (spk N t v k % bn N t v k) = 0 from Nat.zero_min _]
            rfl
          rw [pk_sub (by omega), e4]
          congr 1
          omega
        rw [e0, nl_0]
        exact inner (bn N t v k) 0 hm_fu (by omega) (by unfold hm_fu; omega) _ _ _ hc
      by_cases hg : k + 1 < pL N t v ∧ 0 < bn N t v k
      · have hs : spk N t v k = lfk N t v k := by unfold spk; rw [if_pos hg]
        have hbne : ¬ nI (bn N t v k) = 0 := by rw [nl_0, nI_eqi (by omega) (by omega)]; omega
        rw [if_pos hg, if_neg n10, md_lin hok hv hA h hw hT hE hkL, Option.bind_some, hm_dv, if_neg hbne, pk_div (by omega) (by omega) (by omega), Option.bind_some, f_X8_laysBlanks_l40, md_giv hok hv h hT hE hkL, Option.bind_some, if_pos hg, if_neg n10, md_lin hok hv hA h hw hT hE hkL, Option.bind_some, hm_rm, if_neg hbne, pk_div (by omega) (by omega) (by omega), Option.bind_some, pk_mul, pk_sub (Nat.div_mul_le_self _ _), show lfk N t v k - lfk N t v k / bn N t v k * bn N t v k = lfk N t v k % bn N t v k by rw [Nat.mod_eq_sub_div_mul], ← hs]
        exact l60
      · have hs : spk N t v k = 0 := by unfold spk; rw [if_neg hg]
        rw [if_neg hg, if_pos n00, f_X8_laysBlanks_l40, md_giv hok hv h hT hE hkL, Option.bind_some, if_neg hg, if_pos n00]
        rw [hs, Nat.zero_div, Nat.zero_mod] at l60
        exact l60
  rw [f_X8_laysBlanks]
  exact key (pL N t v) 0 hm_fu (by omega) (by unfold hm_fu; omega) _ _ _ (fun x hx => absurd hx (Nat.not_lt_zero _))
end MLY
