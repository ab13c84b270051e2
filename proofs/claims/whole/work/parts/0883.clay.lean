/-! pure: the class lays the blanks -/
section CLY
variable {N : Nat} {t : Nat → Int32} {v : Nat → Nat} {r0 r1 r2 r3 r4 : hm_SR}
/-- the sheet's rows of the first n blanks -/
def srow (N : Nat) (t : Nat → Int32) (v : Nat → Nat) (n : Nat) (a b c d : hm_SR) : Prop := a.1 = nI n ∧ b.1 = nI n ∧ c.1 = nI n ∧ d.1 = nI n ∧ ∀ x, x < n → a.2 x = nI (fF N t v x) ∧ b.2 x = nI (fT N t v x)
theorem cl_spread (hok : tx_ok N t) (hv : sv_ok v) (h : ln_k N t v N r0 r1 r2 r3 r4) {o : Nat × Nat × Nat} (hT : TB N t v (v 35) 0 = some o) {k : Nat} (hk : k < pL N t v) : f_X1_blanks r3 (fr (pB N t v k)) (nI (pB N t v (k + 1) - 1)) = some (nI (bn N t v k)) ∧ f_X1_spread r0 r1 r3 r4 (nI (v 35)) (fr (pB N t v k)) (nI (pB N t v (k + 1) - 1)) = some (nI (spk N t v k)) ∧ bn N t v k ≤ 30 ∧ spk N t v k ≤ 209 := by
  have hP : nP N t ≤ 100 := pl_100 hok
  have hL := pL_le hv hT
  have hW : nW N t ≤ 30 := by unfold nW; rw [← ct_words]; exact hok.2.2
  obtain ⟨l1, l2, l3, l4⟩ := pB_line hT hk
  have hwt := wP_lt l2
  have hfl := fwd_le hok l1 l2
  have hb : bn N t v k ≤ 30 := by unfold bn; omega
  have hsp : spk N t v k ≤ 209 := by
    have hle := lf_le (ms := v 35) hv l1 l2
    have hms := hv.2.2.2.2.2.1
    unfold spk lfk
    split <;> omega
  have hbl : f_X1_blanks r3 (fr (pB N t v k)) (nI (pB N t v (k + 1) - 1)) = some (nI (bn N t v k)) := by
    rw [f_X1_blanks, (cl_g0 hok h l2).2.2.2, Option.bind_some, fr_1, (cl_g0 hok h (show pB N t v k < nP N t by omega)).2.2.2, Option.bind_some, wP_fwd hok (show pB N t v k < nP N t by omega), pk_sub hfl]
    rfl
  refine ⟨hbl, ?_, hb, hsp⟩
  rw [f_X1_spread, show f_X1_places r0 = some (nI (nP N t)) by rw [f_X1_places, rg_size, Option.bind_some, h.1.1]; rfl, Option.bind_some, nI_m1 (by omega)]
  have hend : k + 1 < pL N t v ↔ pB N t v (k + 1) - 1 ≠ nP N t - 1 := by
    constructor
    · intro hlt
      have := lb_lt hT (k := k + 1) hlt
      unfold pB at l3 ⊢
      omega
    · intro hne
      rcases Nat.lt_or_ge (k + 1) (pL N t v) with z | z
      · exact z
      · have e : k + 1 = nL N t v (v 35) := by unfold pL at z hk; omega
        have := lb_end hT
        rw [← e] at this
        unfold pB at hne
        omega
  by_cases h1 : k + 1 < pL N t v
  · have hne := hend.1 h1
    rw [if_neg (by rw [nI_eqi (by omega) (by omega)]; omega), hbl, Option.bind_some]
    by_cases h2 : bn N t v k = 0
    · rw [if_pos (by rw [h2]; rfl), f_X1_spread_l19]
      unfold spk
      rw [if_neg (by omega)]
      rfl
    · rw [if_neg (by rw [nl_0, nI_eqi (by omega) (by omega)]; omega), cl_leftBy hok h l1 l2, Option.bind_some, zI_N l4]
      unfold spk
      rw [if_pos (by omega)]
      rfl
  · rw [if_pos (by rw [nI_eqi (by omega) (by omega)]; rcases Nat.eq_or_lt_of_le (show pB N t v (k + 1) - 1 ≤ nP N t - 1 by omega) with z | z; exact z; exact absurd (hend.2 (by omega)) h1), f_X1_spread_l19]
    unfold spk
    rw [if_neg (by omega)]
    rfl
theorem cl_setline (hok : tx_ok N t) (hv : sv_ok v) (h : ln_k N t v N r0 r1 r2 r3 r4) {o : Nat × Nat × Nat} (hT : TB N t v (v 35) 0 = some o) {k : Nat} (hk : k < pL N t v) {s2 s3 s4 s5 : hm_SR} (hs : srow N t v (bo N t v k) s2 s3 s4 s5) : ∃ q2 q3 q4 q5 : hm_SR, f_X5_setLine s2 s3 s4 s5 r0 r1 r2 r3 r4 (nI (v 34)) (nI (v 35)) (fr (pB N t v k)) (nI (pB N t v (k + 1) - 1)) = some (q2, q3, q4, q5) ∧ srow N t v (bo N t v (k + 1)) q2 q3 q4 q5 := by
  have hP : nP N t ≤ 100 := pl_100 hok
  have hL := pL_le hv hT
  have hW : nW N t ≤ 30 := by unfold nW; rw [← ct_words]; exact hok.2.2
  obtain ⟨l1, l2, l3, l4⟩ := pB_line hT hk
  obtain ⟨c1, c2, c3, c4⟩ := cl_spread hok hv h hT hk
  have hwt := wP_lt l2
  have hfl := fwd_le hok l1 l2
  have hbn : bn N t v k = wP N t (pB N t v (k + 1) - 1) - fwd N t (pB N t v k) := rfl
  have hbo := (bo_le hok hT (k + 1) (by omega)).2
  have hbe : bo N t v (k + 1) = bo N t v k + bn N t v k := rfl
  have hm : spk N t v k % bn N t v k ≤ 209 := Nat.le_trans (Nat.mod_le _ _) c4
  have inner : ∀ (d p fuel : Nat), pB N t v (k + 1) - 1 = p + d → pB N t v k ≤ p → d < fuel → ∀ s2 s3 s4 s5 : hm_SR, srow N t v (bo N t v k + (wP N t p - fwd N t (pB N t v k))) s2 s3 s4 s5 → ∃ q2 q3 q4 q5 : hm_SR, f_X5_setLine_l56 r0 r2 r4 (nI (v 34)) (fr (pB N t v k)) (nI (pB N t v (k + 1) - 1)) fuel (nI (spk N t v k / bn N t v k)) (nI (spk N t v k % bn N t v k)) (nI (wP N t p - fwd N t (pB N t v k))) (nI p) s2 s3 s4 s5 = some (q2, q3, q4, q5) ∧ srow N t v (bo N t v (k + 1)) q2 q3 q4 q5 := by
    intro d
    induction d with
    | zero =>
      intro p fuel hp hfp hf s2 s3 s4 s5 hs
      obtain ⟨fuel, rfl⟩ : ∃ z, fuel = z + 1 := ⟨fuel - 1, by omega⟩
      have e : p = pB N t v (k + 1) - 1 := by omega
      rw [f_X5_setLine_l56_s, if_pos (by rw [e]; exact Int32.le_refl _)]
      rw [e, ← hbn, ← hbe] at hs
      exact ⟨_, _, _, _, rfl, hs⟩
    | succ d ih =>
      intro p fuel hp hfp hf s2 s3 s4 s5 hs
      obtain ⟨fuel, rfl⟩ : ∃ z, fuel = z + 1 := ⟨fuel - 1, by omega⟩
      have hpP : p < nP N t := by omega
      have hwn := wP_fwd hok (show p + 1 < nP N t by omega)
      have hle := fwd_le hok hfp hpP
      have hle2 := wP_le (N := N) (t := t) (show p + 1 ≤ pB N t v (k + 1) - 1 by omega) l2
      have hfn : fwd N t (p + 1) = if sP N t p = true then wP N t p else wP N t p + 1 := by
        unfold fwd
        rw [if_neg (by omega), Nat.add_sub_cancel]
      rw [hfn] at hwn
      rw [f_X5_setLine_l56_s, if_neg (by rw [nI_lei (by omega) (by omega)]; omega), f_X1_isSlashAt, (cl_g0 hok h hpP).2.2.1, Option.bind_some]
      cases hsl : sP N t p with
      | true =>
        rw [hsl, if_pos rfl] at hwn
        rw [bq_t, if_pos n11, Option.bind_some, if_neg n10, f_X5_setLine_l129, nI_1, ← hwn]
        exact ih (p + 1) fuel (by omega) (by omega) (by omega) _ _ _ _ (by rw [hwn]; exact hs)
      | false =>
        rw [hsl, if_neg (by intro z; cases z)] at hwn
        rw [bq_f, if_neg n01, Option.bind_some, if_pos n00, cl_natural hok h hfp hpP, Option.bind_some, f_X1_gap, Option.bind_some]
        have hib : wP N t p - fwd N t (pB N t v k) < bn N t v k := by omega
        obtain ⟨g1, g2, g3⟩ := bF_le hok hv hT hk hib
        have hbe' := bP_eP (v := v) hfp hpP
        have hlp : lp N t p = ew N t (wP N t p) := by
          have hw := wP_lt hpP
          have hwe := lp_we hpP hsl
          have h2 := ew_sp (N := N) (t := t) (w := wP N t p) hw
          exact ct_inj hwe h2.2.2.2 (by rw [h2.2.2.1]; rfl)
        have hep : eP N t v p = wsm v t (ew N t (wP N t p) + 1) + v 34 * wP N t p := by
          have e1 : eP N t v p = wsm v t (lp N t p + 1) + v 34 * wP N t p := by
            unfold eP xe
            rw [if_neg (show ¬ sl t (lp N t p) = true from fun z => by rw [show sl t (lp N t p) = false from hsl] at z; cases z)]
            rfl
          rw [e1, hlp]
        have hbF : bF N t v k (wP N t p - fwd N t (pB N t v k)) = eP N t v p - bP N t v (pB N t v k) + (wP N t p - fwd N t (pB N t v k)) * (spk N t v k / bn N t v k) + Nat.min (wP N t p - fwd N t (pB N t v k)) (spk N t v k % bn N t v k) := by
          unfold bF
          rw [show fwd N t (pB N t v k) + (wP N t p - fwd N t (pB N t v k)) = wP N t p by omega, hep]
        have hz : zI ((eP N t v p : Int) - bP N t v (pB N t v k)) = nI (eP N t v p - bP N t v (pB N t v k)) := by
          rw [zI_N (by omega)]; congr 1; omega
        have hmin : (if nI (spk N t v k % bn N t v k) < nI (wP N t p - fwd N t (pB N t v k)) then nI (spk N t v k % bn N t v k) else nI (wP N t p - fwd N t (pB N t v k))) = nI (Nat.min (wP N t p - fwd N t (pB N t v k)) (spk N t v k % bn N t v k)) := by
          by_cases hz : spk N t v k % bn N t v k < wP N t p - fwd N t (pB N t v k)
          · rw [if_pos (by rw [nI_lti (by omega) (by omega)]; exact hz)]
            congr 1
            exact (Nat.min_eq_right (by omega)).symm
          · rw [if_neg (by rw [nI_lti (by omega) (by omega)]; exact hz)]
            congr 1
            exact (Nat.min_eq_left (by omega)).symm
        rw [hz, hmin, pk_mul, nI_add, nI_add, ← hbF]
        have tail : ∀ c c' : Int32, c + c' = nI (bT N t v k (wP N t p - fwd N t (pB N t v k))) → ∃ q2 q3 q4 q5 : hm_SR, f_X5_setLine_l122 (fun zv5 zv6 zv7 zv8 zwR_2 zwR_3 zwR_4 zwR_5 => f_X5_setLine_l56 r0 r2 r4 (nI (v 34)) (fr (pB N t v k)) (nI (pB N t v (k + 1) - 1)) fuel zv5 zv6 zv7 zv8 zwR_2 zwR_3 zwR_4 zwR_5) c' c (nI (bF N t v k (wP N t p - fwd N t (pB N t v k)))) (nI (spk N t v k / bn N t v k)) (nI (spk N t v k % bn N t v k)) (nI (wP N t p - fwd N t (pB N t v k))) (nI p) s2 s3 s4 s5 = some (q2, q3, q4, q5) ∧ srow N t v (bo N t v (k + 1)) q2 q3 q4 q5 := by
          intro c c' hcc
          obtain ⟨u1, u2, u3, u4, u5⟩ := hs
          rw [f_X5_setLine_l122, hcc, f_X5_addBlank, rg_add u1 (by omega) (by omega), Option.bind_some, rg_add u2 (by omega) (by omega), Option.bind_some, rg_add u3 (by omega) (by omega), Option.bind_some, rg_add u4 (by omega) (by omega), Option.bind_some, Option.bind_some, f_X5_setLine_l129, nI_1, nI_1, show wP N t p - fwd N t (pB N t v k) + 1 = wP N t (p + 1) - fwd N t (pB N t v k) by omega]
          have e9 : bo N t v k + (wP N t (p + 1) - fwd N t (pB N t v k)) = bo N t v k + (wP N t p - fwd N t (pB N t v k)) + 1 := by omega
          refine ih (p + 1) fuel (by omega) (by omega) (by omega) _ _ _ _ ?_
          rw [e9]
          refine ⟨rfl, rfl, rfl, rfl, fun x hx => ?_⟩
          dsimp only
          by_cases ex : x = bo N t v k + (wP N t p - fwd N t (pB N t v k))
          · rw [ex, ud_s, ud_s, (fF_at hk hib).1, (fF_at hk hib).2]
            exact ⟨rfl, rfl⟩
          · rw [ud_n ex, ud_n ex]
            exact u5 x (by omega)
        by_cases hlt : wP N t p - fwd N t (pB N t v k) < spk N t v k % bn N t v k
        · rw [if_neg (by rw [nI_lei (by omega) (by omega)]; omega)]
          refine tail _ _ ?_
          rw [nI_add, nI_add, nI_1]
          unfold bT
          rw [if_pos hlt]
        · rw [if_pos (by rw [nI_lei (by omega) (by omega)]; omega)]
          refine tail _ _ ?_
          rw [nI_add, nI_add, nl_0, nI_add]
          unfold bT
          rw [if_neg hlt]
  have l46 : ∃ q2 q3 q4 q5 : hm_SR, f_X5_setLine_l46 s2 s3 s4 s5 r0 r2 r4 (nI (v 34)) (fr (pB N t v k)) (nI (pB N t v (k + 1) - 1)) (nI (spk N t v k % bn N t v k)) (nI (spk N t v k / bn N t v k)) = some (q2, q3, q4, q5) ∧ srow N t v (bo N t v (k + 1)) q2 q3 q4 q5 := by
    have e0 : wP N t (pB N t v k) - fwd N t (pB N t v k) = 0 := by rw [wP_fwd hok (by omega)]; omega
    have := inner (pB N t v (k + 1) - 1 - pB N t v k) (pB N t v k) hm_fu (by omega) (Nat.le_refl _) (by unfold hm_fu; omega) s2 s3 s4 s5 (by rw [e0]; exact hs)
    rw [e0] at this
    rw [f_X5_setLine_l46, fr_1, nl_0]
    exact this
  rw [f_X5_setLine, c1, Option.bind_some]
  by_cases hb0 : bn N t v k = 0
  · have hs0 : spk N t v k = 0 := by unfold spk; rw [if_neg (by omega)]
    rw [hb0, if_pos (show nI 0 ≤ 0 from Int32.le_refl _), f_X5_setLine_l26, if_pos (show nI 0 ≤ 0 from Int32.le_refl _)]
    rw [hs0, Nat.zero_div, Nat.zero_mod] at l46
    exact l46
  · have hbne : ¬ nI (bn N t v k) = 0 := by rw [nl_0, nI_eqi (by omega) (by omega)]; omega
    have hble : ¬ nI (bn N t v k) ≤ 0 := by rw [nl_0, nI_lei (by omega) (by omega)]; omega
    rw [if_neg hble, c2, Option.bind_some, hm_dv, if_neg hbne, pk_div (by omega) (by omega) (by omega), Option.bind_some, f_X5_setLine_l26, if_neg hble, c2, Option.bind_some, hm_rm, if_neg hbne, pk_div (by omega) (by omega) (by omega), Option.bind_some, pk_mul, pk_sub (Nat.div_mul_le_self _ _), show spk N t v k - spk N t v k / bn N t v k * bn N t v k = spk N t v k % bn N t v k by rw [Nat.mod_eq_sub_div_mul]]
    exact l46
end CLY
