/-! pure: the class lays a page -/
section CLP
variable {N : Nat} {t : Nat → Int32} {v : Nat → Nat} {r0 r1 r2 r3 r4 : hm_SR}
/-- the sheet's rows of the first k lines -/
def lrow (N : Nat) (t : Nat → Int32) (v : Nat → Nat) (k : Nat) (a b : hm_SR) : Prop := a.1 = nI k ∧ b.1 = nI (k + 1) ∧ (∀ x, x < k → a.2 x = nI (pB N t v (x + 1) - 1)) ∧ (∀ x, x ≤ k → b.2 x = nI (bo N t v x))
theorem cl_lay1 (hok : tx_ok N t) (hv : sv_ok v) (h : ln_k N t v N r0 r1 r2 r3 r4) {o : Nat × Nat × Nat} (hT : TB N t v (v 35) 0 = some o) {b0 b1 b2 : Nat → Int32} (hb : crow (nP N t) 0 (TB N t v (v 35)) b0 b1 b2) (s0 s1 s2 s3 s4 s5 : hm_SR) : ∃ q0 q1 q2 q3 q4 q5 : hm_SR, f_X5_lay s0 s1 s2 s3 s4 s5 r0 r1 r2 r3 r4 (nI (v 34)) (nI (v 35)) b0 b1 b2 = f_X5_lay_l138 q0 q1 q2 q3 q4 q5 1 (nI o.1) ∧ lrow N t v (pL N t v) q0 q1 ∧ srow N t v (bo N t v (pL N t v)) q2 q3 q4 q5 := by
  have hP : nP N t ≤ 100 := pl_100 hok
  have hL := pL_le hv hT
  have h0 := hb 0 (Nat.le_refl _) (Nat.zero_le _)
  rw [hT] at h0
  obtain ⟨g1, g2, g3⟩ := h0
  have hpl : o.2.1 = pL N t v := by unfold pL nL; rw [hT]
  rw [hpl] at g2
  have key : ∀ (d k fuel : Nat), pL N t v = k + d → d < fuel → ∀ s0 s1 s2 s3 s4 s5 : hm_SR, lrow N t v k s0 s1 → srow N t v (bo N t v k) s2 s3 s4 s5 → ∃ q0 q1 q2 q3 q4 q5 : hm_SR, f_X5_lay_l80 r0 r1 r2 r3 r4 (nI (v 34)) (nI (v 35)) b1 b2 fuel (fr (pB N t v k)) (nI k) s0 s1 s2 s3 s4 s5 1 (nI o.1) = f_X5_lay_l138 q0 q1 q2 q3 q4 q5 1 (nI o.1) ∧ lrow N t v (pL N t v) q0 q1 ∧ srow N t v (bo N t v (pL N t v)) q2 q3 q4 q5 := by
    intro d
    induction d with
    | zero =>
      intro k fuel hk hf s0 s1 s2 s3 s4 s5 hl hs
      obtain ⟨fuel, rfl⟩ : ∃ z, fuel = z + 1 := ⟨fuel - 1, by omega⟩
      have e : k = pL N t v := by omega
      rw [f_X5_lay_l80_s, f_X0_lineCount, nl_0, rd_in (by omega) (by omega), Option.bind_some, Option.bind_some, g2, if_pos (by rw [e]; exact Int32.le_refl _)]
      rw [e] at hl hs
      exact ⟨_, _, _, _, _, _, rfl, hl, hs⟩
    | succ d ih =>
      intro k fuel hk hf s0 s1 s2 s3 s4 s5 hl hs
      obtain ⟨fuel, rfl⟩ : ∃ z, fuel = z + 1 := ⟨fuel - 1, by omega⟩
      have hkL : k < pL N t v := by omega
      obtain ⟨l1, l2, l3, l4⟩ := pB_line hT hkL
      have hend : f_X0_endBehind b2 (fr (pB N t v k)) = some (nI (pB N t v (k + 1) - 1)) := by
        obtain ⟨q, q1, q2, q3, q4, q5⟩ := lb_next hT hkL
        have hr := hb (lb N t v (v 35) k) (Nat.zero_le _) (by omega)
        rw [q1] at hr
        rw [f_X0_endBehind, fr_1, if_neg (nI_pos (by omega)), if_neg (by rw [nl_101, nI_lei (by omega) (by omega)]; omega), rd_in (by omega) (by omega), Option.bind_some]
        unfold pB
        rw [hr.2.2, q2, Nat.add_sub_cancel]
      obtain ⟨q2, q3, q4, q5, e1, e2⟩ := cl_setline hok hv h hT hkL hs
      have hbo := (bo_le hok hT (k + 1) (by omega)).2
      obtain ⟨u1, u2, u3, u4⟩ := hl
      rw [f_X5_lay_l80_s, f_X0_lineCount, nl_0, rd_in (by omega) (by omega), Option.bind_some, Option.bind_some, g2, if_neg (by rw [nI_lei (by omega) (by omega)]; omega), hend, Option.bind_some, rg_add u1 (by omega) (by omega), Option.bind_some, e1, Option.bind_some, rg_size, Option.bind_some, rg_add u2 (by omega) (by omega), Option.bind_some, nI_1, show nI (pB N t v (k + 1) - 1) = fr (pB N t v (k + 1)) by rw [← fr_s, l3]]
      refine ih (k + 1) fuel (by omega) (by omega) _ _ _ _ _ _ ⟨rfl, rfl, fun x hx => ?_, fun x hx => ?_⟩ e2
      · dsimp only
        by_cases ex : x = k
        · rw [ex, ud_s, ← fr_s, l3]
        · rw [ud_n ex]; exact u3 x (by omega)
      · dsimp only
        by_cases ex : x = k + 1
        · rw [ex, ud_s, e2.1]
        · rw [ud_n ex]; exact u4 x (by omega)
  rw [f_X5_lay, rg_empty, Option.bind_some, rg_empty, Option.bind_some, rg_empty, Option.bind_some, rg_empty, Option.bind_some, rg_empty, Option.bind_some, rg_empty, Option.bind_some]
  have hhp : f_X0_hasPage b1 = some 1 := by
    rw [f_X0_hasPage, nl_0, rd_in (by omega) (by omega), Option.bind_some, g2, if_neg (show ¬ nI (pL N t v) < nI 0 from nI_pos (by omega))]
  have hco : f_X0_cost b0 = some (nI o.1) := by
    rw [f_X0_cost, nl_0, rd_in (by omega) (by omega), Option.bind_some, g1]
  rw [hhp, Option.bind_some, bl_1, Option.bind_some, hco, Option.bind_some, if_neg n10, rg_add (n := 0) rfl (by omega) (by omega), Option.bind_some]
  exact key (pL N t v) 0 hm_fu (by omega) (by unfold hm_fu; omega) _ _ _ _ _ _ ⟨rfl, rfl, fun x hx => absurd hx (Nat.not_lt_zero _), fun x hx => by rw [show x = 0 by omega]; rfl⟩ ⟨rfl, rfl, rfl, rfl, fun x hx => absurd hx (Nat.not_lt_zero _)⟩
theorem cl_lay0 (hok : tx_ok N t) (hT : TB N t v (v 35) 0 = none) {b0 b1 b2 : Nat → Int32} (hb : crow (nP N t) 0 (TB N t v (v 35)) b0 b1 b2) (s0 s1 s2 s3 s4 s5 : hm_SR) (z0 z1 : Int32) : ∃ q0 q1 q2 q3 q4 q5 : hm_SR, ∃ c : Int32, f_X5_lay s0 s1 s2 s3 s4 s5 r0 r1 r2 r3 r4 z0 z1 b0 b1 b2 = some (q0, q1, q2, q3, q4, q5, 0, c) ∧ q0.1 = 0 ∧ q2.1 = 0 := by
  have h0 := hb 0 (Nat.le_refl _) (Nat.zero_le _)
  rw [hT] at h0
  have h0' : b1 0 = -1 := h0
  rw [f_X5_lay, rg_empty, Option.bind_some, rg_empty, Option.bind_some, rg_empty, Option.bind_some, rg_empty, Option.bind_some, rg_empty, Option.bind_some, rg_empty, Option.bind_some]
  have hhp : f_X0_hasPage b1 = some 0 := by
    rw [f_X0_hasPage, nl_0, rd_in (by omega) (by omega), Option.bind_some, h0', if_pos (by decide)]
  have hco : f_X0_cost b0 = some (b0 0) := by
    rw [f_X0_cost, nl_0, rd_in (by omega) (by omega), Option.bind_some]
  rw [hhp, Option.bind_some, bl_0, Option.bind_some, hco, Option.bind_some, if_pos n00]
  exact ⟨_, _, _, _, _, _, _, rfl, rfl, rfl⟩
end CLP
