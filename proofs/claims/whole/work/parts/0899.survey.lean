/-! pure: the survey -/
section SUR
variable (N : Nat) (t : Nat → Int32) (v : Nat → Nat)
/-- does a line of the page of this measure end at a place -/
def ebt (ms K p : Nat) : Bool := anb (fun k => decide (lb N t v ms (k + 1) - 1 = p)) K
/-- what the survey has of one measure, and of all -/
def su_m (m : Nat) (x : Int32) (a b : Int64) : Prop := match TB N t v (10 + m) 0 with
  | none => x = 0
  | some _ => x = 1 ∧ ∀ i, i < 64 → b6 a i = ebt N t v (10 + m) (nL N t v (10 + m)) i ∧ b6 b i = ebt N t v (10 + m) (nL N t v (10 + m)) (64 + i)
def su_is (A : Nat → Int32) (J : Nat → Int64) : Prop := ∀ m, m < 191 → su_m N t v m (A m) (J (m * 2)) (J (m * 2 + 1))
end SUR
section SUL
variable {N : Nat} {t : Nat → Int32} {v : Nat → Nat}
theorem cl_endb (hok : tx_ok N t) {ms : Nat} {o : Nat × Nat × Nat} (hT : TB N t v ms 0 = some o) {b0 b1 b2 : Nat → Int32} (hb : crow (nP N t) 0 (TB N t v ms) b0 b1 b2) {k : Nat} (hk : k < nL N t v ms) : f_X0_endBehind b2 (fr (lb N t v ms k)) = some (nI (lb N t v ms (k + 1) - 1)) ∧ lb N t v ms (k + 1) - 1 < nP N t ∧ lb N t v ms (k + 1) - 1 + 1 = lb N t v ms (k + 1) := by
  have hP : nP N t ≤ 100 := pl_100 hok
  obtain ⟨q, q1, q2, q3, q4, q5⟩ := lb_next hT hk
  have hr := hb (lb N t v ms k) (Nat.zero_le _) (by omega)
  rw [q1] at hr
  rw [f_X0_endBehind, fr_1, if_neg (nI_pos (by omega)), if_neg (by rw [nl_101, nI_lei (by omega) (by omega)]; omega), rd_in (by omega) (by omega), Option.bind_some, hr.2.2, q2, Nat.add_sub_cancel]
  exact ⟨rfl, by omega, rfl⟩
theorem cl_note (hok : tx_ok N t) (hv : sv_ok v) {m : Nat} (hm : m < 191) {b0 b1 b2 : Nat → Int32} (hb : crow (nP N t) 0 (TB N t v (10 + m)) b0 b1 b2) (J : Nat → Int64) : ∃ (x y : Int64), f_X6_note J b1 b2 (nI m) = some (vp_updL (vp_updL J (m * 2) x) (m * 2 + 1) y) ∧ (∀ o, TB N t v (10 + m) 0 = some o → ∀ i, i < 64 → b6 x i = ebt N t v (10 + m) (nL N t v (10 + m)) i ∧ b6 y i = ebt N t v (10 + m) (nL N t v (10 + m)) (64 + i)) := by
  have hP : nP N t ≤ 100 := pl_100 hok
  have l63 : ∀ x y : Int64, f_X6_note_l63 J (nI m) x y = some (vp_updL (vp_updL J (m * 2) x) (m * 2 + 1) y) := by
    intro x y
    rw [f_X6_note_l63, if_neg (nI_pos (by omega)), if_neg (by rw [nl_191, nI_lei (by omega) (by omega)]; omega), nl_2, pk_mul, wj_in (by omega) (by omega), Option.bind_some, nI_1, wj_in (by omega) (by omega), Option.bind_some]
  have h0 := hb 0 (Nat.le_refl _) (Nat.zero_le _)
  cases hT : TB N t v (10 + m) 0 with
  | none =>
    rw [hT] at h0
    have h0' : b1 0 = -1 := h0
    refine ⟨0, 0, ?_, fun o ho => by cases ho⟩
    rw [f_X6_note, hm_fu, f_X6_note_l11_s, f_X0_lineCount, show hm_rd 101 b1 0 = some (b1 0) from rd_in (i := 0) (by omega) (by omega), Option.bind_some, Option.bind_some, h0', if_pos (by decide)]
    exact l63 0 0
  | some o =>
    rw [hT] at h0
    obtain ⟨g1, g2, g3⟩ := h0
    have hnl : o.2.1 = nL N t v (10 + m) := by unfold nL; rw [hT]
    have hle := (TB_le hv (show 10 + m ≤ 200 by omega) (Nat.zero_le _) hT).2
    rw [hnl] at g2 hle
    have key : ∀ (d k fuel : Nat), nL N t v (10 + m) = k + d → d < fuel → ∀ x y : Int64, (∀ i, i < 64 → b6 x i = ebt N t v (10 + m) k i ∧ b6 y i = ebt N t v (10 + m) k (64 + i)) → ∃ x' y' : Int64, f_X6_note_l11 J b1 b2 (nI m) fuel x y (fr (lb N t v (10 + m) k)) (nI k) = some (vp_updL (vp_updL J (m * 2) x') (m * 2 + 1) y') ∧ ∀ i, i < 64 → b6 x' i = ebt N t v (10 + m) (nL N t v (10 + m)) i ∧ b6 y' i = ebt N t v (10 + m) (nL N t v (10 + m)) (64 + i) := by
      intro d
      induction d with
      | zero =>
        intro k fuel hk hf x y hxy
        obtain ⟨fuel, rfl⟩ : ∃ z, fuel = z + 1 := ⟨fuel - 1, by omega⟩
        rw [f_X6_note_l11_s, f_X0_lineCount, show hm_rd 101 b1 0 = some (b1 0) from rd_in (i := 0) (by omega) (by omega), Option.bind_some, Option.bind_some, g2, if_pos (by rw [nI_lei (by omega) (by omega)]; omega), l63]
        rw [show k = nL N t v (10 + m) by omega] at hxy
        exact ⟨x, y, rfl, hxy⟩
      | succ d ih =>
        intro k fuel hk hf x y hxy
        obtain ⟨fuel, rfl⟩ : ∃ z, fuel = z + 1 := ⟨fuel - 1, by omega⟩
        obtain ⟨c1, c2, c3⟩ := cl_endb hok hT hb (show k < nL N t v (10 + m) by omega)
        have hstep : ∀ p, ebt N t v (10 + m) (k + 1) p = (ebt N t v (10 + m) k p || decide (lb N t v (10 + m) (k + 1) - 1 = p)) := fun p => rfl
        rw [f_X6_note_l11_s, f_X0_lineCount, show hm_rd 101 b1 0 = some (b1 0) from rd_in (i := 0) (by omega) (by omega), Option.bind_some, Option.bind_some, g2, if_neg (by rw [nI_lei (by omega) (by omega)]; omega), c1, Option.bind_some]
        have hfr : nI (lb N t v (10 + m) (k + 1) - 1) = fr (lb N t v (10 + m) (k + 1)) := by rw [← fr_s, c3]
        by_cases h64 : 64 ≤ lb N t v (10 + m) (k + 1) - 1
        · rw [if_pos (show (64 : Int32) ≤ nI (lb N t v (10 + m) (k + 1) - 1) by rw [nl_64, nI_lei (by omega) (by omega)]; exact h64), f_X6_note_l57, nI_1, show nI (lb N t v (10 + m) (k + 1) - 1) - 64 = nI (lb N t v (10 + m) (k + 1) - 1 - 64) by rw [nl_64, pk_sub h64], hfr]
          refine ih (k + 1) fuel (by omega) (by omega) _ _ (fun i hi => ⟨?_, ?_⟩)
          · rw [hstep, (hxy i hi).1, decide_eq_false (by omega), Bool.or_false]
          · rw [hstep, b6_set y (show lb N t v (10 + m) (k + 1) - 1 - 64 < 64 by omega), (hxy i hi).2]
            congr 1
            exact decide_eq_decide.2 (by omega)
        · rw [if_neg (show ¬ (64 : Int32) ≤ nI (lb N t v (10 + m) (k + 1) - 1) by rw [nl_64, nI_lei (by omega) (by omega)]; exact h64), f_X6_note_l57, nI_1]
          have := ih (k + 1) fuel (by omega) (by omega) (x ||| ((1 : Int64) <<< ((nI (lb N t v (10 + m) (k + 1) - 1)).toInt64 &&& 63))) y (fun i hi => ⟨?_, ?_⟩)
          · rw [← hfr] at this
            exact this
          · rw [hstep, b6_set x (show lb N t v (10 + m) (k + 1) - 1 < 64 by omega), (hxy i hi).1]
            congr 1
            exact decide_eq_decide.2 (by omega)
          · rw [hstep, (hxy i hi).2, decide_eq_false (by omega), Bool.or_false]
    obtain ⟨x', y', e1, e2⟩ := key (nL N t v (10 + m)) 0 hm_fu (by omega) (by unfold hm_fu; omega) 0 0 (fun i hi => ⟨b6_0 i, b6_0 i⟩)
    exact ⟨x', y', e1, fun _ _ => e2⟩
theorem cl_through (hok : tx_ok N t) (hv : sv_ok v) {r0 r1 r2 r3 r4 : hm_SR} (h : ln_k N t v N r0 r1 r2 r3 r4) (A : Nat → Int32) (J : Nat → Int64) (b0 b1 b2 : Nat → Int32) : ∃ (A' c0 c1 c2 : Nat → Int32) (J' : Nat → Int64), f_X6_goThrough A J r0 r1 r2 r4 (nI (v 36)) (nI (v 37)) b0 b1 b2 = some (A', c0, c1, c2, J') ∧ su_is N t v A' J' := by
  have key : ∀ (d m fuel : Nat), 191 = m + d → d < fuel → ∀ (A b0 b1 b2 : Nat → Int32) (J : Nat → Int64), (∀ x, x < m → su_m N t v x (A x) (J (x * 2)) (J (x * 2 + 1))) → ∃ (A' c0 c1 c2 : Nat → Int32) (J' : Nat → Int64), f_X6_goThrough_l2 r0 r1 r2 r4 (nI (v 36)) (nI (v 37)) fuel (nI m) A b0 b1 b2 J = some (A', c0, c1, c2, J') ∧ su_is N t v A' J' := by
    intro d
    induction d with
    | zero =>
      intro m fuel hm hf A b0 b1 b2 J hx
      obtain ⟨fuel, rfl⟩ : ∃ z, fuel = z + 1 := ⟨fuel - 1, by omega⟩
      rw [f_X6_goThrough_l2_s, if_pos (by rw [show m = 191 by omega]; exact Int32.le_refl _)]
      exact ⟨_, _, _, _, _, rfl, fun x hxx => hx x (by omega)⟩
    | succ d ih =>
      intro m fuel hm hf A b0 b1 b2 J hx
      obtain ⟨fuel, rfl⟩ : ∃ z, fuel = z + 1 := ⟨fuel - 1, by omega⟩
      obtain ⟨c0, c1, c2, e1, e2⟩ := cl_solve (ms := 10 + m) hok hv (by omega) h b0 b1 b2
      obtain ⟨x, y, e3, e4⟩ := cl_note hok hv (show m < 191 by omega) e2 J
      rw [f_X6_goThrough_l2_s, if_neg (show ¬ (191 : Int32) ≤ nI m by rw [nl_191, nI_lei (by omega) (by omega)]; omega), show (10 : Int32) + nI m = nI (10 + m) by rw [nl_10, nI_add], e1, Option.bind_some]
      dsimp only
      have h0 := e2 0 (Nat.le_refl _) (Nat.zero_le _)
      obtain ⟨b, hb1, hb2, hb3⟩ : ∃ b : Int32, f_X0_hasPage c1 = some b ∧ (b = 0 ∨ b = 1) ∧ su_m N t v m b x y := by
        have hPc : nP N t ≤ 100 := pl_100 hok
        unfold su_m
        rw [f_X0_hasPage, show hm_rd 101 c1 0 = some (c1 0) from rd_in (i := 0) (by omega) (by omega), Option.bind_some]
        cases hT : TB N t v (10 + m) 0 with
        | none =>
          rw [hT] at h0
          have h0' : c1 0 = -1 := h0
          exact ⟨0, by rw [h0', if_pos (by decide)], Or.inl rfl, rfl⟩
        | some o =>
          rw [hT] at h0
          have hle := (TB_le hv (show 10 + m ≤ 200 by omega) (Nat.zero_le _) hT).2
          exact ⟨1, by rw [h0.2.1, if_neg (nI_pos (by omega))], Or.inr rfl, rfl, e4 o hT⟩
      rw [hb1, Option.bind_some, wz_in (by omega) (by omega) hb2, Option.bind_some, e3, Option.bind_some, nI_1]
      refine ih (m + 1) fuel (by omega) (by omega) _ _ _ _ _ (fun z hz => ?_)
      by_cases ez : z = m
      · rw [ez, ud_s, pk_uLs, pk_uLn (show m * 2 ≠ m * 2 + 1 by omega), pk_uLs]
        exact hb3
      · rw [ud_n ez, pk_uLn (show z * 2 ≠ m * 2 + 1 by omega), pk_uLn (show z * 2 ≠ m * 2 by omega), pk_uLn (show z * 2 + 1 ≠ m * 2 + 1 by omega), pk_uLn (show z * 2 + 1 ≠ m * 2 by omega)]
        exact hx z (by omega)
  rw [f_X6_goThrough]
  exact key 191 0 hm_fu (by omega) (by unfold hm_fu; omega) A b0 b1 b2 J (fun x hx => absurd hx (Nat.not_lt_zero _))
end SUL
