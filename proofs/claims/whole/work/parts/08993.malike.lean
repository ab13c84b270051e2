/-! pure: the model's alike -/
section MAL
variable {N : Nat} {t : Nat → Int32} {v : Nat → Nat} {a1 a2 a3 a4 a5 a6 A7 : Nat → Int32} {z2 z3 : Int32}
theorem md_cmp (hok : tx_ok N t) (hv : sv_ok v) {o : Nat × Nat × Nat} (hT : TB N t v (v 35) 0 = some o) {ms : Nat} {e a24 : Nat → Int32} (h24 : ∀ k, k < pL N t v → a24 k = nI (pB N t v (k + 1) - 1)) (he : ∀ k, k < pL N t v → e k = nI (lb N t v ms (k + 1) - 1) ∧ lb N t v ms (k + 1) - 1 < nP N t) (J : Int32 → Int32 → (Nat → Int32) → (Nat → Int32) → (Nat → Int32) → (Nat → Int32) → (Nat → Int32) → (Nat → Int32) → Int32 → Int32 → Int32 → Int32 → Option (Int32 × (Nat → Int32) × (Nat → Int32) × (Nat → Int32) × (Nat → Int32) × (Nat → Int32) × (Nat → Int32) × Int32 × Int32 × Int32 × Int32)) (x3 : Int32) (w p g q : Nat → Int32) (z10 z11 z7 z9 : Int32) : ∀ (d k fuel : Nat), pL N t v = k + d → d + 1 < fuel → (∀ j, j < k → lb N t v ms (j + 1) - 1 = pB N t v (j + 1) - 1) → ∃ b : Bool, f_X8_alike_l99 J fuel (nI (pL N t v)) x3 1 (nI k) w p g q e a24 z10 z11 z7 z9 = f_X8_alike_l140 J (nI (pL N t v)) x3 (bi b) w p g q e a24 z10 z11 z7 z9 ∧ (b = true ↔ ∀ j, j < pL N t v → lb N t v ms (j + 1) - 1 = pB N t v (j + 1) - 1) := by
  have hP : nP N t ≤ 100 := pl_100 hok
  have hL := pL_le hv hT
  intro d
  induction d with
  | zero =>
    intro k fuel hk hf hall
    obtain ⟨fuel, rfl⟩ : ∃ z, fuel = z + 1 := ⟨fuel - 1, by omega⟩
    rw [f_X8_alike_l99_s, if_pos (show nI (pL N t v) ≤ nI k by rw [nI_lei (by omega) (by omega)]; omega)]
    exact ⟨true, rfl, fun _ j hj => hall j (by omega), fun _ => rfl⟩
  | succ d ih =>
    intro k fuel hk hf hall
    obtain ⟨fuel, rfl⟩ : ∃ z, fuel = z + 1 := ⟨fuel - 1, by omega⟩
    obtain ⟨l1, l2, l3, l4⟩ := pB_line hT (show k < pL N t v by omega)
    obtain ⟨e1, e2⟩ := he k (by omega)
    rw [f_X8_alike_l99_s, if_neg (show ¬ nI (pL N t v) ≤ nI k by rw [nI_lei (by omega) (by omega)]; omega), if_neg n10, rd_in (by omega) (by omega), Option.bind_some, rd_in (by omega) (by omega), Option.bind_some, e1, h24 k (by omega)]
    by_cases hq : lb N t v ms (k + 1) - 1 = pB N t v (k + 1) - 1
    · rw [if_pos (by rw [hq]), f_X8_alike_l132, nI_1]
      exact ih (k + 1) fuel (by omega) (by omega) (fun j hj => by
        by_cases ej : j = k
        · rw [ej]; exact hq
        · exact hall j (by omega))
    · rw [if_neg (by rw [nI_eqi (by omega) (by omega)]; exact hq), f_X8_alike_l132, nI_1]
      obtain ⟨fuel, rfl⟩ : ∃ z, fuel = z + 1 := ⟨fuel - 1, by omega⟩
      refine ⟨false, ?_, (fun z => by cases z), (fun z => absurd (z k (by omega)) hq)⟩
      rw [f_X8_alike_l99_s]
      by_cases hz : nI (pL N t v) ≤ nI (k + 1)
      · rw [if_pos hz]; rfl
      · rw [if_neg hz, if_pos n00]; rfl
theorem md_cmp0 {L x3 : Int32} {w p g q e a24 : Nat → Int32} {z10 z11 z7 z9 : Int32} (J : Int32 → Int32 → (Nat → Int32) → (Nat → Int32) → (Nat → Int32) → (Nat → Int32) → (Nat → Int32) → (Nat → Int32) → Int32 → Int32 → Int32 → Int32 → Option (Int32 × (Nat → Int32) × (Nat → Int32) × (Nat → Int32) × (Nat → Int32) × (Nat → Int32) × (Nat → Int32) × Int32 × Int32 × Int32 × Int32)) : f_X8_alike_l93 J L x3 w p g q e a24 z10 z11 z7 z9 = f_X8_alike_l140 J L x3 (bi false) w p g q e a24 z10 z11 z7 z9 := by
  rw [f_X8_alike_l93, f_X8_alike_l94, hm_fu, f_X8_alike_l99_s]
  by_cases hz : L ≤ 0
  · rw [if_pos hz]; rfl
  · rw [if_neg hz, if_pos n00]; rfl
/-- what alike answers -/
def alv (N : Nat) (t : Nat → Int32) (v : Nat → Nat) (x : Int32) : Int32 := if 0 ≤ x ∧ x ≤ 2 then (match TB N t v (v 35) 0 with
  | none => -9
  | some _ => pkv (alk N t v) 191 x) else -1
theorem md_alikeq (hok : tx_ok N t) (hv : sv_ok v) (hA : sv_at A7 v) (h : mw_k N t N a1 a2 a3 a4 a5 a6 z2 z3) (A14 A15 A16 A17 A18 A24 : Nat → Int32) (z7 z9 z10 z11 x : Int32) : ∃ q9, f_X8_alike a1 a2 a4 a5 a6 A7 A14 A15 A16 A17 A18 A24 (nI N) (nI (nP N t)) z7 z9 z10 z11 x = some q9 ∧ q9.1 = alv N t v x := by
  have hP : nP N t ≤ 100 := pl_100 hok
  rw [f_X8_alike, md_in, Option.bind_some]
  unfold alv
  by_cases hx : 0 ≤ x ∧ x ≤ 2
  · rw [if_pos hx, if_pos hx, if_neg n10, nl_35, rd_in (by omega) (by omega), Option.bind_some, hA 35 (by omega)]
    obtain ⟨w, p, g, q, e, hw, hm⟩ := md_page hok hv hv.2.2.2.2.2.1 hA h A14 A15 A16 A17 A18
    cases hT : TB N t v (v 35) 0 with
    | none =>
      rw [hT] at hm
      dsimp only at hm
      rw [hm, Option.bind_some, if_pos n00]
      exact ⟨_, rfl, rfl⟩
    | some o =>
      rw [hT] at hm
      obtain ⟨m1, m2, hE⟩ := hm
      have hL := pL_le hv hT
      rw [m1, Option.bind_some, if_neg n10]
      dsimp only
      rw [show nI (nL N t v (v 35)) = nI (pL N t v) from rfl]
      -- the measures
      have loop : ∀ (d m fuel : Nat), 191 = m + d → d < fuel → ∀ (w p g q e a24 : Nat → Int32) (z10 z11 z7 z9 : Int32), (∀ k, k < pL N t v → a24 k = nI (pB N t v (k + 1) - 1)) → fd_is (alk N t v) m z9 z10 z11 → ∃ q9, f_X8_alike_l66 a1 a2 a4 a5 a6 A7 (nI N) (nI (nP N t)) x fuel (nI (pL N t v)) (nI (10 + m)) w p g q e a24 z10 z11 z7 z9 = some q9 ∧ q9.1 = pkv (alk N t v) 191 x := by
        intro d
        induction d with
        | zero =>
          intro m fuel hm hf w p g q e a24 z10 z11 z7 z9 h24 hfd
          obtain ⟨fuel, rfl⟩ : ∃ z, fuel = z + 1 := ⟨fuel - 1, by omega⟩
          rw [show m = 191 by omega] at hfd ⊢
          rw [f_X8_alike_l66_s, if_pos (show (200 : Int32) < nI (10 + 191) by decide), f_X8_alike_l156, md_found hfd, Option.bind_some]
          exact ⟨_, rfl, rfl⟩
        | succ d ih =>
          intro m fuel hm hf w p g q e a24 z10 z11 z7 z9 h24 hfd
          obtain ⟨fuel, rfl⟩ : ∃ z, fuel = z + 1 := ⟨fuel - 1, by omega⟩
          have hm1 : m < 191 := by omega
          rw [f_X8_alike_l66_s, if_neg (show ¬ (200 : Int32) < nI (10 + m) by rw [nl_200, nI_lti (by omega) (by omega)]; omega)]
          obtain ⟨w', p', g', q', e', hw', hmp⟩ := md_page (ms := 10 + m) hok hv (by omega) hA h w p g q e
          have fin : ∀ (b : Bool) (y7 : Int32), b = alk N t v m → ∃ q9, f_X8_alike_l140 (fun zv2 zv3 zwA_14 zwA_15 zwA_16 zwA_17 zwA_18 zwA_24 zwZ_10 zwZ_11 zwZ_7 zwZ_9 => f_X8_alike_l66 a1 a2 a4 a5 a6 A7 (nI N) (nI (nP N t)) x fuel zv2 zv3 zwA_14 zwA_15 zwA_16 zwA_17 zwA_18 zwA_24 zwZ_10 zwZ_11 zwZ_7 zwZ_9) (nI (pL N t v)) (nI (10 + m)) (bi b) w' p' g' q' e' a24 z10 z11 y7 z9 = some q9 ∧ q9.1 = pkv (alk N t v) 191 x := by
            intro b y7 hb
            rw [f_X8_alike_l140]
            cases b with
            | false =>
              rw [if_pos (show bi false = 0 from rfl), f_X8_alike_l150, nI_1]
              exact ih (m + 1) fuel (by omega) (by omega) _ _ _ _ _ _ _ _ _ _ h24 (md_skips hfd hb.symm)
            | true =>
              obtain ⟨a, c, dd, f1, f2⟩ := md_finds hm1 hfd hb.symm
              rw [if_neg (show ¬ bi true = 0 from n10), f1, Option.bind_some, f_X8_alike_l150, nI_1]
              exact ih (m + 1) fuel (by omega) (by omega) _ _ _ _ _ _ _ _ _ _ h24 f2
          cases hT' : TB N t v (10 + m) 0 with
          | none =>
            rw [hT'] at hmp
            dsimp only at hmp
            rw [hmp, Option.bind_some, if_pos n00, md_cmp0]
            exact fin false _ (by unfold alk; rw [hT'])
          | some o' =>
            rw [hT'] at hmp
            obtain ⟨p1, p2, hE'⟩ := hmp
            have hle := (TB_le hv (show 10 + m ≤ 200 by omega) (Nat.zero_le _) hT').2
            have hnl : o'.2.1 = nL N t v (10 + m) := by unfold nL; rw [hT']
            rw [p1, Option.bind_some, if_neg n10]
            dsimp only
            by_cases hn : nL N t v (10 + m) = pL N t v
            · rw [if_pos (show nI (nL N t v (10 + m)) = nI (pL N t v) by rw [hn]), f_X8_alike_l94]
              obtain ⟨b, b1, b2⟩ := md_cmp (ms := 10 + m) (e := e') hok hv hT h24 (fun k hk => ⟨hE' k (by omega), (lb_rise hT').2 k (by omega)⟩) (fun zv2 zv3 zwA_14 zwA_15 zwA_16 zwA_17 zwA_18 zwA_24 zwZ_10 zwZ_11 zwZ_7 zwZ_9 => f_X8_alike_l66 a1 a2 a4 a5 a6 A7 (nI N) (nI (nP N t)) x fuel zv2 zv3 zwA_14 zwA_15 zwA_16 zwA_17 zwA_18 zwA_24 zwZ_10 zwZ_11 zwZ_7 zwZ_9) (nI (10 + m)) w' p' g' q' z10 z11 (nI (nL N t v (10 + m))) z9 (pL N t v) 0 hm_fu (by omega) (by unfold hm_fu; omega) (fun j hj => absurd hj (Nat.not_lt_zero _))
              rw [show (0 : Int32) = nI 0 from rfl, b1]
              refine fin b _ ?_
              unfold alk
              rw [hT']
              dsimp only
              cases hb : b with
              | true => exact (decide_eq_true ⟨hn, b2.1 hb⟩).symm
              | false => exact (decide_eq_false (fun z => by have := b2.2 z.2; rw [hb] at this; cases this)).symm
            · rw [if_neg (show ¬ nI (nL N t v (10 + m)) = nI (pL N t v) by rw [nI_eqi (by omega) (by omega)]; exact hn), md_cmp0]
              exact fin false _ (by unfold alk; rw [hT']; exact (decide_eq_false (fun z => hn z.1)).symm)
      -- the copy
      have copy : ∀ (d k fuel : Nat), pL N t v = k + d → d < fuel → ∀ a24 : Nat → Int32, (∀ j, j < k → a24 j = nI (pB N t v (j + 1) - 1)) → ∃ q9, f_X8_alike_l35 a1 a2 a4 a5 a6 A7 (nI N) (nI (nP N t)) z10 z11 x fuel (nI (pL N t v)) (nI k) w p g q e a24 (nI (pL N t v)) = some q9 ∧ q9.1 = pkv (alk N t v) 191 x := by
        intro d
        induction d with
        | zero =>
          intro k fuel hk hf a24 h24
          obtain ⟨fuel, rfl⟩ : ∃ z, fuel = z + 1 := ⟨fuel - 1, by omega⟩
          rw [f_X8_alike_l35_s, if_pos (show nI (pL N t v) ≤ nI k by rw [nI_lei (by omega) (by omega)]; omega), f_X8_alike_l58]
          exact loop 191 0 hm_fu (by omega) (by unfold hm_fu; omega) _ _ _ _ _ _ _ _ _ _ (fun j hj => h24 j (by omega)) ⟨rfl, fun z => absurd z (Nat.lt_irrefl _)⟩
        | succ d ih =>
          intro k fuel hk hf a24 h24
          obtain ⟨fuel, rfl⟩ : ∃ z, fuel = z + 1 := ⟨fuel - 1, by omega⟩
          rw [f_X8_alike_l35_s, if_neg (show ¬ nI (pL N t v) ≤ nI k by rw [nI_lei (by omega) (by omega)]; omega), rd_in (by omega) (by omega), Option.bind_some, wr_in (by omega) (by omega), Option.bind_some, nI_1]
          refine ih (k + 1) fuel (by omega) (by omega) _ (fun j hj => ?_)
          by_cases ej : j = k
          · rw [ej, ud_s]; exact hE k (show k < pL N t v by omega)
          · rw [ud_n ej]; exact h24 j (by omega)
      exact copy (pL N t v) 0 hm_fu (by omega) (by unfold hm_fu; omega) A24 (fun j hj => absurd hj (Nat.not_lt_zero _))
  · rw [if_neg hx, if_neg hx, if_pos n00]
    exact ⟨_, rfl, rfl⟩
end MAL
