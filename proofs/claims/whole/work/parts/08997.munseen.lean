/-! pure: the model's unseen, the loops -/
theorem anb_iff {p : Nat → Bool} : ∀ n, anb p n = true ↔ ∃ k, k < n ∧ p k = true
  | 0 => ⟨fun z => (by cases z), fun ⟨k, h, _⟩ => absurd h (Nat.not_lt_zero _)⟩
  | n + 1 => by
    rw [anb, Bool.or_eq_true, anb_iff n]
    constructor
    · rintro (⟨k, h1, h2⟩ | h)
      · exact ⟨k, by omega, h2⟩
      · exact ⟨n, by omega, h⟩
    · rintro ⟨k, h1, h2⟩
      by_cases e : k = n
      · rw [e] at h2; exact Or.inr h2
      · exact Or.inl ⟨k, by omega, h2⟩
section MUS
variable {N : Nat} {t : Nat → Int32} {v : Nat → Nat} {a1 a2 a3 a4 a5 a6 A7 : Nat → Int32} {z2 z3 : Int32}
theorem bgn_eq (hok : tx_ok N t) {ms : Nat} {o : Nat × Nat × Nat} (hT : TB N t v ms 0 = some o) {w : Nat} (hw : w < nW N t) : anb (fun k => decide ((lb N t v ms k = 0 ∧ w = 0) ∨ (0 < lb N t v ms k ∧ sP N t (lb N t v ms k - 1) = false ∧ w = wP N t (lb N t v ms k - 1) + 1))) (nL N t v ms) = bgn N t v ms w := by
  have hend := lb_end hT
  have hlw := lpw_lt (N := N) (t := t) hw
  unfold bgn
  by_cases h0 : w = 0
  · rw [decide_eq_true h0, Bool.true_or]
    have hpos : 0 < nL N t v ms := by
      rcases Nat.eq_zero_or_pos (nL N t v ms) with z | z
      · rw [z] at hend
        have : lb N t v ms 0 = 0 := rfl
        omega
      · exact z
    exact anb_yes hpos (decide_eq_true (Or.inl ⟨rfl, h0⟩))
  · rw [decide_eq_false h0, Bool.false_or]
    have hmono : lpw N t (w - 1) < lpw N t w := by
      have h1 := ew_lt_sw (N := N) (t := t) (w := w - 1) (by omega)
      have h2 := sw_le_ew (N := N) (t := t) hw
      rw [show w - 1 + 1 = w by omega] at h1
      exact ct_lt_N (ew_place (show w - 1 < nW N t by omega)) (by omega)
    apply Bool.eq_iff_iff.2
    unfold ebt
    rw [anb_iff, anb_iff]
    constructor
    · rintro ⟨k, h1, h2⟩
      rcases of_decide_eq_true h2 with ⟨h3, h4⟩ | ⟨h3, h4, h5⟩
      · exact absurd h4 h0
      · have hlt := lb_lt hT h1
        have he := (lpw_iff hok (show lb N t v ms k - 1 < nP N t by omega) hw (by omega)).1 ⟨h4, h5⟩
        obtain ⟨j, rfl⟩ : ∃ j, k = j + 1 := ⟨k - 1, by
          rcases Nat.eq_zero_or_pos k with z | z
          · rw [z] at h3; exact absurd h3 (Nat.lt_irrefl 0)
          · omega⟩
        exact ⟨j, by omega, decide_eq_true he⟩
    · rintro ⟨k, h1, h2⟩
      have he := of_decide_eq_true h2
      have hr := (lb_rise hT).2 k h1
      have hk1 : k + 1 < nL N t v ms := by
        rcases Nat.lt_or_ge (k + 1) (nL N t v ms) with z | z
        · exact z
        · rw [show k + 1 = nL N t v ms by omega, hend] at he
          omega
      have hm := lb_mono hT (show 0 < k + 1 by omega) (by omega)
      have h00 : lb N t v ms 0 = 0 := rfl
      obtain ⟨x1, x2⟩ := (lpw_iff hok hr hw (by omega)).2 he
      exact ⟨k + 1, hk1, decide_eq_true (Or.inr ⟨by omega, x1, x2⟩)⟩
/-- what unseen answers -/
def usv (N : Nat) (t : Nat → Int32) (v : Nat → Nat) (S : Nat → Nat) (B : Nat → Bool) (c : Nat) (x : Int32) : Int32 := if 0 ≤ x ∧ x ≤ 2 then pkv (fun m => usn N t v S B m c) 191 x else -1
theorem md_unseenq (hok : tx_ok N t) (hv : sv_ok v) (hA : sv_at A7 v) (h : mw_k N t N a1 a2 a3 a4 a5 a6 z2 z3) {c : Nat} {S : Nat → Nat} {B : Nat → Bool} {r2 r3 : hm_SR} {a12 a13 : Nat → Int32} {z6 : Int32} (hn : sn_is (nW N t) c S B r2 r3 a12 a13 z6) (A14 A15 A16 A17 A18 : Nat → Int32) (z7 z9 z10 z11 x : Int32) : ∃ q9, f_X8_unseen a1 a2 a4 a5 a6 A7 a12 a13 A14 A15 A16 A17 A18 (nI N) (nI (nP N t)) z6 z7 z9 z10 z11 x = some q9 ∧ q9.1 = usv N t v S B c x := by
  have hP : nP N t ≤ 100 := pl_100 hok
  obtain ⟨n1, n2, n3, n4, n5⟩ := hn
  rw [f_X8_unseen, md_in, Option.bind_some]
  unfold usv
  by_cases hx : 0 ≤ x ∧ x ≤ 2
  · rw [if_pos hx, if_pos hx, if_neg n10]
    have loop : ∀ (d m fuel : Nat), 191 = m + d → d < fuel → ∀ (w p g q e : Nat → Int32) (z10 z11 z7 z9 : Int32), fd_is (fun m => usn N t v S B m c) m z9 z10 z11 → ∃ q9, f_X8_unseen_l19 a1 a2 a4 a5 a6 A7 a12 a13 (nI N) (nI (nP N t)) z6 x fuel (nI (10 + m)) w p g q e z10 z11 z7 z9 = some q9 ∧ q9.1 = pkv (fun m => usn N t v S B m c) 191 x := by
      intro d
      induction d with
      | zero =>
        intro m fuel hm hf w p g q e z10 z11 z7 z9 hfd
        obtain ⟨fuel, rfl⟩ : ∃ z, fuel = z + 1 := ⟨fuel - 1, by omega⟩
        rw [show m = 191 by omega] at hfd ⊢
        rw [f_X8_unseen_l19_s, if_pos (show (200 : Int32) < nI (10 + 191) by decide), f_X8_unseen_l105, md_found hfd, Option.bind_some]
        exact ⟨_, rfl, rfl⟩
      | succ d ih =>
        intro m fuel hm hf w p g q e z10 z11 z7 z9 hfd
        obtain ⟨fuel, rfl⟩ : ∃ z, fuel = z + 1 := ⟨fuel - 1, by omega⟩
        have hm1 : m < 191 := by omega
        rw [f_X8_unseen_l19_s, if_neg (show ¬ (200 : Int32) < nI (10 + m) by rw [nl_200, nI_lti (by omega) (by omega)]; omega)]
        obtain ⟨w', p', g', q', e', hw', hmp⟩ := md_page (ms := 10 + m) hok hv (by omega) hA h w p g q e
        have fin : ∀ (b : Bool) (y7 : Int32), b = usn N t v S B m c → ∃ q9, f_X8_unseen_l90 (fun zv2 zwA_14 zwA_15 zwA_16 zwA_17 zwA_18 zwZ_10 zwZ_11 zwZ_7 zwZ_9 => f_X8_unseen_l19 a1 a2 a4 a5 a6 A7 a12 a13 (nI N) (nI (nP N t)) z6 x fuel zv2 zwA_14 zwA_15 zwA_16 zwA_17 zwA_18 zwZ_10 zwZ_11 zwZ_7 zwZ_9) (nI (10 + m)) (bi b) w' p' g' q' e' z10 z11 y7 z9 = some q9 ∧ q9.1 = pkv (fun m => usn N t v S B m c) 191 x := by
          intro b y7 hb
          rw [f_X8_unseen_l90]
          cases b with
          | false =>
            rw [if_pos (show bi false = 0 from rfl), f_X8_unseen_l99, nI_1]
            exact ih (m + 1) fuel (by omega) (by omega) _ _ _ _ _ _ _ _ _ (md_skips (G := fun m => usn N t v S B m c) hfd hb.symm)
          | true =>
            obtain ⟨a, cc, dd, f1, f2⟩ := md_finds (G := fun m => usn N t v S B m c) hm1 hfd hb.symm
            rw [if_neg (show ¬ bi true = 0 from n10), f1, Option.bind_some, f_X8_unseen_l99, nI_1]
            exact ih (m + 1) fuel (by omega) (by omega) _ _ _ _ _ _ _ _ _ f2
        have nof : ∀ j, usn N t v S B m j = false → ∀ e, usn N t v S B m (j + e) = false := by
          intro j hj e
          induction e with
          | zero => exact hj
          | succ e ih2 => rw [← Nat.add_assoc, usn, ih2]; rfl
        have inner : ∀ (y7 : Int32), (∀ o', TB N t v (10 + m) 0 = some o' → y7 = nI (nL N t v (10 + m)) ∧ ∀ k, k < nL N t v (10 + m) → e' k = nI (lb N t v (10 + m) (k + 1) - 1)) → ∀ (dd j fuel' : Nat), c = j + dd → dd < fuel' → ∃ q9, f_X8_unseen_l35 (fun zv2 zwA_14 zwA_15 zwA_16 zwA_17 zwA_18 zwZ_10 zwZ_11 zwZ_7 zwZ_9 => f_X8_unseen_l19 a1 a2 a4 a5 a6 A7 a12 a13 (nI N) (nI (nP N t)) z6 x fuel zv2 zwA_14 zwA_15 zwA_16 zwA_17 zwA_18 zwZ_10 zwZ_11 zwZ_7 zwZ_9) a2 a4 a5 a6 a12 a13 z6 fuel' (nI (10 + m)) (bi (usn N t v S B m j)) (nI j) w' p' g' q' e' z10 z11 y7 z9 = some q9 ∧ q9.1 = pkv (fun m => usn N t v S B m c) 191 x := by
          intro y7 hy dd
          induction dd with
          | zero =>
            intro j fuel' hj hf'
            obtain ⟨fuel', rfl⟩ : ∃ z, fuel' = z + 1 := ⟨fuel' - 1, by omega⟩
            rw [f_X8_unseen_l35_s, n4, if_pos (show nI c ≤ nI j by rw [nI_lei (by omega) (by omega)]; omega)]
            exact (by rw [n4] at fin; exact fin _ _ (by rw [show j = c by omega]))
          | succ dd ih' =>
            intro j fuel' hj hf'
            obtain ⟨fuel', rfl⟩ : ∃ z, fuel' = z + 1 := ⟨fuel' - 1, by omega⟩
            have next := ih' (j + 1) fuel' (by omega) (by omega)
            obtain ⟨s1, s2, s3, s4, s5⟩ := n5 j (by omega)
            rw [f_X8_unseen_l35_s, if_neg (show ¬ z6 ≤ nI j by rw [n4, nI_lei (by omega) (by omega)]; omega)]
            cases hu : usn N t v S B m j with
            | false =>
              rw [if_pos (show bi false = 0 from rfl)]
              exact fin false _ (by have := nof j hu (dd + 1); rw [show j + (dd + 1) = c by omega] at this; exact this.symm)
            | true =>
              obtain ⟨o', hT'⟩ := usn_page j hu
              obtain ⟨y1, y2⟩ := hy o' hT'
              have hle := (TB_le hv (show 10 + m ≤ 200 by omega) (Nat.zero_le _) hT').2
              have hnl : o'.2.1 = nL N t v (10 + m) := by unfold nL; rw [hT']
              have hb := md_begun (E := e') hok h hT' (by omega) y2 s3
              rw [bgn_eq hok hT' s3] at hb
              rw [usn, hu, Bool.true_and] at next
              rw [if_neg (show ¬ bi true = 0 from n10), rd_in (by omega) (by omega), Option.bind_some, s2, y1, hb, Option.bind_some, rd_in (by omega) (by omega), Option.bind_some, s5]
              rw [y1] at next
              cases hB : B j with
              | true =>
                rw [if_pos (show bi true = 1 from rfl), f_X8_unseen_l75]
                cases hg : bgn N t v (10 + m) (S j) with
                | true => rw [if_pos (show bi true = 1 from rfl), f_X8_unseen_l83, nI_1]; rw [hg, hB] at next; exact next
                | false => rw [if_neg (show ¬ bi false = 1 from n01), f_X8_unseen_l83, nI_1]; rw [hg, hB] at next; exact next
              | false =>
                rw [if_neg (show ¬ bi false = 1 from n01), f_X8_unseen_l75]
                cases hg : bgn N t v (10 + m) (S j) with
                | true => rw [if_neg (show ¬ bi true = 0 from n10), f_X8_unseen_l83, nI_1]; rw [hg, hB] at next; exact next
                | false => rw [if_pos (show bi false = 0 from rfl), f_X8_unseen_l83, nI_1]; rw [hg, hB] at next; exact next
        cases hT' : TB N t v (10 + m) 0 with
        | none =>
          rw [hT'] at hmp
          dsimp only at hmp
          rw [hmp, Option.bind_some]
          have h00 : usn N t v S B m 0 = false := by show (TB N t v (10 + m) 0).isSome = false; rw [hT']; rfl
          have := inner 0 (fun o' ho => by rw [hT'] at ho; cases ho) c 0 hm_fu (by omega) (by unfold hm_fu; omega)
          rw [h00] at this
          exact this
        | some o' =>
          rw [hT'] at hmp
          obtain ⟨p1, p2, hE'⟩ := hmp
          rw [p1, Option.bind_some]
          have h00 : usn N t v S B m 0 = true := by show (TB N t v (10 + m) 0).isSome = true; rw [hT']; rfl
          have := inner (nI (nL N t v (10 + m))) (fun o' ho => ⟨rfl, hE'⟩) c 0 hm_fu (by omega) (by unfold hm_fu; omega)
          rw [h00] at this
          exact this
    exact loop 191 0 hm_fu (by omega) (by unfold hm_fu; omega) _ _ _ _ _ _ _ _ _ ⟨rfl, fun z => absurd z (Nat.lt_irrefl _)⟩
  · rw [if_neg hx, if_neg hx, if_pos n00]
    exact ⟨_, rfl, rfl⟩
end MUS
