/-! pure: the class picks by what was seen, the loops -/
section PSN
variable {N : Nat} {t : Nat → Int32} {v : Nat → Nat}
/-- the page of a measure agrees with the first n that were seen -/
def usn (N : Nat) (t : Nat → Int32) (v : Nat → Nat) (S : Nat → Nat) (B : Nat → Bool) (m : Nat) : Nat → Bool
  | 0 => (TB N t v (10 + m) 0).isSome
  | n + 1 => usn N t v S B m n && decide (bgn N t v (10 + m) (S n) = B n)
theorem usn_page {S : Nat → Nat} {B : Nat → Bool} {m : Nat} : ∀ n, usn N t v S B m n = true → ∃ o, TB N t v (10 + m) 0 = some o
  | 0, h => Option.isSome_iff_exists.1 h
  | n + 1, h => usn_page n (Bool.and_eq_true_iff.1 h).1
theorem cl_pickS (hok : tx_ok N t) {A : Nat → Int32} {J : Nat → Int64} (hs : su_is N t v A J) {w4 : hm_SR} (h4 : w4.1 = nI (ct (we N t) N) ∧ fil (we N t) (fun j => nI (ct (pl N t) j)) N w4.2) {c : Nat} {S : Nat → Nat} {B : Nat → Bool} {r2 r3 : hm_SR} {a12 a13 : Nat → Int32} {z6 : Int32} (hn : sn_is (nW N t) c S B r2 r3 a12 a13 z6) (A1 : Nat → Int32) : ∃ A1' : Nat → Int32, f_X6_pickSeen A A1 J w4 6 r2 6 r3 = some A1' ∧ ∀ m, m < 191 → A1' m = bi (usn N t v S B m c) := by
  obtain ⟨n1, n2, n3, n4, n5⟩ := hn
  have key : ∀ (d m fuel : Nat), 191 = m + d → d < fuel → ∀ A1 : Nat → Int32, (∀ x, x < m → A1 x = bi (usn N t v S B x c)) → ∃ A1' : Nat → Int32, f_X6_pickSeen_l3 A J w4 6 r2 6 r3 fuel (nI m) A1 = some A1' ∧ ∀ x, x < 191 → A1' x = bi (usn N t v S B x c) := by
    intro d
    induction d with
    | zero =>
      intro m fuel hm hf A1 hA
      obtain ⟨fuel, rfl⟩ : ∃ z, fuel = z + 1 := ⟨fuel - 1, by omega⟩
      rw [f_X6_pickSeen_l3_s, show m = 191 by omega, if_pos (show (191 : Int32) ≤ nI 191 from Int32.le_refl _)]
      exact ⟨A1, rfl, fun x hx => hA x (by omega)⟩
    | succ d ih =>
      intro m fuel hm hf A1 hA
      obtain ⟨fuel, rfl⟩ : ∃ z, fuel = z + 1 := ⟨fuel - 1, by omega⟩
      have hm1 : m < 191 := by omega
      have hsm := hs m hm1
      unfold su_m at hsm
      have hA01 : A m = bi (usn N t v S B m 0) := by
        show A m = bi (TB N t v (10 + m) 0).isSome
        cases hT : TB N t v (10 + m) 0 with
        | none => rw [hT] at hsm; exact hsm
        | some o => rw [hT] at hsm; exact hsm.1
      have inner : ∀ (e j fuel' : Nat), c = j + e → e < fuel' → ∀ A1 : Nat → Int32, (∀ x, x < m → A1 x = bi (usn N t v S B x c)) → A1 m = bi (usn N t v S B m j) → ∃ A1' : Nat → Int32, f_X6_pickSeen_l28 (fun zv4 zwA_1 => f_X6_pickSeen_l3 A J w4 6 r2 6 r3 fuel zv4 zwA_1) J w4 6 r2 6 r3 fuel' (nI m) (nI j) A1 = some A1' ∧ ∀ x, x < 191 → A1' x = bi (usn N t v S B x c) := by
        intro e
        induction e with
        | zero =>
          intro j fuel' hj hf' A1 hA hAm
          obtain ⟨fuel', rfl⟩ : ∃ z, fuel' = z + 1 := ⟨fuel' - 1, by omega⟩
          rw [f_X6_pickSeen_l28_s, rg_size, Option.bind_some, n2, if_pos (show nI c ≤ nI j by rw [nI_lei (by omega) (by omega)]; omega), f_X6_pickSeen_l100, nI_1]
          refine ih (m + 1) fuel (by omega) (by omega) A1 (fun x hx => ?_)
          by_cases ex : x = m
          · rw [ex, hAm, show j = c by omega]
          · exact hA x (by omega)
        | succ e ih' =>
          intro j fuel' hj hf' A1 hA hAm
          obtain ⟨fuel', rfl⟩ : ∃ z, fuel' = z + 1 := ⟨fuel' - 1, by omega⟩
          obtain ⟨s1, s2, s3, s4, s5⟩ := n5 j (by omega)
          obtain ⟨b, b1, b2⟩ := cl_begins hok hs h4 hm1 s3
          have fin : ∀ q : Bool, q = usn N t v S B m (j + 1) → ∃ A1' : Nat → Int32, f_X6_pickSeen_l93 (fun zv4 zwA_1 => f_X6_pickSeen_l3 A J w4 6 r2 6 r3 fuel zv4 zwA_1) (fun zv4 zv5 zwA_1 => f_X6_pickSeen_l28 (fun zv4 zwA_1 => f_X6_pickSeen_l3 A J w4 6 r2 6 r3 fuel zv4 zwA_1) J w4 6 r2 6 r3 fuel' zv4 zv5 zwA_1) (bi q) (nI m) (nI m) (nI j) A1 = some A1' ∧ ∀ x, x < 191 → A1' x = bi (usn N t v S B x c) := by
            intro q hq
            rw [f_X6_pickSeen_l93, wz_in (by omega) (by omega) (bi_01 q), Option.bind_some, nI_1]
            refine ih' (j + 1) fuel' (by omega) (by omega) _ (fun x hx => ?_) ?_
            · rw [ud_n (by omega)]; exact hA x hx
            · rw [ud_s, hq]
          rw [f_X6_pickSeen_l28_s, rg_size, Option.bind_some, n2, if_neg (show ¬ nI c ≤ nI j by rw [nI_lei (by omega) (by omega)]; omega), rg_in n2 (by omega) (by omega) (by omega), Option.bind_some, s1, b1, Option.bind_some, rd_in (by omega) (by omega), Option.bind_some, hAm]
          cases hu : usn N t v S B m j with
          | false =>
            rw [if_pos (show bi false = 0 from rfl), f_X6_pickSeen_l92]
            exact fin false (by rw [usn, hu]; rfl)
          | true =>
            obtain ⟨o, ho⟩ := usn_page j hu
            have hb : b = bgn N t v (10 + m) (S j) := b2 (by rw [hA01]; show bi (TB N t v (10 + m) 0).isSome = 1; rw [ho]; rfl)
            have hnx : usn N t v S B m (j + 1) = decide (b = B j) := by rw [usn, hu, hb, Bool.true_and]
            rw [if_neg (show ¬ bi true = 0 from n10), rg_in n3 (by omega) (by omega) (by omega), Option.bind_some, s4]
            cases hB : B j with
            | true =>
              rw [if_pos (show bi true = 1 from rfl), f_X6_pickSeen_l85]
              cases b with
              | true => rw [if_pos (show bi true = 1 from rfl)]; exact fin true (by rw [hnx, hB]; rfl)
              | false => rw [if_neg (show ¬ bi false = 1 from n01), f_X6_pickSeen_l92]; exact fin false (by rw [hnx, hB]; rfl)
            | false =>
              rw [if_neg (show ¬ bi false = 1 from n01), f_X6_pickSeen_l85]
              cases b with
              | true => rw [if_neg (show ¬ bi true = 0 from n10), f_X6_pickSeen_l92]; exact fin false (by rw [hnx, hB]; rfl)
              | false => rw [if_pos (show bi false = 0 from rfl)]; exact fin true (by rw [hnx, hB]; rfl)
      rw [f_X6_pickSeen_l3_s, if_neg (show ¬ (191 : Int32) ≤ nI m by rw [nl_191, nI_lei (by omega) (by omega)]; omega), rd_in (by omega) (by omega), Option.bind_some, hA01, wz_in (by omega) (by omega) (bi_01 _), Option.bind_some]
      refine inner c 0 hm_fu (by omega) (by unfold hm_fu; omega) _ (fun x hx => ?_) ?_
      · rw [ud_n (by omega)]; exact hA x hx
      · rw [ud_s]
  rw [f_X6_pickSeen]
  exact key 191 0 hm_fu (by omega) (by unfold hm_fu; omega) A1 (fun x hx => absurd hx (Nat.not_lt_zero _))
end PSN
