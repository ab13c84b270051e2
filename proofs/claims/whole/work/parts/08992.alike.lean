/-! pure: alike -/
section ALI
variable {N : Nat} {t : Nat → Int32} {v : Nat → Nat}
/-- the page of a measure ends its lines where this page does -/
def alk (N : Nat) (t : Nat → Int32) (v : Nat → Nat) (m : Nat) : Bool := match TB N t v (10 + m) 0 with
  | none => false
  | some _ => decide (nL N t v (10 + m) = pL N t v ∧ ∀ k, k < pL N t v → lb N t v (10 + m) (k + 1) - 1 = pB N t v (k + 1) - 1)
theorem lb_rise {ms : Nat} {o : Nat × Nat × Nat} (hT : TB N t v ms 0 = some o) : (∀ a b, a < b → b < nL N t v ms → lb N t v ms (a + 1) - 1 < lb N t v ms (b + 1) - 1) ∧ ∀ k, k < nL N t v ms → lb N t v ms (k + 1) - 1 < nP N t := by
  constructor
  · intro a b hab hb
    have h1 := lb_mono hT (show a + 1 < b + 1 by omega) (by omega)
    obtain ⟨q, q1, q2, q3, q4, q5⟩ := lb_next hT (show a < nL N t v ms by omega)
    omega
  · intro k hk
    obtain ⟨q, q1, q2, q3, q4, q5⟩ := lb_next hT hk
    omega
theorem cl_pickA (hok : tx_ok N t) (hv : sv_ok v) {o : Nat × Nat × Nat} (hT : TB N t v (v 35) 0 = some o) {A : Nat → Int32} {J : Nat → Int64} (hs : su_is N t v A J) (A1 : Nat → Int32) : ∃ A1' : Nat → Int32, f_X6_pickAlike A A1 J (nI (v 35)) = some A1' ∧ ∀ m, m < 191 → A1' m = bi (alk N t v m) := by
  have hP : nP N t ≤ 100 := pl_100 hok
  have hv1 := hv.2.2.2.2.1
  have hv2 := hv.2.2.2.2.2.1
  obtain ⟨i, hi⟩ : ∃ i, v 35 = 10 + i := ⟨v 35 - 10, by omega⟩
  have hsi := hs i (by omega)
  unfold su_m at hsi
  rw [← hi, hT] at hsi
  obtain ⟨s1, s2⟩ := hsi
  obtain ⟨ri1, ri2⟩ := lb_rise hT
  have hclip : (if (0 : Int32) < (if (nI (v 35) - 10) < 190 then (nI (v 35) - 10) else 190) then (if (nI (v 35) - 10) < 190 then (nI (v 35) - 10) else 190) else 0) = nI i := by
    rw [show nI (v 35) - 10 = nI i by rw [hi, nl_10, pk_sub (by omega), Nat.add_sub_cancel_left]]
    have e1 : (if nI i < 190 then nI i else 190) = nI i := by
      by_cases h1 : i < 190
      · rw [if_pos (by rw [nl_190, nI_lti (by omega) (by omega)]; exact h1)]
      · rw [if_neg (by rw [nl_190, nI_lti (by omega) (by omega)]; exact h1), show i = 190 by omega]; rfl
    rw [e1]
    by_cases h0 : 0 < i
    · rw [if_pos (by rw [nl_0, nI_lti (by omega) (by omega)]; exact h0)]
    · rw [if_neg (by rw [nl_0, nI_lti (by omega) (by omega)]; exact h0), show i = 0 by omega]; rfl
  -- two measures alike, and their bits
  have alike : ∀ m, m < 191 → ∀ o', TB N t v (10 + m) 0 = some o' → ((J (m * 2) = J (i * 2) ∧ J (m * 2 + 1) = J (i * 2 + 1)) ↔ alk N t v m = true) := by
    intro m hm o' hT'
    have hsm := hs m hm
    unfold su_m at hsm
    rw [hT'] at hsm
    obtain ⟨u1, u2⟩ := hsm
    obtain ⟨rm1, rm2⟩ := lb_rise hT'
    unfold alk
    rw [hT']
    dsimp only
    constructor
    · rintro ⟨e1, e2⟩
      have hset : ∀ p, p < nP N t → anb (fun k => decide (lb N t v (10 + m) (k + 1) - 1 = p)) (nL N t v (10 + m)) = anb (fun k => decide (lb N t v (v 35) (k + 1) - 1 = p)) (nL N t v (v 35)) := by
        intro p hp
        by_cases h64 : p < 64
        · have a := (u2 p h64).1
          rw [e1, (s2 p h64).1] at a
          exact a.symm
        · have a := (u2 (p - 64) (by omega)).2
          rw [e2, (s2 (p - 64) (by omega)).2, show 64 + (p - 64) = p by omega] at a
          exact a.symm
      obtain ⟨r1, r2⟩ := rise_eq rm1 ri1 rm2 ri2 hset
      exact decide_eq_true ⟨r1, fun k hk => r2 k (by rw [r1]; exact hk)⟩
    · intro hd
      obtain ⟨r1, r2⟩ := of_decide_eq_true hd
      have hset : ∀ p, ebt N t v (10 + m) (nL N t v (10 + m)) p = ebt N t v (v 35) (nL N t v (v 35)) p := by
        intro p
        have hsame : ∀ K, K ≤ pL N t v → ebt N t v (10 + m) K p = ebt N t v (v 35) K p := by
          intro K
          induction K with
          | zero => intro _; rfl
          | succ K ih =>
            intro hK
            have e1 : ebt N t v (10 + m) (K + 1) p = (ebt N t v (10 + m) K p || decide (lb N t v (10 + m) (K + 1) - 1 = p)) := rfl
            have e2 : ebt N t v (v 35) (K + 1) p = (ebt N t v (v 35) K p || decide (lb N t v (v 35) (K + 1) - 1 = p)) := rfl
            rw [e1, e2, ih (by omega), show lb N t v (10 + m) (K + 1) - 1 = lb N t v (v 35) (K + 1) - 1 from r2 K (by omega)]
        rw [r1]
        exact hsame _ (Nat.le_refl _)
      refine ⟨b6_ext (fun j hj => ?_), b6_ext (fun j hj => ?_)⟩
      · rw [(u2 j hj).1, (s2 j hj).1, hset]
      · rw [(u2 j hj).2, (s2 j hj).2, hset]
  have key : ∀ (d m fuel : Nat), 191 = m + d → d < fuel → ∀ A1 : Nat → Int32, (∀ x, x < m → A1 x = bi (alk N t v x)) → ∃ A1' : Nat → Int32, f_X6_pickAlike_l17 A J fuel (nI i) (nI m) A1 = some A1' ∧ ∀ x, x < 191 → A1' x = bi (alk N t v x) := by
    intro d
    induction d with
    | zero =>
      intro m fuel hm hf A1 hA
      obtain ⟨fuel, rfl⟩ : ∃ z, fuel = z + 1 := ⟨fuel - 1, by omega⟩
      rw [f_X6_pickAlike_l17_s, show m = 191 by omega, if_pos (show (191 : Int32) ≤ nI 191 from Int32.le_refl _)]
      exact ⟨A1, rfl, fun x hx => hA x (by omega)⟩
    | succ d ih =>
      intro m fuel hm hf A1 hA
      obtain ⟨fuel, rfl⟩ : ∃ z, fuel = z + 1 := ⟨fuel - 1, by omega⟩
      have hm1 : m < 191 := by omega
      have fin : ∀ b : Bool, b = alk N t v m → ∃ A1' : Nat → Int32, f_X6_pickAlike_l87 (fun zv2 zv3 zwA_1 => f_X6_pickAlike_l17 A J fuel zv2 zv3 zwA_1) (bi b) (nI m) (nI i) (nI m) A1 = some A1' ∧ ∀ x, x < 191 → A1' x = bi (alk N t v x) := by
        intro b hb
        rw [f_X6_pickAlike_l87, wz_in (by omega) (by omega) (bi_01 b), Option.bind_some, nI_1]
        refine ih (m + 1) fuel (by omega) (by omega) _ (fun x hx => ?_)
        by_cases e : x = m
        · rw [e, ud_s, hb]
        · rw [ud_n e]; exact hA x (by omega)
      have hsm := hs m hm1
      unfold su_m at hsm
      rw [f_X6_pickAlike_l17_s, if_neg (show ¬ (191 : Int32) ≤ nI m by rw [nl_191, nI_lei (by omega) (by omega)]; omega), rd_in (by omega) (by omega), Option.bind_some]
      cases hT' : TB N t v (10 + m) 0 with
      | none =>
        rw [hT'] at hsm
        have hsm' : A m = 0 := hsm
        rw [hsm', if_pos n00, f_X6_pickAlike_l86]
        exact fin false (by unfold alk; rw [hT'])
      | some o' =>
        rw [hT'] at hsm
        have hal := alike m hm1 o' hT'
        have m2 : ∀ j, nI j * 2 = nI (j * 2) := fun j => by rw [nl_2, pk_mul]
        rw [hsm.1, if_neg n10, m2, m2, rj_in (by omega) (by omega), Option.bind_some, rj_in (by omega) (by omega), Option.bind_some]
        by_cases c1 : J (m * 2) = J (i * 2)
        · rw [if_pos ((lg_0 _ _).2 c1), nI_1, nI_1, rj_in (by omega) (by omega), Option.bind_some, rj_in (by omega) (by omega), Option.bind_some]
          by_cases c2 : J (m * 2 + 1) = J (i * 2 + 1)
          · rw [if_pos ((lg_0 _ _).2 c2)]
            exact fin true (hal.1 ⟨c1, c2⟩).symm
          · rw [if_neg (fun z => c2 ((lg_0 _ _).1 z)), f_X6_pickAlike_l86]
            exact fin false (by cases hz : alk N t v m with | false => rfl | true => exact absurd (hal.2 hz).2 c2)
        · rw [if_neg (fun z => c1 ((lg_0 _ _).1 z)), f_X6_pickAlike_l86]
          exact fin false (by cases hz : alk N t v m with | false => rfl | true => exact absurd (hal.2 hz).1 c1)
  rw [f_X6_pickAlike, hclip]
  exact key 191 0 hm_fu (by omega) (by unfold hm_fu; omega) A1 (fun x hx => absurd hx (Nat.not_lt_zero _))
end ALI
