/-! pure: the class picks by what was seen -/
section SEE
variable {N : Nat} {t : Nat → Int32} {v : Nat → Nat}
/-- the last place of a word; does a line of the page of this measure begin with a word -/
def lpw (N : Nat) (t : Nat → Int32) (w : Nat) : Nat := ct (pl N t) (ew N t w)
def bgn (N : Nat) (t : Nat → Int32) (v : Nat → Nat) (ms w : Nat) : Bool := decide (w = 0) || ebt N t v ms (nL N t v ms) (lpw N t (w - 1))
theorem lpw_lt {w : Nat} (hw : w < nW N t) : lpw N t w < nP N t := ct_lt_N (ew_place hw) (ew_sp hw).1
theorem cl_begins (hok : tx_ok N t) {A : Nat → Int32} {J : Nat → Int64} (hs : su_is N t v A J) {w4 : hm_SR} (h4 : w4.1 = nI (ct (we N t) N) ∧ fil (we N t) (fun j => nI (ct (pl N t) j)) N w4.2) {m w : Nat} (hm : m < 191) (hw : w < nW N t) : ∃ b : Bool, f_X6_beginsLine J w4 (nI m) (nI w) = some (bi b) ∧ (A m = 1 → b = bgn N t v (10 + m) w) := by
  have hP : nP N t ≤ 100 := pl_100 hok
  have hW : nW N t ≤ 30 := by unfold nW; rw [← ct_words]; exact hok.2.2
  have g4 : w4.1 = nI (nW N t) := h4.1
  rw [f_X6_beginsLine]
  by_cases h0 : w = 0
  · rw [if_pos (show nI w = 0 by rw [h0]; rfl), f_X6_beginsLine_l19]
    exact ⟨true, rfl, fun _ => by unfold bgn; rw [decide_eq_true h0]; rfl⟩
  rw [if_neg (show ¬ nI w = 0 by rw [nl_0, nI_eqi (by omega) (by omega)]; exact h0), nI_m1 (by omega), f_X3_lastPlaceOf, rg_in g4 (show w - 1 < nW N t by omega) (by omega) (by omega), Option.bind_some, Option.bind_some]
  have hv4 : w4.2 (w - 1) = nI (lpw N t (w - 1)) := fil_nth h4.2 (show w - 1 < ct (we N t) N from (by have : nW N t = ct (we N t) N := rfl; omega)) (Nat.le_refl N)
  have hlt := lpw_lt (N := N) (t := t) (w := w - 1) (by omega)
  have hdm := Nat.div_add_mod (lpw N t (w - 1)) 64
  have hml : lpw N t (w - 1) % 64 < 64 := Nat.mod_lt _ (by omega)
  have hends : f_X6_endsAt J (nI m) (nI (lpw N t (w - 1))) = some (bi (b6 (J (m * 2 + lpw N t (w - 1) / 64)) (lpw N t (w - 1) % 64))) := by
    rw [f_X6_endsAt, if_neg (nI_pos (by omega)), if_neg (show ¬ (191 : Int32) ≤ nI m by rw [nl_191, nI_lei (by omega) (by omega)]; omega), if_neg (nI_pos (by omega)), if_pos (show nI (lpw N t (w - 1)) < 128 by rw [nl_128, nI_lti (by omega) (by omega)]; omega), hm_dv, if_neg (by decide), hm_rm, if_neg (by decide), show nI (lpw N t (w - 1)) / 64 = nI (lpw N t (w - 1) / 64) by rw [nl_64, pk_div (by omega) (by omega) (by omega)], Option.bind_some, nl_2, pk_mul, nI_add, rj_in (by omega) (by omega), Option.bind_some, Option.bind_some, show nI (lpw N t (w - 1)) - nI (lpw N t (w - 1) / 64) * 64 = nI (lpw N t (w - 1) % 64) by rw [nl_64, pk_mul, pk_sub (Nat.div_mul_le_self _ _)]; congr 1; omega]
    have ht := b6_test (J (m * 2 + lpw N t (w - 1) / 64)) hml
    cases hb : b6 (J (m * 2 + lpw N t (w - 1) / 64)) (lpw N t (w - 1) % 64) with
    | true => rw [if_pos ((lg_0 _ _).2 (ht.2 hb))]; rfl
    | false => rw [if_neg (fun z => by rw [ht.1 ((lg_0 _ _).1 z)] at hb; cases hb)]; rfl
  rw [hv4, hends, Option.bind_some]
  refine ⟨b6 (J (m * 2 + lpw N t (w - 1) / 64)) (lpw N t (w - 1) % 64), ?_, fun hA => ?_⟩
  · cases b6 (J (m * 2 + lpw N t (w - 1) / 64)) (lpw N t (w - 1) % 64) with
    | true => rw [if_neg (show ¬ bi true = 0 from n10)]; rfl
    | false => rw [if_pos (show bi false = 0 from rfl)]; rfl
  · have hsm := hs m hm
    unfold su_m at hsm
    cases hT : TB N t v (10 + m) 0 with
    | none =>
      rw [hT] at hsm
      have hsm' : A m = 0 := hsm
      rw [hsm'] at hA
      exact absurd hA n01
    | some o =>
      rw [hT] at hsm
      unfold bgn
      rw [decide_eq_false h0, Bool.false_or]
      rcases (show lpw N t (w - 1) / 64 = 0 ∨ lpw N t (w - 1) / 64 = 1 by omega) with e | e
      · rw [e, Nat.add_zero, (hsm.2 _ hml).1]
        congr 1
        omega
      · rw [e, (hsm.2 _ hml).2]
        congr 1
        omega
end SEE
