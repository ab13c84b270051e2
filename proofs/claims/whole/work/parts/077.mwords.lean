/-! pure: how the model reads a text -/
def mw_k (N : Nat) (t : Nat → Int32) (k : Nat) (a1 a2 a3 a4 a5 a6 : Nat → Int32) (z2 z3 : Int32) : Prop := (∀ j, j < k → a1 j = t j) ∧ fil (wb t) (fun j => nI j) k a2 ∧ fil (we N t) (fun j => nI (j + 1)) k a3 ∧ fil (pl N t) (fun j => nI (ct (we N t) j)) k a4 ∧ fil (pl N t) (fun j => nI (if sl t j = true then j else j + 1)) k a5 ∧ fil (pl N t) (fun j => if sl t j = true then 1 else 0) k a6 ∧ z2 = nI (ct (wb t) k) ∧ z3 = nI (ct (pl N t) k)
theorem md_lays {a4 a5 a6 : Nat → Int32} {c : Nat} {x y b : Int32} (hc : c < 104) (hb : b = 0 ∨ b = 1) : f_X8_laysPlace a4 a5 a6 (nI c) x y b = some (upd a4 c x, upd a5 c y, upd a6 c b, nI (c + 1)) := by
  rw [f_X8_laysPlace, wr_in hc (by omega), Option.bind_some, wr_in hc (by omega), Option.bind_some, wz_in hc (by omega) hb, Option.bind_some, nI_1]
theorem fil_1 {t f : Nat → Int32} {k : Nat} (h : ∀ j, j < k → f j = t j) : ∀ j, j < k + 1 → upd f k (t k) j = t j := by
  intro j hj
  by_cases e : j = k
  · rw [e, ud_s]
  · rw [ud_n e]; exact h j (by omega)
section MWD
variable {N : Nat} {t A0 A7 A9 : Nat → Int32}
theorem mw_step (hok : tx_ok N t) (hA : ∀ j, j < N → A0 j = t j) {k fuel : Nat} (hk : k < N) {a1 a2 a3 a4 a5 a6 : Nat → Int32} {z2 z3 : Int32} (h : mw_k N t k a1 a2 a3 a4 a5 a6 z2 z3) : ∃ (b1 b2 b3 b4 b5 b6 : Nat → Int32) (y2 y3 : Int32), f_X8_words_l36 A0 A7 A9 (fuel + 1) (nI k) a1 a2 a3 a4 a5 a6 (nI N) z2 z3 = f_X8_words_l36 A0 A7 A9 fuel (nI (k + 1)) b1 b2 b3 b4 b5 b6 (nI N) y2 y3 ∧ mw_k N t (k + 1) b1 b2 b3 b4 b5 b6 y2 y3 := by
  obtain ⟨h1, h2, h3, h4, h5, h6, h7, h8⟩ := h
  have hN := hok.1
  have hW : ct (wb t) N ≤ 30 := hok.2.2
  have hP := pl_100 hok
  rw [f_X8_words_l36_s, if_neg (by rw [nI_lei (by omega) (by omega)]; omega), rd_in (by omega) (by omega), Option.bind_some, wr_in (by omega) (by omega), Option.bind_some, Option.bind_some, hA k hk]
  generalize hJ : (fun zv2 zwA_1 zwA_2 zwA_3 zwA_4 zwA_5 zwA_6 zwZ_1 zwZ_2 zwZ_3 => f_X8_words_l36 A0 A7 A9 fuel zv2 zwA_1 zwA_2 zwA_3 zwA_4 zwA_5 zwA_6 zwZ_1 zwZ_2 zwZ_3) = J
  have hJ' : ∀ b1 b2 b3 b4 b5 b6 y2 y3, J (nI (k + 1)) b1 b2 b3 b4 b5 b6 (nI N) y2 y3 = f_X8_words_l36 A0 A7 A9 fuel (nI (k + 1)) b1 b2 b3 b4 b5 b6 (nI N) y2 y3 := by
    intro b1 b2 b3 b4 b5 b6 y2 y3
    rw [← hJ]
  have r1 := fil_1 (t := t) h1
  cases hb : bk t k with
  | true =>
    have hx : t k = 32 := of_decide_eq_true hb
    have n1 : wb t k = false := by cases hz : wb t k with | false => rfl | true => rw [(wb_iff.mp hz).1] at hb; cases hb
    have n2 : we N t k = false := by cases hz : we N t k with | false => rfl | true => rw [(we_iff.mp hz).1] at hb; cases hb
    have n3 : sl t k = false := by cases hz : sl t k with | false => rfl | true => rw [sl_bk hz] at hb; cases hb
    have n4 : pl N t k = false := by unfold pl; rw [n2, n3]; rfl
    rw [if_pos hx, f_X8_words_l72, if_pos n00, f_X8_words_l114, rd_in (by omega) (by omega), Option.bind_some, hA k hk, if_neg (of_decide_eq_false n3), f_X8_words_l137, if_pos n00, f_X8_words_l192, nI_1, hJ']
    exact ⟨_, _, _, _, _, _, _, _, rfl, r1, fil_n h2 n1, fil_n h3 n2, fil_n h4 n4, fil_n h5 n4, fil_n h6 n4, by rw [h7, ct_n n1], by rw [h8, ct_n n4]⟩
  | false =>
    have hx : ¬ t k = 32 := of_decide_eq_false hb
    have hin := ct_in hk hb
    have hWk : ct (wb t) (k + 1) ≤ 30 := Nat.le_trans (ct_le _ (by omega)) hW
    -- behind the word's beginning
    have key : ∀ (a2 : Nat → Int32), fil (wb t) (fun j => nI j) (k + 1) a2 → ∃ (b1 b2 b3 b4 b5 b6 : Nat → Int32) (y2 y3 : Int32), f_X8_words_l114 J A0 (nI k) 1 (upd a1 k (t k)) a2 a3 a4 a5 a6 (nI N) (nI (ct (wb t) (k + 1))) z3 = f_X8_words_l36 A0 A7 A9 fuel (nI (k + 1)) b1 b2 b3 b4 b5 b6 (nI N) y2 y3 ∧ mw_k N t (k + 1) b1 b2 b3 b4 b5 b6 y2 y3 := by
      intro a2 h2
      rw [f_X8_words_l114, rd_in (by omega) (by omega), Option.bind_some, hA k hk, hin, nI_pred, h8]
      cases hs : sl t k with
      | true =>
        have n2 := sl_nwe hok hk hs
        have n4 : pl N t k = true := by unfold pl; rw [hs]; rfl
        have hlt := ct_lt_N n4 hk
        obtain ⟨s1, s2, s3, s4⟩ := ok_sl hok hk hs
        have hb2 := (pn_bk s4).1
        rw [if_pos (of_decide_eq_true hs), md_lays (by omega) (Or.inr rfl), Option.bind_some, f_X8_words_l137, if_neg n10, nI_1, if_neg (by rw [nI_eqi (by omega) (by omega)]; omega), rd_in (by omega) (by omega), Option.bind_some, hA _ (by omega), if_neg (of_decide_eq_false hb2), f_X8_words_l192, nI_1, hJ']
        refine ⟨_, _, _, _, _, _, _, _, rfl, r1, h2, fil_n h3 n2, fil_y h4 n4 rfl, fil_y h5 n4 (by rw [if_pos hs]), fil_y h6 n4 (by rw [if_pos hs]), by rw [hin], by rw [ct_y n4]⟩
      | false =>
        rw [if_neg (of_decide_eq_false hs), f_X8_words_l137, if_neg n10, nI_1]
        have done : we N t k = true → ∃ (b1 b2 b3 b4 b5 b6 : Nat → Int32) (y2 y3 : Int32), f_X8_words_l164 J (nI k) (upd a1 k (t k)) a2 a3 a4 a5 a6 (nI N) (nI (ct (we N t) k + 1)) (nI (ct (pl N t) k)) = f_X8_words_l36 A0 A7 A9 fuel (nI (k + 1)) b1 b2 b3 b4 b5 b6 (nI N) y2 y3 ∧ mw_k N t (k + 1) b1 b2 b3 b4 b5 b6 y2 y3 := by
          intro n2
          have n4 : pl N t k = true := by unfold pl; rw [n2, hs]; rfl
          have hlt := ct_lt_N n4 hk
          rw [f_X8_words_l164, nI_pred, nI_1, wr_in (by omega) (by omega), Option.bind_some, md_lays (by omega) (Or.inl rfl), Option.bind_some, f_X8_words_l192, nI_1, hJ']
          refine ⟨_, _, _, _, _, _, _, _, rfl, r1, h2, fil_y h3 n2 rfl, fil_y h4 n4 rfl, fil_y h5 n4 (by rw [if_neg (by rw [hs]; decide)]), fil_y h6 n4 (by rw [if_neg (by rw [hs]; decide)]), by rw [hin], by rw [ct_y n4]⟩
        by_cases hl : k + 1 = N
        · rw [if_pos (by rw [hl])]
          exact done (we_iff.mpr ⟨hb, Or.inl hl⟩)
        · rw [if_neg (by rw [nI_eqi (by omega) (by omega)]; omega), rd_in (by omega) (by omega), Option.bind_some, hA _ (by omega)]
          cases hb2 : bk t (k + 1) with
          | true =>
            rw [if_pos (of_decide_eq_true hb2)]
            exact done (we_iff.mpr ⟨hb, Or.inr hb2⟩)
          | false =>
            have n2 : we N t k = false := by
              cases hz : we N t k with
              | false => rfl
              | true =>
                rcases (we_iff.mp hz).2 with z | z
                · exact absurd z hl
                · rw [hb2] at z; cases z
            have n4 : pl N t k = false := by unfold pl; rw [n2, hs]; rfl
            rw [if_neg (of_decide_eq_false hb2), f_X8_words_l192, nI_1, hJ']
            exact ⟨_, _, _, _, _, _, _, _, rfl, r1, h2, fil_n h3 n2, fil_n h4 n4, fil_n h5 n4, fil_n h6 n4, by rw [hin], by rw [ct_n n4]⟩
    rw [if_neg hx, f_X8_words_l72, if_neg n10]
    have beg : wb t k = true → ∃ (b1 b2 b3 b4 b5 b6 : Nat → Int32) (y2 y3 : Int32), f_X8_words_l94 J A0 (nI k) 1 (upd a1 k (t k)) a2 a3 a4 a5 a6 (nI N) z2 z3 = f_X8_words_l36 A0 A7 A9 fuel (nI (k + 1)) b1 b2 b3 b4 b5 b6 (nI N) y2 y3 ∧ mw_k N t (k + 1) b1 b2 b3 b4 b5 b6 y2 y3 := by
      intro n1
      have hlt := ct_lt_N n1 hk
      rw [f_X8_words_l94, h7, wr_in (by omega) (by omega), Option.bind_some, nI_1, ← ct_y n1]
      exact key _ (fil_y h2 n1 rfl)
    by_cases hk0 : k = 0
    · rw [if_pos (by rw [hk0]; rfl)]
      exact beg (wb_iff2.mpr ⟨hb, Or.inl hk0⟩)
    · rw [if_neg (nI_ne0 (by omega) (by omega)), nI_m1 (by omega), rd_in (by omega) (by omega), Option.bind_some, hA _ (by omega)]
      cases hb0 : bk t (k - 1) with
      | true =>
        rw [if_pos (of_decide_eq_true hb0)]
        exact beg (wb_iff2.mpr ⟨hb, Or.inr hb0⟩)
      | false =>
        have n1 : wb t k = false := by
          cases hz : wb t k with
          | false => rfl
          | true =>
            rcases (wb_iff2.mp hz).2 with z | z
            · exact absurd z hk0
            · rw [hb0] at z; cases z
        rw [if_neg (of_decide_eq_false hb0), h7, ← ct_n n1]
        exact key _ (fil_n h2 n1)
theorem mw_loop (hok : tx_ok N t) (hA : ∀ j, j < N → A0 j = t j) : ∀ (d k fuel : Nat), N = k + d → d < fuel → ∀ (a1 a2 a3 a4 a5 a6 : Nat → Int32) (z2 z3 : Int32), mw_k N t k a1 a2 a3 a4 a5 a6 z2 z3 → ∃ (b1 b2 b3 b4 b5 b6 : Nat → Int32) (y2 y3 : Int32), f_X8_words_l36 A0 A7 A9 fuel (nI k) a1 a2 a3 a4 a5 a6 (nI N) z2 z3 = f_X8_words_l198 A7 A9 b1 b2 b3 b4 b5 b6 (nI N) y2 y3 ∧ mw_k N t N b1 b2 b3 b4 b5 b6 y2 y3 := by
  intro d
  induction d with
  | zero =>
    intro k fuel hk hf a1 a2 a3 a4 a5 a6 z2 z3 h
    obtain ⟨fuel, rfl⟩ : ∃ z, fuel = z + 1 := ⟨fuel - 1, by omega⟩
    have hN := hok.1
    rw [f_X8_words_l36_s, if_pos (by rw [nI_lei (by omega) (by omega)]; omega)]
    rw [show N = k by omega] at h ⊢
    exact ⟨_, _, _, _, _, _, _, _, rfl, h⟩
  | succ d ih =>
    intro k fuel hk hf a1 a2 a3 a4 a5 a6 z2 z3 h
    obtain ⟨fuel, rfl⟩ : ∃ z, fuel = z + 1 := ⟨fuel - 1, by omega⟩
    obtain ⟨b1, b2, b3, b4, b5, b6, y2, y3, e, h2⟩ := mw_step (A7 := A7) (A9 := A9) (fuel := fuel) hok hA (k := k) (by omega) h
    rw [e]
    exact ih (k + 1) fuel (by omega) (by omega) _ _ _ _ _ _ _ _ h2
end MWD
