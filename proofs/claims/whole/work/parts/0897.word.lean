/-! pure: word, place, count -/
section WRD
variable {N : Nat} {t : Nat → Int32} {a1 a2 a3 a4 a5 a6 : Nat → Int32} {z2 z3 : Int32}
theorem two_word (hok : tx_ok N t) (h : mw_k N t N a1 a2 a3 a4 a5 a6 z2 z3) {w0 w1 : hm_SR} (h0 : w0.1 = nI (ct (nb t) N) ∧ fil (nb t) t N w0.2) (h1 : w1.1 = nI (ct (we N t) N) ∧ fil (we N t) (fun j => nI (ct (nb t) (j + 1))) N w1.2) (x x1 : Int32) : ∃ (q q9 : Int32), f_X7_word w0 w1 x x1 = some q ∧ f_X8_word a1 a2 a3 (nI (nW N t)) x x1 = some q9 ∧ q = q9 := by
  have hW : nW N t ≤ 30 := by unfold nW; rw [← ct_words]; exact hok.2.2
  have hN := hok.1
  rw [f_X7_word, f_X8_word, f_X8_isWord]
  have h1' : w1.1 = nI (nW N t) := h1.1
  rcases in_cases x (n := nW N t) (by omega) with ⟨k, k1, rfl, k3, k4, k5⟩ | ⟨k1, k5⟩
  · rw [if_neg k3, f_X3_wordCount, rg_size, Option.bind_some, Option.bind_some, h1', if_neg k4, k5, Option.bind_some, bl_1, Option.bind_some, Option.bind_some, if_neg n10]
    obtain ⟨s1, s2⟩ := cl_scount (w0 := w0) hok h1 k1
    obtain ⟨m1, m2⟩ := md_se h k1
    have he := (ew_sp k1).1
    have hse := sw_le_ew (N := N) (t := t) k1
    by_cases hx : (-1 : Int32) ≤ x1
    · rw [if_pos hx, if_pos hx, rd_in (by omega) (by omega), Option.bind_some, rd_in (by omega) (by omega), Option.bind_some, m1, m2, pk_sub (by omega), s2]
      by_cases hx1 : x1 = -1
      · rw [if_pos hx1, if_pos hx1, Option.bind_some]
        exact ⟨_, _, rfl, rfl, rfl⟩
      rw [if_neg hx1, if_neg hx1, Option.bind_some]
      by_cases hx2 : nI (ew N t k + 1 - sw N t k) ≤ x1
      · rw [if_pos hx2, if_pos hx2]
        exact ⟨_, _, rfl, rfl, rfl⟩
      rw [if_neg hx2, if_neg hx2]
      obtain ⟨c, c1, c2, rfl⟩ := zI_of x1
      have m1' : (-1 : Int32) = zI (-1) := rfl
      rw [m1', zI_le (by omega) (by omega) (by omega) (by omega)] at hx
      rw [m1', zI_eq (by omega) (by omega) (by omega) (by omega)] at hx1
      rw [zI_nat, zI_le (by omega) (by omega) (by omega) (by omega)] at hx2
      rw [zI_N (show 0 ≤ c by omega), cl_signof hok h0 h1 k1 (show sw N t k + c.toNat ≤ ew N t k by omega), Option.bind_some, Option.bind_some, nI_add, rd_in (by omega) (by omega), Option.bind_some, h.1 _ (by omega)]
      exact ⟨_, _, rfl, rfl, rfl⟩
    · rw [if_neg hx, if_neg hx]
      exact ⟨_, _, rfl, rfl, rfl⟩
  · rw [k5, Option.bind_some, bl_0, Option.bind_some, Option.bind_some, if_pos n00]
    rcases k1 with k1 | ⟨k1, k2⟩
    · rw [if_pos k1]; exact ⟨_, _, rfl, rfl, rfl⟩
    · rw [if_neg k1, f_X3_wordCount, rg_size, Option.bind_some, Option.bind_some, h1', if_pos k2]
      exact ⟨_, _, rfl, rfl, rfl⟩
theorem two_place (hok : tx_ok N t) (h : mw_k N t N a1 a2 a3 a4 a5 a6 z2 z3) {w7 w8 w9 : hm_SR} (h7 : w7.1 = nI (ct (pl N t) N) ∧ fil (pl N t) (fun j => nI (ct (we N t) j)) N w7.2) (h8 : w8.1 = nI (ct (pl N t) N) ∧ fil (pl N t) (fun j => nI (ct (pq t) (if sl t j = true then j else j + 1) - pst N t j)) N w8.2) (h9 : w9.1 = nI (ct (pl N t) N) ∧ fil (pl N t) (fun j => if sl t j = true then 1 else 0) N w9.2) (x x1 : Int32) : ∃ (q q9 : Int32), f_X7_place w7 w8 w9 x x1 = some q ∧ f_X8_place a1 a2 a4 a5 a6 (nI (nP N t)) x x1 = some q9 ∧ q = q9 := by
  have hP : nP N t ≤ 100 := pl_100 hok
  have hW : nW N t ≤ 30 := by unfold nW; rw [← ct_words]; exact hok.2.2
  have hN := hok.1
  have g7 : w7.1 = nI (nP N t) := h7.1
  have g8 : w8.1 = nI (nP N t) := h8.1
  have g9 : w9.1 = nI (nP N t) := h9.1
  rw [f_X7_place, f_X8_place]
  rcases in_cases x (n := nP N t) (by omega) with ⟨k, k1, rfl, k3, k4, k5⟩ | ⟨k1, k5⟩
  · have i7 : f_X7_isPlace w7 (nI k) = some 1 := by rw [f_X7_isPlace, if_neg k3, f_X3_placeCount, rg_size, Option.bind_some, Option.bind_some, g7, if_neg k4]
    have i8 : f_X8_isPlace (nI (nP N t)) (nI k) = some 1 := by rw [f_X8_isPlace, k5, Option.bind_some, bl_1, Option.bind_some]
    rw [i7, i8, Option.bind_some, Option.bind_some, if_neg n10, if_neg n10, md_in, Option.bind_some]
    have v7 : w7.2 k = nI (wP N t k) := fil_nth h7.2 k1 (Nat.le_refl N)
    have v8 := fil_nth h8.2 k1 (Nat.le_refl N)
    have v9 : w9.2 k = if sP N t k = true then 1 else 0 := fil_nth h9.2 k1 (Nat.le_refl N)
    obtain ⟨p1, p2, p3⟩ := md_pw h k1
    have hw := wP_lt k1
    obtain ⟨l1, l2, l3⟩ := lp_sp k1
    obtain ⟨o1, o2, o3⟩ := of_word l1 (lp_nb k1)
    have o2' : sw N t (wP N t k) ≤ lp N t k := o2
    have o3' : lp N t k ≤ ew N t (wP N t k) := o3
    have hEnd : ∃ E : Nat, (if sP N t k = true then lp N t k else lp N t k + 1) = E ∧ sw N t (wP N t k) ≤ E ∧ E ≤ ew N t (wP N t k) + 1 ∧ w8.2 k = nI (ct (pq t) E - ct (pq t) (sw N t (wP N t k))) := by
      refine ⟨_, rfl, ?_, ?_, ?_⟩
      · split <;> omega
      · split <;> omega
      · have e1 : pst N t (lp N t k) = ct (pq t) (sw N t (wP N t k)) := by rw [pst_ps (by omega), ← ps_sw hw]; rfl
        have e2 : w8.2 k = nI (ct (pq t) (if sl t (lp N t k) = true then lp N t k else lp N t k + 1) - pst N t (lp N t k)) := v8
        rw [e2, e1]
        rfl
    obtain ⟨E, E1, E2, E3, E4⟩ := hEnd
    rw [E1] at p2
    have hEw := (ew_sp hw).1
    have key : ∀ (d p fuel : Nat), E = p + d → sw N t (wP N t k) ≤ p → d < fuel → f_X8_place_l34 a1 a4 a5 a6 (nI k) x1 fuel (nI (ct (pq t) p - ct (pq t) (sw N t (wP N t k)))) (nI p) = f_X8_place_l71 a4 a6 (nI k) x1 (nI (ct (pq t) E - ct (pq t) (sw N t (wP N t k)))) := by
      intro d
      induction d with
      | zero =>
        intro p fuel hp h1 hf
        obtain ⟨fuel, rfl⟩ : ∃ z, fuel = z + 1 := ⟨fuel - 1, by omega⟩
        rw [f_X8_place_l34_s, rd_in (by omega) (by omega), Option.bind_some, p2, if_pos (by rw [nI_lei (by omega) (by omega)]; omega), show p = E by omega]
      | succ d ih =>
        intro p fuel hp h1 hf
        obtain ⟨fuel, rfl⟩ : ∃ z, fuel = z + 1 := ⟨fuel - 1, by omega⟩
        have next := ih (p + 1) fuel (by omega) (by omega) (by omega)
        have hpq := pq_in hw h1 (show p ≤ ew N t (wP N t k) by omega)
        have hmono := ct_le (pq t) h1
        rw [f_X8_place_l34_s, rd_in (by omega) (by omega), Option.bind_some, p2, if_neg (by rw [nI_lei (by omega) (by omega)]; omega), rd_in (by omega) (by omega), Option.bind_some, h.1 p (by omega)]
        by_cases hs : t p = 47
        · have hsl : sl t p = true := decide_eq_true hs
          rw [ct_n (by rw [hpq, hsl]; rfl)] at next
          rw [if_pos hs, f_X8_place_l63, nI_1, nl_0, nI_add, Nat.add_zero]
          exact next
        · have hsl : sl t p = false := decide_eq_false hs
          rw [ct_y (by rw [hpq, hsl]; rfl), show ct (pq t) p + 1 - ct (pq t) (sw N t (wP N t k)) = ct (pq t) p - ct (pq t) (sw N t (wP N t k)) + 1 by omega] at next
          rw [if_neg hs, f_X8_place_l63, nI_1, nI_1]
          exact next
    have hloop := key (E - sw N t (wP N t k)) (sw N t (wP N t k)) hm_fu (by omega) (Nat.le_refl _) (by unfold hm_fu; omega)
    rw [Nat.sub_self, ← nl_0] at hloop
    by_cases hx : 0 ≤ x1 ∧ x1 ≤ 2
    · rw [if_pos hx, if_neg n10, rd_in (by omega) (by omega), Option.bind_some, p1, rd_in (by omega) (by omega), Option.bind_some, (md_se h hw).1, hloop, f_X8_place_l71]
      by_cases c0 : x1 = 0
      · rw [if_pos c0, if_pos c0, f_X3_wordAt, rg_in g7 k1 (by omega) (by omega), Option.bind_some, Option.bind_some, rd_in (by omega) (by omega), Option.bind_some, p1, v7]
        exact ⟨_, _, rfl, rfl, rfl⟩
      rw [if_neg c0, if_neg c0]
      by_cases c1 : x1 = 1
      · rw [if_pos c1, if_pos c1, f_X3_plainAhead, rg_in g8 k1 (by omega) (by omega), Option.bind_some, Option.bind_some, E4]
        exact ⟨_, _, rfl, rfl, rfl⟩
      have c2 : x1 = 2 := by
        obtain ⟨n, rfl, n1, n2⟩ := in_nat (a := 0) (b := 2) (by omega) (by omega) hx
        rw [nl_0, nI_eqi (by omega) (by omega)] at c0
        rw [nl_1, nI_eqi (by omega) (by omega)] at c1
        rw [show n = 2 by omega]; rfl
      rw [if_neg c1, if_neg c1, if_pos c2, f_X3_isSlashAt, rg_in g9 k1 (by omega) (by omega), Option.bind_some, v9, rd_in (by omega) (by omega), Option.bind_some, p3]
      cases sP N t k with
      | true => rw [bq_t, if_pos n11, Option.bind_some, if_neg n10]; exact ⟨_, _, rfl, rfl, rfl⟩
      | false => rw [bq_f, if_neg n01, Option.bind_some, if_pos n00]; exact ⟨_, _, rfl, rfl, rfl⟩
    · have c0 : ¬ x1 = 0 := fun z => hx (by rw [z]; decide)
      have c1 : ¬ x1 = 1 := fun z => hx (by rw [z]; decide)
      have c2 : ¬ x1 = 2 := fun z => hx (by rw [z]; decide)
      rw [if_neg c0, if_neg c1, if_neg c2, if_neg hx, if_pos n00]
      exact ⟨_, _, rfl, rfl, rfl⟩
  · have i8 : f_X8_isPlace (nI (nP N t)) x = some 0 := by rw [f_X8_isPlace, k5, Option.bind_some, bl_0, Option.bind_some]
    rw [i8, Option.bind_some, if_pos n00, f_X7_isPlace]
    rcases k1 with k1 | ⟨k1, k2⟩
    · rw [if_pos k1, Option.bind_some, if_pos n00]; exact ⟨_, _, rfl, rfl, rfl⟩
    · rw [if_neg k1, f_X3_placeCount, rg_size, Option.bind_some, Option.bind_some, g7, if_pos k2, Option.bind_some, if_pos n00]
      exact ⟨_, _, rfl, rfl, rfl⟩
end WRD
