/-! pure: different -/
theorem ct_id (p : Nat → Bool) : ∀ k, ct p k ≤ k
  | 0 => Nat.le_refl _
  | k + 1 => by
    have := ct_id p k
    rw [ct_s]
    split <;> omega
section DIF
variable {N : Nat} {t : Nat → Int32} {a1 a2 a3 a4 a5 a6 : Nat → Int32} {z2 z3 : Int32}
theorem lk_refl (a : Nat) : lk N t a a = true := lk_iff.2 ⟨rfl, fun _ _ => rfl⟩
theorem lk_symm {a b : Nat} (h : lk N t a b = true) : lk N t b a = true := by
  obtain ⟨h1, h2⟩ := lk_iff.1 h
  exact lk_iff.2 ⟨h1.symm, fun i hi => (h2 i (by omega)).symm⟩
theorem lk_trans {a b c : Nat} (h : lk N t a b = true) (h' : lk N t b c = true) : lk N t a c = true := by
  obtain ⟨h1, h2⟩ := lk_iff.1 h
  obtain ⟨h3, h4⟩ := lk_iff.1 h'
  exact lk_iff.2 ⟨by omega, fun i hi => (h2 i hi).trans (h4 i (by omega))⟩
theorem fs_sp {p : Nat → Bool} : ∀ (n k : Nat), k ≤ fs p n k ∧ fs p n k ≤ k + n ∧ (∀ j, k ≤ j → j < fs p n k → p j = false) ∧ (fs p n k < k + n → p (fs p n k) = true)
  | 0, k => ⟨Nat.le_refl _, Nat.le_refl _, fun j h1 h2 => by rw [fs] at h2; omega, fun h => by rw [fs] at h; omega⟩
  | n + 1, k => by
    rw [fs]
    by_cases hp : p k = true
    · rw [if_pos hp]
      exact ⟨Nat.le_refl _, by omega, fun j h1 h2 => by omega, fun _ => hp⟩
    · rw [if_neg hp]
      obtain ⟨h1, h2, h3, h4⟩ := fs_sp (p := p) n (k + 1)
      refine ⟨by omega, by omega, fun j h5 h6 => ?_, fun h => h4 (by omega)⟩
      by_cases e : j = k
      · rw [e]; cases hz : p k with | false => rfl | true => exact absurd hz hp
      · exact h3 j (by omega) h6
theorem fl_sp (w : Nat) : fl N t w ≤ w ∧ (∀ j, j < fl N t w → lk N t j w = false) ∧ lk N t (fl N t w) w = true := by
  obtain ⟨h1, h2, h3, h4⟩ := fs_sp (p := fun a => lk N t a w) w 0
  refine ⟨by unfold fl; omega, fun j hj => h3 j (Nat.zero_le _) hj, ?_⟩
  rcases Nat.lt_or_ge (fl N t w) w with hlt | hge
  · exact h4 (by unfold fl at hlt; omega)
  · have e : fl N t w = w := by unfold fl at hge ⊢; omega
    rw [e]; exact lk_refl w
theorem fl_eq {w j : Nat} (hw : ff N t w = true) : fl N t j = w ↔ (w ≤ j ∧ lk N t w j = true) := by
  have hw' : fl N t w = w := of_decide_eq_true hw
  obtain ⟨j1, j2, j3⟩ := fl_sp (N := N) (t := t) j
  obtain ⟨w1, w2, w3⟩ := fl_sp (N := N) (t := t) w
  constructor
  · intro e
    rw [e] at j1 j3
    exact ⟨j1, j3⟩
  · rintro ⟨h1, h2⟩
    rcases Nat.lt_trichotomy (fl N t j) w with z | z | z
    · have h3 := lk_trans j3 (lk_symm h2)
      have := w2 (fl N t j) (by omega)
      rw [h3] at this
      cases this
    · exact z
    · have := j2 w z
      rw [h2] at this
      cases this
theorem md_first (hok : tx_ok N t) (h : mw_k N t N a1 a2 a3 a4 a5 a6 z2 z3) {w : Nat} (hw : w < nW N t) : f_X8_firstLike a1 a2 a3 (nI w) = some (nI (fl N t w)) := by
  have hW : nW N t ≤ 30 := by unfold nW; rw [← ct_words]; exact hok.2.2
  obtain ⟨w1, w2, w3⟩ := fl_sp (N := N) (t := t) w
  have key : ∀ (d k fuel : Nat), fl N t w = k + d → d < fuel → f_X8_firstLike_l2 a1 a2 a3 (nI w) fuel (nI k) = some (nI (fl N t w)) := by
    intro d
    induction d with
    | zero =>
      intro k fuel hk hf
      obtain ⟨fuel, rfl⟩ : ∃ z, fuel = z + 1 := ⟨fuel - 1, by omega⟩
      have e : k = fl N t w := by omega
      rw [f_X8_firstLike_l2_s, md_alike hok h (by omega) hw, Option.bind_some, e, w3, if_neg (show ¬ bi true = 0 from n10)]
    | succ d ih =>
      intro k fuel hk hf
      obtain ⟨fuel, rfl⟩ : ∃ z, fuel = z + 1 := ⟨fuel - 1, by omega⟩
      rw [f_X8_firstLike_l2_s, md_alike hok h (by omega) hw, Option.bind_some, w2 k (by omega), if_pos (show bi false = 0 from rfl), nI_1]
      exact ih (k + 1) fuel (by omega) (by omega)
  exact key (fl N t w) 0 hm_fu (by omega) (by unfold hm_fu; omega)
theorem ff_iff {w : Nat} : ff N t w = true ↔ fl N t w = w := ⟨of_decide_eq_true, decide_eq_true⟩
theorem md_differents (hok : tx_ok N t) (h : mw_k N t N a1 a2 a3 a4 a5 a6 z2 z3) : f_X8_differents a1 a2 a3 (nI (nW N t)) = some (nI (ct (ff N t) (nW N t))) := by
  have hW : nW N t ≤ 30 := by unfold nW; rw [← ct_words]; exact hok.2.2
  have key : ∀ (d k fuel : Nat), nW N t = k + d → d < fuel → f_X8_differents_l4 a1 a2 a3 (nI (nW N t)) fuel (nI (ct (ff N t) k)) (nI k) = some (nI (ct (ff N t) (nW N t))) := by
    intro d
    induction d with
    | zero =>
      intro k fuel hk hf
      obtain ⟨fuel, rfl⟩ : ∃ z, fuel = z + 1 := ⟨fuel - 1, by omega⟩
      rw [f_X8_differents_l4_s, if_pos (by rw [nI_lei (by omega) (by omega)]; omega), show k = nW N t by omega]
    | succ d ih =>
      intro k fuel hk hf
      obtain ⟨fuel, rfl⟩ : ∃ z, fuel = z + 1 := ⟨fuel - 1, by omega⟩
      have next := ih (k + 1) fuel (by omega) (by omega)
      have hfl := (fl_sp (N := N) (t := t) k).1
      rw [f_X8_differents_l4_s, if_neg (by rw [nI_lei (by omega) (by omega)]; omega), md_first hok h (by omega), Option.bind_some]
      by_cases e : fl N t k = k
      · rw [ct_y (ff_iff.2 e)] at next
        rw [if_pos (by rw [e]), f_X8_differents_l27, nI_1, nI_1]
        exact next
      · rw [ct_n (by cases hz : ff N t k with | false => rfl | true => exact absurd (ff_iff.1 hz) e)] at next
        rw [if_neg (by rw [nI_eqi (by omega) (by omega)]; exact e), f_X8_differents_l27, nI_1, nl_0, nI_add, Nat.add_zero]
        exact next
  exact key (nW N t) 0 hm_fu (by omega) (by unfold hm_fu; omega)
theorem two_different (hok : tx_ok N t) (h : mw_k N t N a1 a2 a3 a4 a5 a6 z2 z3) {w5 w6 : hm_SR} (h5 : w5.1 = nI (nW N t) ∧ ∀ w, w < nW N t → w5.2 w = nI (fl N t w)) (h6 : w6.1 = nI (ct (ff N t) (nW N t)) ∧ fil (ff N t) (fun w => nI w) (nW N t) w6.2) (x x1 : Int32) : ∃ (q q9 : Int32), f_X7_different w5 w6 x x1 = some q ∧ f_X8_different a1 a2 a3 (nI (nW N t)) x x1 = some q9 ∧ q = q9 := by
  have hW : nW N t ≤ 30 := by unfold nW; rw [← ct_words]; exact hok.2.2
  have hF : ct (ff N t) (nW N t) ≤ nW N t := ct_id _ _
  rw [f_X7_different, f_X8_different]
  by_cases hx0 : x < 0
  · rw [if_pos hx0, if_pos hx0]; exact ⟨_, _, rfl, rfl, rfl⟩
  rw [if_neg hx0, if_neg hx0, md_in, Option.bind_some]
  by_cases hx10 : x1 < 0
  · rw [if_pos hx10, if_neg (show ¬ (0 ≤ x1 ∧ x1 ≤ 1) from fun hh => by have := Int32.lt_iff_toInt_lt.1 hx10; have := Int32.le_iff_toInt_le.1 hh.1; omega), if_pos n00]
    exact ⟨_, _, rfl, rfl, rfl⟩
  rw [if_neg hx10]
  by_cases hx11n : ¬ x1 ≤ 1
  · rw [if_neg hx11n, if_neg (show ¬ (0 ≤ x1 ∧ x1 ≤ 1) from fun hh => hx11n hh.2), if_pos n00]
    exact ⟨_, _, rfl, rfl, rfl⟩
  have hx11 : x1 ≤ 1 := Decidable.not_not.1 hx11n
  rw [if_pos hx11, if_pos (show 0 ≤ x1 ∧ x1 ≤ 1 from ⟨i_le hx10, hx11⟩), if_neg n10, f_X3_spellings, rg_size, Option.bind_some, Option.bind_some, h6.1]
  obtain ⟨c, c1, c2, rfl⟩ := zI_of x
  have hc0 : 0 ≤ c := by
    rcases Int.lt_or_le c 0 with z | z
    · exact absurd (by rw [zl_0, zI_lt (by omega) (by omega) (by omega) (by omega)]; exact z) hx0
    · exact z
  -- the model's search
  have key : ∀ (d k fuel : Nat), nW N t = k + d → d < fuel → (∀ m : Nat, (m : Int) = c → ct (ff N t) k ≤ m) → f_X8_different_l20 a1 a2 a3 (nI (nW N t)) x1 fuel (zI (c - ct (ff N t) k)) (nI k) = if c < ct (ff N t) (nW N t) then f_X8_different_l51 a1 a2 a3 (nI (nW N t)) x1 hm_fu (nI (nth (ff N t) (nW N t) c.toNat)) 0 (nI (nth (ff N t) (nW N t) c.toNat)) else some (-9) := by
    intro d
    induction d with
    | zero =>
      intro k fuel hk hf hle
      obtain ⟨fuel, rfl⟩ : ∃ z, fuel = z + 1 := ⟨fuel - 1, by omega⟩
      have := hle c.toNat (by omega)
      rw [show k = nW N t by omega] at this ⊢
      rw [f_X8_different_l20_s, if_pos (Int32.le_refl _), if_neg (by omega)]
    | succ d ih =>
      intro k fuel hk hf hle
      obtain ⟨fuel, rfl⟩ : ∃ z, fuel = z + 1 := ⟨fuel - 1, by omega⟩
      have hfl := (fl_sp (N := N) (t := t) k).1
      have hm := hle c.toNat (by omega)
      have hid := ct_id (ff N t) k
      rw [f_X8_different_l20_s, if_neg (by rw [nI_lei (by omega) (by omega)]; omega), md_first hok h (by omega), Option.bind_some]
      by_cases e : fl N t k = k
      · have hff := ff_iff.2 e
        rw [if_pos (by rw [e])]
        by_cases e0 : c = ct (ff N t) k
        · have hlt := ct_lt_N hff (show k < nW N t by omega)
          rw [if_pos (by rw [e0, Int.sub_self]; rfl), if_pos (by omega), show c.toNat = ct (ff N t) k by omega, nth_ct (by omega) hff]
        · rw [if_neg (by rw [zl_0, zI_eq (by omega) (by omega) (by omega) (by omega)]; omega), f_X8_different_l102, nI_1, show zI (c - ct (ff N t) k) + (-1) = zI (c - ct (ff N t) (k + 1)) by rw [ct_y hff, show (-1 : Int32) = zI (-1) from rfl, zI_add]; congr 1; omega]
          exact ih (k + 1) fuel (by omega) (by omega) (fun m hm2 => by rw [ct_y hff]; omega)
      · have hff : ff N t k = false := by cases hz : ff N t k with | false => rfl | true => exact absurd (ff_iff.1 hz) e
        rw [if_neg (by rw [nI_eqi (by omega) (by omega)]; exact e), f_X8_different_l102, nI_1]
        have := ih (k + 1) fuel (by omega) (by omega) (fun m hm2 => by rw [ct_n hff]; omega)
        rw [ct_n hff] at this
        exact this
  have hk := key (nW N t) 0 hm_fu (by omega) (by unfold hm_fu; omega) (fun m _ => Nat.zero_le _)
  have e00 : c - ((ct (ff N t) 0 : Nat) : Int) = c := by show c - ((0 : Nat) : Int) = c; omega
  rw [e00] at hk
  rw [show (0 : Int32) = nI 0 from rfl, hk]
  by_cases hcl : c < ct (ff N t) (nW N t)
  · have hx : zI c < nI (ct (ff N t) (nW N t)) := by rw [zI_nat, zI_lt (by omega) (by omega) (by omega) (by omega)]; exact hcl
    rw [if_pos hx, if_pos hcl]
    obtain ⟨u1, u2, u3⟩ := nth_sp (p := ff N t) (n := nW N t) (k := c.toNat) (by omega)
    have hw6 : w6.2 c.toNat = nI (nth (ff N t) (nW N t) c.toNat) := by
      have := h6.2 _ u1 u2
      rw [u3] at this
      exact this
    have hget : f_X2_get 30 w6 (zI c) = some (nI (nth (ff N t) (nW N t) c.toNat)) := by
      rw [zI_N hc0, rg_in h6.1 (by omega) (by omega) (by omega), hw6]
    -- the counts
    have cm : ∀ (d k fuel : Nat), nW N t = k + d → nth (ff N t) (nW N t) c.toNat ≤ k → d < fuel → f_X8_different_l51 a1 a2 a3 (nI (nW N t)) x1 fuel (nI (nth (ff N t) (nW N t) c.toNat)) (nI (ct (fun j => decide (fl N t j = nth (ff N t) (nW N t) c.toNat)) k)) (nI k) = f_X8_different_l87 x1 (nI (nth (ff N t) (nW N t) c.toNat)) (nI (ct (fun j => decide (fl N t j = nth (ff N t) (nW N t) c.toNat)) (nW N t))) := by
      intro d
      induction d with
      | zero =>
        intro k fuel hk hwk hf
        obtain ⟨fuel, rfl⟩ : ∃ z, fuel = z + 1 := ⟨fuel - 1, by omega⟩
        rw [f_X8_different_l51_s, if_pos (by rw [nI_lei (by omega) (by omega)]; omega), show k = nW N t by omega]
      | succ d ih =>
        intro k fuel hk hwk hf
        obtain ⟨fuel, rfl⟩ : ∃ z, fuel = z + 1 := ⟨fuel - 1, by omega⟩
        have next := ih (k + 1) fuel (by omega) (by omega) (by omega)
        have hiff := fl_eq (j := k) u2
        rw [f_X8_different_l51_s, if_neg (by rw [nI_lei (by omega) (by omega)]; omega), md_alike hok h u1 (by omega), Option.bind_some]
        cases hl : lk N t (nth (ff N t) (nW N t) c.toNat) k with
        | true =>
          rw [ct_y (p := fun j => decide (fl N t j = nth (ff N t) (nW N t) c.toNat)) (decide_eq_true (hiff.2 ⟨hwk, hl⟩))] at next
          rw [if_neg (show ¬ bi true = 0 from n10), f_X8_different_l78, nI_1, nI_1]
          exact next
        | false =>
          rw [ct_n (p := fun j => decide (fl N t j = nth (ff N t) (nW N t) c.toNat)) (decide_eq_false (fun z => by rw [(hiff.1 z).2] at hl; cases hl))] at next
          rw [if_pos (show bi false = 0 from rfl), f_X8_different_l78, nI_1, nl_0, nI_add, Nat.add_zero]
          exact next
    have hz0 : ct (fun j => decide (fl N t j = nth (ff N t) (nW N t) c.toNat)) (nth (ff N t) (nW N t) c.toNat) = 0 := by
      have : ∀ k, k ≤ nth (ff N t) (nW N t) c.toNat → ct (fun j => decide (fl N t j = nth (ff N t) (nW N t) c.toNat)) k = 0 := by
        intro k
        induction k with
        | zero => intro _; rfl
        | succ k ih =>
          intro hk
          rw [ct_n (p := fun j => decide (fl N t j = nth (ff N t) (nW N t) c.toNat)) (decide_eq_false (fun z => by have := (fl_sp (N := N) (t := t) k).1; omega))]
          exact ih (by omega)
      exact this _ (Nat.le_refl _)
    have hcm := cm (nW N t - nth (ff N t) (nW N t) c.toNat) (nth (ff N t) (nW N t) c.toNat) hm_fu (by omega) (Nat.le_refl _) (by unfold hm_fu; omega)
    rw [hz0, ← nl_0] at hcm
    rw [hcm, f_X8_different_l87]
    by_cases e1 : x1 = nI 0
    · rw [if_pos e1, if_pos (show x1 = 0 from e1), f_X3_firstSpelled, hget, Option.bind_some, Option.bind_some]
      exact ⟨_, _, rfl, rfl, rfl⟩
    rw [if_neg e1, if_neg (show ¬ x1 = 0 from e1)]
    have ck : ∀ (d k fuel : Nat), nW N t = k + d → d < fuel → f_X3_timesSpelled_l4 w5 w6 (zI c) fuel (nI (ct (fun j => decide (fl N t j = nth (ff N t) (nW N t) c.toNat)) k)) (nI k) = some (nI (ct (fun j => decide (fl N t j = nth (ff N t) (nW N t) c.toNat)) (nW N t))) := by
      intro d
      induction d with
      | zero =>
        intro k fuel hk hf
        obtain ⟨fuel, rfl⟩ : ∃ z, fuel = z + 1 := ⟨fuel - 1, by omega⟩
        rw [f_X3_timesSpelled_l4_s, rg_size, Option.bind_some, h5.1, if_pos (by rw [nI_lei (by omega) (by omega)]; omega), show k = nW N t by omega]
      | succ d ih =>
        intro k fuel hk hf
        obtain ⟨fuel, rfl⟩ : ∃ z, fuel = z + 1 := ⟨fuel - 1, by omega⟩
        have next := ih (k + 1) fuel (by omega) (by omega)
        have hfl := (fl_sp (N := N) (t := t) k).1
        rw [f_X3_timesSpelled_l4_s, rg_size, Option.bind_some, h5.1, if_neg (by rw [nI_lei (by omega) (by omega)]; omega), rg_in h5.1 (by omega) (by omega) (by omega), Option.bind_some, h5.2 k (by omega), hget, Option.bind_some]
        by_cases e : fl N t k = nth (ff N t) (nW N t) c.toNat
        · rw [ct_y (p := fun j => decide (fl N t j = nth (ff N t) (nW N t) c.toNat)) (decide_eq_true e)] at next
          rw [if_pos (by rw [e]), f_X3_timesSpelled_l40, nI_1, nI_1]
          exact next
        · rw [ct_n (p := fun j => decide (fl N t j = nth (ff N t) (nW N t) c.toNat)) (decide_eq_false e)] at next
          rw [if_neg (by rw [nI_eqi (by omega) (by omega)]; exact e), f_X3_timesSpelled_l40, nI_1, nl_0, nI_add, Nat.add_zero]
          exact next
    rw [f_X3_timesSpelled, show (0 : Int32) = nI 0 from rfl, show nI 0 = nI (ct (fun j => decide (fl N t j = nth (ff N t) (nW N t) c.toNat)) 0) from rfl]
    have hck := ck (nW N t) 0 hm_fu (by omega) (by unfold hm_fu; omega)
    exact ⟨_, _, by rw [show f_X3_timesSpelled_l4 w5 w6 (zI c) hm_fu (nI (ct (fun j => decide (fl N t j = nth (ff N t) (nW N t) c.toNat)) 0)) (nI (ct (fun j => decide (fl N t j = nth (ff N t) (nW N t) c.toNat)) 0)) = _ from hck, Option.bind_some], rfl, rfl⟩
  · rw [if_neg (show ¬ zI c < nI (ct (ff N t) (nW N t)) by rw [zI_nat, zI_lt (by omega) (by omega) (by omega) (by omega)]; exact hcl), if_neg hcl]
    exact ⟨_, _, rfl, rfl, rfl⟩
end DIF
