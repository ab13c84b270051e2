/-! pure: undo, keep, back -/
section UND
variable {r0 r1 : hm_SR} {u : Int32} {past f A : Nat → Int32} {v : Nat → Nat}
theorem md_undo {m : Nat} (hm : m < 10) : ∀ (fuel k : Nat) (A : Nat → Int32), k ≤ 38 → 38 - k < fuel → ∃ A' : Nat → Int32, f_X8_undo_l22 past fuel (nI k) A (nI m) = some (nI m, A', nI m) ∧ (∀ j, k ≤ j → j < 38 → A' j = past (38 * m + j)) ∧ ∀ j, j < k → A' j = A j := by
  intro fuel
  induction fuel with
  | zero => intro k A h1 h2; omega
  | succ fuel ih =>
    intro k A h1 h2
    rw [f_X8_undo_l22_s]
    by_cases hk : k = 38
    · rw [if_pos (by rw [nl_38, nI_lei (by omega) (by omega)]; omega)]
      exact ⟨A, rfl, fun j h3 h4 => by omega, fun j _ => rfl⟩
    · rw [if_neg (by rw [nl_38, nI_lei (by omega) (by omega)]; omega), nl_38, pk_mul, nI_add, rd_in (by omega) (by omega), Option.bind_some, wr_in (by omega) (by omega), Option.bind_some, nI_1]
      obtain ⟨A', e1, e2, e3⟩ := ih (k + 1) (upd A k (past (38 * m + k))) (by omega) (by omega)
      refine ⟨A', e1, fun j h3 h4 => ?_, fun j h3 => ?_⟩
      · by_cases hj : j = k
        · rw [hj, e3 k (by omega), ud_s]
        · exact e2 j (by omega) h4
      · rw [e3 j (by omega), ud_n (by omega)]
theorem two_undo (hU : ud_is r0 r1 u past v) (hv : sv_ok v) (hf : sv_at f v) (hA : sv_at A v) (Z0 Z1 : Int32) : ∃ (q : Int32 × (Nat → Int32) × hm_SR × hm_SR × Int32 × Int32) (q9 : Int32 × (Nat → Int32) × Int32), f_X7_undo Z0 Z1 r0 r1 f = some q ∧ f_X8_undo A past u = some q9 ∧ q.1 = q9.1 ∧ sx_is v Z0 Z1 q.2.1 q.2.2.1 q.2.2.2.1 q.2.2.2.2.1 q.2.2.2.2.2 q9.2.1 past q9.2.2 := by
  have hno := sx_none hU hv hf hA Z0 Z1
  obtain ⟨n, s, h, hn, h0, h1, hu, hv2, hi⟩ := hU
  rw [f_X7_undo, f_X8_undo, f_X4_undoable, rg_size, Option.bind_some, Option.bind_some, h0]
  cases n with
  | zero =>
    have hu0 : u = 0 := hu
    rw [if_pos (show nI 0 = 0 from rfl), if_pos hu0]
    exact ⟨_, _, rfl, rfl, rfl, hno⟩
  | succ m =>
    have hne : ¬ nI (m + 1) = 0 := by rw [nl_0, nI_eqi (by omega) (by omega)]; omega
    obtain ⟨a1, a2, a3, a4, a5, a6⟩ := hi m (by omega)
    obtain ⟨A', g1, g2, g3⟩ := md_undo (past := past) (m := m) (by omega) hm_fu 0 A (by omega) (by unfold hm_fu; omega)
    have et : f_X4_takeBack r0 r1 f = some (nI (s m), upd f (s m) (nI (h m (s m))), (nI m, r0.2), (nI m, r1.2)) := by
      rw [f_X4_takeBack, rg_size, Option.bind_some, h0, nI_pred, rg_in h0 (by omega) (by omega) (by omega), Option.bind_some, if_neg (nI_pos (by omega)), rg_in h1 (by omega) (by omega) (by omega), Option.bind_some, a2, a3, se_store a1, Option.bind_some, rg_drop h0 (by omega), Option.bind_some, rg_drop h1 (by omega)]
      rfl
    rw [if_neg hne, et, Option.bind_some, hu, if_neg hne, nI_pred, show f_X8_undo_l22 past hm_fu 0 A (nI m) = _ from g1, f_X7_markStale]
    have hat : sv_at (upd f (s m) (nI (h m (s m)))) (h m) := by
      intro j hj
      by_cases e : j = s m
      · rw [e, ud_s]
      · rw [ud_n e, hf j hj, a4 j hj e, hv2 j hj]
    have hat9 : sv_at A' (h m) := fun j hj => by rw [g2 j (by omega) hj, a6 j hj]
    have hud : ud_is (nI m, r0.2) (nI m, r1.2) (nI m) past (h m) := ⟨m, s, h, by omega, rfl, rfl, rfl, fun _ _ => rfl, fun i hi2 => hi i (by omega)⟩
    by_cases h35 : s m = 35
    · have hs35 : nI (s m) = 35 := by rw [h35]; rfl
      rw [if_pos hs35, Option.bind_some, f_X4_undoable, rg_size]
      refine ⟨_, _, rfl, rfl, rfl, h m, a5, hat, hat9, hud, Or.inr ⟨rfl, Or.inr ⟨rfl, fun j hj hne => ?_⟩⟩⟩
      rw [a4 j hj (by omega), hv2 j hj]
    · have hs35 : ¬ nI (s m) = 35 := by rw [nl_35, nI_eqi (by omega) (by omega)]; exact h35
      rw [if_neg hs35, Option.bind_some, f_X4_undoable, rg_size]
      exact ⟨_, _, rfl, rfl, rfl, h m, a5, hat, hat9, hud, Or.inr ⟨rfl, Or.inl rfl⟩⟩
end UND
/-- the images on both sides -/
def im_is (g k : Nat → Int32) (k9 g9 : Nat → Int32) : Prop := ∀ i, i < 2 → (k i = 0 ∧ k9 i = 0) ∨ (k i = 1 ∧ k9 i = 1 ∧ ∃ w : Nat → Nat, sv_ok w ∧ ∀ j, j < 38 → g (38 * i + j) = nI (w j) ∧ g9 (38 * i + j) = nI (w j))
theorem cy_in {n0 n1 a b c : Nat} {f h : Nat → Int32} (h1 : a + c ≤ n0) (h2 : b + c ≤ n1) (h3 : n0 < 2147483648) (h4 : n1 < 2147483648) : hm_cy n0 f (nI a) n1 h (nI b) (nI c) = some (va_cpy f h a b c) := by
  rw [hm_cy, nI_clamp (by omega), nI_clamp (by omega), nI_clamp (by omega), if_pos ⟨nI_pos (by omega), nI_pos (by omega), nI_pos (by omega), h1, h2⟩]
theorem md_keeps {A A9 : Nat → Int32} {i : Nat} (hi : i < 2) : ∀ (fuel k : Nat) (g : Nat → Int32), k ≤ 38 → 38 - k < fuel → ∃ g' : Nat → Int32, f_X8_keep_l13 A A9 (nI i) fuel (nI k) g = some (A 35, g', upd A9 i 1) ∧ (∀ j, k ≤ j → j < 38 → g' (38 * i + j) = A j) ∧ ∀ j, (j < 38 * i + k ∨ 38 * i + 38 ≤ j) → g' j = g j := by
  intro fuel
  induction fuel with
  | zero => intro k g h1 h2; omega
  | succ fuel ih =>
    intro k g h1 h2
    rw [f_X8_keep_l13_s]
    by_cases hk : k = 38
    · rw [if_pos (by rw [nl_38, nI_lei (by omega) (by omega)]; omega), f_X8_keep_l42, wz_in hi (by omega) (Or.inr rfl), Option.bind_some, show hm_rd 38 A 35 = some (A 35) from rd_in (i := 35) (by omega) (by omega)]
      exact ⟨g, rfl, fun j h3 h4 => by omega, fun j h3 => rfl⟩
    · rw [if_neg (by rw [nl_38, nI_lei (by omega) (by omega)]; omega), rd_in (by omega) (by omega), Option.bind_some, nl_38, pk_mul, nI_add, wr_in (by omega) (by omega), Option.bind_some, nI_1]
      obtain ⟨g', e1, e2, e3⟩ := ih (k + 1) (upd g (38 * i + k) (A k)) (by omega) (by omega)
      refine ⟨g', e1, fun j h3 h4 => ?_, fun j h3 => ?_⟩
      · by_cases hj : j = k
        · subst hj
          rw [e3 _ (by omega), ud_s]
        · exact e2 j (by omega) h4
      · rw [e3 j (by omega), ud_n (by omega)]
theorem two_keep {f A g k k9 g9 : Nat → Int32} {v : Nat → Nat} (hv : sv_ok v) (hf : sv_at f v) (hA : sv_at A v) (hI : im_is g k k9 g9) (x : Int32) : ∃ (q q9 : Int32 × (Nat → Int32) × (Nat → Int32)), f_X7_keep f g k x = some q ∧ f_X8_keep A k9 g9 x = some q9 ∧ q.1 = q9.1 ∧ im_is q.2.1 q.2.2 q9.2.2 q9.2.1 := by
  rw [f_X7_keep, f_X8_keep]
  by_cases h0 : x < 0
  · rw [if_pos h0, in_no (Or.inl h0), Option.bind_some]
    exact ⟨_, _, rfl, if_pos n00, rfl, hI⟩
  · rw [if_neg h0]
    by_cases h2 : x < 2
    · obtain ⟨i, rfl, hi⟩ := to_nat (x := x) (n := 2) (by omega) h0 h2
      have h1 : nI i ≤ 1 := by rw [nl_1, nI_lei (by omega) (by omega)]; omega
      obtain ⟨g', e1, e2, e3⟩ := md_keeps (A := A) (A9 := k9) hi hm_fu 0 g9 (by omega) (by unfold hm_fu; omega)
      rw [if_pos h2, in_yes h0 h1, Option.bind_some, if_neg n10, f_X4_copyTo, if_neg h0, if_pos h2, show nI i * 38 = nI (i * 38) from pk_mul i 38, show hm_cy 38 f 0 76 g (nI (i * 38)) 38 = some (va_cpy f g 0 (i * 38) 38) from cy_in (a := 0) (c := 38) (by omega) (by omega) (by omega) (by omega), Option.bind_some, wz_in hi (by omega) (Or.inr rfl), Option.bind_some, Option.bind_some, show f_X4_get f 35 = some (f 35) from se_get (k := 35) (by omega), Option.bind_some, show f_X8_keep_l13 A k9 (nI i) hm_fu 0 g9 = _ from e1]
      refine ⟨_, _, rfl, rfl, ?_, ?_⟩
      · show f 35 = A 35
        rw [hf 35 (by omega), hA 35 (by omega)]
      · intro i2 hi2
        show (upd k i 1 i2 = 0 ∧ upd k9 i 1 i2 = 0) ∨ (upd k i 1 i2 = 1 ∧ upd k9 i 1 i2 = 1 ∧ ∃ w : Nat → Nat, sv_ok w ∧ ∀ j, j < 38 → va_cpy f g 0 (i * 38) 38 (38 * i2 + j) = nI (w j) ∧ g' (38 * i2 + j) = nI (w j))
        by_cases e : i2 = i
        · subst e
          right
          rw [ud_s, ud_s]
          refine ⟨rfl, rfl, v, hv, fun j hj => ⟨?_, ?_⟩⟩
          · unfold va_cpy
            rw [if_pos (by omega), show 0 + (38 * i2 + j - i2 * 38) = j by omega]
            exact hf j hj
          · rw [e2 j (by omega) hj]
            exact hA j hj
        · rw [ud_n e, ud_n e]
          rcases hI i2 hi2 with a | ⟨a, b, w, c, d⟩
          · exact Or.inl a
          · refine Or.inr ⟨a, b, w, c, fun j hj => ⟨?_, ?_⟩⟩
            · unfold va_cpy
              rw [if_neg (by omega)]
              exact (d j hj).1
            · rw [e3 _ (by omega)]
              exact (d j hj).2
    · have h1 : ¬ x ≤ 1 := by
        intro h
        apply h2
        have := Int32.le_iff_toInt_le.mp h
        rw [show (1 : Int32).toInt = 1 from rfl] at this
        rw [Int32.lt_iff_toInt_lt, show (2 : Int32).toInt = 2 from rfl]
        omega
      rw [if_neg h2, in_no (Or.inr h1), Option.bind_some]
      exact ⟨_, _, rfl, if_pos n00, rfl, hI⟩
theorem md_backs {g9 : Nat → Int32} {i : Nat} (hi : i < 2) : ∀ (fuel k : Nat) (A : Nat → Int32), k ≤ 38 → 38 - k < fuel → ∃ A' : Nat → Int32, f_X8_back_l25 g9 (nI i) fuel (nI k) A = some (A' 35, A', 0) ∧ (∀ j, k ≤ j → j < 38 → A' j = g9 (38 * i + j)) ∧ ∀ j, j < k → A' j = A j := by
  intro fuel
  induction fuel with
  | zero => intro k A h1 h2; omega
  | succ fuel ih =>
    intro k A h1 h2
    rw [f_X8_back_l25_s]
    by_cases hk : k = 38
    · rw [if_pos (by rw [nl_38, nI_lei (by omega) (by omega)]; omega), f_X8_back_l54, show hm_rd 38 A 35 = some (A 35) from rd_in (i := 35) (by omega) (by omega)]
      exact ⟨A, rfl, fun j h3 h4 => by omega, fun j h3 => rfl⟩
    · rw [if_neg (by rw [nl_38, nI_lei (by omega) (by omega)]; omega), nl_38, pk_mul, nI_add, rd_in (by omega) (by omega), Option.bind_some, wr_in (by omega) (by omega), Option.bind_some, nI_1]
      obtain ⟨A', e1, e2, e3⟩ := ih (k + 1) (upd A k (g9 (38 * i + k))) (by omega) (by omega)
      refine ⟨A', e1, fun j h3 h4 => ?_, fun j h3 => ?_⟩
      · by_cases hj : j = k
        · rw [hj, e3 k (by omega), ud_s]
        · exact e2 j (by omega) h4
      · rw [e3 j (by omega), ud_n (by omega)]
theorem two_back {r0 r1 : hm_SR} {u : Int32} {past f A g k k9 g9 : Nat → Int32} {v : Nat → Nat} (hU : ud_is r0 r1 u past v) (hv : sv_ok v) (hf : sv_at f v) (hA : sv_at A v) (hI : im_is g k k9 g9) (Z0 Z1 x : Int32) : ∃ (q : Int32 × (Nat → Int32) × hm_SR × hm_SR × Int32 × Int32) (q9 : Int32 × (Nat → Int32) × Int32), f_X7_back Z0 Z1 r0 r1 f g k x = some q ∧ f_X8_back A k9 g9 u x = some q9 ∧ q.1 = q9.1 ∧ sx_is v Z0 Z1 q.2.1 q.2.2.1 q.2.2.2.1 q.2.2.2.2.1 q.2.2.2.2.2 q9.2.1 past q9.2.2 := by
  have hno := sx_none hU hv hf hA Z0 Z1
  rw [f_X7_back, f_X8_back]
  by_cases h0 : x < 0
  · rw [if_pos h0, in_no (Or.inl h0), Option.bind_some]
    exact ⟨_, _, rfl, if_pos n00, rfl, hno⟩
  · rw [if_neg h0]
    by_cases h2 : x < 2
    · obtain ⟨i, rfl, hi⟩ := to_nat (x := x) (n := 2) (by omega) h0 h2
      have h1 : nI i ≤ 1 := by rw [nl_1, nI_lei (by omega) (by omega)]; omega
      have h22 : ¬ (2 : Int32) ≤ nI i := by rw [nl_2, nI_lei (by omega) (by omega)]; omega
      rw [if_pos h2, in_yes h0 h1, Option.bind_some, if_neg n10, rd_in hi (by omega), Option.bind_some]
      rcases hI i hi with ⟨a, b⟩ | ⟨a, b, w, c, d⟩
      · have eh : f_X4_has k (nI i) = some 0 := by
          rw [f_X4_has, if_neg h0, if_neg h22, rd_in hi (by omega), Option.bind_some, a, if_pos n00]
        rw [eh, Option.bind_some, if_pos n00, b, if_pos n00]
        exact ⟨_, _, rfl, rfl, rfl, hno⟩
      · have eh : f_X4_has k (nI i) = some 1 := by
          rw [f_X4_has, if_neg h0, if_neg h22, rd_in hi (by omega), Option.bind_some, a, if_neg n10]
        obtain ⟨A', e1, e2, e3⟩ := md_backs (g9 := g9) hi hm_fu 0 A (by omega) (by unfold hm_fu; omega)
        rw [eh, Option.bind_some, if_neg n10, b, if_neg n10, show f_X8_back_l25 g9 (nI i) hm_fu 0 A = _ from e1, f_X4_copyFrom, eh, Option.bind_some, if_neg n10, show nI i * 38 = nI (i * 38) from pk_mul i 38, show hm_cy 76 g (nI (i * 38)) 38 f 0 38 = some (va_cpy g f (i * 38) 0 38) from cy_in (b := 0) (c := 38) (by omega) (by omega) (by omega) (by omega), Option.bind_some, f_X4_loseUndone, rg_empty, rg_empty, Option.bind_some, Option.bind_some, Option.bind_some, Option.bind_some]
        have hat : sv_at (va_cpy g f (i * 38) 0 38) w := by
          intro j hj
          unfold va_cpy
          rw [if_pos (by omega), show i * 38 + (j - 0) = 38 * i + j by omega]
          exact (d j hj).1
        have hat9 : sv_at A' w := fun j hj => by rw [e2 j (by omega) hj]; exact (d j hj).2
        rw [show f_X4_get (va_cpy g f (i * 38) 0 38) 35 = some (va_cpy g f (i * 38) 0 38 35) from se_get (k := 35) (by omega), Option.bind_some]
        refine ⟨_, _, rfl, rfl, ?_, w, c, hat, hat9, ud_none rfl rfl, Or.inr ⟨rfl, Or.inl rfl⟩⟩
        show va_cpy g f (i * 38) 0 38 35 = A' 35
        rw [hat 35 (by omega), hat9 35 (by omega)]
    · have h1 : ¬ x ≤ 1 := by
        intro h
        apply h2
        have := Int32.le_iff_toInt_le.mp h
        rw [show (1 : Int32).toInt = 1 from rfl] at this
        rw [Int32.lt_iff_toInt_lt, show (2 : Int32).toInt = 2 from rfl]
        omega
      rw [if_neg h2, in_no (Or.inr h1), Option.bind_some]
      exact ⟨_, _, rfl, if_pos n00, rfl, hno⟩
