/-! pure: the model lays the blanks -/
section MBL
variable {N : Nat} {t : Nat → Int32} {v : Nat → Nat}
/-- the first n blanks, as rows have them -/
def brow (N : Nat) (t : Nat → Int32) (v : Nat → Nat) (n : Nat) (a b c : Nat → Int32) : Prop := ∀ x, x < n → a x = nI (LN N t v x) ∧ b x = nI (fF N t v x) ∧ c x = nI (fT N t v x)
theorem brow_add {k i : Nat} {a b c : Nat → Int32} {x y z : Int32} (hk : k < pL N t v) (hi : i < bn N t v k) (h : brow N t v (bo N t v k + i) a b c) (hx : x = nI k) (hy : y = nI (bF N t v k i)) (hz : z = nI (bT N t v k i)) : brow N t v (bo N t v k + (i + 1)) (upd a (bo N t v k + i) x) (upd b (bo N t v k + i) y) (upd c (bo N t v k + i) z) := by
  intro j hj
  by_cases e : j = bo N t v k + i
  · rw [e, ud_s, ud_s, ud_s, LN_at hk hi, (fF_at hk hi).1, (fF_at hk hi).2]
    exact ⟨hx, hy, hz⟩
  · rw [ud_n e, ud_n e, ud_n e]
    exact h j (by omega)
theorem bP_le_w {f i : Nat} (hok : tx_ok N t) (hf : f < nP N t) (hi : fwd N t f + i < nW N t) : bP N t v f ≤ wsm v t (ew N t (fwd N t f + i) + 1) + v 34 * (fwd N t f + i) := by
  have key : ∀ w, w < nW N t → f < nP N t → fwd N t f ≤ w → bP N t v f ≤ wsm v t (ew N t w + 1) + v 34 * w := by
    intro w hw hf hle
    have hwp := wP_fwd hok hf
    have hle2 : lp N t f ≤ ew N t w := by
      have ho := of_word (lp_sp hf).1 (lp_nb hf)
      by_cases e : wP N t f = w
      · rw [← e]; exact ho.2.2
      · have : ct (we N t) (lp N t f) = wP N t f := rfl
        rcases Nat.lt_or_ge (ew N t w) (lp N t f) with z | z
        · have h2 := ct_le (we N t) (show ew N t w + 1 ≤ lp N t f from z)
          rw [ct_y (ew_sp hw).2.2.2, (ew_sp hw).2.2.1] at h2
          omega
        · exact z
    have h1 := bP_eP (v := v) (N := N) (t := t) (Nat.le_refl f) hf
    unfold bP
    by_cases h0 : f = 0
    · rw [if_pos h0]; exact Nat.zero_le _
    · rw [if_neg h0]
      have hlt := lp_lt (N := N) (t := t) (show f - 1 < f by omega) hf
      have hj := (lp_sp (N := N) (t := t) (p := f - 1) (by omega)).1
      have hm := wsm_mono (v := v) (t := t) (show lp N t (f - 1) + 1 ≤ ew N t w + 1 by omega)
      have hm2 := wsm_mono (v := v) (t := t) (show lp N t (f - 1) ≤ ew N t w + 1 by omega)
      unfold fwd at hle
      rw [if_neg h0] at hle
      unfold xb
      by_cases hs : sl t (lp N t (f - 1)) = true
      · have hs' : sP N t (f - 1) = true := hs
        rw [if_pos hs'] at hle
        rw [if_pos hs]
        have : v 34 * ct (we N t) (lp N t (f - 1)) ≤ v 34 * w := Nat.mul_le_mul_left _ hle
        omega
      · have hs' : ¬ sP N t (f - 1) = true := hs
        rw [if_neg hs'] at hle
        rw [if_neg hs]
        have : v 34 * (ct (we N t) (lp N t (f - 1)) + 1) ≤ v 34 * w := Nat.mul_le_mul_left _ hle
        omega
  exact key _ hi hf (by omega)
theorem bF_step (hok : tx_ok N t) {o : Nat × Nat × Nat} (h : TB N t v (v 35) 0 = some o) {k i : Nat} (hk : k < pL N t v) (hi : i < bn N t v k) : bF N t v k (i + 1) + wsm v t (sw N t (fwd N t (pB N t v k) + i + 1)) = bT N t v k i + wsm v t (ew N t (fwd N t (pB N t v k) + i + 1) + 1) := by
  obtain ⟨l1, l2, l3, l4⟩ := pB_line h hk
  have hw := wP_lt l2
  have hw1 : fwd N t (pB N t v k) + i + 1 < nW N t := by unfold bn at hi; omega
  have e1 := ew_lt_sw (N := N) (t := t) hw1
  have e2 := wsm_blank (v := v) (t := t) (show ew N t (fwd N t (pB N t v k) + i) + 1 ≤ sw N t (fwd N t (pB N t v k) + i + 1) by omega) (fun j h1 h2 => blank_gap hw1 (by omega) h2)
  have e3 := bP_le_w (v := v) (i := i) hok (show pB N t v k < nP N t by omega) (by omega)
  have e4 := sw_le_ew (N := N) (t := t) hw1
  have e5 := wsm_mono (v := v) (t := t) (show sw N t (fwd N t (pB N t v k) + i + 1) ≤ ew N t (fwd N t (pB N t v k) + i + 1) + 1 by omega)
  unfold bT bF
  have e6 : v 34 * (fwd N t (pB N t v k) + (i + 1)) = v 34 * (fwd N t (pB N t v k) + i) + v 34 := by rw [← Nat.add_assoc, Nat.mul_succ]
  have e7 : (i + 1) * (spk N t v k / bn N t v k) = i * (spk N t v k / bn N t v k) + spk N t v k / bn N t v k := Nat.succ_mul _ _
  have e8 : Nat.min (i + 1) (spk N t v k % bn N t v k) = Nat.min i (spk N t v k % bn N t v k) + (if i < spk N t v k % bn N t v k then 1 else 0) := by
    show min (i + 1) (spk N t v k % bn N t v k) = min i (spk N t v k % bn N t v k) + _
    split <;> omega
  rw [e7, e8]
  rw [show fwd N t (pB N t v k) + (i + 1) = fwd N t (pB N t v k) + i + 1 by omega] at e6 ⊢
  rw [e6, e2]
  rw [e2] at e5
  omega
end MBL
