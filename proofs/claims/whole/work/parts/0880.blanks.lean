/-! pure: blanks of lines, in a row -/
section BLK
variable (N : Nat) (t : Nat → Int32) (v : Nat → Nat)
/-- of the page by its measure: lines, where they begin, how many blanks each has, how many are ahead -/
def pL : Nat := nL N t v (v 35)
def pB (k : Nat) : Nat := lb N t v (v 35) k
def bn (k : Nat) : Nat := wP N t (pB N t v (k + 1) - 1) - fwd N t (pB N t v k)
def bo : Nat → Nat
  | 0 => 0
  | k + 1 => bo k + bn N t v k
def lfk (k : Nat) : Nat := (lf N t v (v 35) (pB N t v k) (pB N t v (k + 1) - 1)).toNat
def spk (k : Nat) : Nat := if k + 1 < pL N t v ∧ 0 < bn N t v k then lfk N t v k else 0
def bF (k i : Nat) : Nat := wsm v t (ew N t (fwd N t (pB N t v k) + i) + 1) + v 34 * (fwd N t (pB N t v k) + i) - bP N t v (pB N t v k) + i * (spk N t v k / bn N t v k) + Nat.min i (spk N t v k % bn N t v k)
def bT (k i : Nat) : Nat := bF N t v k i + v 34 + spk N t v k / bn N t v k + (if i < spk N t v k % bn N t v k then 1 else 0)
end BLK
section BLL
variable {N : Nat} {t : Nat → Int32} {v : Nat → Nat}
theorem ew_place {w : Nat} (h : w < nW N t) : pl N t (ew N t w) = true := by
  unfold pl
  rw [(ew_sp h).2.2.2, Bool.or_true]
/-- a place lies in the word that a line behind the place ahead of it begins in -/
theorem wP_fwd (hok : tx_ok N t) {f : Nat} (hf : f < nP N t) : wP N t f = fwd N t f := by
  have lpe : ∀ w, w < nW N t → ∀ p, p < nP N t → lp N t p ≤ ew N t w → wP N t p ≤ w := by
    intro w hw p hp h
    have := ct_le (we N t) h
    rw [(ew_sp hw).2.2.1] at this
    exact this
  have nxt : ∀ j, j < N → pl N t j = true → (∀ p, p < f → lp N t p < j) → lp N t f ≤ j := by
    intro j hj hp hall
    have h1 := nth_ct (p := pl N t) hj hp
    rcases Nat.lt_or_ge (ct (pl N t) j) f with z | z
    · have := hall _ z
      unfold lp at this
      rw [h1] at this
      omega
    · by_cases e : ct (pl N t) j = f
      · unfold lp; rw [← e, h1]; exact Nat.le_refl _
      · have hlt := ct_lt_N hp hj
        have := lp_lt (N := N) (t := t) (p := f) (q := ct (pl N t) j) (by omega) hlt
        have e2 : lp N t (ct (pl N t) j) = j := h1
        omega
  have mon : ∀ p, p < f → lp N t p ≤ lp N t (f - 1) := by
    intro p hp
    by_cases e : p = f - 1
    · rw [e]; exact Nat.le_refl _
    · exact Nat.le_of_lt (lp_lt (by omega) (by omega))
  unfold fwd
  by_cases h0 : f = 0
  · rw [if_pos h0]
    have hw0 : 0 < nW N t := by have := wP_lt hf; omega
    have h1 := nxt (ew N t 0) (ew_sp hw0).1 (ew_place hw0) (fun p hp => by omega)
    have := lpe 0 hw0 f hf h1
    omega
  · rw [if_neg h0]
    have hw := wP_lt (N := N) (t := t) (p := f - 1) (by omega)
    by_cases hs : sP N t (f - 1) = true
    · rw [if_pos hs]
      have hj := (lp_sp (N := N) (t := t) (p := f - 1) (by omega)).1
      have how := of_word hj (lp_nb (N := N) (t := t) (p := f - 1) (by omega))
      have hne : lp N t (f - 1) < ew N t (wP N t (f - 1)) := by
        rcases Nat.lt_or_ge (lp N t (f - 1)) (ew N t (wP N t (f - 1))) with z | z
        · exact z
        · have e : lp N t (f - 1) = ew N t (wP N t (f - 1)) := Nat.le_antisymm how.2.2 z
          have h1 := sl_nwe hok hj hs
          rw [e, (ew_sp hw).2.2.2] at h1
          cases h1
      have h1 := nxt (ew N t (wP N t (f - 1))) (ew_sp hw).1 (ew_place hw) (fun p hp => Nat.lt_of_le_of_lt (mon p hp) hne)
      have h2 := lpe _ hw f hf h1
      have h3 := wP_le (N := N) (t := t) (show f - 1 ≤ f by omega) hf
      omega
    · rw [if_neg hs]
      have hsf : sP N t (f - 1) = false := by cases hz : sP N t (f - 1) with | true => exact absurd hz hs | false => rfl
      have h3 := wP_next (N := N) (t := t) (show f - 1 < f by omega) hf hsf
      have hw1 := wP_lt hf
      have hee : lp N t (f - 1) = ew N t (wP N t (f - 1)) := by
        have hwe := lp_we (show f - 1 < nP N t by omega) hsf
        have h2 := ew_sp (N := N) (t := t) (w := wP N t (f - 1)) hw
        exact ct_inj hwe h2.2.2.2 (by rw [h2.2.2.1]; rfl)
      have hw2 : wP N t (f - 1) + 1 < nW N t := by omega
      have hlt := ew_lt_sw (N := N) (t := t) hw2
      have hle := sw_le_ew (N := N) (t := t) hw2
      have h1 := nxt (ew N t (wP N t (f - 1) + 1)) (ew_sp hw2).1 (ew_place hw2) (fun p hp => by have := mon p hp; omega)
      have h2 := lpe _ hw2 f hf h1
      omega
theorem fwd_le (hok : tx_ok N t) {f to : Nat} (h : f ≤ to) (hto : to < nP N t) : fwd N t f ≤ wP N t to := by
  rw [← wP_fwd hok (show f < nP N t by omega)]
  exact wP_le h hto
theorem wP_fwd_next {to : Nat} : wP N t to ≤ fwd N t (to + 1) := by
  unfold fwd
  rw [if_neg (by omega), Nat.add_sub_cancel]
  split <;> omega
/-- a line of the page -/
theorem pB_line {o : Nat × Nat × Nat} (h : TB N t v (v 35) 0 = some o) {k : Nat} (hk : k < pL N t v) : pB N t v k ≤ pB N t v (k + 1) - 1 ∧ pB N t v (k + 1) - 1 < nP N t ∧ pB N t v (k + 1) - 1 + 1 = pB N t v (k + 1) ∧ 0 ≤ lf N t v (v 35) (pB N t v k) (pB N t v (k + 1) - 1) := by
  obtain ⟨q, q1, q2, q3, q4, q5⟩ := lb_next h hk
  unfold pB
  rw [q2, Nat.add_sub_cancel]
  exact ⟨q3, q4, rfl, q5⟩
theorem bo_le (hok : tx_ok N t) {o : Nat × Nat × Nat} (h : TB N t v (v 35) 0 = some o) : ∀ k, k ≤ pL N t v → (k < pL N t v → bo N t v k ≤ fwd N t (pB N t v k)) ∧ bo N t v k ≤ 29 := by
  have hW : nW N t ≤ 30 := by unfold nW; rw [← ct_words]; exact hok.2.2
  intro k
  induction k with
  | zero => intro _; exact ⟨fun _ => Nat.zero_le _, Nat.zero_le _⟩
  | succ k ih =>
    intro hk
    obtain ⟨l1, l2, l3, l4⟩ := pB_line h (show k < pL N t v by omega)
    have h1 := (ih (by omega)).1 (by omega)
    have h2 := fwd_le hok l1 l2
    have h3 := wP_lt l2
    have h4 := wP_fwd_next (N := N) (t := t) (to := pB N t v (k + 1) - 1)
    rw [l3] at h4
    have e : bo N t v (k + 1) = bo N t v k + (wP N t (pB N t v (k + 1) - 1) - fwd N t (pB N t v k)) := rfl
    rw [e]
    exact ⟨fun _ => by omega, by omega⟩
theorem bo_mono {a b : Nat} (h : a ≤ b) : bo N t v a ≤ bo N t v b := by
  obtain ⟨d, rfl⟩ : ∃ d, b = a + d := ⟨b - a, by omega⟩
  clear h
  induction d with
  | zero => exact Nat.le_refl _
  | succ d ih =>
    have : bo N t v (a + (d + 1)) = bo N t v (a + d) + bn N t v (a + d) := rfl
    omega
theorem bo_at {K b : Nat} (h : b < bo N t v K) : ∃ k i, k < K ∧ i < bn N t v k ∧ b = bo N t v k + i := by
  induction K with
  | zero => exact absurd h (Nat.not_lt_zero _)
  | succ K ih =>
    by_cases h1 : b < bo N t v K
    · obtain ⟨k, i, a, c, e⟩ := ih h1
      exact ⟨k, i, by omega, c, e⟩
    · have e : bo N t v (K + 1) = bo N t v K + bn N t v K := rfl
      exact ⟨K, b - bo N t v K, by omega, by omega, by omega⟩
/-- the line of a blank -/
def LN (N : Nat) (t : Nat → Int32) (v : Nat → Nat) (b : Nat) : Nat := ct (fun k => decide (bo N t v (k + 1) ≤ b)) (pL N t v)
theorem LN_at {k i : Nat} (hk : k < pL N t v) (hi : i < bn N t v k) : LN N t v (bo N t v k + i) = k := by
  have e : bo N t v (k + 1) = bo N t v k + bn N t v k := rfl
  have key : ∀ K, K ≤ pL N t v → ct (fun j => decide (bo N t v (j + 1) ≤ bo N t v k + i)) K = if K ≤ k then K else k := by
    intro K
    induction K with
    | zero => intro _; rfl
    | succ K ih =>
      intro hK
      rw [ct_s, ih (by omega)]
      by_cases h1 : K + 1 ≤ k
      · have := bo_mono (N := N) (t := t) (v := v) h1
        rw [if_pos (show K ≤ k by omega), if_pos (decide_eq_true (by omega)), if_pos h1]
      · have := bo_mono (N := N) (t := t) (v := v) (show k + 1 ≤ K + 1 by omega)
        rw [if_neg (show ¬ decide (bo N t v (K + 1) ≤ bo N t v k + i) = true from fun z => by have := of_decide_eq_true z; omega), if_neg h1]
        split <;> omega
  have := key (pL N t v) (Nat.le_refl _)
  unfold LN
  rw [this, if_neg (by omega)]
def fF (N : Nat) (t : Nat → Int32) (v : Nat → Nat) (b : Nat) : Nat := bF N t v (LN N t v b) (b - bo N t v (LN N t v b))
def fT (N : Nat) (t : Nat → Int32) (v : Nat → Nat) (b : Nat) : Nat := bT N t v (LN N t v b) (b - bo N t v (LN N t v b))
theorem fF_at {k i : Nat} (hk : k < pL N t v) (hi : i < bn N t v k) : fF N t v (bo N t v k + i) = bF N t v k i ∧ fT N t v (bo N t v k + i) = bT N t v k i := by
  unfold fF fT
  rw [LN_at hk hi, Nat.add_sub_cancel_left]
  exact ⟨rfl, rfl⟩
/-- bounds -/
theorem bF_le (hok : tx_ok N t) (hv : sv_ok v) {o : Nat × Nat × Nat} (h : TB N t v (v 35) 0 = some o) {k i : Nat} (hk : k < pL N t v) (hi : i < bn N t v k) : bF N t v k i ≤ 20000 ∧ bT N t v k i ≤ 21000 ∧ spk N t v k ≤ 209 := by
  obtain ⟨l1, l2, l3, l4⟩ := pB_line h hk
  have hle := lf_le (ms := v 35) hv l1 l2
  have hms := hv.2.2.2.2.2.1
  have hW : nW N t ≤ 30 := by unfold nW; rw [← ct_words]; exact hok.2.2
  have hw := wP_lt l2
  have hbn : bn N t v k ≤ 30 := by unfold bn; omega
  have hsp : spk N t v k ≤ 209 := by
    unfold spk lfk
    split <;> omega
  have hq : spk N t v k / bn N t v k ≤ 209 := Nat.le_trans (Nat.div_le_self _ _) hsp
  have hm : i * (spk N t v k / bn N t v k) ≤ 30 * 209 := Nat.mul_le_mul (by omega) hq
  have hmin : Nat.min i (spk N t v k % bn N t v k) ≤ i := Nat.min_le_left _ _
  have hfw : fwd N t (pB N t v k) + i < nW N t := by unfold bn at hi; omega
  have he := (ew_sp hfw).1
  have hN := hok.1
  have hws := wsm_le hv (t := t) (ew N t (fwd N t (pB N t v k) + i) + 1)
  have hg : v 34 * (fwd N t (pB N t v k) + i) ≤ 9 * 30 := Nat.mul_le_mul hv.2.2.2.1 (by omega)
  have hg1 := hv.2.2.2.1
  have h1 : bF N t v k i ≤ 20000 := by
    unfold bF
    omega
  refine ⟨h1, ?_, hsp⟩
  unfold bT
  split <;> omega
end BLL
