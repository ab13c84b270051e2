/-! pure: where a word lies in the text -/
def sw (N : Nat) (t : Nat → Int32) (w : Nat) : Nat := nth (wb t) N w
def ew (N : Nat) (t : Nat → Int32) (w : Nat) : Nat := nth (we N t) N w
def nW (N : Nat) (t : Nat → Int32) : Nat := ct (we N t) N
def nP (N : Nat) (t : Nat → Int32) : Nat := ct (pl N t) N
section WAT
variable {N : Nat} {t : Nat → Int32}
theorem sw_sp {w : Nat} (h : w < nW N t) : sw N t w < N ∧ bk t (sw N t w) = false ∧ ct (wb t) (sw N t w) = w ∧ wb t (sw N t w) = true ∧ ct (we N t) (sw N t w) = w := by
  have h0 : w < ct (wb t) N := by rw [ct_words]; exact h
  obtain ⟨a, b, c⟩ := nth_sp h0
  have hb := (wb_iff.mp b).1
  have h1 := ct_in a hb
  rw [ct_y b, c] at h1
  exact ⟨a, hb, c, b, by unfold sw; omega⟩
theorem ew_sp {w : Nat} (h : w < nW N t) : ew N t w < N ∧ bk t (ew N t w) = false ∧ ct (we N t) (ew N t w) = w ∧ we N t (ew N t w) = true := by
  obtain ⟨a, b, c⟩ := nth_sp h
  exact ⟨a, (we_iff.mp b).1, c, b⟩
theorem sw_le_ew {w : Nat} (h : w < nW N t) : sw N t w ≤ ew N t w := by
  obtain ⟨a1, a2, a3, a4, a5⟩ := sw_sp h
  obtain ⟨b1, b2, b3, b4⟩ := ew_sp h
  rcases Nat.lt_or_ge (ew N t w) (sw N t w) with z | z
  · have := ct_le (we N t) (show ew N t w + 1 ≤ sw N t w by omega)
    rw [ct_y b4] at this
    omega
  · exact z
theorem in_word {w j : Nat} (h : w < nW N t) (h1 : sw N t w ≤ j) (h2 : j ≤ ew N t w) : ct (we N t) j = w ∧ bk t j = false := by
  obtain ⟨a1, a2, a3, a4, a5⟩ := sw_sp h
  obtain ⟨b1, b2, b3, b4⟩ := ew_sp h
  have hc : ∀ j, sw N t w ≤ j → j ≤ ew N t w → ct (we N t) j = w := by
    intro j h1 h2
    have := ct_le (we N t) h1
    have := ct_le (we N t) h2
    omega
  refine ⟨hc j h1 h2, ?_⟩
  obtain ⟨d, rfl⟩ : ∃ d, j = sw N t w + d := ⟨j - sw N t w, by omega⟩
  clear h1
  induction d with
  | zero => exact a2
  | succ d ih =>
    have h3 := ih (by omega)
    cases hb : bk t (sw N t w + (d + 1)) with
    | false => rfl
    | true =>
      have hw : we N t (sw N t w + d) = true := we_iff.mpr ⟨h3, Or.inr hb⟩
      have h4 := hc (sw N t w + d) (by omega) (by omega)
      have h5 := hc (sw N t w + (d + 1)) (by omega) h2
      have := ct_y hw
      rw [show sw N t w + d + 1 = sw N t w + (d + 1) by omega] at this
      omega
/-- a letter that is no blank lies in its word -/
theorem of_word {j : Nat} (hj : j < N) (hb : bk t j = false) : ct (we N t) j < nW N t ∧ sw N t (ct (we N t) j) ≤ j ∧ j ≤ ew N t (ct (we N t) j) := by
  have h1 := ct_in hj hb
  have h2 : ct (we N t) j < nW N t := by
    have := ct_le (wb t) (show j + 1 ≤ N by omega)
    rw [ct_words (N := N)] at this
    unfold nW
    omega
  obtain ⟨a1, a2, a3, a4, a5⟩ := sw_sp h2
  obtain ⟨b1, b2, b3, b4⟩ := ew_sp h2
  refine ⟨h2, ?_, ?_⟩
  · rcases Nat.lt_or_ge j (sw N t (ct (we N t) j)) with z | z
    · have := ct_le (wb t) (show j + 1 ≤ sw N t (ct (we N t) j) by omega)
      omega
    · exact z
  · rcases Nat.lt_or_ge (ew N t (ct (we N t) j)) j with z | z
    · have := ct_le (we N t) (show ew N t (ct (we N t) j) + 1 ≤ j by omega)
      rw [ct_y b4] at this
      omega
    · exact z
theorem ew_lt_sw {w : Nat} (h : w + 1 < nW N t) : ew N t w < sw N t (w + 1) := by
  obtain ⟨a1, a2, a3, a4, a5⟩ := sw_sp h
  obtain ⟨b1, b2, b3, b4⟩ := ew_sp (N := N) (t := t) (w := w) (by omega)
  rcases Nat.lt_or_ge (ew N t w) (sw N t (w + 1)) with z | z
  · exact z
  · have := ct_le (we N t) z
    omega
/-- between two words, and ahead of the first, there are blanks -/
theorem blank_gap {w j : Nat} (h : w + 1 < nW N t) (h1 : ew N t w < j) (h2 : j < sw N t (w + 1)) : bk t j = true := by
  cases hb : bk t j with
  | true => rfl
  | false =>
    obtain ⟨a1, a2, a3, a4, a5⟩ := sw_sp h
    obtain ⟨b1, b2, b3, b4⟩ := ew_sp (N := N) (t := t) (w := w) (by omega)
    have h3 := ct_in (N := N) (t := t) (j := j) (by omega) hb
    have h4 := ct_le (we N t) (show ew N t w + 1 ≤ j by omega)
    rw [ct_y b4] at h4
    have h5 := ct_le (wb t) (show j + 1 ≤ sw N t (w + 1) by omega)
    omega
theorem blank_first {j : Nat} (h : 0 < nW N t) (h2 : j < sw N t 0) : bk t j = true := by
  cases hb : bk t j with
  | true => rfl
  | false =>
    obtain ⟨a1, a2, a3, a4, a5⟩ := sw_sp h
    have h3 := ct_in (N := N) (t := t) (j := j) (by omega) hb
    have h5 := ct_le (wb t) (show j + 1 ≤ sw N t 0 by omega)
    omega
theorem ct_blank {p : Nat → Bool} (hp : ∀ j, bk t j = true → p j = false) {a b : Nat} (hab : a ≤ b) (h : ∀ j, a ≤ j → j < b → bk t j = true) : ct p b = ct p a := by
  obtain ⟨d, rfl⟩ : ∃ d, b = a + d := ⟨b - a, by omega⟩
  clear hab
  induction d with
  | zero => rfl
  | succ d ih =>
    rw [show a + (d + 1) = a + d + 1 by omega, ct_n (hp _ (h _ (by omega) (by omega)))]
    exact ih (fun j h1 h2 => h j h1 (by omega))
theorem pl_blank {j : Nat} (h : bk t j = true) : pl N t j = false := by
  unfold pl
  have h1 : sl t j = false := by cases hz : sl t j with | false => rfl | true => rw [sl_bk hz] at h; cases h
  have h2 : we N t j = false := by cases hz : we N t j with | false => rfl | true => rw [(we_iff.mp hz).1] at h; cases h
  rw [h1, h2]; rfl
theorem nb_blank {j : Nat} (h : bk t j = true) : nb t j = false := by unfold nb; rw [h]; rfl
theorem pq_blank {j : Nat} (h : bk t j = true) : pq t j = false := by unfold pq; rw [h]; rfl
theorem nb_in {w i : Nat} (h : w < nW N t) (h2 : sw N t w + i ≤ ew N t w + 1) : ct (nb t) (sw N t w + i) = ct (nb t) (sw N t w) + i := by
  induction i with
  | zero => rfl
  | succ i ih =>
    have h3 := (in_word h (j := sw N t w + i) (by omega) (by omega)).2
    rw [show sw N t w + (i + 1) = sw N t w + i + 1 by omega, ct_y (by unfold nb; rw [h3]; rfl), ih (by omega)]
    omega
end WAT
/-- widths, hangs, sums -/
def wdt (v : Nat → Nat) (x : Int32) : Nat := match sg_slot x with
  | some k => v k
  | none => 0
def hgt (v : Nat → Nat) (x : Int32) : Nat := match sg_mark x with
  | some m => v (26 + m) * v (30 + m) / 10
  | none => 0
def wsm (v : Nat → Nat) (t : Nat → Int32) : Nat → Nat
  | 0 => 0
  | j + 1 => wsm v t j + wdt v (t j)
theorem wdt_le {v : Nat → Nat} (hv : sv_ok v) (x : Int32) : wdt v x ≤ 9 := by
  unfold wdt
  cases h : sg_slot x with
  | none => exact Nat.zero_le _
  | some k => exact hv.1 k (sg_slot_lt h)
theorem hgt_le {v : Nat → Nat} (hv : sv_ok v) (x : Int32) : hgt v x ≤ 9 := by
  unfold hgt
  cases h : sg_mark x with
  | none => exact Nat.zero_le _
  | some m =>
    have hm := sg_mark_lt h
    have h1 := hv.1 (26 + m) (by omega)
    have h2 := hv.2.1 (30 + m) (by omega)
    have h3 := Nat.mul_le_mul h1 h2
    dsimp only
    omega
theorem wsm_le {v : Nat → Nat} (hv : sv_ok v) {t : Nat → Int32} : ∀ j, wsm v t j ≤ 9 * j
  | 0 => Nat.le_refl _
  | j + 1 => by
    have := wsm_le hv (t := t) j
    have := wdt_le hv (t j)
    rw [wsm]; omega
theorem wsm_mono {v : Nat → Nat} {t : Nat → Int32} {a b : Nat} (h : a ≤ b) : wsm v t a ≤ wsm v t b := by
  obtain ⟨d, rfl⟩ : ∃ d, b = a + d := ⟨b - a, by omega⟩
  clear h
  induction d with
  | zero => exact Nat.le_refl _
  | succ d ih =>
    rw [show a + (d + 1) = a + d + 1 by omega, wsm]
    omega
theorem wdt_bk {v : Nat → Nat} {t : Nat → Int32} {j : Nat} (h : bk t j = true) : wdt v (t j) = 0 := by
  unfold bk at h
  rw [of_decide_eq_true h]
  rfl
theorem wdt_sl {v : Nat → Nat} {t : Nat → Int32} {j : Nat} (h : sl t j = true) : wdt v (t j) = 0 := by
  unfold sl at h
  rw [of_decide_eq_true h]
  rfl
theorem wsm_blank {v : Nat → Nat} {t : Nat → Int32} {a b : Nat} (hab : a ≤ b) (h : ∀ j, a ≤ j → j < b → bk t j = true) : wsm v t b = wsm v t a := by
  obtain ⟨d, rfl⟩ : ∃ d, b = a + d := ⟨b - a, by omega⟩
  clear hab
  induction d with
  | zero => rfl
  | succ d ih =>
    rw [show a + (d + 1) = a + d + 1 by omega, wsm, wdt_bk (h _ (by omega) (by omega)), Nat.add_zero]
    exact ih (fun j h1 h2 => h j h1 (by omega))
/-- the class's width and hang of a sign -/
theorem cl_width {f : Nat → Int32} {v : Nat → Nat} (hf : sv_at f v) (x : Int32) : f_X4_widthOf f x = some (nI (wdt v x)) := by
  rw [f_X4_widthOf, cl_wslot, Option.bind_some]
  unfold wdt
  cases h : sg_slot x with
  | none => rfl
  | some k =>
    have := sg_slot_lt h
    dsimp only
    rw [se_get (by omega), Option.bind_some, hf k (by omega)]
theorem cl_hang {f : Nat → Int32} {v : Nat → Nat} (hf : sv_at f v) (hv : sv_ok v) (x : Int32) : f_X4_hungOf f x = some (nI (hgt v x)) := by
  rw [f_X4_hungOf, cl_wslot, Option.bind_some, cl_hslot]
  unfold hgt
  cases h : sg_mark x with
  | none =>
    have hneg : f_X4_get f (-1) = some 0 := rfl
    dsimp only
    cases hs : sg_slot x with
    | none =>
      dsimp only
      rw [hneg, Option.bind_some, Option.bind_some, hneg, Option.bind_some]
      rfl
    | some k =>
      have := sg_slot_lt hs
      have h9 := sv_le hv (k := k) (by omega)
      dsimp only
      rw [se_get (by omega), Option.bind_some, Option.bind_some, hneg, Option.bind_some, hf k (by omega), nl_0, pk_mul, Nat.mul_zero]
      rfl
  | some m =>
    have hm := sg_mark_lt h
    have hs : sg_slot x = some (26 + m) := by
      unfold sg_slot
      rw [if_neg (fun z => by rw [sg_mark_not z] at h; cases h), h]
      rfl
    have h1 := hv.1 (26 + m) (by omega)
    have h2 := hv.2.1 (30 + m) (by omega)
    have h3 := Nat.mul_le_mul h1 h2
    rw [hs]
    dsimp only
    rw [se_get (by omega), Option.bind_some, Option.bind_some, se_get (by omega), Option.bind_some, hf _ (by omega), hf _ (by omega), pk_mul, hm_dv, if_neg (by decide), nl_10, pk_div (by omega) (by omega) (by omega), Option.bind_some]
