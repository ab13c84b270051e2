/-! pure: places by their numbers; the model's natural, hung, left, cost -/
section PLC
variable (N : Nat) (t : Nat → Int32) (v : Nat → Nat)
def eP (p : Nat) : Nat := xe N t v (lp N t p)
def bP (i : Nat) : Nat := if i = 0 then 0 else xb N t v (lp N t (i - 1))
def hP (p : Nat) : Nat := xh t v (lp N t p)
def sP (p : Nat) : Bool := sl t (lp N t p)
def wP (p : Nat) : Nat := ct (we N t) (lp N t p)
def lf (ms f to : Nat) : Int := (ms : Int) + hP N t v to - eP N t v to + bP N t v f
def cst (f to : Nat) (l : Nat) : Nat := if to + 1 = nP N t then 0 else l * l + (if sP N t to = true then v 36 + (if 0 < f ∧ sP N t (f - 1) = true then v 37 else 0) else 0)
end PLC
section PLD
variable {N : Nat} {t : Nat → Int32} {v : Nat → Nat}
theorem lp_sp {p : Nat} (h : p < nP N t) : lp N t p < N ∧ pl N t (lp N t p) = true ∧ ct (pl N t) (lp N t p) = p := nth_sp h
theorem lp_lt {p q : Nat} (h : p < q) (hq : q < nP N t) : lp N t p < lp N t q := nth_mono h hq
theorem lp_nb {p : Nat} (h : p < nP N t) : bk t (lp N t p) = false := by
  obtain ⟨a, b, c⟩ := lp_sp h
  unfold pl at b
  cases hs : sl t (lp N t p) with
  | true => exact sl_bk hs
  | false => rw [hs] at b; exact (we_iff.mp (by simpa using b)).1
theorem lp_we {p : Nat} (h : p < nP N t) (hs : sP N t p = false) : we N t (lp N t p) = true := by
  obtain ⟨a, b, c⟩ := lp_sp h
  unfold sP at hs
  unfold pl at b
  rw [hs] at b
  simpa using b
theorem wP_lt {p : Nat} (h : p < nP N t) : wP N t p < nW N t := (of_word (lp_sp h).1 (lp_nb h)).1
theorem wP_le {p q : Nat} (h : p ≤ q) (hq : q < nP N t) : wP N t p ≤ wP N t q := by
  unfold wP
  by_cases e : p = q
  · rw [e]; exact Nat.le_refl _
  · exact ct_le _ (Nat.le_of_lt (lp_lt (by omega) hq))
theorem wP_next {p q : Nat} (h : p < q) (hq : q < nP N t) (hs : sP N t p = false) : wP N t p + 1 ≤ wP N t q := by
  have hw := lp_we (show p < nP N t by omega) hs
  have := ct_le (we N t) (show lp N t p + 1 ≤ lp N t q from lp_lt h hq)
  rw [ct_y hw] at this
  exact this
theorem sP_last {p : Nat} (hok : tx_ok N t) (h : p + 1 = nP N t) : sP N t p = false := by
  cases hs : sP N t p with
  | false => rfl
  | true =>
    obtain ⟨a, b, c⟩ := lp_sp (N := N) (t := t) (p := p) (by omega)
    obtain ⟨q1, q2, q3, q4⟩ := ok_sl hok a hs
    obtain ⟨o1, o2, o3⟩ := of_word q2 (pn_bk q4).1
    obtain ⟨e1, e2, e3, e4⟩ := ew_sp o1
    have hpl : pl N t (ew N t (ct (we N t) (lp N t p + 1))) = true := by unfold pl; rw [e4, Bool.or_true]
    have h1 := ct_lt (p := pl N t) (show lp N t p < ew N t (ct (we N t) (lp N t p + 1)) by omega) b
    have h2 := ct_lt_N hpl e1
    unfold nP at h
    omega
theorem eP_le (hok : tx_ok N t) (hv : sv_ok v) {p : Nat} (h : p < nP N t) : eP N t v p ≤ 2100 := by
  obtain ⟨a, b, c⟩ := lp_sp h
  have hN := hok.1
  have hW : nW N t ≤ 30 := by unfold nW; rw [← ct_words]; exact hok.2.2
  have hw := wP_lt h
  unfold wP at hw
  have h1 : v 34 * ct (we N t) (lp N t p) ≤ 9 * 30 := Nat.mul_le_mul hv.2.2.2.1 (by omega)
  have h2 := wsm_le hv (t := t) (lp N t p)
  have h3 := wsm_le hv (t := t) (lp N t p + 1)
  have h4 := hv.1 28 (by omega)
  unfold eP xe
  split <;> omega
theorem bP_le (hok : tx_ok N t) (hv : sv_ok v) {i : Nat} (h : i ≤ nP N t) : bP N t v i ≤ 2100 := by
  unfold bP
  split
  · omega
  · obtain ⟨a, b, c⟩ := lp_sp (N := N) (t := t) (p := i - 1) (by omega)
    have hN := hok.1
    have hW : nW N t ≤ 30 := by unfold nW; rw [← ct_words]; exact hok.2.2
    have hw := wP_lt (N := N) (t := t) (p := i - 1) (by omega)
    unfold wP at hw
    have h1 : v 34 * (ct (we N t) (lp N t (i - 1)) + 1) ≤ 9 * 30 := Nat.mul_le_mul hv.2.2.2.1 (by omega)
    have h1' : v 34 * ct (we N t) (lp N t (i - 1)) ≤ 9 * 30 := Nat.mul_le_mul hv.2.2.2.1 (by omega)
    have h2 := wsm_le hv (t := t) (lp N t (i - 1))
    have h3 := wsm_le hv (t := t) (lp N t (i - 1) + 1)
    unfold xb
    split <;> omega
theorem hP_le (hv : sv_ok v) {p : Nat} : hP N t v p ≤ 9 := by
  unfold hP xh
  split
  · exact hgt_le hv 45
  · exact hgt_le hv _
/-- a line that begins behind a place is no longer there than one that ends later -/
theorem bP_eP {i p : Nat} (h : i ≤ p) (hp : p < nP N t) : bP N t v i ≤ eP N t v p := by
  unfold bP
  split
  · exact Nat.zero_le _
  · have hlt := lp_lt (N := N) (t := t) (show i - 1 < p by omega) hp
    have hwl := wP_le (N := N) (t := t) (show i - 1 ≤ p by omega) hp
    have hm := wsm_mono (v := v) (t := t) (show lp N t (i - 1) ≤ lp N t p by omega)
    have hm1 := wsm_mono (v := v) (t := t) (show lp N t (i - 1) + 1 ≤ lp N t p by omega)
    have hm2 := wsm_mono (v := v) (t := t) (show lp N t p ≤ lp N t p + 1 by omega)
    unfold wP at hwl
    have hg := Nat.mul_le_mul_left (v 34) hwl
    unfold eP xb xe
    by_cases hs : sl t (lp N t (i - 1)) = true
    · rw [if_pos hs]
      split <;> omega
    · have hwn := wP_next (N := N) (t := t) (show i - 1 < p by omega) hp (by unfold sP; cases hz : sl t (lp N t (i - 1)) with | true => exact absurd hz hs | false => rfl)
      unfold wP at hwn
      have hg2 := Nat.mul_le_mul_left (v 34) hwn
      rw [if_neg hs]
      split <;> omega
/-- what the model's arrays hold of the text, by numbers -/
theorem md_pw {a1 a2 a3 a4 a5 a6 : Nat → Int32} {z2 z3 : Int32} (h : mw_k N t N a1 a2 a3 a4 a5 a6 z2 z3) {p : Nat} (hp : p < nP N t) : a4 p = nI (wP N t p) ∧ a5 p = nI (if sP N t p = true then lp N t p else lp N t p + 1) ∧ a6 p = (if sP N t p = true then 1 else 0) := by
  obtain ⟨h1, h2, h3, h4, h5, h6, h7, h8⟩ := h
  exact ⟨fil_nth h4 hp (Nat.le_refl N), fil_nth h5 hp (Nat.le_refl N), fil_nth h6 hp (Nat.le_refl N)⟩
theorem md_se {a1 a2 a3 a4 a5 a6 : Nat → Int32} {z2 z3 : Int32} (h : mw_k N t N a1 a2 a3 a4 a5 a6 z2 z3) {w : Nat} (hw : w < nW N t) : a2 w = nI (sw N t w) ∧ a3 w = nI (ew N t w + 1) := by
  obtain ⟨h1, h2, h3, h4, h5, h6, h7, h8⟩ := h
  exact ⟨fil_nth h2 (by rw [ct_words]; exact hw) (Nat.le_refl N), fil_nth h3 hw (Nat.le_refl N)⟩
theorem md_sums {a1 A7 A14 : Nat → Int32} (hok : tx_ok N t) (hv : sv_ok v) (hA : sv_at A7 v) (h1 : ∀ j, j < N → a1 j = t j) : ∃ w : Nat → Int32, f_X8_sums a1 A7 A14 (nI N) = some w ∧ ∀ j, j ≤ N → w j = nI (wsm v t j) := by
  have hN := hok.1
  have key : ∀ (d k fuel : Nat), N = k + d → d < fuel → ∀ w : Nat → Int32, (∀ j, j ≤ k → w j = nI (wsm v t j)) → ∃ w' : Nat → Int32, f_X8_sums_l9 a1 A7 (nI N) fuel (nI k) w = some w' ∧ ∀ j, j ≤ N → w' j = nI (wsm v t j) := by
    intro d
    induction d with
    | zero =>
      intro k fuel hk hf w hw
      obtain ⟨fuel, rfl⟩ : ∃ z, fuel = z + 1 := ⟨fuel - 1, by omega⟩
      rw [f_X8_sums_l9_s, if_pos (by rw [nI_lei (by omega) (by omega)]; omega)]
      exact ⟨w, rfl, fun j hj => hw j (by omega)⟩
    | succ d ih =>
      intro k fuel hk hf w hw
      obtain ⟨fuel, rfl⟩ : ∃ z, fuel = z + 1 := ⟨fuel - 1, by omega⟩
      have put : ∀ x : Nat, wdt v (t k) = x → ∃ w' : Nat → Int32, f_X8_sums_l70 (fun zv1 zwA_14 => f_X8_sums_l9 a1 A7 (nI N) fuel zv1 zwA_14) (nI x) (w k) (nI (k + 1)) (nI k) w = some w' ∧ ∀ j, j ≤ N → w' j = nI (wsm v t j) := by
        intro x hx
        rw [f_X8_sums_l70, hw k (Nat.le_refl k), nI_add, wr_in (by omega) (by omega), Option.bind_some, nI_1]
        refine ih (k + 1) fuel (by omega) (by omega) _ (fun j hj => ?_)
        by_cases e : j = k + 1
        · rw [e, ud_s, wsm, hx]
        · rw [ud_n e]; exact hw j (by omega)
      rw [f_X8_sums_l9_s, if_neg (by rw [nI_lei (by omega) (by omega)]; omega), rd_in (by omega) (by omega), Option.bind_some, rd_in (by omega) (by omega), Option.bind_some, h1 k (by omega), nI_1]
      cases hb : bk t k with
      | true =>
        rw [if_pos (of_decide_eq_true hb), f_X8_sums_l52]
        exact put 0 (wdt_bk hb)
      | false =>
        rw [if_neg (of_decide_eq_false hb), Option.bind_some]
        cases hs : sl t k with
        | true =>
          rw [if_pos (of_decide_eq_true hs), f_X8_sums_l52]
          exact put 0 (wdt_sl hs)
        | false =>
          have hp := ok_pn hok (show k < N by omega) hb hs
          unfold pn at hp
          cases hsl : sg_slot (t k) with
          | none => rw [hsl] at hp; cases hp
          | some x =>
            have := sg_slot_lt hsl
            rw [if_neg (of_decide_eq_false hs), Option.bind_some, md_wof hsl, Option.bind_some, rd_in (by omega) (by omega), Option.bind_some, hA x (by omega)]
            exact put (v x) (by unfold wdt; rw [hsl])
  rw [f_X8_sums, nl_0, wr_in (by omega) (by omega), Option.bind_some]
  exact key N 0 hm_fu (by omega) (by unfold hm_fu; omega) _ (fun j hj => by rw [show j = 0 by omega, ud_s]; rfl)
end PLD
