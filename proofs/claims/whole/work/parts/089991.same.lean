/-! pure: what does not read the measure that is set -/
def sv_same (v w : Nat → Nat) : Prop := ∀ k, k < 38 → k ≠ 35 → w k = v k
section SAM
variable {N : Nat} {t : Nat → Int32} {v w : Nat → Nat}
theorem sm_wdt (h : sv_same v w) (x : Int32) : wdt w x = wdt v x := by
  unfold wdt
  cases hs : sg_slot x with
  | none => rfl
  | some k =>
    have := sg_slot_lt hs
    exact h k (by omega) (by omega)
theorem sm_hgt (h : sv_same v w) (x : Int32) : hgt w x = hgt v x := by
  unfold hgt
  cases hs : sg_mark x with
  | none => rfl
  | some m =>
    have := sg_mark_lt hs
    show w (26 + m) * w (30 + m) / 10 = v (26 + m) * v (30 + m) / 10
    rw [h (26 + m) (by omega) (by omega), h (30 + m) (by omega) (by omega)]
theorem sm_wsm (h : sv_same v w) : wsm w t = wsm v t := by
  funext j
  induction j with
  | zero => rfl
  | succ j ih =>
    show wsm w t j + wdt w (t j) = wsm v t j + wdt v (t j)
    rw [ih, sm_wdt h]
theorem sm_xe (h : sv_same v w) : xe N t w = xe N t v := by
  funext j
  unfold xe
  rw [sm_wsm h, h 34 (by omega) (by omega), h 28 (by omega) (by omega)]
theorem sm_xb (h : sv_same v w) : xb N t w = xb N t v := by
  funext j
  unfold xb
  rw [sm_wsm h, h 34 (by omega) (by omega)]
theorem sm_xh (h : sv_same v w) : xh t w = xh t v := by
  funext j
  unfold xh
  rw [sm_hgt h, h 28 (by omega) (by omega), h 32 (by omega) (by omega)]
theorem sm_lf (h : sv_same v w) : lf N t w = lf N t v := by
  funext ms f to
  unfold lf hP eP bP
  rw [sm_xe h, sm_xb h, sm_xh h]
theorem sm_cst (h : sv_same v w) : cst N t w = cst N t v := by
  funext f to l
  unfold cst
  rw [h 36 (by omega) (by omega), h 37 (by omega) (by omega)]
theorem sm_dstep (h : sv_same v w) (ms : Nat) : dstep N t w ms = dstep N t v ms := by
  funext f T acc to
  unfold dstep
  rw [sm_lf h, sm_cst h]
theorem sm_dfo (h : sv_same v w) (ms : Nat) : dfo N t w ms = dfo N t v ms := by
  funext f T d
  induction d with
  | zero => rfl
  | succ d ih =>
    funext to acc
    show dfo N t w ms f T d (to + 1) (dstep N t w ms f T acc to) = dfo N t v ms f T d (to + 1) (dstep N t v ms f T acc to)
    rw [ih, sm_dstep h]
theorem sm_tbl (h : sv_same v w) (ms : Nat) : tbl N t w ms = tbl N t v ms := by
  funext k
  induction k with
  | zero => rfl
  | succ k ih =>
    funext j
    show (if j + (k + 1) = nP N t then dfo N t w ms j (tbl N t w ms k) (nP N t - j) j none else tbl N t w ms k j) = (if j + (k + 1) = nP N t then dfo N t v ms j (tbl N t v ms k) (nP N t - j) j none else tbl N t v ms k j)
    rw [ih, sm_dfo h]
theorem sm_TB (h : sv_same v w) (ms : Nat) : TB N t w ms = TB N t v ms := by
  unfold TB
  rw [sm_tbl h]
theorem sm_lb (h : sv_same v w) (ms : Nat) : lb N t w ms = lb N t v ms := by
  funext k
  induction k with
  | zero => rfl
  | succ k ih =>
    simp only [lb, ih, sm_TB h]
theorem sm_nL (h : sv_same v w) (ms : Nat) : nL N t w ms = nL N t v ms := by
  unfold nL
  rw [sm_TB h]
theorem sm_ebt (h : sv_same v w) (ms : Nat) : ebt N t w ms = ebt N t v ms := by
  funext K p
  unfold ebt
  rw [sm_lb h]
theorem sm_su (h : sv_same v w) {A : Nat → Int32} {J : Nat → Int64} (hs : su_is N t v A J) : su_is N t w A J := by
  intro m hm
  have := hs m hm
  unfold su_m at this ⊢
  rw [sm_TB h, sm_nL h, sm_ebt h]
  exact this
end SAM
