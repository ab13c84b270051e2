/-! pure: the best that can follow each place -/
section DPP
variable (N : Nat) (t : Nat → Int32) (v : Nat → Nat) (ms : Nat)
def dstep (f : Nat) (T : Nat → Option (Nat × Nat × Nat)) (acc : Option (Nat × Nat × Nat)) (to : Nat) : Option (Nat × Nat × Nat) :=
  if 0 ≤ lf N t v ms f to then (match T (to + 1) with
    | none => acc
    | some q => (match acc with
      | none => some (cst N t v f to (lf N t v ms f to).toNat + q.1, q.2.1 + 1, to)
      | some o => if cst N t v f to (lf N t v ms f to).toNat + q.1 < o.1 ∨ (cst N t v f to (lf N t v ms f to).toNat + q.1 = o.1 ∧ q.2.1 + 1 ≤ o.2.1) then some (cst N t v f to (lf N t v ms f to).toNat + q.1, q.2.1 + 1, to) else some o)) else acc
def dfo (f : Nat) (T : Nat → Option (Nat × Nat × Nat)) : Nat → Nat → Option (Nat × Nat × Nat) → Option (Nat × Nat × Nat)
  | 0, _, acc => acc
  | d + 1, to, acc => dfo f T d (to + 1) (dstep N t v ms f T acc to)
def tbl : Nat → Nat → Option (Nat × Nat × Nat)
  | 0 => fun j => if j = nP N t then some (0, 0, nP N t) else none
  | k + 1 => fun j => if j + (k + 1) = nP N t then dfo N t v ms j (tbl k) (nP N t - j) j none else tbl k j
end DPP
/-- how a best line is kept: none, or what it costs, how many lines, where the first ends -/
def crep (acc : Option (Nat × Nat × Nat)) (x y z : Int32) : Prop := match acc with
  | none => x = 0 ∧ y = -1 ∧ z = -1
  | some o => x = nI o.1 ∧ y = nI o.2.1 ∧ z = nI o.2.2
def crow (P lo : Nat) (T : Nat → Option (Nat × Nat × Nat)) (a b c : Nat → Int32) : Prop := ∀ j, lo ≤ j → j ≤ P → match T j with
  | none => b j = -1
  | some o => a j = nI o.1 ∧ b j = nI o.2.1 ∧ c j = nI o.2.2
def mrep (acc : Option (Nat × Nat × Nat)) (x y z : Int32) : Prop := match acc with
  | none => x = -9
  | some o => x = nI o.1 ∧ y = nI o.2.1 ∧ z = nI o.2.2
def mrow (P lo : Nat) (T : Nat → Option (Nat × Nat × Nat)) (a b c : Nat → Int32) : Prop := ∀ j, lo ≤ j → j ≤ P → match T j with
  | none => a j = -9
  | some o => a j = nI o.1 ∧ b j = nI o.2.1 ∧ (j < P → c j = nI o.2.2)
/-- what is known of a best line from f on -/
def bok (N : Nat) (t : Nat → Int32) (v : Nat → Nat) (ms f : Nat) (T : Nat → Option (Nat × Nat × Nat)) (acc : Option (Nat × Nat × Nat)) : Prop := ∀ o, acc = some o → f ≤ o.2.2 ∧ o.2.2 < nP N t ∧ 0 ≤ lf N t v ms f o.2.2 ∧ ∃ q, T (o.2.2 + 1) = some q ∧ o.1 = cst N t v f o.2.2 (lf N t v ms f o.2.2).toNat + q.1 ∧ o.2.1 = q.2.1 + 1
def tok (N : Nat) (t : Nat → Int32) (lo : Nat) (T : Nat → Option (Nat × Nat × Nat)) : Prop := ∀ j, lo ≤ j → j ≤ nP N t → ∀ o, T j = some o → o.1 ≤ 50000 * (nP N t - j) ∧ o.2.1 ≤ nP N t - j
section DPL
variable {N : Nat} {t : Nat → Int32} {v : Nat → Nat} {ms : Nat}
theorem lf_le (hv : sv_ok v) {f to : Nat} (hft : f ≤ to) (hto : to < nP N t) : lf N t v ms f to ≤ (ms : Int) + 9 := by
  have h1 := bP_eP (v := v) hft hto
  have h2 := hP_le (N := N) (t := t) (p := to) hv
  unfold lf
  omega
theorem lf_ge (hok : tx_ok N t) (hv : sv_ok v) {f to : Nat} (hto : to < nP N t) : -2200 ≤ lf N t v ms f to := by
  have h1 := eP_le hok hv hto
  unfold lf
  omega
theorem cst_le (hv : sv_ok v) {f to l : Nat} (hl : l ≤ 209) : cst N t v f to l ≤ 46000 := by
  have h36 := hv.2.2.2.2.2.2.1
  have h37 := hv.2.2.2.2.2.2.2
  have hll : l * l ≤ 209 * 209 := Nat.mul_le_mul hl hl
  unfold cst
  split
  · omega
  · split
    · split <;> omega
    · omega
theorem dfo_skip {f : Nat} {T : Nat → Option (Nat × Nat × Nat)} : ∀ (d to : Nat) (acc : Option (Nat × Nat × Nat)), (∀ x, to ≤ x → x < to + d → ¬ 0 ≤ lf N t v ms f x) → dfo N t v ms f T d to acc = acc
  | 0, _, _, _ => rfl
  | d + 1, to, acc, h => by
    rw [dfo, dstep, if_neg (h to (by omega) (by omega))]
    exact dfo_skip d (to + 1) acc (fun x h1 h2 => h x (by omega) (by omega))
theorem dstep_ok {f to : Nat} {T : Nat → Option (Nat × Nat × Nat)} {acc : Option (Nat × Nat × Nat)} (hft : f ≤ to) (hto : to < nP N t) (h : bok N t v ms f T acc) : bok N t v ms f T (dstep N t v ms f T acc to) := by
  unfold dstep
  by_cases hl : 0 ≤ lf N t v ms f to
  · rw [if_pos hl]
    cases hT : T (to + 1) with
    | none => exact h
    | some q =>
      have new : bok N t v ms f T (some (cst N t v f to (lf N t v ms f to).toNat + q.1, q.2.1 + 1, to)) := by
        intro o ho
        cases ho
        exact ⟨hft, hto, hl, q, hT, rfl, rfl⟩
      cases acc with
      | none => exact new
      | some o =>
        dsimp only
        split
        · exact new
        · exact h
  · rw [if_neg hl]; exact h
theorem dfo_ok {f : Nat} {T : Nat → Option (Nat × Nat × Nat)} : ∀ (d to : Nat) (acc : Option (Nat × Nat × Nat)), f ≤ to → to + d ≤ nP N t → bok N t v ms f T acc → bok N t v ms f T (dfo N t v ms f T d to acc)
  | 0, _, _, _, _, h => h
  | d + 1, to, acc, h1, h2, h => by
    rw [dfo]
    exact dfo_ok d (to + 1) _ (by omega) (by omega) (dstep_ok h1 (by omega) h)
/-- the class's choice -/
theorem cl_choose (hok : tx_ok N t) (hv : sv_ok v) (hms : ms ≤ 200) {r0 r1 r2 r3 r4 : hm_SR} (h : ln_k N t v N r0 r1 r2 r3 r4) {T : Nat → Option (Nat × Nat × Nat)} {a b c : Nat → Int32} {f : Nat} (hf : f < nP N t) (hT : crow (nP N t) (f + 1) T a b c) (htk : tok N t (f + 1) T) : ∃ x y z : Int32, f_X0_chooseEnd a b c r0 r1 r2 r4 (nI (v 36)) (nI (v 37)) (nI ms) (fr f) (nI (nP N t)) = some (upd a f x, upd b f y, upd c f z) ∧ crep (dfo N t v ms f T (nP N t - f) f none) x y z := by
  have hP : nP N t ≤ 100 := pl_100 hok
  have hbf := bP_le hok hv (i := f) (show f ≤ nP N t by omega)
  have l152 : ∀ x y z : Int32, f_X0_chooseEnd_l152 a b c (fr f) x y z = some (upd a f x, upd b f y, upd c f z) := by
    intro x y z
    rw [f_X0_chooseEnd_l152, fr_1, wr_in (by omega) (by omega), Option.bind_some, wr_in (by omega) (by omega), Option.bind_some, wr_in (by omega) (by omega), Option.bind_some]
  have key : ∀ (d to fuel : Nat), nP N t = to + d → d < fuel → f ≤ to → ∀ (acc : Option (Nat × Nat × Nat)) (x y z : Int32), crep acc x y z → bok N t v ms f T acc → ∃ x' y' z' : Int32, f_X0_chooseEnd_l26 a b c r0 r1 r2 r4 (nI (v 36)) (nI (v 37)) (nI ms) (fr f) (nI (nP N t)) fuel x y z (nI (ms + 9 + bP N t v f)) (nI to) = some (upd a f x', upd b f y', upd c f z') ∧ crep (dfo N t v ms f T d to acc) x' y' z' := by
    intro d
    induction d with
    | zero =>
      intro to fuel hd hfu hft acc x y z hc hb
      obtain ⟨fuel, rfl⟩ : ∃ w, fuel = w + 1 := ⟨fuel - 1, by omega⟩
      rw [f_X0_chooseEnd_l26_s, if_pos (by rw [nI_lei (by omega) (by omega)]; omega), l152]
      exact ⟨x, y, z, rfl, hc⟩
    | succ d ih =>
      intro to fuel hd hfu hft acc x y z hc hb
      obtain ⟨fuel, rfl⟩ : ∃ w, fuel = w + 1 := ⟨fuel - 1, by omega⟩
      have hto : to < nP N t := by omega
      have hle := lf_le (ms := ms) hv hft hto
      have hge := lf_ge (ms := ms) (f := f) hok hv hto
      have hbt := bP_le hok hv (i := to + 1) (show to + 1 ≤ nP N t by omega)
      -- behind the choice
      have next : ∀ (acc : Option (Nat × Nat × Nat)) (x y z : Int32), crep acc x y z → bok N t v ms f T acc → ∃ x' y' z' : Int32, f_X0_chooseEnd_l132 (fun zv5 zv6 zv7 zv8 zv9 => f_X0_chooseEnd_l26 a b c r0 r1 r2 r4 (nI (v 36)) (nI (v 37)) (nI ms) (fr f) (nI (nP N t)) fuel zv5 zv6 zv7 zv8 zv9) a b c r4 (fr f) x y z (nI (ms + 9 + bP N t v f)) (nI to) = some (upd a f x', upd b f y', upd c f z') ∧ crep (dfo N t v ms f T d (to + 1) acc) x' y' z' := by
        intro acc x y z hc hb
        rw [f_X0_chooseEnd_l132, f_X1_beginBehind, nI_1, cl_beg hok h (by omega), Option.bind_some, Option.bind_some]
        by_cases hfar : bP N t v (to + 1) ≤ ms + 9 + bP N t v f
        · rw [if_pos (by rw [nI_lei (by omega) (by omega)]; exact hfar)]
          exact ih (to + 1) fuel (by omega) (by omega) (by omega) acc x y z hc hb
        · rw [if_neg (by rw [nI_lei (by omega) (by omega)]; exact hfar), l152]
          refine ⟨x, y, z, rfl, ?_⟩
          rw [dfo_skip]
          · exact hc
          · intro q h1 h2 h3
            have e1 := bP_eP (v := v) (N := N) (t := t) (show to + 1 ≤ q by omega) (by omega)
            have e2 := hP_le (N := N) (t := t) (p := q) hv
            unfold lf at h3
            omega
      rw [f_X0_chooseEnd_l26_s, if_neg (by rw [nI_lei (by omega) (by omega)]; omega), cl_leftBy hok h hft hto, Option.bind_some, dfo]
      by_cases hl : 0 ≤ lf N t v ms f to
      · have hl9 : (lf N t v ms f to).toNat ≤ 209 := by omega
        have hcs := cst_le (N := N) (t := t) (f := f) (to := to) hv hl9
        rw [if_neg (by rw [zl_0, zI_lt (by omega) (by omega) (by omega) (by omega)]; omega), nI_1, rd_in (by omega) (by omega), Option.bind_some]
        have hrow := hT (to + 1) (by omega) (by omega)
        unfold dstep
        rw [if_pos hl]
        cases hTt : T (to + 1) with
        | none =>
          rw [hTt] at hrow
          dsimp only at hrow
          rw [hrow, if_pos (by decide)]
          exact next acc x y z hc hb
        | some q =>
          rw [hTt] at hrow
          dsimp only at hrow
          obtain ⟨q1, q2, q3⟩ := hrow
          obtain ⟨k1, k2⟩ := htk (to + 1) (by omega) (by omega) q hTt
          have k1' : q.1 ≤ 5000000 := Nat.le_trans k1 (Nat.mul_le_mul (Nat.le_refl 50000) (show nP N t - (to + 1) ≤ 100 by omega))
          rw [q2, if_neg (nI_pos (by omega)), zI_N hl, cl_costBy hok hv h hft hto hl9, Option.bind_some, rd_in (by omega) (by omega), Option.bind_some, Option.bind_some, q1, nI_add, nI_1]
          generalize hco : cst N t v f to (lf N t v ms f to).toNat = co
          rw [hco] at hcs
          have newb : bok N t v ms f T (some (co + q.1, q.2.1 + 1, to)) := by
            intro o ho
            cases ho
            exact ⟨hft, hto, hl, q, hTt, by rw [hco], rfl⟩
          have take := next (some (co + q.1, q.2.1 + 1, to)) (nI (co + q.1)) (nI (q.2.1 + 1)) (nI to) ⟨rfl, rfl, rfl⟩ newb
          cases acc with
          | none =>
            obtain ⟨c1, c2, c3⟩ := hc
            rw [c3, if_pos (by decide), f_X0_chooseEnd_l120]
            exact take
          | some o =>
            obtain ⟨c1, c2, c3⟩ := hc
            obtain ⟨o1, o2, o3, p, o4, o5, o6⟩ := hb o rfl
            obtain ⟨p1, p2⟩ := htk (o.2.2 + 1) (by omega) (by omega) p o4
            have p1' : p.1 ≤ 5000000 := Nat.le_trans p1 (Nat.mul_le_mul (Nat.le_refl 50000) (show nP N t - (o.2.2 + 1) ≤ 100 by omega))
            have hco2 := cst_le (N := N) (t := t) (f := f) (to := o.2.2) (l := (lf N t v ms f o.2.2).toNat) hv (by have := lf_le (ms := ms) hv o1 o2; omega)
            have ho1 : o.1 < 2147483648 := by omega
            have ho2 : o.2.1 < 2147483648 := by omega
            dsimp only
            rw [c3, if_neg (nI_pos (by omega)), c1, c2]
            by_cases b1 : co + q.1 < o.1
            · rw [if_pos (by rw [nI_lti (by omega) ho1]; exact b1), if_pos (Or.inl b1), f_X0_chooseEnd_l120]
              exact take
            · rw [if_neg (by rw [nI_lti (by omega) ho1]; exact b1)]
              by_cases b2 : co + q.1 = o.1
              · rw [if_pos (by rw [b2])]
                by_cases b3 : o.2.1 < q.2.1 + 1
                · rw [if_pos (by rw [nI_lti ho2 (by omega)]; exact b3), if_neg (fun z => by rcases z with z | z <;> omega)]
                  exact next (some o) _ _ _ ⟨rfl, rfl, rfl⟩ hb
                · rw [if_neg (by rw [nI_lti ho2 (by omega)]; exact b3), if_pos (Or.inr ⟨b2, by omega⟩), f_X0_chooseEnd_l120]
                  exact take
              · rw [if_neg (by rw [nI_eqi (by omega) ho1]; exact b2), if_neg (fun z => by rcases z with z | z <;> omega)]
                exact next (some o) _ _ _ ⟨rfl, rfl, rfl⟩ hb
      · rw [if_pos (by rw [zl_0, zI_lt (by omega) (by omega) (by omega) (by omega)]; omega)]
        unfold dstep
        rw [if_neg hl]
        exact next acc x y z hc hb
  rw [f_X0_chooseEnd, f_X1_beginBehind, fr_1, cl_beg hok h (by omega), Option.bind_some, Option.bind_some, nl_9, nI_add, nI_add]
  exact key (nP N t - f) f hm_fu (by omega) (by unfold hm_fu; omega) (Nat.le_refl f) none 0 (-1) (-1) ⟨rfl, rfl, rfl⟩ (fun o ho => by cases ho)
end DPL
