section TBL
variable {N : Nat} {t : Nat → Int32} {v : Nat → Nat} {ms : Nat}
theorem tbl_0 {j : Nat} : tbl N t v ms 0 j = if j = nP N t then some (0, 0, nP N t) else none := rfl
theorem tbl_s {k j : Nat} : tbl N t v ms (k + 1) j = if j + (k + 1) = nP N t then dfo N t v ms j (tbl N t v ms k) (nP N t - j) j none else tbl N t v ms k j := rfl
theorem tok_0 : tok N t (nP N t) (tbl N t v ms 0) := by
  intro j h1 h2 o ho
  rw [tbl_0, if_pos (by omega)] at ho
  cases ho
  exact ⟨Nat.zero_le _, Nat.zero_le _⟩
theorem tok_s (hv : sv_ok v) (hms : ms ≤ 200) {k r : Nat} (hr : r + (k + 1) = nP N t) (h : tok N t (r + 1) (tbl N t v ms k)) : tok N t r (tbl N t v ms (k + 1)) := by
  intro j h1 h2 o ho
  by_cases e : j = r
  · subst e
    rw [tbl_s, if_pos hr] at ho
    have hb := dfo_ok (N := N) (t := t) (v := v) (ms := ms) (f := j) (T := tbl N t v ms k) (nP N t - j) j none (Nat.le_refl j) (by omega) (fun o ho => by cases ho)
    obtain ⟨b1, b2, b3, q, b4, b5, b6⟩ := hb o ho
    obtain ⟨q1, q2⟩ := h (o.2.2 + 1) (by omega) (by omega) q b4
    have hle := lf_le (ms := ms) hv b1 b2
    have hc := cst_le (N := N) (t := t) (f := j) (to := o.2.2) (l := (lf N t v ms j o.2.2).toNat) hv (by omega)
    refine ⟨?_, by omega⟩
    have e1 : nP N t - j = (nP N t - (o.2.2 + 1)) + (o.2.2 + 1 - j) := by omega
    have e2 : 50000 * (nP N t - j) = 50000 * (nP N t - (o.2.2 + 1)) + 50000 * (o.2.2 + 1 - j) := by rw [e1, Nat.mul_add]
    have e3 : 50000 * 1 ≤ 50000 * (o.2.2 + 1 - j) := Nat.mul_le_mul (Nat.le_refl _) (by omega)
    omega
  · rw [tbl_s, if_neg (by omega)] at ho
    exact h j (by omega) h2 o ho
theorem tok_all (hv : sv_ok v) (hms : ms ≤ 200) : ∀ (k r : Nat), r + k = nP N t → tok N t r (tbl N t v ms k)
  | 0, r, h => by rw [show r = nP N t by omega]; exact tok_0
  | k + 1, r, h => tok_s hv hms h (tok_all hv hms k (r + 1) (by omega))
theorem tbl_stable {j : Nat} : ∀ {k d : Nat}, nP N t ≤ j + k → tbl N t v ms (k + d) j = tbl N t v ms k j
  | k, 0, _ => rfl
  | k, d + 1, h => by
    rw [show k + (d + 1) = k + d + 1 by omega, tbl_s, if_neg (by omega)]
    exact tbl_stable h
/-- the final table -/
def TB (N : Nat) (t : Nat → Int32) (v : Nat → Nat) (ms : Nat) : Nat → Option (Nat × Nat × Nat) := tbl N t v ms (nP N t)
theorem TB_end : TB N t v ms (nP N t) = some (0, 0, nP N t) := by
  have := tbl_stable (N := N) (t := t) (v := v) (ms := ms) (j := nP N t) (k := 0) (d := nP N t) (by omega)
  rw [Nat.zero_add] at this
  unfold TB
  rw [this, tbl_0, if_pos rfl]
theorem TB_ok {j : Nat} (hj : j < nP N t) : bok N t v ms j (TB N t v ms) (TB N t v ms j) := by
  have e : TB N t v ms j = tbl N t v ms (nP N t - j) j := by
    have := tbl_stable (N := N) (t := t) (v := v) (ms := ms) (j := j) (k := nP N t - j) (d := j) (by omega)
    rw [show nP N t - j + j = nP N t by omega] at this
    exact this
  obtain ⟨k, hk⟩ : ∃ k, nP N t - j = k + 1 := ⟨nP N t - j - 1, by omega⟩
  rw [hk, tbl_s, if_pos (by omega)] at e
  intro o ho
  rw [e] at ho
  obtain ⟨b1, b2, b3, q, b4, b5, b6⟩ := dfo_ok (N := N) (t := t) (v := v) (ms := ms) (f := j) (T := tbl N t v ms k) (nP N t - j) j none (Nat.le_refl j) (by omega) (fun o ho => by cases ho) o ho
  refine ⟨b1, b2, b3, q, ?_, b5, b6⟩
  have := tbl_stable (N := N) (t := t) (v := v) (ms := ms) (j := o.2.2 + 1) (k := k) (d := nP N t - k) (by omega)
  rw [show k + (nP N t - k) = nP N t by omega] at this
  unfold TB
  rw [this, b4]
theorem TB_le (hv : sv_ok v) (hms : ms ≤ 200) {j : Nat} (hj : j ≤ nP N t) {o : Nat × Nat × Nat} (h : TB N t v ms j = some o) : o.1 ≤ 50000 * (nP N t - j) ∧ o.2.1 ≤ nP N t - j := tok_all hv hms (nP N t) 0 (by omega) j (Nat.zero_le _) hj o h
/-- the class's table -/
theorem cl_clip {P : Nat} (hP : P ≤ 100) : (if (0 : Int32) < (if (100 : Int32) < nI P then 100 else nI P) then (if (100 : Int32) < nI P then 100 else nI P) else 0) = nI P := by
  rw [if_neg (show ¬ (100 : Int32) < nI P by rw [nl_100, nI_lti (by omega) (by omega)]; omega)]
  by_cases h : P = 0
  · rw [h]; rfl
  · rw [if_pos (by rw [nl_0, nI_lti (by omega) (by omega)]; omega)]
theorem cl_solve (hok : tx_ok N t) (hv : sv_ok v) (hms : ms ≤ 200) {r0 r1 r2 r3 r4 : hm_SR} (h : ln_k N t v N r0 r1 r2 r3 r4) (a b c : Nat → Int32) : ∃ a' b' c' : Nat → Int32, f_X0_solve a b c r0 r1 r2 r4 (nI (v 36)) (nI (v 37)) (nI ms) = some (a', b', c') ∧ crow (nP N t) 0 (TB N t v ms) a' b' c' := by
  have hP : nP N t ≤ 100 := pl_100 hok
  have key : ∀ (r fuel : Nat), r ≤ nP N t → r < fuel → ∀ a b c : Nat → Int32, crow (nP N t) r (tbl N t v ms (nP N t - r)) a b c → ∃ a' b' c' : Nat → Int32, f_X0_solve_l40 r0 r1 r2 r4 (nI (v 36)) (nI (v 37)) (nI ms) fuel (nI (nP N t)) (zI ((r : Int) - 2)) a b c = some (a', b', c') ∧ crow (nP N t) 0 (TB N t v ms) a' b' c' := by
    intro r
    induction r with
    | zero =>
      intro fuel h1 h2 a b c hc
      obtain ⟨fuel, rfl⟩ : ∃ w, fuel = w + 1 := ⟨fuel - 1, by omega⟩
      rw [f_X0_solve_l40_s, if_pos (by decide)]
      exact ⟨a, b, c, rfl, hc⟩
    | succ r ih =>
      intro fuel h1 h2 a b c hc
      obtain ⟨fuel, rfl⟩ : ∃ w, fuel = w + 1 := ⟨fuel - 1, by omega⟩
      have e1 : zI (((r + 1 : Nat) : Int) - 2) = fr r := by unfold fr; congr 1; omega
      have e2 : fr r + (-1) = zI ((r : Int) - 2) := by unfold fr; rw [zl_1, zI_neg, zI_add]; congr 1; omega
      have hk : nP N t - r = nP N t - (r + 1) + 1 := by omega
      obtain ⟨x, y, z, g1, g2⟩ := cl_choose (ms := ms) hok hv hms h (f := r) (by omega) hc (tok_all hv hms _ (r + 1) (by omega))
      rw [f_X0_solve_l40_s, e1, if_neg (by unfold fr; rw [zl_1, zI_neg, zI_lt (by omega) (by omega) (by omega) (by omega)]; omega), g1, Option.bind_some, e2]
      refine ih fuel (by omega) (by omega) _ _ _ ?_
      intro j h3 h4
      rw [hk, tbl_s]
      by_cases e : j = r
      · subst e
        rw [if_pos (by omega)]
        cases hd : dfo N t v ms j (tbl N t v ms (nP N t - (j + 1))) (nP N t - j) j none with
        | none =>
          rw [hd] at g2
          dsimp only
          rw [ud_s]
          exact g2.2.1
        | some o =>
          rw [hd] at g2
          dsimp only
          rw [ud_s, ud_s, ud_s]
          exact g2
      · rw [if_neg (by omega)]
        have hcj := hc j (by omega) h4
        cases hT : tbl N t v ms (nP N t - (r + 1)) j with
        | none =>
          rw [hT] at hcj
          show upd b r y j = -1
          rw [ud_n e]
          exact hcj
        | some o =>
          rw [hT] at hcj
          show upd a r x j = _ ∧ upd b r y j = _ ∧ upd c r z j = _
          rw [ud_n e, ud_n e, ud_n e]
          exact hcj
  have hsz : r0.1 = nI (nP N t) := h.1.1
  rw [f_X0_solve, f_X1_places, rg_size, Option.bind_some, Option.bind_some, hsz, cl_clip hP, wr_in (by omega) (by omega), Option.bind_some, wr_in (by omega) (by omega), Option.bind_some, wr_in (by omega) (by omega), Option.bind_some, show nI (nP N t) - 2 = zI ((nP N t : Int) - 2) by rw [zI_nat, zl_2, zI_sub]]
  refine key (nP N t) hm_fu (Nat.le_refl _) (by unfold hm_fu; omega) _ _ _ ?_
  intro j h1 h2
  rw [Nat.sub_self, tbl_0, if_pos (by omega), show j = nP N t by omega]
  dsimp only
  rw [ud_s, ud_s, ud_s]
  exact ⟨rfl, rfl, rfl⟩
section MDT
variable {a1 a2 a3 a4 a5 a6 A7 W14 : Nat → Int32} {z2 z3 : Int32}
theorem md_looks (hok : tx_ok N t) (hv : sv_ok v) (hms : ms ≤ 200) (hA : sv_at A7 v) (h : mw_k N t N a1 a2 a3 a4 a5 a6 z2 z3) (hw : ∀ j, j ≤ N → W14 j = nI (wsm v t j)) {T : Nat → Option (Nat × Nat × Nat)} {a b c : Nat → Int32} {f : Nat} (hf : f < nP N t) (hT : mrow (nP N t) (f + 1) T a b c) (htk : tok N t (f + 1) T) : ∃ a' b' c' : Nat → Int32, f_X8_looksFrom a1 a2 a4 a5 a6 A7 W14 a b c (nI (nP N t)) (fr f) (nI ms) = some (a', b', c') ∧ mrep (dfo N t v ms f T (nP N t - f) f none) (a' f) (b' f) (c' f) ∧ ∀ j, j ≠ f → a' j = a j ∧ b' j = b j ∧ c' j = c j := by
  have hP : nP N t ≤ 100 := pl_100 hok
  have key : ∀ (d to fuel : Nat), nP N t = to + d → d < fuel → f ≤ to → ∀ (acc : Option (Nat × Nat × Nat)) (p g q : Nat → Int32), mrep acc (p f) (g f) (q f) → bok N t v ms f T acc → (∀ j, j ≠ f → p j = a j ∧ g j = b j ∧ q j = c j) → ∃ a' b' c' : Nat → Int32, f_X8_looksFrom_l14 a1 a2 a4 a5 a6 A7 W14 (nI (nP N t)) (fr f) (nI ms) fuel (nI to) p g q = some (a', b', c') ∧ mrep (dfo N t v ms f T d to acc) (a' f) (b' f) (c' f) ∧ ∀ j, j ≠ f → a' j = a j ∧ b' j = b j ∧ c' j = c j := by
    intro d
    induction d with
    | zero =>
      intro to fuel hd hfu hft acc p g q hc hb hj
      obtain ⟨fuel, rfl⟩ : ∃ w, fuel = w + 1 := ⟨fuel - 1, by omega⟩
      rw [f_X8_looksFrom_l14_s, if_pos (by rw [nI_lei (by omega) (by omega)]; omega)]
      exact ⟨p, g, q, rfl, hc, hj⟩
    | succ d ih =>
      intro to fuel hd hfu hft acc p g q hc hb hj
      obtain ⟨fuel, rfl⟩ : ∃ w, fuel = w + 1 := ⟨fuel - 1, by omega⟩
      have hto : to < nP N t := by omega
      have hle := lf_le (ms := ms) hv hft hto
      have hge := lf_ge (ms := ms) (f := f) hok hv hto
      have next : ∀ (acc : Option (Nat × Nat × Nat)) (p g q : Nat → Int32), mrep acc (p f) (g f) (q f) → bok N t v ms f T acc → (∀ j, j ≠ f → p j = a j ∧ g j = b j ∧ q j = c j) → ∃ a' b' c' : Nat → Int32, f_X8_looksFrom_l173 (fun zv3 zwA_15 zwA_16 zwA_17 => f_X8_looksFrom_l14 a1 a2 a4 a5 a6 A7 W14 (nI (nP N t)) (fr f) (nI ms) fuel zv3 zwA_15 zwA_16 zwA_17) (nI to) p g q = some (a', b', c') ∧ mrep (dfo N t v ms f T d (to + 1) acc) (a' f) (b' f) (c' f) ∧ ∀ j, j ≠ f → a' j = a j ∧ b' j = b j ∧ c' j = c j := by
        intro acc p g q hc hb hj
        rw [f_X8_looksFrom_l173, nI_1]
        exact ih (to + 1) fuel (by omega) (by omega) (by omega) acc p g q hc hb hj
      rw [f_X8_looksFrom_l14_s, if_neg (by rw [nI_lei (by omega) (by omega)]; omega), md_left hok hv hA h hw hft hto, Option.bind_some, dfo]
      by_cases hl : 0 ≤ lf N t v ms f to
      · have hl9 : (lf N t v ms f to).toNat ≤ 209 := by omega
        have hcs := cst_le (N := N) (t := t) (f := f) (to := to) hv hl9
        obtain ⟨j1, j2, j3⟩ := hj (to + 1) (by omega)
        rw [if_neg (by rw [zl_0, zI_lt (by omega) (by omega) (by omega) (by omega)]; omega), nI_1, rd_in (by omega) (by omega), Option.bind_some, j1]
        have hrow := hT (to + 1) (by omega) (by omega)
        unfold dstep
        rw [if_pos hl]
        cases hTt : T (to + 1) with
        | none =>
          rw [hTt] at hrow
          dsimp only at hrow
          rw [hrow, if_pos rfl]
          exact next acc p g q hc hb hj
        | some o2 =>
          rw [hTt] at hrow
          dsimp only at hrow
          obtain ⟨q1, q2, q3⟩ := hrow
          obtain ⟨k1, k2⟩ := htk (to + 1) (by omega) (by omega) o2 hTt
          have k1' : o2.1 ≤ 5000000 := Nat.le_trans k1 (Nat.mul_le_mul (Nat.le_refl 50000) (show nP N t - (to + 1) ≤ 100 by omega))
          have n9 : ∀ x : Nat, x < 2147483648 → ¬ nI x = -9 := fun x hx => by rw [zI_nat, zl_9, zI_neg, zI_eq (by omega) (by omega) (by omega) (by omega)]; omega
          rw [q1, if_neg (n9 _ (by omega)), zI_N hl, md_cost hok hv hA h hft hto hl9, Option.bind_some, Option.bind_some, rd_in (by omega) (by omega), Option.bind_some, j2, q2, nI_add, nI_1, fr_1, rd_in (by omega) (by omega), Option.bind_some]
          generalize hco : cst N t v f to (lf N t v ms f to).toNat = co
          rw [hco] at hcs
          have newb : bok N t v ms f T (some (co + o2.1, o2.2.1 + 1, to)) := by
            intro o ho
            cases ho
            exact ⟨hft, hto, hl, o2, hTt, by rw [hco], rfl⟩
          have take : ∃ a' b' c' : Nat → Int32, f_X8_looksFrom_l132 (fun zv3 zwA_15 zwA_16 zwA_17 => f_X8_looksFrom_l14 a1 a2 a4 a5 a6 A7 W14 (nI (nP N t)) (fr f) (nI ms) fuel zv3 zwA_15 zwA_16 zwA_17) (fr f) (nI to) (nI (co + o2.1)) (nI (o2.2.1 + 1)) p g q = some (a', b', c') ∧ mrep (dfo N t v ms f T d (to + 1) (some (co + o2.1, o2.2.1 + 1, to))) (a' f) (b' f) (c' f) ∧ ∀ j, j ≠ f → a' j = a j ∧ b' j = b j ∧ c' j = c j := by
            rw [f_X8_looksFrom_l132, f_X8_looksFrom_l137, if_neg n10, fr_1, wr_in (by omega) (by omega), Option.bind_some, wr_in (by omega) (by omega), Option.bind_some, wr_in (by omega) (by omega), Option.bind_some]
            refine next _ _ _ _ ?_ newb (fun j hne => ?_)
            · rw [ud_s, ud_s, ud_s]
              exact ⟨rfl, rfl, rfl⟩
            · rw [ud_n hne, ud_n hne, ud_n hne]
              exact hj j hne
          have skip : ∃ a' b' c' : Nat → Int32, f_X8_looksFrom_l136 (fun zv3 zwA_15 zwA_16 zwA_17 => f_X8_looksFrom_l14 a1 a2 a4 a5 a6 A7 W14 (nI (nP N t)) (fr f) (nI ms) fuel zv3 zwA_15 zwA_16 zwA_17) (fr f) (nI to) (nI (co + o2.1)) (nI (o2.2.1 + 1)) p g q = some (a', b', c') ∧ mrep (dfo N t v ms f T d (to + 1) acc) (a' f) (b' f) (c' f) ∧ ∀ j, j ≠ f → a' j = a j ∧ b' j = b j ∧ c' j = c j := by
            rw [f_X8_looksFrom_l136, f_X8_looksFrom_l137, if_pos n00]
            exact next acc p g q hc hb hj
          cases acc with
          | none =>
            have hc' : p f = -9 := hc
            rw [if_pos hc']
            exact take
          | some o =>
            obtain ⟨c1, c2, c3⟩ := hc
            obtain ⟨o1, o2', o3, p', o4, o5, o6⟩ := hb o rfl
            obtain ⟨p1, p2⟩ := htk (o.2.2 + 1) (by omega) (by omega) p' o4
            have p1' : p'.1 ≤ 5000000 := Nat.le_trans p1 (Nat.mul_le_mul (Nat.le_refl 50000) (show nP N t - (o.2.2 + 1) ≤ 100 by omega))
            have hco2 := cst_le (N := N) (t := t) (f := f) (to := o.2.2) (l := (lf N t v ms f o.2.2).toNat) hv (by have := lf_le (ms := ms) hv o1 o2'; omega)
            have ho1 : o.1 < 2147483648 := by omega
            have ho2 : o.2.1 < 2147483648 := by omega
            dsimp only
            rw [c1, if_neg (n9 _ ho1), Option.bind_some]
            by_cases b1 : co + o2.1 < o.1
            · rw [if_pos (by rw [nI_lti (by omega) ho1]; exact b1), if_pos (Or.inl b1)]
              exact take
            · rw [if_neg (by rw [nI_lti (by omega) ho1]; exact b1), Option.bind_some]
              by_cases b2 : co + o2.1 = o.1
              · rw [if_pos (by rw [b2]), rd_in (by omega) (by omega), Option.bind_some, c2]
                by_cases b3 : o.2.1 < o2.2.1 + 1
                · rw [if_pos (by rw [nI_lti ho2 (by omega)]; exact b3), if_neg (fun z => by rcases z with z | z <;> omega)]
                  exact skip
                · rw [if_neg (by rw [nI_lti ho2 (by omega)]; exact b3), if_pos (Or.inr ⟨b2, by omega⟩)]
                  exact take
              · rw [if_neg (by rw [nI_eqi (by omega) ho1]; exact b2), if_neg (fun z => by rcases z with z | z <;> omega)]
                exact skip
      · rw [if_pos (by rw [zl_0, zI_lt (by omega) (by omega) (by omega) (by omega)]; omega)]
        unfold dstep
        rw [if_neg hl]
        exact next acc p g q hc hb hj
  rw [f_X8_looksFrom, fr_1, wr_in (by omega) (by omega), Option.bind_some]
  exact key (nP N t - f) f hm_fu (by omega) (by unfold hm_fu; omega) (Nat.le_refl f) none _ _ _ ud_s (fun o ho => by cases ho) (fun j hne => ⟨ud_n hne, rfl, rfl⟩)
end MDT
end TBL
