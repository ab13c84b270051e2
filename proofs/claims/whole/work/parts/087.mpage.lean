/-! pure: the page, line by line -/
/-- where the k-th line begins: behind which place; and the page's lines -/
def lb (N : Nat) (t : Nat → Int32) (v : Nat → Nat) (ms : Nat) : Nat → Nat
  | 0 => 0
  | k + 1 => match TB N t v ms (lb N t v ms k) with
    | none => nP N t
    | some o => if lb N t v ms k < nP N t then o.2.2 + 1 else nP N t
def nL (N : Nat) (t : Nat → Int32) (v : Nat → Nat) (ms : Nat) : Nat := match TB N t v ms 0 with
  | none => 0
  | some o => o.2.1
section PGE
variable {N : Nat} {t : Nat → Int32} {v : Nat → Nat} {ms : Nat}
theorem lb_ok {o : Nat × Nat × Nat} (h : TB N t v ms 0 = some o) : ∀ k, k ≤ nL N t v ms → lb N t v ms k ≤ nP N t ∧ ∃ q, TB N t v ms (lb N t v ms k) = some q ∧ q.2.1 = nL N t v ms - k := by
  have hL : nL N t v ms = o.2.1 := by unfold nL; rw [h]
  intro k
  induction k with
  | zero => intro _; exact ⟨Nat.zero_le _, o, h, by rw [hL]; rfl⟩
  | succ k ih =>
    intro hk
    obtain ⟨h1, q, h2, h3⟩ := ih (by omega)
    by_cases he : lb N t v ms k < nP N t
    · obtain ⟨b1, b2, b3, q', b4, b5, b6⟩ := TB_ok (v := v) (ms := ms) he q h2
      have e : lb N t v ms (k + 1) = q.2.2 + 1 := by rw [lb, h2]; dsimp only; rw [if_pos he]
      rw [e]
      exact ⟨by omega, q', b4, by omega⟩
    · rw [show lb N t v ms k = nP N t by omega, TB_end] at h2
      cases h2
      dsimp only at h3
      omega
theorem lb_lt {o : Nat × Nat × Nat} (h : TB N t v ms 0 = some o) {k : Nat} (hk : k < nL N t v ms) : lb N t v ms k < nP N t := by
  obtain ⟨h1, q, h2, h3⟩ := lb_ok h k (by omega)
  rcases Nat.lt_or_ge (lb N t v ms k) (nP N t) with z | z
  · exact z
  · rw [show lb N t v ms k = nP N t by omega, TB_end] at h2
    cases h2
    dsimp only at h3
    omega
theorem lb_next {o : Nat × Nat × Nat} (h : TB N t v ms 0 = some o) {k : Nat} (hk : k < nL N t v ms) : ∃ q, TB N t v ms (lb N t v ms k) = some q ∧ lb N t v ms (k + 1) = q.2.2 + 1 ∧ lb N t v ms k ≤ q.2.2 ∧ q.2.2 < nP N t ∧ 0 ≤ lf N t v ms (lb N t v ms k) q.2.2 := by
  have hlt := lb_lt h hk
  obtain ⟨h1, q, h2, h3⟩ := lb_ok h k (by omega)
  obtain ⟨b1, b2, b3, -⟩ := TB_ok (v := v) (ms := ms) hlt q h2
  exact ⟨q, h2, by rw [lb, h2]; dsimp only; rw [if_pos hlt], b1, b2, b3⟩
theorem lb_end {o : Nat × Nat × Nat} (h : TB N t v ms 0 = some o) : lb N t v ms (nL N t v ms) = nP N t := by
  obtain ⟨h1, q, h2, h3⟩ := lb_ok h (nL N t v ms) (Nat.le_refl _)
  rcases Nat.lt_or_ge (lb N t v ms (nL N t v ms)) (nP N t) with z | z
  · obtain ⟨b1, b2, b3, q', b4, b5, b6⟩ := TB_ok (v := v) (ms := ms) z q h2
    omega
  · omega
theorem lb_mono {o : Nat × Nat × Nat} (h : TB N t v ms 0 = some o) {a b : Nat} (hab : a < b) (hb : b ≤ nL N t v ms) : lb N t v ms a < lb N t v ms b := by
  obtain ⟨d, rfl⟩ : ∃ d, b = a + d + 1 := ⟨b - a - 1, by omega⟩
  clear hab
  induction d with
  | zero =>
    obtain ⟨q, -, e, l, -⟩ := lb_next h (show a < nL N t v ms by omega)
    rw [Nat.add_zero, e]; omega
  | succ d ih =>
    have := ih (by omega)
    obtain ⟨q, -, e, l, -⟩ := lb_next h (show a + (d + 1) < nL N t v ms by omega)
    rw [e]
    rw [show a + d + 1 = a + (d + 1) by omega] at this
    omega
section MPG
variable {a1 a2 a3 a4 a5 a6 A7 : Nat → Int32} {z2 z3 : Int32}
/-- the model's page of a measure -/
theorem md_page (hok : tx_ok N t) (hv : sv_ok v) (hms : ms ≤ 200) (hA : sv_at A7 v) (h : mw_k N t N a1 a2 a3 a4 a5 a6 z2 z3) (A14 A15 A16 A17 A18 : Nat → Int32) : ∃ (w p g q e : Nat → Int32), (∀ j, j ≤ N → w j = nI (wsm v t j)) ∧ (match TB N t v ms 0 with
    | none => f_X8_laysPage a1 a2 a4 a5 a6 A7 A14 A15 A16 A17 A18 (nI N) (nI (nP N t)) (nI ms) = some (0, w, p, g, q, e, 0)
    | some o => f_X8_laysPage a1 a2 a4 a5 a6 A7 A14 A15 A16 A17 A18 (nI N) (nI (nP N t)) (nI ms) = some (1, w, p, g, q, e, nI (nL N t v ms)) ∧ p 0 = nI o.1 ∧ ∀ k, k < nL N t v ms → e k = nI (lb N t v ms (k + 1) - 1)) := by
  have hP : nP N t ≤ 100 := pl_100 hok
  obtain ⟨w, w1, w2⟩ := md_sums (A14 := A14) hok hv hA h.1
  -- the lines
  have lines : ∀ (p g q : Nat → Int32), mrow (nP N t) 0 (TB N t v ms) p g q → ∃ e : Nat → Int32, (match TB N t v ms 0 with
    | none => f_X8_laysPage_l48 A18 (nI (nP N t)) w p g q = some (0, w, p, g, q, e, 0)
    | some o => f_X8_laysPage_l48 A18 (nI (nP N t)) w p g q = some (1, w, p, g, q, e, nI (nL N t v ms)) ∧ p 0 = nI o.1 ∧ ∀ k, k < nL N t v ms → e k = nI (lb N t v ms (k + 1) - 1)) := by
    intro p g q hr
    have h0 := hr 0 (Nat.le_refl 0) (Nat.zero_le _)
    cases hT : TB N t v ms 0 with
    | none =>
      rw [hT] at h0
      refine ⟨A18, ?_⟩
      dsimp only
      have h0' : p 0 = -9 := h0
      rw [f_X8_laysPage_l48, nl_0, rd_in (by omega) (by omega), Option.bind_some, h0', if_pos rfl]
    | some o =>
      rw [hT] at h0
      obtain ⟨c1, c2, c3⟩ := h0
      obtain ⟨k1, k2⟩ := TB_le hv hms (j := 0) (Nat.zero_le _) hT
      have hL : nL N t v ms = o.2.1 := by unfold nL; rw [hT]
      have key : ∀ (d k fuel : Nat), nL N t v ms = k + d → d < fuel → ∀ e : Nat → Int32, (∀ x, x < k → e x = nI (lb N t v ms (x + 1) - 1)) → ∃ e' : Nat → Int32, f_X8_laysPage_l68 (nI (nP N t)) fuel (fr (lb N t v ms k)) w p g q e (nI k) = some (1, w, p, g, q, e', nI (nL N t v ms)) ∧ ∀ x, x < nL N t v ms → e' x = nI (lb N t v ms (x + 1) - 1) := by
        intro d
        induction d with
        | zero =>
          intro k fuel hk hf e he
          obtain ⟨fuel, rfl⟩ : ∃ z, fuel = z + 1 := ⟨fuel - 1, by omega⟩
          have hke : k = nL N t v ms := by omega
          have hle : nI (nP N t) - 1 ≤ fr (lb N t v ms k) := by
            rw [hke, lb_end hT]
            unfold fr
            rw [zI_nat, zl_1, zI_sub]
            exact Int32.le_refl _
          rw [f_X8_laysPage_l68_s, if_pos hle, hke]
          rw [hke] at he
          exact ⟨e, rfl, he⟩
        | succ d ih =>
          intro k fuel hk hf e he
          obtain ⟨fuel, rfl⟩ : ∃ z, fuel = z + 1 := ⟨fuel - 1, by omega⟩
          have hlt := lb_lt hT (show k < nL N t v ms by omega)
          obtain ⟨r, r1, r2, r3, r4, r5⟩ := lb_next hT (show k < nL N t v ms by omega)
          have hrow := hr (lb N t v ms k) (Nat.zero_le _) (by omega)
          rw [r1] at hrow
          obtain ⟨-, -, q3⟩ := hrow
          have hnle : ¬ nI (nP N t) - 1 ≤ fr (lb N t v ms k) := by
            unfold fr
            rw [zI_nat, zl_1, zI_sub, zI_le (by omega) (by omega) (by omega) (by omega)]
            omega
          rw [f_X8_laysPage_l68_s, if_neg hnle, fr_1, rd_in (by omega) (by omega), Option.bind_some, q3 hlt, wr_in (by omega) (by omega), Option.bind_some, nI_1, show nI r.2.2 = fr (lb N t v ms (k + 1)) by rw [r2, fr_s]]
          refine ih (k + 1) fuel (by omega) (by omega) _ (fun x hx => ?_)
          by_cases ex : x = k
          · rw [ex, ud_s, r2, fr_s, Nat.add_sub_cancel]
          · rw [ud_n ex]; exact he x (by omega)
      obtain ⟨e, e1, e2⟩ := key (nL N t v ms) 0 hm_fu (by omega) (by unfold hm_fu; omega) A18 (fun x hx => by omega)
      refine ⟨e, ?_⟩
      dsimp only
      refine ⟨?_, c1, e2⟩
      rw [f_X8_laysPage_l48, nl_0, rd_in (by omega) (by omega), Option.bind_some, c1, if_neg (by rw [zI_nat, zl_9, zI_neg, zI_eq (by omega) (by omega) (by omega) (by omega)]; omega)]
      exact e1
  -- the table
  have key : ∀ (r fuel : Nat), r ≤ nP N t → r < fuel → ∀ p g q : Nat → Int32, mrow (nP N t) r (tbl N t v ms (nP N t - r)) p g q → ∃ (p' g' q' : Nat → Int32), f_X8_laysPage_l31 a1 a2 a4 a5 a6 A7 A18 (nI (nP N t)) (nI ms) fuel (zI ((r : Int) - 2)) w p g q = f_X8_laysPage_l48 A18 (nI (nP N t)) w p' g' q' ∧ mrow (nP N t) 0 (TB N t v ms) p' g' q' := by
    intro r
    induction r with
    | zero =>
      intro fuel h1 h2 p g q hc
      obtain ⟨fuel, rfl⟩ : ∃ z, fuel = z + 1 := ⟨fuel - 1, by omega⟩
      rw [f_X8_laysPage_l31_s, if_pos (by decide)]
      exact ⟨p, g, q, rfl, hc⟩
    | succ r ih =>
      intro fuel h1 h2 p g q hc
      obtain ⟨fuel, rfl⟩ : ∃ z, fuel = z + 1 := ⟨fuel - 1, by omega⟩
      have e1 : zI (((r + 1 : Nat) : Int) - 2) = fr r := by unfold fr; congr 1; omega
      have e2 : fr r + (-1) = zI ((r : Int) - 2) := by unfold fr; rw [zl_1, zI_neg, zI_add]; congr 1; omega
      have hk : nP N t - r = nP N t - (r + 1) + 1 := by omega
      obtain ⟨p', g', q', g1, g2, g3⟩ := md_looks (ms := ms) hok hv hms hA h w2 (f := r) (by omega) hc (tok_all hv hms _ (r + 1) (by omega))
      rw [f_X8_laysPage_l31_s, e1, if_neg (by unfold fr; rw [zl_1, zI_neg, zI_lt (by omega) (by omega) (by omega) (by omega)]; omega), g1, Option.bind_some, e2]
      refine ih fuel (by omega) (by omega) _ _ _ ?_
      intro j h3 h4
      rw [hk, tbl_s]
      by_cases e : j = r
      · subst e
        rw [if_pos (by omega)]
        cases hd : dfo N t v ms j (tbl N t v ms (nP N t - (j + 1))) (nP N t - j) j none with
        | none => rw [hd] at g2; exact g2
        | some o => rw [hd] at g2; exact ⟨g2.1, g2.2.1, fun _ => g2.2.2⟩
      · rw [if_neg (by omega)]
        have hcj := hc j (by omega) h4
        obtain ⟨u1, u2, u3⟩ := g3 j e
        cases hT : tbl N t v ms (nP N t - (r + 1)) j with
        | none =>
          rw [hT] at hcj
          show p' j = -9
          rw [u1]
          exact hcj
        | some o =>
          rw [hT] at hcj
          show p' j = _ ∧ g' j = _ ∧ (j < nP N t → q' j = _)
          rw [u1, u2, u3]
          exact hcj
  obtain ⟨p', g', q', k1, k2⟩ := key (nP N t) hm_fu (Nat.le_refl _) (by unfold hm_fu; omega) (upd A15 (nP N t) 0) (upd A16 (nP N t) 0) A17 (by
    intro j h1 h2
    rw [Nat.sub_self, tbl_0, if_pos (by omega), show j = nP N t by omega]
    dsimp only
    rw [ud_s, ud_s]
    exact ⟨rfl, rfl, fun z => by omega⟩)
  obtain ⟨e, he⟩ := lines p' g' q' k2
  have hall : f_X8_laysPage a1 a2 a4 a5 a6 A7 A14 A15 A16 A17 A18 (nI N) (nI (nP N t)) (nI ms) = f_X8_laysPage_l48 A18 (nI (nP N t)) w p' g' q' := by
    rw [f_X8_laysPage, w1, Option.bind_some, wr_in (by omega) (by omega), Option.bind_some, wr_in (by omega) (by omega), Option.bind_some, show nI (nP N t) - 2 = zI ((nP N t : Int) - 2) by rw [zI_nat, zl_2, zI_sub]]
    exact k1
  refine ⟨w, p', g', q', e, w2, ?_⟩
  rw [hall]
  exact he
end MPG
end PGE
