section RDL
variable {N : Nat} {t : Nat → Int32}
theorem cl_addp {w1 w2 w3 w7 w8 w9 : hm_SR} {c m s p : Nat} {x : Int32} (h1 : w1.1 = nI c) (h2 : w2.1 = nI m) (h3 : f_X3_startOf 30 w3 (nI c) = some (nI s)) (hs : s ≤ m) (h7 : w7.1 = nI p) (h8 : w8.1 = nI p) (h9 : w9.1 = nI p) (hp : p < 100) : f_X3_addPlace w1 w2 w3 w7 w8 w9 x = some ((nI (p + 1), upd w7.2 p (nI c)), (nI (p + 1), upd w8.2 p (nI (m - s))), (nI (p + 1), upd w9.2 p x)) := by
  rw [f_X3_addPlace, f_X3_wordCount, rg_size, Option.bind_some, Option.bind_some, h1, rg_add h7 hp (by omega), Option.bind_some, rg_size, Option.bind_some, h2, h3, Option.bind_some, pk_sub hs, rg_add h8 hp (by omega), Option.bind_some, rg_add h9 hp (by omega), Option.bind_some]
theorem pq_iff {j : Nat} : pq t j = true ↔ bk t j = false ∧ sl t j = false := by
  unfold pq
  cases bk t j <;> cases sl t j <;> simp
theorem pst_le {k : Nat} (hk : k ≤ N) : pst N t k ≤ ct (pq t) k := by
  induction k with
  | zero => exact Nat.zero_le _
  | succ k ih =>
    rw [pst]
    split
    · exact Nat.le_refl _
    · exact Nat.le_trans (ih (by omega)) (ct_le _ (by omega))
/-- the end of a word -/
theorem cl_endw (hok : tx_ok N t) {k : Nat} (hk : k < N) (hw : we N t k = true) (hs : sl t k = false) {w0 w1 w2 w3 w4 w5 w6 w7 w8 w9 : hm_SR}
    (h0 : w0.1 = nI (ct (nb t) (k + 1)) ∧ fil (nb t) t (k + 1) w0.2) (h1 : w1.1 = nI (ct (we N t) k) ∧ fil (we N t) (fun j => nI (ct (nb t) (j + 1))) k w1.2) (h2 : w2.1 = nI (ct (pq t) (k + 1)) ∧ fil (pq t) t (k + 1) w2.2) (h3 : w3.1 = nI (ct (we N t) k) ∧ fil (we N t) (fun j => nI (ct (pq t) (j + 1))) k w3.2) (h4 : w4.1 = nI (ct (we N t) k) ∧ fil (we N t) (fun j => nI (ct (pl N t) j)) k w4.2)
    (h5 : w5.1 = nI (ct (we N t) k) ∧ ∀ w, w < ct (we N t) k → w5.2 w = nI (fl N t w)) (h6 : w6.1 = nI (ct (ff N t) (ct (we N t) k)) ∧ fil (ff N t) (fun w => nI w) (ct (we N t) k) w6.2) (h7 : w7.1 = nI (ct (pl N t) k) ∧ fil (pl N t) (fun j => nI (ct (we N t) j)) k w7.2) (h8 : w8.1 = nI (ct (pl N t) k) ∧ fil (pl N t) (fun j => nI (ct (pq t) (if sl t j = true then j else j + 1) - pst N t j)) k w8.2) (h9 : w9.1 = nI (ct (pl N t) k) ∧ fil (pl N t) (fun j => if sl t j = true then 1 else 0) k w9.2) :
    ∃ v1 v3 v4 v5 v6 v7 v8 v9 : hm_SR, f_X3_endWord w0 w1 w2 w3 w4 w5 w6 w7 w8 w9 = some (v1, v3, v4, v5, v6, v7, v8, v9) ∧ sr_k N t (k + 1) w0 v1 w2 v3 v4 v5 v6 v7 v8 v9 := by
  have hN := hok.1
  have hW : ct (we N t) N ≤ 30 := by rw [← ct_words]; exact hok.2.2
  have hP := pl_100 hok
  have n4 : pl N t k = true := by unfold pl; rw [hw, hs]; rfl
  have hlt := ct_lt_N hw hk
  have hpt := ct_lt_N n4 hk
  have hps := pst_le (N := N) (t := t) (k := k) (by omega)
  have hpq := ct_le (pq t) (show k ≤ k + 1 by omega)
  have hff := ct_bound (ff N t) (ct (we N t) k)
  have hst := cl_start (N := N) (t := t) (k := k) (by omega) hW h3 (Nat.le_refl _)
  rw [← pst_ps (by omega)] at hst
  have hadd := cl_addp (x := 0) h1.1 h2.1 hst (Nat.le_trans hps hpq) h7.1 h8.1 h9.1 (by omega)
  have e3 : f_X2_add 30 w3 (nI (ct (pq t) (k + 1))) = some (1, (nI (ct (we N t) k + 1), upd w3.2 (ct (we N t) k) (nI (ct (pq t) (k + 1))))) := rg_add h3.1 (by omega) (by omega)
  have h3' : ((nI (ct (we N t) k + 1), upd w3.2 (ct (we N t) k) (nI (ct (pq t) (k + 1)))) : hm_SR).1 = nI (ct (we N t) (k + 1)) ∧ fil (we N t) (fun j => nI (ct (pq t) (j + 1))) (k + 1) ((nI (ct (we N t) k + 1), upd w3.2 (ct (we N t) k) (nI (ct (pq t) (k + 1)))) : hm_SR).2 := ⟨by rw [ct_y hw], fil_y h3.2 hw rfl⟩
  have hfirst := cl_first (N := N) (t := t) (k := k + 1) hN (by omega) hW h2 h3' (w := ct (we N t) k) (by rw [ct_y hw]; omega)
  have hfl : fl N t (ct (we N t) k) ≤ ct (we N t) k := by
    have : ∀ (p : Nat → Bool) (n i : Nat), fs p n i ≤ i + n := by
      intro p n
      induction n with
      | zero => intro i; exact Nat.le_refl _
      | succ n ih =>
        intro i
        rw [fs]
        split
        · omega
        · have := ih (i + 1); omega
    have := this (fun a => lk N t a (ct (we N t) k)) (ct (we N t) k) 0
    unfold fl
    omega
  have h5' : ∀ w, w < ct (we N t) k + 1 → upd w5.2 (ct (we N t) k) (nI (fl N t (ct (we N t) k))) w = nI (fl N t w) := by
    intro w hw2
    by_cases e : w = ct (we N t) k
    · rw [e, ud_s]
    · rw [ud_n e]; exact h5.2 w (by omega)
  rw [f_X3_endWord, f_X3_wordCount, rg_size, Option.bind_some, Option.bind_some, hadd, Option.bind_some, f_X3_placeCount, rg_size, Option.bind_some, Option.bind_some, nI_pred, rg_add h4.1 (by omega) (by omega), Option.bind_some, rg_size, Option.bind_some, h2.1, e3, Option.bind_some, rg_size, Option.bind_some, h0.1, rg_add h1.1 (by omega) (by omega), Option.bind_some, h1.1, hfirst, Option.bind_some, rg_add h5.1 (by omega) (by omega), Option.bind_some]
  by_cases hf : fl N t (ct (we N t) k) = ct (we N t) k
  · have hfb : ff N t (ct (we N t) k) = true := decide_eq_true hf
    rw [if_pos (by rw [hf]), rg_add h6.1 (by omega) (by omega), Option.bind_some]
    refine ⟨_, _, _, _, _, _, _, _, rfl, h0, ⟨by rw [ct_y hw], fil_y h1.2 hw rfl⟩, h2, h3', ⟨by rw [ct_y hw], fil_y h4.2 hw rfl⟩, ⟨by rw [ct_y hw], by rw [ct_y hw]; exact h5'⟩, ⟨by rw [ct_y hw, ct_y hfb], by rw [ct_y hw]; exact fil_y h6.2 hfb rfl⟩, ⟨by rw [ct_y n4], fil_y h7.2 n4 rfl⟩, ⟨by rw [ct_y n4], fil_y h8.2 n4 (by rw [if_neg (by rw [hs]; decide)])⟩, ⟨by rw [ct_y n4], fil_y h9.2 n4 (by rw [if_neg (by rw [hs]; decide)])⟩⟩
  · have hfb : ff N t (ct (we N t) k) = false := decide_eq_false hf
    rw [if_neg (by rw [nI_eqi (by omega) (by omega)]; exact hf)]
    refine ⟨_, _, _, _, _, _, _, _, rfl, h0, ⟨by rw [ct_y hw], fil_y h1.2 hw rfl⟩, h2, h3', ⟨by rw [ct_y hw], fil_y h4.2 hw rfl⟩, ⟨by rw [ct_y hw], by rw [ct_y hw]; exact h5'⟩, ⟨by rw [ct_y hw, ct_n hfb]; exact h6.1, by rw [ct_y hw]; exact fil_n h6.2 hfb⟩, ⟨by rw [ct_y n4], fil_y h7.2 n4 rfl⟩, ⟨by rw [ct_y n4], fil_y h8.2 n4 (by rw [if_neg (by rw [hs]; decide)])⟩, ⟨by rw [ct_y n4], fil_y h9.2 n4 (by rw [if_neg (by rw [hs]; decide)])⟩⟩
theorem sr_step (hok : tx_ok N t) {n1 : Nat} {r1 : hm_SR} (hr : r1.1 = nI N) (hn : N ≤ n1) (hn1 : n1 < 2147483648) (ht : ∀ j, j < N → r1.2 j = t j) {k fuel : Nat} (hk : k < N) {w0 w1 w2 w3 w4 w5 w6 w7 w8 w9 : hm_SR} (h : sr_k N t k w0 w1 w2 w3 w4 w5 w6 w7 w8 w9) : ∃ v0 v1 v2 v3 v4 v5 v6 v7 v8 v9 : hm_SR, f_X3_read_l6 n1 r1 (fuel + 1) (nI k) w0 w1 w2 w3 w4 w5 w6 w7 w8 w9 = f_X3_read_l6 n1 r1 fuel (nI (k + 1)) v0 v1 v2 v3 v4 v5 v6 v7 v8 v9 ∧ sr_k N t (k + 1) v0 v1 v2 v3 v4 v5 v6 v7 v8 v9 := by
  have hN := hok.1
  have hW : ct (we N t) N ≤ 30 := by rw [← ct_words]; exact hok.2.2
  have hP := pl_100 hok
  have hh := h
  obtain ⟨h0, h1, h2, h3, h4, h5, h6, h7, h8, h9⟩ := h
  have c0 := ct_bound (nb t) k
  have c2 := ct_bound (pq t) k
  rw [f_X3_read_l6_s, rg_size, Option.bind_some, hr, if_neg (by rw [nI_lei (by omega) (by omega)]; omega), rg_in hr hk hn hn1, Option.bind_some, ht k hk]
  generalize hJ : (fun zv2 zwR_0 zwR_1 zwR_2 zwR_3 zwR_4 zwR_5 zwR_6 zwR_7 zwR_8 zwR_9 => f_X3_read_l6 n1 r1 fuel zv2 zwR_0 zwR_1 zwR_2 zwR_3 zwR_4 zwR_5 zwR_6 zwR_7 zwR_8 zwR_9) = J
  have hJ' : ∀ v0 v1 v2 v3 v4 v5 v6 v7 v8 v9, J (nI (k + 1)) v0 v1 v2 v3 v4 v5 v6 v7 v8 v9 = f_X3_read_l6 n1 r1 fuel (nI (k + 1)) v0 v1 v2 v3 v4 v5 v6 v7 v8 v9 := by
    intro v0 v1 v2 v3 v4 v5 v6 v7 v8 v9
    rw [← hJ]
  cases hb : bk t k with
  | true =>
    have m0 : nb t k = false := by unfold nb; rw [hb]; rfl
    have n2 : we N t k = false := by cases hz : we N t k with | false => rfl | true => rw [(we_iff.mp hz).1] at hb; cases hb
    have n3 : sl t k = false := by cases hz : sl t k with | false => rfl | true => rw [sl_bk hz] at hb; cases hb
    have n4 : pl N t k = false := by unfold pl; rw [n2, n3]; rfl
    have n5 : pq t k = false := by unfold pq; rw [hb]; rfl
    rw [if_pos (of_decide_eq_true hb), f_X3_read_l87, nI_1, hJ']
    refine ⟨_, _, _, _, _, _, _, _, _, _, rfl, ⟨by rw [ct_n m0]; exact h0.1, fil_n h0.2 m0⟩, ⟨by rw [ct_n n2]; exact h1.1, fil_n h1.2 n2⟩, ⟨by rw [ct_n n5]; exact h2.1, fil_n h2.2 n5⟩, ⟨by rw [ct_n n2]; exact h3.1, fil_n h3.2 n2⟩, ⟨by rw [ct_n n2]; exact h4.1, fil_n h4.2 n2⟩, by rw [ct_n n2]; exact h5, by rw [ct_n n2]; exact h6, ⟨by rw [ct_n n4]; exact h7.1, fil_n h7.2 n4⟩, ⟨by rw [ct_n n4]; exact h8.1, fil_n h8.2 n4⟩, ⟨by rw [ct_n n4]; exact h9.1, fil_n h9.2 n4⟩⟩
  | false =>
    have m0 : nb t k = true := by unfold nb; rw [hb]; rfl
    rw [if_neg (of_decide_eq_false hb), rg_add h0.1 (by omega) (by omega), Option.bind_some]
    have h0' : ((nI (ct (nb t) k + 1), upd w0.2 (ct (nb t) k) (t k)) : hm_SR).1 = nI (ct (nb t) (k + 1)) ∧ fil (nb t) t (k + 1) ((nI (ct (nb t) k + 1), upd w0.2 (ct (nb t) k) (t k)) : hm_SR).2 := ⟨by rw [ct_y m0], fil_y h0.2 m0 rfl⟩
    cases hs : sl t k with
    | true =>
      have n2 := sl_nwe hok hk hs
      have n4 : pl N t k = true := by unfold pl; rw [hs]; rfl
      have n5 : pq t k = false := by unfold pq; rw [hs, hb]; rfl
      have hpt := ct_lt_N n4 hk
      have hst := cl_start (N := N) (t := t) (k := k) (by omega) hW h3 (Nat.le_refl _)
      rw [← pst_ps (by omega)] at hst
      rw [if_pos (of_decide_eq_true hs), cl_addp (x := 1) h1.1 h2.1 hst (pst_le (by omega)) h7.1 h8.1 h9.1 (by omega), Option.bind_some, f_X3_read_l87, nI_1, hJ']
      refine ⟨_, _, _, _, _, _, _, _, _, _, rfl, h0', ⟨by rw [ct_n n2]; exact h1.1, fil_n h1.2 n2⟩, ⟨by rw [ct_n n5]; exact h2.1, fil_n h2.2 n5⟩, ⟨by rw [ct_n n2]; exact h3.1, fil_n h3.2 n2⟩, ⟨by rw [ct_n n2]; exact h4.1, fil_n h4.2 n2⟩, by rw [ct_n n2]; exact h5, by rw [ct_n n2]; exact h6, ⟨by rw [ct_y n4], fil_y h7.2 n4 rfl⟩, ⟨by rw [ct_y n4], fil_y h8.2 n4 (by rw [if_pos hs])⟩, ⟨by rw [ct_y n4], fil_y h9.2 n4 (by rw [if_pos hs])⟩⟩
    | false =>
      have n5 : pq t k = true := pq_iff.mpr ⟨hb, hs⟩
      have h2' : ((nI (ct (pq t) k + 1), upd w2.2 (ct (pq t) k) (t k)) : hm_SR).1 = nI (ct (pq t) (k + 1)) ∧ fil (pq t) t (k + 1) ((nI (ct (pq t) k + 1), upd w2.2 (ct (pq t) k) (t k)) : hm_SR).2 := ⟨by rw [ct_y n5], fil_y h2.2 n5 rfl⟩
      rw [if_neg (of_decide_eq_false hs), rg_add h2.1 (by omega) (by omega), Option.bind_some, Option.bind_some, nI_1]
      have done : we N t k = true → ∃ v0 v1 v2 v3 v4 v5 v6 v7 v8 v9 : hm_SR, f_X3_read_l83 J (nI k) (nI (ct (nb t) k + 1), upd w0.2 (ct (nb t) k) (t k)) w1 (nI (ct (pq t) k + 1), upd w2.2 (ct (pq t) k) (t k)) w3 w4 w5 w6 w7 w8 w9 = f_X3_read_l6 n1 r1 fuel (nI (k + 1)) v0 v1 v2 v3 v4 v5 v6 v7 v8 v9 ∧ sr_k N t (k + 1) v0 v1 v2 v3 v4 v5 v6 v7 v8 v9 := by
        intro hw
        obtain ⟨v1, v3, v4, v5, v6, v7, v8, v9, e, hsr⟩ := cl_endw hok hk hw hs h0' h1 h2' h3 h4 h5 h6 h7 h8 h9
        rw [f_X3_read_l83, e, Option.bind_some, f_X3_read_l87, nI_1, hJ']
        exact ⟨_, _, _, _, _, _, _, _, _, _, rfl, hsr⟩
      by_cases hl : N ≤ k + 1
      · rw [if_pos (by rw [nI_lei (by omega) (by omega)]; exact hl)]
        exact done (we_iff.mpr ⟨hb, Or.inl (by omega)⟩)
      · rw [if_neg (by rw [nI_lei (by omega) (by omega)]; exact hl), rg_in hr (by omega) hn hn1, Option.bind_some, ht _ (by omega)]
        cases hb2 : bk t (k + 1) with
        | true =>
          rw [if_pos (of_decide_eq_true hb2)]
          exact done (we_iff.mpr ⟨hb, Or.inr hb2⟩)
        | false =>
          have n2 : we N t k = false := by
            cases hz : we N t k with
            | false => rfl
            | true =>
              rcases (we_iff.mp hz).2 with z | z
              · omega
              · rw [hb2] at z; cases z
          have n4 : pl N t k = false := by unfold pl; rw [n2, hs]; rfl
          rw [if_neg (of_decide_eq_false hb2), f_X3_read_l87, nI_1, hJ']
          refine ⟨_, _, _, _, _, _, _, _, _, _, rfl, h0', ⟨by rw [ct_n n2]; exact h1.1, fil_n h1.2 n2⟩, h2', ⟨by rw [ct_n n2]; exact h3.1, fil_n h3.2 n2⟩, ⟨by rw [ct_n n2]; exact h4.1, fil_n h4.2 n2⟩, by rw [ct_n n2]; exact h5, by rw [ct_n n2]; exact h6, ⟨by rw [ct_n n4]; exact h7.1, fil_n h7.2 n4⟩, ⟨by rw [ct_n n4]; exact h8.1, fil_n h8.2 n4⟩, ⟨by rw [ct_n n4]; exact h9.1, fil_n h9.2 n4⟩⟩
theorem sr_read (hok : tx_ok N t) {n1 : Nat} {r1 : hm_SR} (hr : r1.1 = nI N) (hn : N ≤ n1) (hn1 : n1 < 2147483648) (ht : ∀ j, j < N → r1.2 j = t j) (w0 w1 w2 w3 w4 w5 w6 w7 w8 w9 : hm_SR) : ∃ v0 v1 v2 v3 v4 v5 v6 v7 v8 v9 : hm_SR, f_X3_read w0 w1 w2 w3 w4 w5 w6 w7 w8 w9 n1 r1 = some (v0, v1, v2, v3, v4, v5, v6, v7, v8, v9) ∧ sr_k N t N v0 v1 v2 v3 v4 v5 v6 v7 v8 v9 := by
  have hN := hok.1
  have key : ∀ (d k fuel : Nat), N = k + d → d < fuel → ∀ (w0 w1 w2 w3 w4 w5 w6 w7 w8 w9 : hm_SR), sr_k N t k w0 w1 w2 w3 w4 w5 w6 w7 w8 w9 → ∃ v0 v1 v2 v3 v4 v5 v6 v7 v8 v9 : hm_SR, f_X3_read_l6 n1 r1 fuel (nI k) w0 w1 w2 w3 w4 w5 w6 w7 w8 w9 = some (v0, v1, v2, v3, v4, v5, v6, v7, v8, v9) ∧ sr_k N t N v0 v1 v2 v3 v4 v5 v6 v7 v8 v9 := by
    intro d
    induction d with
    | zero =>
      intro k fuel hk hf w0 w1 w2 w3 w4 w5 w6 w7 w8 w9 h
      obtain ⟨fuel, rfl⟩ : ∃ z, fuel = z + 1 := ⟨fuel - 1, by omega⟩
      rw [f_X3_read_l6_s, rg_size, Option.bind_some, hr, if_pos (by rw [nI_lei (by omega) (by omega)]; omega)]
      have e : k = N := by omega
      rw [e] at h
      exact ⟨_, _, _, _, _, _, _, _, _, _, rfl, h⟩
    | succ d ih =>
      intro k fuel hk hf w0 w1 w2 w3 w4 w5 w6 w7 w8 w9 h
      obtain ⟨fuel, rfl⟩ : ∃ z, fuel = z + 1 := ⟨fuel - 1, by omega⟩
      obtain ⟨v0, v1, v2, v3, v4, v5, v6, v7, v8, v9, e, h2⟩ := sr_step (fuel := fuel) hok hr hn hn1 ht (k := k) (by omega) h
      rw [e]
      exact ih (k + 1) fuel (by omega) (by omega) _ _ _ _ _ _ _ _ _ _ h2
  have z : ∀ {p : Nat → Bool}, (0 : Int32) = nI (ct p 0) := rfl
  refine key N 0 hm_fu (by omega) (by unfold hm_fu; omega) (0, w0.2) (0, w1.2) (0, w2.2) (0, w3.2) (0, w4.2) (0, w5.2) (0, w6.2) (0, w7.2) (0, w8.2) (0, w9.2) ?_
  exact ⟨⟨z, fil_0⟩, ⟨z, fil_0⟩, ⟨z, fil_0⟩, ⟨z, fil_0⟩, ⟨z, fil_0⟩, ⟨z, fun w h => by simp [ct] at h⟩, ⟨rfl, fil_0⟩, ⟨z, fil_0⟩, ⟨z, fil_0⟩, ⟨z, fil_0⟩⟩
end RDL
