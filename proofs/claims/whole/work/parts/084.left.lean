/-- the place ahead of a line: one less than f -/
def fr (f : Nat) : Int32 := zI ((f : Int) - 1)
theorem fr_0 : fr 0 = -1 := rfl
theorem fr_s (p : Nat) : fr (p + 1) = nI p := by
  unfold fr
  rw [zI_nat]
  congr 1
  omega
theorem fr_1 (f : Nat) : fr f + 1 = nI f := by
  unfold fr
  rw [zl_1, zI_add, zI_nat]
  congr 1
  omega
theorem fr_neg : fr 0 < 0 := by decide
theorem fr_pos {p : Nat} (h : p < 2147483648) : ¬ fr (p + 1) < 0 := by rw [fr_s]; exact nI_pos (by omega)
theorem fr_nle : ¬ (0 : Int32) ≤ fr 0 := by decide
theorem fr_le {p : Nat} (h : p < 2147483648) : (0 : Int32) ≤ fr (p + 1) := by rw [fr_s]; exact nI_pos' (by omega)
theorem n01 : ¬ (0 : Int32) = 1 := by decide
theorem n11 : (1 : Int32) = 1 := rfl
theorem bq_t : (if true = true then (1 : Int32) else 0) = 1 := rfl
theorem bq_f : (if false = true then (1 : Int32) else 0) = 0 := rfl
/-- the word that a line begins in -/
def fwd (N : Nat) (t : Nat → Int32) (f : Nat) : Nat := if f = 0 then 0 else if sP N t (f - 1) = true then wP N t (f - 1) else wP N t (f - 1) + 1
theorem b1_ne {b : Bool} (h : b = true) : (if b = true then (1 : Int32) else 0) = 1 := by rw [if_pos h]
section LFT
variable {N : Nat} {t : Nat → Int32} {v : Nat → Nat}
section LFM
variable {a1 a2 a3 a4 a5 a6 A7 W14 : Nat → Int32} {z2 z3 : Int32}
theorem md_fw (hok : tx_ok N t) (h : mw_k N t N a1 a2 a3 a4 a5 a6 z2 z3) {f : Nat} (hf : f ≤ nP N t) : f_X8_firstWord a4 a6 (fr f) = some (nI (fwd N t f)) := by
  have hP := pl_100 hok
  unfold nP at hf
  cases f with
  | zero => rw [f_X8_firstWord, if_neg fr_nle]; rfl
  | succ p =>
    obtain ⟨e4, e5, e6⟩ := md_pw h (p := p) (by unfold nP; omega)
    rw [f_X8_firstWord, if_pos (fr_le (by omega)), fr_s, rd_in (by omega) (by omega), Option.bind_some, e6, rd_in (by omega) (by omega), Option.bind_some, e4]
    unfold fwd
    rw [if_neg (show ¬ p + 1 = 0 by omega), Nat.add_sub_cancel]
    cases hs : sP N t p with
    | true => rw [bq_t, if_neg n10, if_pos rfl]; rfl
    | false => rw [bq_f, if_pos n00, if_neg (by decide), nI_1]
/-- where the first letter of a line lies, by what is ahead of it -/
theorem md_fl (hok : tx_ok N t) (h : mw_k N t N a1 a2 a3 a4 a5 a6 z2 z3) {f : Nat} (hf : f < nP N t) : ∃ L : Nat, f_X8_firstLetter a2 a4 a5 a6 (fr f) = some (nI L) ∧ L ≤ N ∧ (∀ v : Nat → Nat, wsm v t L + v 34 * fwd N t f = bP N t v f) ∧ (∀ w, w < nW N t → (L = sw N t w ↔ ((f = 0 ∧ w = 0) ∨ (0 < f ∧ sP N t (f - 1) = false ∧ w = wP N t (f - 1) + 1)))) ∧ fwd N t f < nW N t ∧ L ≤ ew N t (fwd N t f) ∧ sw N t (fwd N t f) ≤ L := by
  have hP := pl_100 hok
  have hN := hok.1
  have hW : nW N t ≤ 30 := by unfold nW; rw [← ct_words]; exact hok.2.2
  have hf' := hf
  unfold nP at hf'
  have swi : ∀ w w', w < nW N t → w' < nW N t → sw N t w = sw N t w' → w = w' := by
    intro w w' h1 h2 e
    have g1 := (sw_sp h1).2.2.1
    have g2 := (sw_sp h2).2.2.1
    rw [e] at g1
    omega
  cases f with
  | zero =>
    have hw0 : 0 < nW N t := by have := wP_lt (N := N) (t := t) (p := 0) hf; omega
    have e2 := (md_se h hw0).1
    have hs := (sw_sp hw0).1
    refine ⟨sw N t 0, ?_, by omega, fun v => ?_, fun w hw => ⟨fun e => Or.inl ⟨rfl, (swi 0 w hw0 hw e).symm⟩, fun e => ?_⟩, hw0, sw_le_ew hw0, Nat.le_refl _⟩
    · rw [f_X8_firstLetter, if_pos fr_neg, f_X8_firstLetter_l24, md_fw hok h (by omega), Option.bind_some]
      show (hm_rd 30 a2 (nI 0)).bind _ = _
      rw [rd_in (by omega) (by omega), Option.bind_some, e2]
    · rw [wsm_blank (v := v) (Nat.zero_le _) (fun j _ q => blank_first hw0 q)]
      rfl
    · rcases e with e | e
      · rw [e.2]
      · omega
  | succ p =>
    obtain ⟨e4, e5, e6⟩ := md_pw h (p := p) (by omega)
    obtain ⟨l1, l2, l3⟩ := lp_sp (N := N) (t := t) (p := p) (by omega)
    have hbp : ∀ v : Nat → Nat, bP N t v (p + 1) = xb N t v (lp N t p) := by
      intro v
      unfold bP
      rw [if_neg (by omega), Nat.add_sub_cancel]
    have hfwd : fwd N t (p + 1) = if sP N t p = true then wP N t p else wP N t p + 1 := by
      unfold fwd
      rw [if_neg (by omega), Nat.add_sub_cancel]
    rw [Nat.add_sub_cancel, hfwd]
    by_cases hs : sP N t p = true
    · have hs' : sl t (lp N t p) = true := hs
      obtain ⟨q1, q2, q3, q4⟩ := ok_sl hok l1 hs'
      have how := of_word q2 (pn_bk q4).1
      have hnw : ct (we N t) (lp N t p + 1) = wP N t p := by rw [ct_n (sl_nwe hok l1 hs')]; rfl
      rw [hnw] at how
      rw [if_pos hs] at e5 e6 ⊢
      refine ⟨lp N t p + 1, ?_, by omega, fun v => ?_, fun w hw => ⟨fun e => ?_, fun e => ?_⟩, how.1, how.2.2, how.2.1⟩
      · rw [f_X8_firstLetter, if_neg (fr_pos (by omega)), fr_s, rd_in (by omega) (by omega), Option.bind_some, e6, if_neg n10, rd_in (by omega) (by omega), Option.bind_some, e5, nI_1]
      · rw [hbp]
        unfold xb
        rw [if_pos hs', wsm, wdt_sl hs', Nat.add_zero]
        rfl
      · exfalso
        have hb := (wb_iff2.mp (sw_sp hw).2.2.2.1).2
        rw [← e] at hb
        rcases hb with z | z
        · omega
        · rw [Nat.add_sub_cancel, sl_bk hs'] at z; cases z
      · rcases e with e | e
        · omega
        · rw [e.2.1] at hs; cases hs
    · have hsf : sP N t p = false := by cases hz : sP N t p with | true => exact absurd hz hs | false => rfl
      have hs' : ¬ sl t (lp N t p) = true := hs
      rw [if_neg hs] at e5 e6 ⊢
      have hwn := wP_next (N := N) (t := t) (show p < p + 1 by omega) hf hsf
      have hwl := wP_lt hf
      have hw1 : wP N t p + 1 < nW N t := by omega
      have e2 := (md_se h hw1).1
      have hsn := (sw_sp hw1).1
      have hee : lp N t p = ew N t (wP N t p) := by
        have hw := lp_we (show p < nP N t by omega) hsf
        have h2 := ew_sp (N := N) (t := t) (w := wP N t p) (by omega)
        exact ct_inj hw h2.2.2.2 (by rw [h2.2.2.1]; rfl)
      have hlt := ew_lt_sw (N := N) (t := t) hw1
      refine ⟨sw N t (wP N t p + 1), ?_, by omega, fun v => ?_, fun w hw => ⟨fun e => Or.inr ⟨by omega, hsf, (swi _ w hw1 hw e).symm⟩, fun e => ?_⟩, hw1, sw_le_ew hw1, Nat.le_refl _⟩
      · rw [f_X8_firstLetter, if_neg (fr_pos (by omega)), fr_s, rd_in (by omega) (by omega), Option.bind_some, e6, if_pos n00, f_X8_firstLetter_l24, ← fr_s, md_fw hok h (by omega), Option.bind_some, hfwd, if_neg hs, rd_in (by omega) (by omega), Option.bind_some, e2]
      · rw [hbp]
        unfold xb
        rw [if_neg hs', hee, wsm_blank (v := v) (show ew N t (wP N t p) + 1 ≤ sw N t (wP N t p + 1) by omega) (fun j q1 q2 => blank_gap hw1 (by omega) q2), ← hee]
        rfl
      · rcases e with e | e
        · omega
        · rw [e.2.2]
theorem md_natural (hok : tx_ok N t) (hv : sv_ok v) (hA : sv_at A7 v) (h : mw_k N t N a1 a2 a3 a4 a5 a6 z2 z3) (hw : ∀ j, j ≤ N → W14 j = nI (wsm v t j)) {f to : Nat} (hft : f ≤ to) (hto : to < nP N t) : f_X8_natural a2 a4 a5 a6 A7 W14 (fr f) (nI to) = some (zI ((eP N t v to : Int) - bP N t v f)) := by
  have hP := pl_100 hok
  have hN := hok.1
  have hto' := hto
  unfold nP at hto'
  obtain ⟨e4, e5, e6⟩ := md_pw h hto
  obtain ⟨l1, l2, l3⟩ := lp_sp hto
  obtain ⟨L, g1, g2, g3, -, -⟩ := md_fl hok h (f := f) (by omega)
  have g3 := g3 v
  have hlt : (if sP N t to = true then lp N t to else lp N t to + 1) ≤ N := by split <;> omega
  rw [f_X8_natural, rd_in (by omega) (by omega), Option.bind_some, md_fw hok h (by omega), Option.bind_some, rd_in (by omega) (by omega), Option.bind_some, e5, rd_in (by omega) (by omega), Option.bind_some, g1, Option.bind_some, rd_in (by omega) (by omega), Option.bind_some, nl_34, rd_in (by omega) (by omega), Option.bind_some, rd_in (by omega) (by omega), Option.bind_some, e6, e4, hw _ hlt, hw _ g2, hA 34 (by omega)]
  generalize fwd N t f = fw at g3
  cases hs : sP N t to with
  | true =>
    rw [bq_t, if_neg n10, if_pos rfl, nl_28, rd_in (by omega) (by omega), Option.bind_some, hA 28 (by omega)]
    congr 1
    simp only [zI_nat, zI_add, zI_sub, zI_mul]
    congr 1
    have he : eP N t v to = wsm v t (lp N t to) + v 34 * wP N t to + v 28 := by unfold eP xe; rw [if_pos (show sl t (lp N t to) = true from hs)]; rfl
    rw [← g3, he, Int.mul_sub]
    push_cast
    omega
  | false =>
    rw [bq_f, if_pos n00, if_neg (by decide)]
    congr 1
    rw [zl_0]
    simp only [zI_nat, zI_add, zI_sub, zI_mul]
    congr 1
    have he : eP N t v to = wsm v t (lp N t to + 1) + v 34 * wP N t to := by unfold eP xe; rw [if_neg (by unfold sP at hs; rw [hs]; decide)]; rfl
    rw [← g3, he, Int.mul_sub]
    push_cast
    omega
theorem md_hung (hok : tx_ok N t) (hv : sv_ok v) (hA : sv_at A7 v) (h : mw_k N t N a1 a2 a3 a4 a5 a6 z2 z3) {to : Nat} (hto : to < nP N t) : f_X8_hung a1 a5 a6 A7 (nI to) = some (nI (hP N t v to)) := by
  have hP100 := pl_100 hok
  have hN := hok.1
  have hto' := hto
  unfold nP at hto'
  obtain ⟨e4, e5, e6⟩ := md_pw h hto
  obtain ⟨l1, l2, l3⟩ := lp_sp hto
  have l29 : ∀ m : Nat, m < 4 → f_X8_hung_l29 A7 (nI m) = some (nI (v (26 + m) * v (30 + m) / 10)) := by
    intro m hm
    have h1 := hv.1 (26 + m) (by omega)
    have h2 := hv.2.1 (30 + m) (by omega)
    have h3 := Nat.mul_le_mul h1 h2
    rw [f_X8_hung_l29, if_neg (by rw [zI_nat, zl_9, zI_neg, zI_eq (by omega) (by omega) (by omega) (by omega)]; omega), nl_26, nl_30, nI_add, nI_add, rd_in (by omega) (by omega), Option.bind_some, rd_in (by omega) (by omega), Option.bind_some, hA _ (by omega), hA _ (by omega), pk_mul, hm_dv, if_neg (by decide), nl_10, pk_div (by omega) (by omega) (by omega), Option.bind_some]
  rw [f_X8_hung, rd_in (by omega) (by omega), Option.bind_some, e6]
  unfold hP xh
  cases hs : sP N t to with
  | true =>
    have hs' : sl t (lp N t to) = true := hs
    rw [bq_t, if_neg n10, if_pos hs']
    exact l29 2 (by omega)
  | false =>
    have hs' : ¬ sl t (lp N t to) = true := by unfold sP at hs; rw [hs]; decide
    rw [hs, if_neg (by decide)] at e5
    rw [bq_f, if_pos n00, if_neg hs', rd_in (by omega) (by omega), Option.bind_some, e5, nI_pred, rd_in (by omega) (by omega), Option.bind_some, h.1 _ l1, md_mark, Option.bind_some]
    unfold hgt
    cases hm : sg_mark (t (lp N t to)) with
    | none => rfl
    | some m => exact l29 m (sg_mark_lt hm)
theorem md_left (hok : tx_ok N t) (hv : sv_ok v) (hA : sv_at A7 v) (h : mw_k N t N a1 a2 a3 a4 a5 a6 z2 z3) (hw : ∀ j, j ≤ N → W14 j = nI (wsm v t j)) {f to ms : Nat} (hft : f ≤ to) (hto : to < nP N t) : f_X8_left a1 a2 a4 a5 a6 A7 W14 (fr f) (nI to) (nI ms) = some (zI (lf N t v ms f to)) := by
  rw [f_X8_left, md_hung hok hv hA h hto, Option.bind_some, md_natural hok hv hA h hw hft hto, Option.bind_some]
  simp only [zI_nat, zI_add, zI_sub]
  congr 2
  unfold lf
  omega
theorem md_cost (hok : tx_ok N t) (hv : sv_ok v) (hA : sv_at A7 v) (h : mw_k N t N a1 a2 a3 a4 a5 a6 z2 z3) {f to l : Nat} (hft : f ≤ to) (hto : to < nP N t) (hl : l ≤ 209) : f_X8_costOf a6 A7 (nI (nP N t)) (fr f) (nI to) (nI l) = some (nI (cst N t v f to l)) := by
  have hP100 := pl_100 hok
  have hto' := hto
  have hP' : nP N t ≤ 100 := hP100
  unfold nP at hto'
  obtain ⟨-, -, e6⟩ := md_pw h hto
  have h36 := hv.2.2.2.2.2.2.1
  have h37 := hv.2.2.2.2.2.2.2
  have hll : l * l ≤ 209 * 209 := Nat.mul_le_mul hl hl
  -- behind the square
  have l17 : ∀ s : Nat, s ≤ 209 * 209 → f_X8_costOf_l17 a6 A7 (fr f) (nI to) (nI s) = some (nI (s + (if sP N t to = true then v 36 + (if 0 < f ∧ sP N t (f - 1) = true then v 37 else 0) else 0))) := by
    intro s hs
    rw [f_X8_costOf_l17, rd_in (by omega) (by omega), Option.bind_some, e6]
    cases hsp : sP N t to with
    | false =>
      rw [bq_f, if_pos n00, f_X8_costOf_l41, rd_in (by omega) (by omega), Option.bind_some, e6, hsp, bq_f, if_pos n00, nl_0, nI_add, nI_add, if_neg (by decide)]
    | true =>
      rw [bq_t, if_neg n10, nl_36, rd_in (by omega) (by omega), Option.bind_some, hA 36 (by omega), f_X8_costOf_l41, rd_in (by omega) (by omega), Option.bind_some, e6, hsp, bq_t, if_neg n10, if_pos rfl, nI_add]
      cases f with
      | zero =>
        rw [if_pos fr_neg, if_neg (fun z => by omega), nl_0, nI_add]
        rfl
      | succ p =>
        obtain ⟨-, -, e6p⟩ := md_pw h (p := p) (by omega)
        rw [if_neg (fr_pos (by omega)), fr_s, rd_in (by omega) (by omega), Option.bind_some, e6p, Nat.add_sub_cancel]
        cases hsq : sP N t p with
        | false =>
          rw [bq_f, if_pos n00, if_neg (fun z => by exact absurd z.2 (by decide)), nl_0, nI_add]
          rfl
        | true =>
          rw [bq_t, if_neg n10, nl_37, rd_in (by omega) (by omega), Option.bind_some, hA 37 (by omega), if_pos ⟨by omega, rfl⟩, nI_add, Nat.add_assoc]
  rw [f_X8_costOf, nI_m1 (by omega)]
  unfold cst
  by_cases hlast : to + 1 = nP N t
  · rw [if_pos (by rw [← hlast]; rfl), if_pos hlast]
    have h0 := l17 0 (by omega)
    rw [sP_last hok hlast, if_neg (by decide)] at h0
    exact h0
  · rw [if_neg (by rw [nI_eqi (by omega) (by omega)]; omega), if_neg hlast, pk_mul]
    exact l17 (l * l) hll
end LFM
section LFC
variable {r0 r1 r2 r3 r4 : hm_SR}
theorem ln_at (h : ln_k N t v N r0 r1 r2 r3 r4) {p : Nat} (hp : p < nP N t) : r0.2 p = nI (eP N t v p) ∧ r1.2 p = nI (hP N t v p) ∧ r2.2 p = (if sP N t p = true then 1 else 0) ∧ r3.2 p = nI (wP N t p) ∧ r4.2 (p + 1) = nI (bP N t v (p + 1)) := by
  obtain ⟨h0, h1, h2, h3, h4⟩ := h
  refine ⟨fil_nth h0.2 hp (Nat.le_refl N), fil_nth h1.2 hp (Nat.le_refl N), fil_nth h2.2 hp (Nat.le_refl N), fil_nth h3.2 hp (Nat.le_refl N), ?_⟩
  have := fil_nth h4.2.2 hp (Nat.le_refl N)
  unfold bP
  rw [if_neg (by omega), Nat.add_sub_cancel]
  exact this
theorem cl_beg (hok : tx_ok N t) (h : ln_k N t v N r0 r1 r2 r3 r4) {f : Nat} (hf : f ≤ nP N t) : f_X2_get 101 r4 (nI f) = some (nI (bP N t v f)) := by
  have hP : nP N t ≤ 100 := pl_100 hok
  rw [rg_in h.2.2.2.2.1 (by unfold nP at hf; omega) (by unfold nP at hP; omega) (by omega)]
  cases f with
  | zero => rw [h.2.2.2.2.2.1]; rfl
  | succ p => rw [(ln_at h (by omega)).2.2.2.2]
theorem cl_g0 (hok : tx_ok N t) (h : ln_k N t v N r0 r1 r2 r3 r4) {p : Nat} (hp : p < nP N t) : f_X2_get 100 r0 (nI p) = some (nI (eP N t v p)) ∧ f_X2_get 100 r1 (nI p) = some (nI (hP N t v p)) ∧ f_X2_get 100 r2 (nI p) = some (if sP N t p = true then 1 else 0) ∧ f_X2_get 100 r3 (nI p) = some (nI (wP N t p)) := by
  have hP : nP N t ≤ 100 := pl_100 hok
  obtain ⟨e0, e1, e2, e3, -⟩ := ln_at h hp
  have hp' : p < ct (pl N t) N := hp
  have hP' : ct (pl N t) N ≤ 100 := hP
  rw [rg_in h.1.1 hp' hP' (by omega), rg_in h.2.1.1 hp' hP' (by omega), rg_in h.2.2.1.1 hp' hP' (by omega), rg_in h.2.2.2.1.1 hp' hP' (by omega), e0, e1, e2, e3]
  exact ⟨rfl, rfl, rfl, rfl⟩
theorem cl_leftBy (hok : tx_ok N t) (h : ln_k N t v N r0 r1 r2 r3 r4) {f to ms : Nat} (hft : f ≤ to) (hto : to < nP N t) : f_X1_leftBy r0 r1 r4 (nI ms) (fr f) (nI to) = some (zI (lf N t v ms f to)) := by
  obtain ⟨e0, e1, e2, e3⟩ := cl_g0 hok h hto
  rw [f_X1_leftBy, e1, Option.bind_some, e0, Option.bind_some, fr_1, cl_beg hok h (by omega), Option.bind_some]
  simp only [zI_nat, zI_add, zI_sub]
  rfl
theorem cl_natural (hok : tx_ok N t) (h : ln_k N t v N r0 r1 r2 r3 r4) {f to : Nat} (hft : f ≤ to) (hto : to < nP N t) : f_X1_natural r0 r4 (fr f) (nI to) = some (zI ((eP N t v to : Int) - bP N t v f)) := by
  obtain ⟨e0, e1, e2, e3⟩ := cl_g0 hok h hto
  rw [f_X1_natural, e0, Option.bind_some, fr_1, cl_beg hok h (by omega), Option.bind_some]
  simp only [zI_nat, zI_sub]
theorem cl_costBy (hok : tx_ok N t) (hv : sv_ok v) (h : ln_k N t v N r0 r1 r2 r3 r4) {f to l : Nat} (hft : f ≤ to) (hto : to < nP N t) (hl : l ≤ 209) : f_X1_costBy r0 r2 (nI (v 36)) (nI (v 37)) (nI l) (fr f) (nI to) = some (nI (cst N t v f to l)) := by
  have hP : nP N t ≤ 100 := pl_100 hok
  obtain ⟨e0, e1, e2, e3⟩ := cl_g0 hok h hto
  have h36 := hv.2.2.2.2.2.2.1
  have h37 := hv.2.2.2.2.2.2.2
  have hll : l * l ≤ 209 * 209 := Nat.mul_le_mul hl hl
  have hsz : r0.1 = nI (nP N t) := h.1.1
  rw [f_X1_costBy, rg_size, Option.bind_some, hsz, nI_m1 (by omega)]
  unfold cst
  by_cases hlast : to + 1 = nP N t
  · rw [if_pos (by rw [← hlast]; rfl), if_pos hlast]
    rfl
  · rw [if_neg (by rw [nI_eqi (by omega) (by omega)]; omega), if_neg hlast, e2, Option.bind_some, pk_mul]
    cases hs : sP N t to with
    | false => rw [bq_f, if_neg n01, if_neg (by decide), Nat.add_zero]
    | true =>
      rw [bq_t, if_pos n11, if_pos rfl]
      cases f with
      | zero => rw [if_pos fr_neg, if_neg (fun z => by omega), nl_0, nI_add, nI_add]
      | succ p =>
        rw [if_neg (fr_pos (by omega)), fr_s, (cl_g0 hok h (show p < nP N t by omega)).2.2.1, Option.bind_some, Nat.add_sub_cancel]
        cases hsq : sP N t p with
        | false =>
          rw [bq_f, if_neg n01, if_neg (fun z => by exact absurd z.2 (by decide)), nl_0, nI_add, nI_add]
        | true =>
          rw [bq_t, if_pos n11, if_pos ⟨by omega, rfl⟩, nI_add, nI_add]
end LFC
end LFT
