/-! pure: LENGTHS of lines: by the place's letter -/
def lp (N : Nat) (t : Nat → Int32) (p : Nat) : Nat := nth (pl N t) N p
/-- of a letter that a place is at: where a line ends there, where one begins behind it, how much it hangs -/
def xe (N : Nat) (t : Nat → Int32) (v : Nat → Nat) (j : Nat) : Nat := if sl t j = true then wsm v t j + v 34 * ct (we N t) j + v 28 else wsm v t (j + 1) + v 34 * ct (we N t) j
def xb (N : Nat) (t : Nat → Int32) (v : Nat → Nat) (j : Nat) : Nat := if sl t j = true then wsm v t j + v 34 * ct (we N t) j else wsm v t (j + 1) + v 34 * (ct (we N t) j + 1)
def xh (t : Nat → Int32) (v : Nat → Nat) (j : Nat) : Nat := if sl t j = true then v 28 * v 32 / 10 else hgt v (t j)
def ln_k (N : Nat) (t : Nat → Int32) (v : Nat → Nat) (k : Nat) (r0 r1 r2 r3 r4 : hm_SR) : Prop :=
  (r0.1 = nI (ct (pl N t) k) ∧ fil (pl N t) (fun j => nI (xe N t v j)) k r0.2) ∧ (r1.1 = nI (ct (pl N t) k) ∧ fil (pl N t) (fun j => nI (xh t v j)) k r1.2) ∧ (r2.1 = nI (ct (pl N t) k) ∧ fil (pl N t) (fun j => if sl t j = true then 1 else 0) k r2.2) ∧ (r3.1 = nI (ct (pl N t) k) ∧ fil (pl N t) (fun j => nI (ct (we N t) j)) k r3.2) ∧ (r4.1 = nI (ct (pl N t) k + 1) ∧ r4.2 0 = 0 ∧ fil (pl N t) (fun j => nI (xb N t v j)) k (fun i => r4.2 (i + 1)))
theorem fil_s {p : Nat → Bool} {val f : Nat → Int32} {k : Nat} {x : Int32} (h : fil p val k (fun i => f (i + 1))) (hp : p k = true) (hx : x = val k) : fil p val (k + 1) (fun i => upd f (ct p k + 1) x (i + 1)) := by
  intro j hj hpj
  by_cases e : j = k
  · rw [e]
    show upd f (ct p k + 1) x (ct p k + 1) = _
    rw [ud_s, hx]
  · have := ct_lt (p := p) (show j < k by omega) hpj
    show upd f (ct p k + 1) x (ct p j + 1) = _
    rw [ud_n (by omega)]
    exact h j (by omega) hpj
section LNG
variable {N : Nat} {t : Nat → Int32} {v : Nat → Nat} {f : Nat → Int32}
theorem ln_add (hok : tx_ok N t) {k : Nat} (hk : k < N) (hp : pl N t k = true) {r0 r1 r2 r3 r4 : hm_SR} (h : ln_k N t v k r0 r1 r2 r3 r4) {x0 x1 x2 x3 x4 : Int32} (e0 : x0 = nI (ct (we N t) k)) (e1 : x1 = if sl t k = true then 1 else 0) (e2 : x2 = nI (xe N t v k)) (e3 : x3 = nI (xh t v k)) (e4 : x4 = nI (xb N t v k)) : ∃ s0 s1 s2 s3 s4 : hm_SR, f_X1_addPlace r0 r1 r2 r3 r4 x0 x1 x2 x3 x4 = some (s0, s1, s2, s3, s4) ∧ ln_k N t v (k + 1) s0 s1 s2 s3 s4 := by
  obtain ⟨h0, h1, h2, h3, h4⟩ := h
  have hP := pl_100 hok
  have hlt := ct_lt_N hp hk
  rw [f_X1_addPlace, rg_add h3.1 (by omega) (by omega), Option.bind_some, rg_add h2.1 (by omega) (by omega), Option.bind_some, rg_add h0.1 (by omega) (by omega), Option.bind_some, rg_add h1.1 (by omega) (by omega), Option.bind_some, rg_add h4.1 (by omega) (by omega), Option.bind_some]
  refine ⟨_, _, _, _, _, rfl, ⟨by rw [ct_y hp], fil_y h0.2 hp e2⟩, ⟨by rw [ct_y hp], fil_y h1.2 hp e3⟩, ⟨by rw [ct_y hp], fil_y h2.2 hp e1⟩, ⟨by rw [ct_y hp], fil_y h3.2 hp e0⟩, ⟨by rw [ct_y hp], ?_, fil_s h4.2.2 hp e4⟩⟩
  show upd r4.2 (ct (pl N t) k + 1) x4 0 = 0
  rw [ud_n (by omega)]
  exact h4.2.1
theorem ln_skip {k : Nat} (hp : pl N t k = false) {r0 r1 r2 r3 r4 : hm_SR} (h : ln_k N t v k r0 r1 r2 r3 r4) : ln_k N t v (k + 1) r0 r1 r2 r3 r4 := by
  obtain ⟨h0, h1, h2, h3, h4⟩ := h
  exact ⟨⟨by rw [ct_n hp]; exact h0.1, fil_n h0.2 hp⟩, ⟨by rw [ct_n hp]; exact h1.1, fil_n h1.2 hp⟩, ⟨by rw [ct_n hp]; exact h2.1, fil_n h2.2 hp⟩, ⟨by rw [ct_n hp]; exact h3.1, fil_n h3.2 hp⟩, ⟨by rw [ct_n hp]; exact h4.1, h4.2.1, fil_n h4.2.2 hp⟩⟩
theorem ln_skips {a b : Nat} (hab : a ≤ b) (hb : ∀ j, a ≤ j → j < b → bk t j = true) {r0 r1 r2 r3 r4 : hm_SR} (h : ln_k N t v a r0 r1 r2 r3 r4) : ln_k N t v b r0 r1 r2 r3 r4 := by
  obtain ⟨d, rfl⟩ : ∃ d, b = a + d := ⟨b - a, by omega⟩
  clear hab
  induction d with
  | zero => exact h
  | succ d ih => exact ln_skip (pl_blank (hb (a + d) (by omega) (by omega))) (ih (fun j h1 h2 => hb j h1 (by omega)))
/-- signs of a word, by the class's rows -/
theorem cl_scount {w0 w1 : hm_SR} (hok : tx_ok N t) (h1 : w1.1 = nI (ct (we N t) N) ∧ fil (we N t) (fun j => nI (ct (nb t) (j + 1))) N w1.2) {w : Nat} (hw : w < nW N t) : f_X3_startOf 30 w1 (nI w) = some (nI (ct (nb t) (sw N t w))) ∧ f_X3_signCount w1 (nI w) = some (nI (ew N t w + 1 - sw N t w)) := by
  have hW : ct (we N t) N ≤ 30 := by rw [← ct_words]; exact hok.2.2
  have hN := hok.1
  unfold nW at hw
  have hse := sw_le_ew (N := N) (t := t) hw
  obtain ⟨b1, b2, b3, b4⟩ := ew_sp (N := N) (t := t) hw
  have hst : f_X3_startOf 30 w1 (nI w) = some (nI (ct (nb t) (sw N t w))) := by
    rw [f_X3_startOf]
    by_cases h0 : w = 0
    · subst h0
      rw [if_pos (by decide), ct_blank (p := nb t) (fun j h => nb_blank h) (Nat.zero_le _) (fun j _ h => blank_first hw h)]
      rfl
    · rw [if_neg (nI_nle (by omega) (by omega)), nI_m1 (by omega), rg_in h1.1 (by omega) (by omega) (by omega), Option.bind_some, fil_nth h1.2 (by omega) (Nat.le_refl N)]
      have hlt := ew_lt_sw (N := N) (t := t) (w := w - 1) (by unfold nW; omega)
      have hbg : ∀ j, ew N t (w - 1) + 1 ≤ j → j < sw N t w → bk t j = true := fun j h1 h2 => blank_gap (N := N) (w := w - 1) (by unfold nW; omega) (by omega) (by rw [show w - 1 + 1 = w by omega]; exact h2)
      rw [show w - 1 + 1 = w by omega] at hlt
      rw [ct_blank (p := nb t) (fun j h => nb_blank h) (show ew N t (w - 1) + 1 ≤ sw N t w by omega) hbg]
      rfl
  refine ⟨hst, ?_⟩
  have hb := ct_bound (nb t) N
  have hl : f_X2_get 30 w1 (nI w) = some (nI (ct (nb t) (ew N t w + 1))) := by
    rw [rg_in h1.1 hw (by omega) (by omega), fil_nth h1.2 hw (Nat.le_refl N)]
    rfl
  have hc := nb_in (N := N) (t := t) (w := w) (i := ew N t w + 1 - sw N t w) hw (by omega)
  rw [show sw N t w + (ew N t w + 1 - sw N t w) = ew N t w + 1 by omega] at hc
  rw [f_X3_signCount, hl, Option.bind_some, hst, Option.bind_some, pk_sub (by omega), hc]
  congr 2
  omega
theorem cl_signof {w0 w1 : hm_SR} (hok : tx_ok N t) (h0 : w0.1 = nI (ct (nb t) N) ∧ fil (nb t) t N w0.2) (h1 : w1.1 = nI (ct (we N t) N) ∧ fil (we N t) (fun j => nI (ct (nb t) (j + 1))) N w1.2) {w i : Nat} (hw : w < nW N t) (hi : sw N t w + i ≤ ew N t w) : f_X3_signOf w0 w1 (nI w) (nI i) = some (t (sw N t w + i)) := by
  have hN := hok.1
  have hb := ct_bound (nb t) N
  have he := (ew_sp (N := N) (t := t) hw).1
  have hin := (in_word hw (j := sw N t w + i) (by omega) hi).2
  have hnb : nb t (sw N t w + i) = true := by unfold nb; rw [hin]; rfl
  have hlt := ct_lt_N hnb (show sw N t w + i < N by omega)
  have hc := nb_in (N := N) (t := t) (w := w) (i := i) hw (by omega)
  rw [f_X3_signOf, (cl_scount (w0 := w0) hok h1 hw).1, Option.bind_some, nI_add, ← hc, rg_in h0.1 hlt (by omega) (by omega), Option.bind_some, h0.2 _ (by omega) hnb]
/-- one word's places -/
theorem cl_takew (hok : tx_ok N t) (hv : sv_ok v) (hf : sv_at f v) {w0 w1 : hm_SR} (h0 : w0.1 = nI (ct (nb t) N) ∧ fil (nb t) t N w0.2) (h1 : w1.1 = nI (ct (we N t) N) ∧ fil (we N t) (fun j => nI (ct (nb t) (j + 1))) N w1.2) {w : Nat} (hw : w < nW N t) {r0 r1 r2 r3 r4 : hm_SR} (h : ln_k N t v (sw N t w) r0 r1 r2 r3 r4) : ∃ s0 s1 s2 s3 s4 : hm_SR, f_X1_takeWord r0 r1 r2 r3 r4 (nI (v 34)) w0 w1 f (nI w) (nI (wsm v t (sw N t w) + v 34 * w)) = some (nI (wsm v t (ew N t w + 1) + v 34 * (w + 1)), s0, s1, s2, s3, s4) ∧ ln_k N t v (ew N t w + 1) s0 s1 s2 s3 s4 := by
  have hN := hok.1
  have hse := sw_le_ew (N := N) (t := t) hw
  obtain ⟨b1, b2, b3, b4⟩ := ew_sp (N := N) (t := t) hw
  have hg := hv.2.2.2.1
  have hW : nW N t ≤ 30 := by unfold nW; rw [← ct_words]; exact hok.2.2
  have hmul : v 34 * (w + 1) ≤ 9 * 30 := Nat.mul_le_mul hg (by omega)
  have hmul2 : v 34 * (w + 1) = v 34 * w + v 34 := by rw [Nat.mul_add, Nat.mul_one]
  have hsle : sl t (ew N t w) = false := by
    cases hz : sl t (ew N t w) with
    | false => rfl
    | true => rw [sl_nwe hok b1 hz] at b4; cases b4
  have hple : pl N t (ew N t w) = true := by unfold pl; rw [b4, hsle]; rfl
  -- the end of the word
  have last : ∀ (r0 r1 r2 r3 r4 : hm_SR), ln_k N t v (ew N t w) r0 r1 r2 r3 r4 → ∃ s0 s1 s2 s3 s4 : hm_SR, f_X1_takeWord_l76 (nI (v 34)) f (nI w) (nI (wsm v t (ew N t w + 1) + v 34 * w)) (t (ew N t w)) r0 r1 r2 r3 r4 = some (nI (wsm v t (ew N t w + 1) + v 34 * (w + 1)), s0, s1, s2, s3, s4) ∧ ln_k N t v (ew N t w + 1) s0 s1 s2 s3 s4 := by
    intro r0 r1 r2 r3 r4 h
    rw [f_X1_takeWord_l76, cl_hang hf hv, Option.bind_some, nI_add]
    obtain ⟨s0, s1, s2, s3, s4, e, hl⟩ := ln_add hok b1 hple h (x0 := nI w) (x1 := 0) (x2 := nI (wsm v t (ew N t w + 1) + v 34 * w)) (x3 := nI (hgt v (t (ew N t w)))) (x4 := nI (wsm v t (ew N t w + 1) + v 34 * w + v 34)) (by rw [b3]) (by rw [if_neg (by rw [hsle]; decide)]) (by unfold xe; rw [if_neg (by rw [hsle]; decide), b3]) (by unfold xh; rw [if_neg (by rw [hsle]; decide)]) (by unfold xb; rw [if_neg (by rw [hsle]; decide), b3, hmul2, Nat.add_assoc])
    rw [e, Option.bind_some]
    refine ⟨s0, s1, s2, s3, s4, ?_, hl⟩
    rw [hmul2, Nat.add_assoc]
  have key : ∀ (d i fuel : Nat), ew N t w + 1 - sw N t w = i + d → d < fuel → ∀ (x : Int32) (r0 r1 r2 r3 r4 : hm_SR), (0 < i → x = t (sw N t w + i - 1)) → ln_k N t v (if d = 0 then ew N t w else sw N t w + i) r0 r1 r2 r3 r4 → ∃ s0 s1 s2 s3 s4 : hm_SR, f_X1_takeWord_l10 (nI (v 34)) w0 w1 f (nI w) fuel (nI (wsm v t (sw N t w + i) + v 34 * w)) x (nI i) r0 r1 r2 r3 r4 = some (nI (wsm v t (ew N t w + 1) + v 34 * (w + 1)), s0, s1, s2, s3, s4) ∧ ln_k N t v (ew N t w + 1) s0 s1 s2 s3 s4 := by
    intro d
    induction d with
    | zero =>
      intro i fuel hi hf2 x r0 r1 r2 r3 r4 hx h
      obtain ⟨fuel, rfl⟩ : ∃ z, fuel = z + 1 := ⟨fuel - 1, by omega⟩
      rw [if_pos rfl] at h
      rw [f_X1_takeWord_l10_s, (cl_scount (w0 := w0) hok h1 hw).2, Option.bind_some, if_pos (by rw [nI_lei (by omega) (by omega)]; omega), hx (by omega), show sw N t w + i - 1 = ew N t w by omega, show sw N t w + i = ew N t w + 1 by omega]
      exact last _ _ _ _ _ h
    | succ d ih =>
      intro i fuel hi hf2 x r0 r1 r2 r3 r4 hx h
      obtain ⟨fuel, rfl⟩ : ∃ z, fuel = z + 1 := ⟨fuel - 1, by omega⟩
      rw [if_neg (by omega)] at h
      have hj : sw N t w + i ≤ ew N t w := by omega
      obtain ⟨hcw, hbk⟩ := in_word hw (j := sw N t w + i) (by omega) hj
      have hws := wsm_le hv (t := t) (sw N t w + i)
      have hwd := wdt_le hv (t (sw N t w + i))
      have hnext : nI (wsm v t (sw N t w + i) + v 34 * w) + nI (wdt v (t (sw N t w + i))) = nI (wsm v t (sw N t w + (i + 1)) + v 34 * w) := by
        rw [nI_add, show sw N t w + (i + 1) = sw N t w + i + 1 by omega, wsm]
        congr 1
        omega
      rw [f_X1_takeWord_l10_s, (cl_scount (w0 := w0) hok h1 hw).2, Option.bind_some, if_neg (by rw [nI_lei (by omega) (by omega)]; omega), cl_signof hok h0 h1 hw hj, Option.bind_some, cl_width hf, Option.bind_some, hnext]
      cases hs : sl t (sw N t w + i) with
      | true =>
        obtain ⟨q1, q2, q3, q4⟩ := ok_sl hok (show sw N t w + i < N by omega) hs
        have hne : sw N t w + i < ew N t w := by
          rcases Nat.lt_or_ge (sw N t w + i) (ew N t w) with z | z
          · exact z
          · rw [show sw N t w + i = ew N t w by omega, hsle] at hs; cases hs
        have hpl : pl N t (sw N t w + i) = true := by unfold pl; rw [hs]; rfl
        have hx28 : wdt v 45 = v 28 := rfl
        have hh28 : hgt v 45 = v 28 * v 32 / 10 := rfl
        have hsame : wsm v t (sw N t w + (i + 1)) = wsm v t (sw N t w + i) := by
          rw [show sw N t w + (i + 1) = sw N t w + i + 1 by omega, wsm, wdt_sl hs, Nat.add_zero]
        rw [if_pos (of_decide_eq_true hs), cl_width hf, Option.bind_some, cl_hang hf hv, Option.bind_some, hx28, hh28, nI_add]
        obtain ⟨s0, s1, s2, s3, s4, e, hl⟩ := ln_add hok (show sw N t w + i < N by omega) hpl h (x0 := nI w) (x1 := 1) (x2 := nI (wsm v t (sw N t w + (i + 1)) + v 34 * w + v 28)) (x3 := nI (v 28 * v 32 / 10)) (x4 := nI (wsm v t (sw N t w + (i + 1)) + v 34 * w)) (by rw [hcw]) (by rw [if_pos hs]) (by unfold xe; rw [if_pos hs, hcw, hsame]) (by unfold xh; rw [if_pos hs]) (by unfold xb; rw [if_pos hs, hcw, hsame])
        rw [e, Option.bind_some, f_X1_takeWord_l70, nI_1]
        exact ih (i + 1) fuel (by omega) (by omega) _ _ _ _ _ _ (fun _ => by rw [show sw N t w + (i + 1) - 1 = sw N t w + i by omega]) (by rw [if_neg (by omega)]; exact hl)
      | false =>
        rw [if_neg (of_decide_eq_false hs), f_X1_takeWord_l70, nI_1]
        refine ih (i + 1) fuel (by omega) (by omega) _ _ _ _ _ _ (fun _ => by rw [show sw N t w + (i + 1) - 1 = sw N t w + i by omega]) ?_
        by_cases hd : d = 0
        · rw [if_pos hd, show ew N t w = sw N t w + i by omega]
          exact h
        · rw [if_neg hd, show sw N t w + (i + 1) = sw N t w + i + 1 by omega]
          refine ln_skip ?_ h
          have hnw : we N t (sw N t w + i) = false := by
            cases hz : we N t (sw N t w + i) with
            | false => rfl
            | true =>
              have := ct_inj hz b4 (by rw [hcw, b3])
              omega
          unfold pl
          rw [hs, hnw]
          rfl
  rw [f_X1_takeWord]
  have := key (ew N t w + 1 - sw N t w) 0 hm_fu (by omega) (by unfold hm_fu; omega) 0 r0 r1 r2 r3 r4 (fun z => by omega) (by rw [if_neg (by omega)]; exact h)
  exact this
end LNG
