/-! pure: the model's words alike -/
section ALK
variable {N : Nat} {t : Nat → Int32} {a1 a2 a3 a4 a5 a6 : Nat → Int32} {z2 z3 : Int32}
theorem ps_sw {w : Nat} (hw : w < nW N t) : ps N t w = ct (pq t) (sw N t w) := by
  unfold ps
  cases w with
  | zero =>
    rw [if_pos rfl, ct_blank (p := pq t) (fun j h => pq_blank h) (Nat.zero_le _) (fun j _ hj => blank_first hw hj)]
    rfl
  | succ w =>
    rw [if_neg (by omega), Nat.add_sub_cancel]
    have h1 := ew_lt_sw (N := N) (t := t) hw
    rw [ct_blank (p := pq t) (fun j h => pq_blank h) (show ew N t w + 1 ≤ sw N t (w + 1) by omega) (fun j h2 h3 => blank_gap hw (by omega) h3)]
    rfl
theorem pe_ew {w : Nat} : pe N t w = ct (pq t) (ew N t w + 1) := rfl
theorem pq_in {w p : Nat} (hw : w < nW N t) (h1 : sw N t w ≤ p) (h2 : p ≤ ew N t w) : pq t p = !sl t p := by
  unfold pq
  rw [(in_word hw h1 h2).2]
  rfl
/-- past the slashes -/
def skp (N : Nat) (t : Nat → Int32) (w p p' : Nat) : Prop := p ≤ p' ∧ p' ≤ ew N t w + 1 ∧ ct (pq t) p' = ct (pq t) p ∧ (p' = ew N t w + 1 ∨ (p' ≤ ew N t w ∧ pq t p' = true))
theorem skp_c {w p p' : Nat} (hw : w < nW N t) (h0 : sw N t w ≤ p) (h : skp N t w p p') : ps N t w ≤ ct (pq t) p ∧ ct (pq t) p ≤ pe N t w ∧ (p' = ew N t w + 1 ↔ ct (pq t) p = pe N t w) ∧ (p' ≠ ew N t w + 1 → qf N t (ct (pq t) p) = t p' ∧ p' < N ∧ ct (pq t) (p' + 1) = ct (pq t) p + 1) := by
  obtain ⟨h1, h2, h3, h4⟩ := h
  have hN := (ew_sp hw).1
  have e1 := ct_le (pq t) (show sw N t w ≤ p' by omega)
  have e2 := ct_le (pq t) h2
  rw [← ps_sw hw] at e1
  rw [← pe_ew] at e2
  refine ⟨by omega, by omega, ⟨fun e => by rw [← h3, e, pe_ew], fun e => ?_⟩, fun e => ?_⟩
  · rcases h4 with h4 | ⟨h4, h5⟩
    · exact h4
    · have := ct_le (pq t) (show p' + 1 ≤ ew N t w + 1 by omega)
      rw [ct_y h5, ← pe_ew] at this
      omega
  · rcases h4 with h4 | ⟨h4, h5⟩
    · exact absurd h4 e
    · refine ⟨?_, by omega, by rw [ct_y h5, h3]⟩
      unfold qf
      rw [← h3, nth_ct (by omega) h5]
theorem md_skip2 (hok : tx_ok N t) (h : mw_k N t N a1 a2 a3 a4 a5 a6 z2 z3) (J : Int32 → Int32 → Option Int32) (x : Int32) {b : Nat} (hb : b < nW N t) (p : Int32) : ∀ (d q fuel : Nat), ew N t b + 1 = q + d → sw N t b ≤ q → d < fuel → ∃ q', f_X8_areAlike_l42 J a1 a3 x (nI b) fuel p (nI q) = f_X8_areAlike_l71 J a1 a3 x (nI b) p (nI q') ∧ skp N t b q q' := by
  have hW : nW N t ≤ 30 := by unfold nW; rw [← ct_words]; exact hok.2.2
  have hN := hok.1
  have hE := (ew_sp hb).1
  intro d
  induction d with
  | zero =>
    intro q fuel hq h1 hf
    obtain ⟨fuel, rfl⟩ : ∃ z, fuel = z + 1 := ⟨fuel - 1, by omega⟩
    rw [f_X8_areAlike_l42_s, rd_in (by omega) (by omega), Option.bind_some, (md_se h hb).2, if_pos (by rw [nI_lei (by omega) (by omega)]; omega)]
    exact ⟨q, rfl, Nat.le_refl _, by omega, rfl, Or.inl (by omega)⟩
  | succ d ih =>
    intro q fuel hq h1 hf
    obtain ⟨fuel, rfl⟩ : ∃ z, fuel = z + 1 := ⟨fuel - 1, by omega⟩
    have hpq := pq_in hb h1 (show q ≤ ew N t b by omega)
    rw [f_X8_areAlike_l42_s, rd_in (by omega) (by omega), Option.bind_some, (md_se h hb).2, if_neg (by rw [nI_lei (by omega) (by omega)]; omega), rd_in (by omega) (by omega), Option.bind_some, h.1 q (by omega)]
    by_cases hs : t q = 47
    · have hsl : sl t q = true := decide_eq_true hs
      rw [if_pos hs, nI_1]
      obtain ⟨q', e1, e2, e3, e4, e5⟩ := ih (q + 1) fuel (by omega) (by omega) (by omega)
      refine ⟨q', e1, by omega, e3, ?_, e5⟩
      rw [e4, ct_n (by rw [hpq, hsl]; rfl)]
    · have hsl : sl t q = false := decide_eq_false hs
      rw [if_neg hs]
      exact ⟨q, rfl, Nat.le_refl _, by omega, rfl, Or.inr ⟨by omega, by rw [hpq, hsl]; rfl⟩⟩
theorem lk_iff {a b : Nat} : lk N t a b = true ↔ (pe N t b - ps N t b = pe N t a - ps N t a ∧ ∀ i, i < pe N t a - ps N t a → qf N t (ps N t a + i) = qf N t (ps N t b + i)) := by
  unfold lk
  exact ⟨of_decide_eq_true, decide_eq_true⟩
theorem bi_iff {b : Bool} {P : Prop} (h : b = true ↔ P) : (P → bi b = 1) ∧ (¬ P → bi b = 0) := by
  refine ⟨fun p => by rw [h.2 p]; rfl, fun p => ?_⟩
  cases hb : b with
  | false => rfl
  | true => exact absurd (h.1 hb) p
theorem md_alike (hok : tx_ok N t) (h : mw_k N t N a1 a2 a3 a4 a5 a6 z2 z3) {a b : Nat} (ha : a < nW N t) (hb : b < nW N t) : f_X8_areAlike a1 a2 a3 (nI a) (nI b) = some (bi (lk N t a b)) := by
  have hW : nW N t ≤ 30 := by unfold nW; rw [← ct_words]; exact hok.2.2
  have hN := hok.1
  have hEa := (ew_sp ha).1
  have hEb := (ew_sp hb).1
  obtain ⟨yes, no⟩ := bi_iff (lk_iff (N := N) (t := t) (a := a) (b := b))
  have key : ∀ (d p fuel : Nat), ew N t a + 1 = p + d → sw N t a ≤ p → d < fuel → ∀ q, sw N t b ≤ q → q ≤ ew N t b + 1 → ct (pq t) p - ps N t a = ct (pq t) q - ps N t b → (∀ i, i < ct (pq t) p - ps N t a → qf N t (ps N t a + i) = qf N t (ps N t b + i)) → f_X8_areAlike_l15 a1 a3 (nI a) (nI b) fuel (nI p) (nI q) = some (bi (lk N t a b)) := by
    intro d
    induction d with
    | zero =>
      intro p fuel hp h1 hf q hq1 hq2 hc heq
      obtain ⟨fuel, rfl⟩ : ∃ z, fuel = z + 1 := ⟨fuel - 1, by omega⟩
      rw [f_X8_areAlike_l15_s, rd_in (by omega) (by omega), Option.bind_some, (md_se h ha).2, if_pos (by rw [nI_lei (by omega) (by omega)]; omega)]
      obtain ⟨q', e1, e2⟩ := md_skip2 hok h (fun zv3 zv4 => f_X8_areAlike_l15 a1 a3 (nI a) (nI b) fuel zv3 zv4) (nI a) hb (nI p) (ew N t b + 1 - q) q hm_fu (by omega) hq1 (by unfold hm_fu; omega)
      obtain ⟨s1, s2, s3, s4⟩ := skp_c hb hq1 e2
      have hpa : ct (pq t) p = pe N t a := by rw [show p = ew N t a + 1 by omega, pe_ew]
      have hpsa : ps N t a ≤ pe N t a := by rw [ps_sw ha, pe_ew]; exact ct_le (pq t) (by have := sw_le_ew (N := N) (t := t) ha; omega)
      rw [e1, f_X8_areAlike_l71, rd_in (by omega) (by omega), Option.bind_some, (md_se h ha).2, if_pos (by rw [show p = ew N t a + 1 by omega]), f_X8_areAlike_l92, f_X8_areAlike_l97, if_neg n10, f_X8_areAlike_l120, rd_in (by omega) (by omega), Option.bind_some, (md_se h ha).2, if_pos (by rw [show p = ew N t a + 1 by omega]), rd_in (by omega) (by omega), Option.bind_some, (md_se h hb).2]
      have e22 := e2.2.1
      by_cases he : q' = ew N t b + 1
      · have := s3.1 he
        rw [if_pos (by rw [he]), yes ⟨by omega, fun i hi => heq i (by omega)⟩]
      · rw [if_neg (by rw [nI_eqi (by omega) (by omega)]; exact he), no (fun hh => he (s3.2 (by omega)))]
    | succ d ih =>
      intro p fuel hp h1 hf q hq1 hq2 hc heq
      obtain ⟨fuel, rfl⟩ : ∃ z, fuel = z + 1 := ⟨fuel - 1, by omega⟩
      have hpq := pq_in ha h1 (show p ≤ ew N t a by omega)
      rw [f_X8_areAlike_l15_s, rd_in (by omega) (by omega), Option.bind_some, (md_se h ha).2, if_neg (by rw [nI_lei (by omega) (by omega)]; omega), rd_in (by omega) (by omega), Option.bind_some, h.1 p (by omega)]
      by_cases hs : t p = 47
      · have hsl : sl t p = true := decide_eq_true hs
        have hcn : ct (pq t) (p + 1) = ct (pq t) p := ct_n (by rw [hpq, hsl]; rfl)
        rw [if_pos hs, nI_1]
        exact ih (p + 1) fuel (by omega) (by omega) (by omega) q hq1 hq2 (by rw [hcn]; exact hc) (by rw [hcn]; exact heq)
      · have hsl : sl t p = false := decide_eq_false hs
        have hpp : pq t p = true := by rw [hpq, hsl]; rfl
        rw [if_neg hs]
        obtain ⟨q', e1, e2⟩ := md_skip2 hok h (fun zv3 zv4 => f_X8_areAlike_l15 a1 a3 (nI a) (nI b) fuel zv3 zv4) (nI a) hb (nI p) (ew N t b + 1 - q) q hm_fu (by omega) hq1 (by unfold hm_fu; omega)
        obtain ⟨s1, s2, s3, s4⟩ := skp_c hb hq1 e2
        obtain ⟨r1, r2, r3, r4⟩ := skp_c (p' := p) ha h1 ⟨Nat.le_refl _, by omega, rfl, Or.inr ⟨by omega, hpp⟩⟩
        obtain ⟨r5, r6, r7⟩ := r4 (by omega)
        have hna : ct (pq t) p ≠ pe N t a := fun z => by have := r3.2 z; omega
        have e22 := e2.2.1
        have hnp : ¬ nI p = nI (ew N t a + 1) := by rw [nI_eqi (by omega) (by omega)]; omega
        have l120 : bi (lk N t a b) = 0 → f_X8_areAlike_l120 a3 (nI a) (nI b) (nI p) (nI q') = some (bi (lk N t a b)) := by
          intro hz
          rw [f_X8_areAlike_l120, rd_in (by omega) (by omega), Option.bind_some, (md_se h ha).2, if_neg hnp, hz]
        rw [e1, f_X8_areAlike_l71, rd_in (by omega) (by omega), Option.bind_some, (md_se h ha).2, if_neg hnp, rd_in (by omega) (by omega), Option.bind_some, (md_se h hb).2]
        by_cases he : q' = ew N t b + 1
        · have hqe := s3.1 he
          rw [if_pos (by rw [he]), f_X8_areAlike_l92, f_X8_areAlike_l97, if_neg n10]
          exact l120 (no (fun hh => hna (by omega)))
        · obtain ⟨s5, s6, s7⟩ := s4 he
          rw [if_neg (by rw [nI_eqi (by omega) (by omega)]; exact he), f_X8_areAlike_l97, if_pos n00, rd_in (by omega) (by omega), Option.bind_some, rd_in (by omega) (by omega), Option.bind_some, h.1 p (by omega), h.1 q' (by omega)]
          by_cases hl : t p = t q'
          · rw [if_pos hl, nI_1, nI_1]
            refine ih (p + 1) fuel (by omega) (by omega) (by omega) (q' + 1) (by have := e2.1; omega) (by omega) (by rw [r7, s7]; omega) (fun i hi => ?_)
            rw [r7] at hi
            by_cases ei : i = ct (pq t) p - ps N t a
            · rw [ei, show ps N t a + (ct (pq t) p - ps N t a) = ct (pq t) p by omega, r5, hc, show ps N t b + (ct (pq t) q - ps N t b) = ct (pq t) q by omega, s5, hl]
            · exact heq i (by omega)
          · rw [if_neg hl]
            refine l120 (no (fun hh => hl ?_))
            have := hh.2 (ct (pq t) p - ps N t a) (by omega)
            rw [show ps N t a + (ct (pq t) p - ps N t a) = ct (pq t) p by omega, r5, hc, show ps N t b + (ct (pq t) q - ps N t b) = ct (pq t) q by omega, s5] at this
            exact this
  rw [f_X8_areAlike, rd_in (by omega) (by omega), Option.bind_some, rd_in (by omega) (by omega), Option.bind_some, (md_se h ha).1, (md_se h hb).1]
  have e1 := sw_le_ew (N := N) (t := t) ha
  have e2 := sw_le_ew (N := N) (t := t) hb
  refine key (ew N t a + 1 - sw N t a) (sw N t a) hm_fu (by omega) (Nat.le_refl _) (by unfold hm_fu; omega) (sw N t b) (Nat.le_refl _) (by omega) ?_ (fun i hi => ?_)
  · rw [ps_sw ha, ps_sw hb]; omega
  · rw [ps_sw ha] at hi; omega
end ALK
