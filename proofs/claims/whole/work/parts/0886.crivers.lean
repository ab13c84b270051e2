/-! pure: the class's rivers -/
section CRV
variable {N : Nat} {t : Nat → Int32} {v : Nat → Nat}
theorem dn_out {b c : Nat} (hc : c < nB N t v) (h : c < bo N t v (LN N t v b + 1) ∨ bo N t v (LN N t v b + 2) ≤ c) : dn N t v b c = false := by
  unfold dn
  rw [decide_eq_false (fun z => by
    have := LN_lt hc
    have e : bo N t v (LN N t v b + 1 + 1) = bo N t v (LN N t v b + 2) := rfl
    rw [z, e] at this
    omega)]
  rfl
theorem up_out {b c : Nat} (hc : c < nB N t v) {k : Nat} (hk : LN N t v b = k + 1) (h : c < bo N t v k ∨ bo N t v (k + 1) ≤ c) : upb N t v b c = false := by
  unfold upb
  rw [decide_eq_false (fun z => by
    have := LN_lt hc
    rw [show LN N t v c = k by omega] at this
    omega)]
  rfl
theorem cl_fblank {q0 q1 : hm_SR} (hok : tx_ok N t) (hv : sv_ok v) {o : Nat × Nat × Nat} (hT : TB N t v (v 35) 0 = some o) (hl : lrow N t v (pL N t v) q0 q1) {k : Nat} (hk : k ≤ pL N t v) : f_X2_get 101 q1 (nI k) = some (nI (bo N t v k)) := by
  have hP : nP N t ≤ 100 := pl_100 hok
  have hL := pL_le hv hT
  rw [rg_in hl.2.1 (by omega) (by omega) (by omega), hl.2.2.2 k hk]
theorem cl_longest (hok : tx_ok N t) (hv : sv_ok v) {o : Nat × Nat × Nat} (hT : TB N t v (v 35) 0 = some o) {q0 q1 q2 q3 q4 q5 r4 : hm_SR} (hl : lrow N t v (pL N t v) q0 q1) (hs : srow N t v (nB N t v) q2 q3 q4 q5) {b : Nat} (hb : b < nB N t v) (h4 : r4.1 = nI (nB N t v)) (h5 : ∀ c, bo N t v (LN N t v b + 1) ≤ c → c < nB N t v → r4.2 c = nI (LG N t v c)) : f_X5_longestMet q1 q2 q3 r4 (nI b) (nI (LN N t v b + 1)) = some (nI (mxl (dn N t v b) (LG N t v) (nB N t v))) := by
  have hn : nB N t v ≤ 29 := (bo_le hok hT (pL N t v) (Nat.le_refl _)).2
  have hP : nP N t ≤ 100 := pl_100 hok
  have hL := pL_le hv hT
  have hlb := LN_lt hb
  have h0 : mxl (dn N t v b) (LG N t v) (bo N t v (LN N t v b + 1)) = 0 := mxl_none (Nat.zero_le _) (fun j _ hj => dn_out (by have := bo_mono (N := N) (t := t) (v := v) (show LN N t v b + 1 ≤ pL N t v by omega); have e : bo N t v (pL N t v) = nB N t v := rfl; omega) (Or.inl hj))
  rw [f_X5_longestMet, cl_fblank hok hv hT hl (by omega), Option.bind_some]
  by_cases he : LN N t v b + 1 = pL N t v
  · have e : bo N t v (LN N t v b + 1) = nB N t v := by rw [he]; rfl
    rw [e] at h0
    rw [h0, hm_fu, f_X5_longestMet_l12_s, nI_1, rg_outN hl.2.1 (by omega) (by omega), Option.bind_some, if_pos (show (0 : Int32) ≤ nI (bo N t v (LN N t v b + 1)) from nI_pos' (by omega))]
    rfl
  · have hm := bo_mono (N := N) (t := t) (v := v) (show LN N t v b + 2 ≤ pL N t v by omega)
    have hm2 := bo_mono (N := N) (t := t) (v := v) (show LN N t v b + 1 ≤ LN N t v b + 2 by omega)
    have hme : bo N t v (pL N t v) = nB N t v := rfl
    have hend : mxl (dn N t v b) (LG N t v) (nB N t v) = mxl (dn N t v b) (LG N t v) (bo N t v (LN N t v b + 2)) := mxl_none (by omega) (fun j h1 h2 => dn_out h2 (Or.inr h1))
    have key : ∀ (d x fuel : Nat), bo N t v (LN N t v b + 2) = x + d → bo N t v (LN N t v b + 1) ≤ x → d < fuel → f_X5_longestMet_l12 q1 q2 q3 r4 (nI b) (nI (LN N t v b + 1)) fuel (nI (mxl (dn N t v b) (LG N t v) x)) (nI x) = some (nI (mxl (dn N t v b) (LG N t v) (nB N t v))) := by
      intro d
      induction d with
      | zero =>
        intro x fuel hx hx1 hf
        obtain ⟨fuel, rfl⟩ : ∃ z, fuel = z + 1 := ⟨fuel - 1, by omega⟩
        rw [f_X5_longestMet_l12_s, nI_1, show LN N t v b + 1 + 1 = LN N t v b + 2 from rfl, cl_fblank hok hv hT hl (by omega), Option.bind_some, if_pos (by rw [nI_lei (by omega) (by omega)]; show bo N t v (LN N t v b + 2) ≤ x; omega), hend, hx, Nat.add_zero]
      | succ d ih =>
        intro x fuel hx hx1 hf
        obtain ⟨fuel, rfl⟩ : ∃ z, fuel = z + 1 := ⟨fuel - 1, by omega⟩
        have hxb : x < nB N t v := by omega
        have hmx := mxl_le (p := dn N t v b) (n := x) (LG_le (N := N) (t := t) (v := v))
        have hg := LG_le (N := N) (t := t) (v := v) x
        have next := ih (x + 1) fuel (by omega) (by omega) (by omega)
        rw [f_X5_longestMet_l12_s, nI_1, show LN N t v b + 1 + 1 = LN N t v b + 2 from rfl, cl_fblank hok hv hT hl (by omega), Option.bind_some, if_neg (by rw [nI_lei (by omega) (by omega)]; show ¬ bo N t v (LN N t v b + 2) ≤ x; omega), cl_meet hok hv hT hs hb hxb, Option.bind_some]
        have hlx : LN N t v x = LN N t v b + 1 := by
          have h1 := LN_lt hxb
          rcases Nat.lt_trichotomy (LN N t v x) (LN N t v b + 1) with z | z | z
          · have := bo_mono (N := N) (t := t) (v := v) (show LN N t v x + 1 ≤ LN N t v b + 1 by omega)
            omega
          · exact z
          · have := bo_mono (N := N) (t := t) (v := v) (show LN N t v b + 2 ≤ LN N t v x by omega)
            omega
        have hd : dn N t v b x = mt N t v b x := by unfold dn; rw [decide_eq_true hlx, Bool.true_and]
        rw [mxl, hd] at next
        cases hmt : mt N t v b x with
        | false =>
          rw [hmt, if_neg (by intro z; cases z)] at next
          rw [show bi false = 0 from rfl, if_pos n00, f_X5_longestMet_l51, nI_1]
          exact next
        | true =>
          rw [hmt, if_pos rfl] at next
          rw [show bi true = 1 from rfl, if_neg n10, rg_in h4 hxb (by omega) (by omega), Option.bind_some, h5 x hx1 hxb, f_X5_longestMet_l51, nI_1]
          by_cases hlt : mxl (dn N t v b) (LG N t v) x < LG N t v x
          · rw [if_pos hlt] at next
            rw [if_pos (by rw [nI_lti (by omega) (by omega)]; exact hlt)]
            exact next
          · rw [if_neg hlt] at next
            rw [if_neg (by rw [nI_lti (by omega) (by omega)]; exact hlt)]
            exact next
    have := key (bo N t v (LN N t v b + 2) - bo N t v (LN N t v b + 1)) (bo N t v (LN N t v b + 1)) hm_fu (by omega) (Nat.le_refl _) (by unfold hm_fu; omega)
    rw [h0] at this
    exact this
theorem cl_any (hok : tx_ok N t) (hv : sv_ok v) {o : Nat × Nat × Nat} (hT : TB N t v (v 35) 0 = some o) {q0 q1 q2 q3 q4 q5 : hm_SR} (hl : lrow N t v (pL N t v) q0 q1) (hs : srow N t v (nB N t v) q2 q3 q4 q5) {b : Nat} (hb : b < nB N t v) : f_X5_meetsAny q1 q2 q3 (nI b) (fr (LN N t v b)) = some (bi (anb (upb N t v b) b)) := by
  have hn : nB N t v ≤ 29 := (bo_le hok hT (pL N t v) (Nat.le_refl _)).2
  have hP : nP N t ≤ 100 := pl_100 hok
  have hL := pL_le hv hT
  have hlb := LN_lt hb
  rw [f_X5_meetsAny]
  cases hk : LN N t v b with
  | zero =>
    rw [if_neg fr_nle, anb_none (a := 0) (Nat.zero_le _) (fun j _ hj => by unfold upb; rw [hk, decide_eq_false (by omega)]; rfl)]
    rfl
  | succ k =>
    rw [hk] at hlb
    have hm2 := bo_mono (N := N) (t := t) (v := v) (show k ≤ k + 1 by omega)
    rw [if_pos (fr_le (by omega)), fr_s, cl_fblank hok hv hT hl (by omega), Option.bind_some]
    have key : ∀ (d x fuel : Nat), bo N t v (k + 1) = x + d → bo N t v k ≤ x → anb (upb N t v b) x = false → d < fuel → f_X5_meetsAny_l15 q1 q2 q3 (nI b) (nI k) fuel (nI x) = some (bi (anb (upb N t v b) b)) := by
      intro d
      induction d with
      | zero =>
        intro x fuel hx hx1 ha hf
        obtain ⟨fuel, rfl⟩ : ∃ z, fuel = z + 1 := ⟨fuel - 1, by omega⟩
        rw [f_X5_meetsAny_l15_s, nI_1, cl_fblank hok hv hT hl (by omega), Option.bind_some, if_pos (by rw [nI_lei (by omega) (by omega)]; omega), anb_none (a := x) (b := b) (by omega) (fun j h1 h2 => up_out (by omega) hk (Or.inr (by omega))), ha]
        rfl
      | succ d ih =>
        intro x fuel hx hx1 ha hf
        obtain ⟨fuel, rfl⟩ : ∃ z, fuel = z + 1 := ⟨fuel - 1, by omega⟩
        have hxb : x < nB N t v := by omega
        rw [f_X5_meetsAny_l15_s, nI_1, cl_fblank hok hv hT hl (by omega), Option.bind_some, if_neg (by rw [nI_lei (by omega) (by omega)]; omega), cl_meet hok hv hT hs hb hxb, Option.bind_some]
        have hlx : LN N t v x = k := by
          have h1 := LN_lt hxb
          rcases Nat.lt_trichotomy (LN N t v x) k with z | z | z
          · have := bo_mono (N := N) (t := t) (v := v) (show LN N t v x + 1 ≤ k by omega)
            omega
          · exact z
          · have := bo_mono (N := N) (t := t) (v := v) (show k + 1 ≤ LN N t v x by omega)
            omega
        have hu : upb N t v b x = mt N t v b x := by unfold upb; rw [hlx, hk, decide_eq_true rfl, Bool.true_and]
        cases hmt : mt N t v b x with
        | false =>
          rw [show bi false = 0 from rfl, if_pos n00, nI_1]
          exact ih (x + 1) fuel (by omega) (by omega) (by rw [anb, ha, hu, hmt]; rfl) (by omega)
        | true =>
          rw [show bi true = 1 from rfl, if_neg n10, anb_yes (a := x) (by omega) (by rw [hu, hmt])]
          rfl
    exact key (bo N t v (k + 1) - bo N t v k) (bo N t v k) hm_fu (by omega) (Nat.le_refl _) (anb_none (a := 0) (Nat.zero_le _) (fun j _ hj => up_out (by omega) hk (Or.inl hj))) (by unfold hm_fu; omega)
/-- the sheet's rows when the rivers are measured -/
def rrow (N : Nat) (t : Nat → Int32) (v : Nat → Nat) (lo : Nat) (a b : hm_SR) : Prop := a.1 = nI (nB N t v) ∧ b.1 = nI (nB N t v) ∧ ∀ x, lo ≤ x → x < nB N t v → a.2 x = nI (LG N t v x) ∧ b.2 x = bi (SPR N t v x)
theorem cl_rivers (hok : tx_ok N t) (hv : sv_ok v) {o : Nat × Nat × Nat} (hT : TB N t v (v 35) 0 = some o) {q0 q1 q2 q3 q4 q5 : hm_SR} (hl : lrow N t v (pL N t v) q0 q1) (hs : srow N t v (nB N t v) q2 q3 q4 q5) : ∃ p4 p5 : hm_SR, f_X5_measureRivers q0 q1 q2 q3 q4 q5 = some (p4, p5) ∧ rrow N t v 0 p4 p5 := by
  have hn : nB N t v ≤ 29 := (bo_le hok hT (pL N t v) (Nat.le_refl _)).2
  have hP : nP N t ≤ 100 := pl_100 hok
  have hL := pL_le hv hT
  have key : ∀ (r fuel : Nat), r ≤ pL N t v → r < fuel → ∀ q4 q5 : hm_SR, rrow N t v (bo N t v r) q4 q5 → ∃ p4 p5 : hm_SR, f_X5_measureRivers_l7 q1 q2 q3 fuel (fr r) q4 q5 = some (p4, p5) ∧ rrow N t v 0 p4 p5 := by
    intro r
    induction r with
    | zero =>
      intro fuel h1 h2 q4 q5 hq
      obtain ⟨fuel, rfl⟩ : ∃ z, fuel = z + 1 := ⟨fuel - 1, by omega⟩
      rw [f_X5_measureRivers_l7_s, if_pos fr_neg]
      exact ⟨_, _, rfl, hq⟩
    | succ r ih =>
      intro fuel h1 h2 q4 q5 hq
      obtain ⟨fuel, rfl⟩ : ∃ z, fuel = z + 1 := ⟨fuel - 1, by omega⟩
      have hm := bo_mono (N := N) (t := t) (v := v) h1
      have hme : bo N t v (pL N t v) = nB N t v := rfl
      have hm2 := bo_mono (N := N) (t := t) (v := v) (show r ≤ r + 1 by omega)
      rw [f_X5_measureRivers_l7_s, if_neg (fr_pos (by omega)), fr_s, cl_fblank hok hv hT hl (by omega), Option.bind_some]
      have inner : ∀ (d b fuel' : Nat), bo N t v (r + 1) = b + d → bo N t v r ≤ b → d < fuel' → ∀ q4 q5 : hm_SR, rrow N t v (bo N t v (r + 1)) q4 q5 → (∀ x, bo N t v r ≤ x → x < b → q4.2 x = nI (LG N t v x) ∧ q5.2 x = bi (SPR N t v x)) → ∃ p4 p5 : hm_SR, f_X5_measureRivers_l20 (fun zv1 zwR_4 zwR_5 => f_X5_measureRivers_l7 q1 q2 q3 fuel zv1 zwR_4 zwR_5) q1 q2 q3 fuel' (nI r) (nI b) q4 q5 = some (p4, p5) ∧ rrow N t v 0 p4 p5 := by
        intro d
        induction d with
        | zero =>
          intro b fuel' hb hb1 hf q4 q5 hq hx
          obtain ⟨fuel', rfl⟩ : ∃ z, fuel' = z + 1 := ⟨fuel' - 1, by omega⟩
          rw [f_X5_measureRivers_l20_s, nI_1, cl_fblank hok hv hT hl (by omega), Option.bind_some, if_pos (by rw [nI_lei (by omega) (by omega)]; omega), f_X5_measureRivers_l104, show nI r + (-1) = fr r by unfold fr; rw [zI_nat, zl_1, zI_neg, zI_add]; congr 1]
          refine ih fuel (by omega) (by omega) _ _ ⟨hq.1, hq.2.1, fun x h3 h4 => ?_⟩
          by_cases hlt : x < b
          · exact hx x h3 hlt
          · exact hq.2.2 x (by omega) h4
        | succ d ih' =>
          intro b fuel' hb hb1 hf q4 q5 hq hx
          obtain ⟨fuel', rfl⟩ : ∃ z, fuel' = z + 1 := ⟨fuel' - 1, by omega⟩
          have hbb : b < nB N t v := by omega
          have hlb : LN N t v b = r := by
            have h3 := LN_lt hbb
            rcases Nat.lt_trichotomy (LN N t v b) r with z | z | z
            · have := bo_mono (N := N) (t := t) (v := v) (show LN N t v b + 1 ≤ r by omega)
              omega
            · exact z
            · have := bo_mono (N := N) (t := t) (v := v) (show r + 1 ≤ LN N t v b by omega)
              omega
          have hlong := cl_longest (r4 := q4) hok hv hT hl hs hbb hq.1 (by rw [hlb]; exact fun c h3 h4 => (hq.2.2 c h3 h4).1)
          have hany := cl_any hok hv hT hl hs hbb
          rw [hlb] at hlong hany
          have hg := LG_le (N := N) (t := t) (v := v) b
          rw [f_X5_measureRivers_l20_s, nI_1, cl_fblank hok hv hT hl (by omega), Option.bind_some, if_neg (by rw [nI_lei (by omega) (by omega)]; omega), hlong, Option.bind_some, nl_1, nI_add, ← LG_eq hbb, rg_set hq.1 hbb (by omega) (by omega), Option.bind_some, rg_in (n := nB N t v) rfl hbb (by omega) (by omega), Option.bind_some]
          dsimp only
          have fin : ∀ (q : Bool), q = SPR N t v b → ∃ p4 p5 : hm_SR, f_X5_measureRivers_l95 (fun zv1 zwR_4 zwR_5 => f_X5_measureRivers_l7 q1 q2 q3 fuel zv1 zwR_4 zwR_5) (fun zv1 zv2 zwR_4 zwR_5 => f_X5_measureRivers_l20 (fun zv1 zwR_4 zwR_5 => f_X5_measureRivers_l7 q1 q2 q3 fuel zv1 zwR_4 zwR_5) q1 q2 q3 fuel' zv1 zv2 zwR_4 zwR_5) (bi q) (nI b) (nI r) (nI b) (nI (nB N t v), upd q4.2 b (nI (LG N t v b))) q5 = some (p4, p5) ∧ rrow N t v 0 p4 p5 := by
            intro q hqq
            rw [f_X5_measureRivers_l95, rg_set hq.2.1 hbb (by omega) (by omega), Option.bind_some, nI_1]
            refine ih' (b + 1) fuel' (by omega) (by omega) (by omega) _ _ ⟨rfl, rfl, fun x h3 h4 => ?_⟩ (fun x h3 h4 => ?_)
            · dsimp only
              rw [ud_n (by omega), ud_n (by omega)]
              exact hq.2.2 x h3 h4
            · dsimp only
              by_cases e : x = b
              · rw [e, ud_s, ud_s, hqq]; exact ⟨rfl, rfl⟩
              · rw [ud_n e, ud_n e]; exact hx x h3 (by omega)
          by_cases h3 : LG N t v b < 3
          · rw [if_pos (by rw [ud_s, nl_3, nI_lti (by omega) (by omega)]; exact h3), f_X5_measureRivers_l79, f_X5_measureRivers_l80, if_pos n00]
            exact fin false (by unfold SPR; rw [decide_eq_false (by omega)]; rfl)
          · rw [if_neg (by rw [ud_s, nl_3, nI_lti (by omega) (by omega)]; exact h3), show nI r - nI 1 = fr r by unfold fr; rw [zI_nat, zI_nat, zI_sub]; rfl, hany, Option.bind_some]
            cases ha : anb (upb N t v b) b with
            | false =>
              rw [show bi false = 0 from rfl, if_pos n00, f_X5_measureRivers_l80, if_neg (show ¬ nI 1 = 0 from n10)]
              exact fin true (by unfold SPR; rw [decide_eq_true (by omega), ha]; rfl)
            | true =>
              rw [show bi true = 1 from rfl, if_neg n10, f_X5_measureRivers_l79, f_X5_measureRivers_l80, if_pos n00]
              exact fin false (by unfold SPR; rw [ha]; exact (Bool.and_false _).symm)
      exact inner (bo N t v (r + 1) - bo N t v r) (bo N t v r) hm_fu (by omega) (Nat.le_refl _) (by unfold hm_fu; omega) q4 q5 hq (fun x h3 h4 => by omega)
  rw [f_X5_measureRivers, f_X5_lineCount, rg_size, Option.bind_some, Option.bind_some, hl.1, show nI (pL N t v) - 1 = fr (pL N t v) by unfold fr; rw [zI_nat, zl_1, zI_sub]]
  exact key (pL N t v) hm_fu (Nat.le_refl _) (by unfold hm_fu; omega) q4 q5 ⟨hs.2.2.1, hs.2.2.2.1, fun x h3 h4 => by have e : bo N t v (pL N t v) = nB N t v := rfl; omega⟩
end CRV
