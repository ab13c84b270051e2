/-! pure: rivers -/
/-- the most of g over what p picks among the first; whether p picks one -/
def mxl (p : Nat → Bool) (g : Nat → Nat) : Nat → Nat
  | 0 => 0
  | n + 1 => if p n = true then (if mxl p g n < g n then g n else mxl p g n) else mxl p g n
def anb (p : Nat → Bool) : Nat → Bool
  | 0 => false
  | n + 1 => anb p n || p n
def bi (b : Bool) : Int32 := if b = true then 1 else 0
theorem bi_01 (b : Bool) : bi b = 0 ∨ bi b = 1 := by cases b; exact Or.inl rfl; exact Or.inr rfl
theorem bi_0 (b : Bool) : bi b = 0 ↔ b = false := by cases b <;> decide
theorem mxl_congr {p : Nat → Bool} {g h : Nat → Nat} {n : Nat} (H : ∀ j, j < n → p j = true → g j = h j) : mxl p g n = mxl p h n := by
  induction n with
  | zero => rfl
  | succ n ih =>
    have e := ih (fun j hj => H j (by omega))
    rw [mxl, mxl, e]
    by_cases hp : p n = true
    · rw [if_pos hp, if_pos hp, H n (by omega) hp]
    · rw [if_neg hp, if_neg hp]
theorem mxl_none {p : Nat → Bool} {g : Nat → Nat} {a b : Nat} (hab : a ≤ b) (H : ∀ j, a ≤ j → j < b → p j = false) : mxl p g b = mxl p g a := by
  obtain ⟨d, rfl⟩ : ∃ d, b = a + d := ⟨b - a, by omega⟩
  clear hab
  induction d with
  | zero => rfl
  | succ d ih =>
    rw [← Nat.add_assoc, mxl, if_neg (by rw [H (a + d) (by omega) (by omega)]; intro z; cases z)]
    exact ih (fun j h1 h2 => H j h1 (by omega))
theorem anb_none {p : Nat → Bool} {a b : Nat} (hab : a ≤ b) (H : ∀ j, a ≤ j → j < b → p j = false) : anb p b = anb p a := by
  obtain ⟨d, rfl⟩ : ∃ d, b = a + d := ⟨b - a, by omega⟩
  clear hab
  induction d with
  | zero => rfl
  | succ d ih =>
    rw [← Nat.add_assoc, anb, H (a + d) (by omega) (by omega), Bool.or_false]
    exact ih (fun j h1 h2 => H j h1 (by omega))
theorem anb_yes {p : Nat → Bool} {a b : Nat} (hab : a < b) (H : p a = true) : anb p b = true := by
  obtain ⟨d, rfl⟩ : ∃ d, b = a + 1 + d := ⟨b - a - 1, by omega⟩
  clear hab
  induction d with
  | zero => rw [Nat.add_zero, anb, H, Bool.or_true]
  | succ d ih => rw [← Nat.add_assoc, anb, ih, Bool.true_or]
theorem mxl_le {p : Nat → Bool} {g : Nat → Nat} {n m : Nat} (H : ∀ j, g j ≤ m) : mxl p g n ≤ m := by
  induction n with
  | zero => exact Nat.zero_le _
  | succ n ih =>
    have := H n
    rw [mxl]
    split
    · split <;> omega
    · exact ih
section RIV
variable (N : Nat) (t : Nat → Int32) (v : Nat → Nat)
def nB : Nat := bo N t v (pL N t v)
def mt (a b : Nat) : Bool := decide (fF N t v a < fT N t v b) && decide (fF N t v b < fT N t v a)
def dn (b : Nat) : Nat → Bool := fun c => decide (LN N t v c = LN N t v b + 1) && mt N t v b c
def upb (b : Nat) : Nat → Bool := fun c => decide (LN N t v c + 1 = LN N t v b) && mt N t v b c
def lgt : Nat → Nat → Nat
  | 0, _ => 0
  | d + 1, b => 1 + mxl (dn N t v b) (lgt d) (nB N t v)
def LG (b : Nat) : Nat := lgt N t v (pL N t v - LN N t v b) b
def SPR (b : Nat) : Bool := decide (3 ≤ LG N t v b) && !(anb (upb N t v b) b)
end RIV
section RVL
variable {N : Nat} {t : Nat → Int32} {v : Nat → Nat}
theorem lgt_le : ∀ d b, lgt N t v d b ≤ d := by
  intro d
  induction d with
  | zero => intro b; exact Nat.le_refl _
  | succ d ih =>
    intro b
    have := mxl_le (p := dn N t v b) (n := nB N t v) ih
    rw [lgt]; omega
theorem LG_le (b : Nat) : LG N t v b ≤ pL N t v := Nat.le_trans (lgt_le _ b) (Nat.sub_le _ _)
theorem LN_lt {b : Nat} (h : b < nB N t v) : LN N t v b < pL N t v ∧ bo N t v (LN N t v b) ≤ b ∧ b < bo N t v (LN N t v b + 1) := by
  obtain ⟨k, i, h1, h2, h3⟩ := bo_at h
  rw [h3, LN_at h1 h2]
  have : bo N t v (k + 1) = bo N t v k + bn N t v k := rfl
  omega
theorem LG_eq {b : Nat} (h : b < nB N t v) : LG N t v b = 1 + mxl (dn N t v b) (LG N t v) (nB N t v) := by
  have hl := (LN_lt h).1
  have e : LG N t v b = lgt N t v (pL N t v - LN N t v b) b := rfl
  obtain ⟨d, hd⟩ : ∃ d, pL N t v - LN N t v b = d + 1 := ⟨pL N t v - LN N t v b - 1, by omega⟩
  rw [e, hd, lgt]
  congr 1
  refine mxl_congr (fun j hj hp => ?_)
  unfold dn at hp
  have h1 := of_decide_eq_true (Bool.and_eq_true_iff.1 hp).1
  unfold LG
  congr 1
  omega
theorem LN_up {b c : Nat} (hb : b < nB N t v) (hc : c < nB N t v) (h : LN N t v c = LN N t v b + 1) : b < c := by
  have h1 := LN_lt hb
  have h2 := LN_lt hc
  rw [h] at h2
  omega
theorem fF_lt (hok : tx_ok N t) (hv : sv_ok v) {o : Nat × Nat × Nat} (hT : TB N t v (v 35) 0 = some o) {b : Nat} (h : b < nB N t v) : fF N t v b < fT N t v b ∧ fT N t v b ≤ 21000 := by
  obtain ⟨k, i, h1, h2, h3⟩ := bo_at h
  have h4 := bF_le hok hv hT h1 h2
  have h5 := hv.2.2.1
  rw [h3, (fF_at h1 h2).1, (fF_at h1 h2).2]
  refine ⟨?_, h4.2.1⟩
  unfold bT
  generalize spk N t v k / bn N t v k = q
  split <;> omega
/-- the model's rivers -/
theorem md_common (hok : tx_ok N t) (hv : sv_ok v) {o : Nat × Nat × Nat} (hT : TB N t v (v 35) 0 = some o) {a19 a20 a21 : Nat → Int32} (hr : brow N t v (nB N t v) a19 a20 a21) {a b : Nat} (ha : a < nB N t v) (hb : b < nB N t v) : f_X8_areCommon a20 a21 (nI a) (nI b) = some (bi (mt N t v a b)) := by
  have hn : nB N t v ≤ 29 := (bo_le hok hT (pL N t v) (Nat.le_refl _)).2
  have fa := fF_lt hok hv hT ha
  have fb := fF_lt hok hv hT hb
  obtain ⟨-, ra1, ra2⟩ := hr a ha
  obtain ⟨-, rb1, rb2⟩ := hr b hb
  have fin : ∀ x y : Nat, x ≤ 21000 → y ≤ 21000 → ((fF N t v a < fT N t v b ∧ fF N t v b < fT N t v a) ↔ x < y) → f_X8_areCommon_l61 (nI y) (nI x) = some (bi (mt N t v a b)) := by
    intro x y hx hy hiff
    rw [f_X8_areCommon_l61]
    unfold mt bi
    by_cases hxy : x < y
    · rw [if_neg (by rw [nI_lei (by omega) (by omega)]; omega), decide_eq_true (hiff.2 hxy).1, decide_eq_true (hiff.2 hxy).2]
      rfl
    · rw [if_pos (by rw [nI_lei (by omega) (by omega)]; omega)]
      have hnot : ¬ (fF N t v a < fT N t v b ∧ fF N t v b < fT N t v a) := fun z => hxy (hiff.1 z)
      rw [if_neg (fun z => hnot ⟨of_decide_eq_true (Bool.and_eq_true_iff.1 z).1, of_decide_eq_true (Bool.and_eq_true_iff.1 z).2⟩)]
  have mid : ∀ x : Nat, (fF N t v a ≤ x ∧ fF N t v b ≤ x ∧ (x = fF N t v a ∨ x = fF N t v b)) → f_X8_areCommon_l30 a21 (nI a) (nI b) (nI x) = some (bi (mt N t v a b)) := by
    intro x hx
    rw [f_X8_areCommon_l30, rd_in (by omega) (by omega), Option.bind_some, rd_in (by omega) (by omega), Option.bind_some, ra2, rb2]
    by_cases h1 : fT N t v b ≤ fT N t v a
    · rw [if_pos (by rw [nI_lei (by omega) (by omega)]; omega), Option.bind_some]
      exact fin _ _ (by omega) (by omega) (by omega)
    · rw [if_neg (by rw [nI_lei (by omega) (by omega)]; omega), Option.bind_some]
      exact fin _ _ (by omega) (by omega) (by omega)
  rw [f_X8_areCommon, rd_in (by omega) (by omega), Option.bind_some, rd_in (by omega) (by omega), Option.bind_some, ra1, rb1]
  by_cases h1 : fF N t v a ≤ fF N t v b
  · rw [if_pos (by rw [nI_lei (by omega) (by omega)]; omega), Option.bind_some]
    exact mid _ (by omega)
  · rw [if_neg (by rw [nI_lei (by omega) (by omega)]; omega), Option.bind_some]
    exact mid _ (by omega)
/-- the class's -/
theorem cl_meet (hok : tx_ok N t) (hv : sv_ok v) {o : Nat × Nat × Nat} (hT : TB N t v (v 35) 0 = some o) {s2 s3 s4 s5 : hm_SR} (hr : srow N t v (nB N t v) s2 s3 s4 s5) {a b : Nat} (ha : a < nB N t v) (hb : b < nB N t v) : f_X5_meet s2 s3 (nI a) (nI b) = some (bi (mt N t v a b)) := by
  have hn : nB N t v ≤ 29 := (bo_le hok hT (pL N t v) (Nat.le_refl _)).2
  have fa := fF_lt hok hv hT ha
  have fb := fF_lt hok hv hT hb
  obtain ⟨u1, u2, u3, u4, u5⟩ := hr
  obtain ⟨ra1, ra2⟩ := u5 a ha
  obtain ⟨rb1, rb2⟩ := u5 b hb
  rw [f_X5_meet, rg_in u1 ha (by omega) (by omega), Option.bind_some, rg_in u2 hb (by omega) (by omega), Option.bind_some, ra1, rb2]
  unfold mt bi
  by_cases h1 : fF N t v a < fT N t v b
  · rw [if_neg (by rw [nI_lei (by omega) (by omega)]; omega), rg_in u1 hb (by omega) (by omega), Option.bind_some, rg_in u2 ha (by omega) (by omega), Option.bind_some, rb1, ra2, decide_eq_true h1, Bool.true_and]
    by_cases h2 : fF N t v b < fT N t v a
    · rw [if_neg (by rw [nI_lei (by omega) (by omega)]; omega), decide_eq_true h2]; rfl
    · rw [if_pos (by rw [nI_lei (by omega) (by omega)]; omega), decide_eq_false h2]; rfl
  · rw [if_pos (by rw [nI_lei (by omega) (by omega)]; omega), decide_eq_false h1]; rfl
theorem md_long (hok : tx_ok N t) (hv : sv_ok v) {o : Nat × Nat × Nat} (hT : TB N t v (v 35) 0 = some o) {a19 a20 a21 : Nat → Int32} (hr : brow N t v (nB N t v) a19 a20 a21) (A22 A23 : Nat → Int32) : ∃ c22 : Nat → Int32, f_X8_rivers a19 a20 a21 A22 A23 (nI (nB N t v)) = f_X8_rivers_l105 a19 a20 a21 A23 (nI (nB N t v)) c22 ∧ ∀ b, b < nB N t v → c22 b = nI (LG N t v b) := by
  have hn : nB N t v ≤ 29 := (bo_le hok hT (pL N t v) (Nat.le_refl _)).2
  have hP : nP N t ≤ 100 := pl_100 hok
  have hL := pL_le hv hT
  have key : ∀ (r fuel : Nat), r ≤ nB N t v → r < fuel → ∀ c : Nat → Int32, (∀ b, r ≤ b → b < nB N t v → c b = nI (LG N t v b)) → ∃ c22 : Nat → Int32, f_X8_rivers_l7 a19 a20 a21 A23 (nI (nB N t v)) fuel (fr r) c = f_X8_rivers_l105 a19 a20 a21 A23 (nI (nB N t v)) c22 ∧ ∀ b, b < nB N t v → c22 b = nI (LG N t v b) := by
    intro r
    induction r with
    | zero =>
      intro fuel h1 h2 c hc
      obtain ⟨fuel, rfl⟩ : ∃ z, fuel = z + 1 := ⟨fuel - 1, by omega⟩
      rw [f_X8_rivers_l7_s, if_pos fr_neg]
      exact ⟨c, rfl, fun b hb => hc b (Nat.zero_le _) hb⟩
    | succ r ih =>
      intro fuel h1 h2 c hc
      obtain ⟨fuel, rfl⟩ : ∃ z, fuel = z + 1 := ⟨fuel - 1, by omega⟩
      have hrb : r < nB N t v := by omega
      rw [f_X8_rivers_l7_s, if_neg (fr_pos (by omega)), fr_s, nI_1]
      have inner : ∀ (d x fuel' : Nat), nB N t v = x + d → r < x → d < fuel' → ∃ c22 : Nat → Int32, f_X8_rivers_l17 (fun zv1 zwA_22 => f_X8_rivers_l7 a19 a20 a21 A23 (nI (nB N t v)) fuel zv1 zwA_22) a19 a20 a21 (nI (nB N t v)) fuel' (nI r) (nI (mxl (dn N t v r) (LG N t v) x)) (nI x) c = f_X8_rivers_l105 a19 a20 a21 A23 (nI (nB N t v)) c22 ∧ ∀ b, b < nB N t v → c22 b = nI (LG N t v b) := by
        intro d
        induction d with
        | zero =>
          intro x fuel' hx hrx hf
          obtain ⟨fuel', rfl⟩ : ∃ z, fuel' = z + 1 := ⟨fuel' - 1, by omega⟩
          rw [f_X8_rivers_l17_s, if_pos (by rw [show x = nB N t v by omega]; exact Int32.le_refl _), f_X8_rivers_l90, nI_1, wr_in (by omega) (by omega), Option.bind_some, show nI r + (-1) = fr r by unfold fr; rw [zI_nat, zl_1, zI_neg, zI_add]; congr 1]
          refine ih fuel (by omega) (by omega) _ (fun b hb1 hb2 => ?_)
          by_cases e : b = r
          · rw [e, ud_s, LG_eq hrb, show x = nB N t v by omega, Nat.add_comm]
          · rw [ud_n e]; exact hc b (by omega) hb2
        | succ d ih' =>
          intro x fuel' hx hrx hf
          obtain ⟨fuel', rfl⟩ : ∃ z, fuel' = z + 1 := ⟨fuel' - 1, by omega⟩
          have hxb : x < nB N t v := by omega
          have hl1 := (LN_lt hxb).1
          have hl2 := (LN_lt hrb).1
          have hm := mxl_le (p := dn N t v r) (n := x) (LG_le (N := N) (t := t) (v := v))
          have hg := LG_le (N := N) (t := t) (v := v) x
          have next := ih' (x + 1) fuel' (by omega) (by omega) (by omega)
          rw [f_X8_rivers_l17_s, if_neg (by rw [nI_lei (by omega) (by omega)]; omega), rd_in (by omega) (by omega), Option.bind_some, rd_in (by omega) (by omega), Option.bind_some, (hr x hxb).1, (hr r hrb).1, nI_1]
          by_cases hln : LN N t v x = LN N t v r + 1
          · rw [if_pos (by rw [hln]), md_common hok hv hT hr hrb hxb, Option.bind_some]
            cases hmt : mt N t v r x with
            | false =>
              have hd : dn N t v r x = false := by unfold dn; rw [hmt, Bool.and_false]
              rw [mxl, if_neg (by rw [hd]; intro z; cases z)] at next
              rw [show bi false = 0 from rfl, if_pos n00, f_X8_rivers_l55, f_X8_rivers_l56, if_pos n00, f_X8_rivers_l82, f_X8_rivers_l83, nI_1]
              exact next
            | true =>
              have hd : dn N t v r x = true := by unfold dn; rw [hmt, decide_eq_true hln]; rfl
              rw [mxl, if_pos hd] at next
              rw [show bi true = 1 from rfl, if_neg n10, f_X8_rivers_l56, if_neg n10, rd_in (by omega) (by omega), Option.bind_some, hc x (by omega) hxb]
              by_cases hlt : mxl (dn N t v r) (LG N t v) x < LG N t v x
              · rw [if_pos hlt] at next
                rw [if_neg (by rw [nI_lei (by omega) (by omega)]; omega), Option.bind_some, f_X8_rivers_l83, nI_1]
                exact next
              · rw [if_neg hlt] at next
                rw [if_pos (by rw [nI_lei (by omega) (by omega)]; omega), f_X8_rivers_l82, f_X8_rivers_l83, nI_1]
                exact next
          · have hd : dn N t v r x = false := by unfold dn; rw [decide_eq_false hln]; rfl
            rw [mxl, if_neg (by rw [hd]; intro z; cases z)] at next
            rw [if_neg (by rw [nI_eqi (by omega) (by omega)]; exact hln), f_X8_rivers_l55, f_X8_rivers_l56, if_pos n00, f_X8_rivers_l82, f_X8_rivers_l83, nI_1]
            exact next
      have h0 : mxl (dn N t v r) (LG N t v) (r + 1) = 0 := mxl_none (Nat.zero_le _) (fun j _ hj => by
        unfold dn
        rw [decide_eq_false (fun z => by have := LN_up hrb (show j < nB N t v by omega) z; omega)]
        rfl)
      have := inner (nB N t v - (r + 1)) (r + 1) hm_fu (by omega) (by omega) (by unfold hm_fu; omega)
      rw [h0] at this
      exact this
  rw [f_X8_rivers, show nI (nB N t v) - 1 = fr (nB N t v) by unfold fr; rw [zI_nat, zl_1, zI_sub]]
  exact key (nB N t v) hm_fu (Nat.le_refl _) (by unfold hm_fu; omega) A22 (fun b h1 h2 => by omega)
theorem md_rivers (hok : tx_ok N t) (hv : sv_ok v) {o : Nat × Nat × Nat} (hT : TB N t v (v 35) 0 = some o) {a19 a20 a21 : Nat → Int32} (hr : brow N t v (nB N t v) a19 a20 a21) (A22 A23 : Nat → Int32) : ∃ c22 c23 : Nat → Int32, f_X8_rivers a19 a20 a21 A22 A23 (nI (nB N t v)) = some (c22, c23) ∧ ∀ b, b < nB N t v → c22 b = nI (LG N t v b) ∧ c23 b = bi (SPR N t v b) := by
  have hn : nB N t v ≤ 29 := (bo_le hok hT (pL N t v) (Nat.le_refl _)).2
  have hP : nP N t ≤ 100 := pl_100 hok
  have hL := pL_le hv hT
  obtain ⟨c22, e1, e2⟩ := md_long hok hv hT hr A22 A23
  have key : ∀ (d b fuel : Nat), nB N t v = b + d → d < fuel → ∀ c : Nat → Int32, (∀ x, x < b → c x = bi (SPR N t v x)) → ∃ c23 : Nat → Int32, f_X8_rivers_l107 a19 a20 a21 (nI (nB N t v)) fuel (nI b) c22 c = some (c22, c23) ∧ ∀ x, x < nB N t v → c23 x = bi (SPR N t v x) := by
    intro d
    induction d with
    | zero =>
      intro b fuel hb hf c hc
      obtain ⟨fuel, rfl⟩ : ∃ z, fuel = z + 1 := ⟨fuel - 1, by omega⟩
      have e : b = nB N t v := by omega
      rw [f_X8_rivers_l107_s, if_pos (by rw [e]; exact Int32.le_refl _)]
      exact ⟨c, rfl, fun x hx => hc x (by omega)⟩
    | succ d ih =>
      intro b fuel hb hf c hc
      obtain ⟨fuel, rfl⟩ : ∃ z, fuel = z + 1 := ⟨fuel - 1, by omega⟩
      have hbb : b < nB N t v := by omega
      have hg := LG_le (N := N) (t := t) (v := v) b
      have inner : ∀ (d' x fuel' : Nat), b = x + d' → d' < fuel' → ∀ c : Nat → Int32, (∀ x, x < b → c x = bi (SPR N t v x)) → c b = bi (decide (3 ≤ LG N t v b) && !(anb (upb N t v b) x)) → ∃ c23 : Nat → Int32, f_X8_rivers_l138 (fun zv1 zwA_22 zwA_23 => f_X8_rivers_l107 a19 a20 a21 (nI (nB N t v)) fuel zv1 zwA_22 zwA_23) a19 a20 a21 fuel' (nI b) (nI x) c22 c = some (c22, c23) ∧ ∀ x, x < nB N t v → c23 x = bi (SPR N t v x) := by
        intro d'
        induction d' with
        | zero =>
          intro x fuel' hx hf' c hc hcb
          obtain ⟨fuel', rfl⟩ : ∃ z, fuel' = z + 1 := ⟨fuel' - 1, by omega⟩
          have e : x = b := by omega
          rw [f_X8_rivers_l138_s, if_pos (by rw [e]; exact Int32.le_refl _), f_X8_rivers_l195, nI_1]
          refine ih (b + 1) fuel (by omega) (by omega) c (fun y hy => ?_)
          by_cases ey : y = b
          · rw [ey, hcb, e]; rfl
          · exact hc y (by omega)
        | succ d' ih' =>
          intro x fuel' hx hf' c hc hcb
          obtain ⟨fuel', rfl⟩ : ∃ z, fuel' = z + 1 := ⟨fuel' - 1, by omega⟩
          have hxb : x < nB N t v := by omega
          have hl1 := (LN_lt hxb).1
          have hl2 := (LN_lt hbb).1
          have fin : ∀ (q : Bool), q = (decide (3 ≤ LG N t v b) && !(anb (upb N t v b) (x + 1))) → ∃ c23 : Nat → Int32, f_X8_rivers_l188 (fun zv1 zwA_22 zwA_23 => f_X8_rivers_l107 a19 a20 a21 (nI (nB N t v)) fuel zv1 zwA_22 zwA_23) (fun zv1 zv2 zwA_22 zwA_23 => f_X8_rivers_l138 (fun zv1 zwA_22 zwA_23 => f_X8_rivers_l107 a19 a20 a21 (nI (nB N t v)) fuel zv1 zwA_22 zwA_23) a19 a20 a21 fuel' zv1 zv2 zwA_22 zwA_23) (bi q) (nI b) (nI b) (nI x) c22 c = some (c22, c23) ∧ ∀ x, x < nB N t v → c23 x = bi (SPR N t v x) := by
            intro q hq
            rw [f_X8_rivers_l188, wz_in (by omega) (by omega) (bi_01 q), Option.bind_some, nI_1]
            refine ih' (x + 1) fuel' (by omega) (by omega) _ (fun y hy => ?_) ?_
            · rw [ud_n (by omega)]; exact hc y hy
            · rw [ud_s, hq]
          rw [f_X8_rivers_l138_s, if_neg (by rw [nI_lei (by omega) (by omega)]; omega), rd_in (by omega) (by omega), Option.bind_some, hcb]
          cases hq : (decide (3 ≤ LG N t v b) && !(anb (upb N t v b) x)) with
          | false =>
            rw [show bi false = 0 from rfl, if_pos n00, f_X8_rivers_l187]
            refine fin false ?_
            cases h3 : decide (3 ≤ LG N t v b) with
            | false => rfl
            | true =>
              rw [h3, Bool.true_and] at hq
              rw [anb, show anb (upb N t v b) x = true by cases h4 : anb (upb N t v b) x with | true => rfl | false => rw [h4] at hq; cases hq]
              rfl
          | true =>
            have hq2 := Bool.and_eq_true_iff.1 hq
            have ha : anb (upb N t v b) x = false := by cases h4 : anb (upb N t v b) x with | false => rfl | true => rw [h4] at hq2; exact absurd hq2.2 (by decide)
            have hnx : (decide (3 ≤ LG N t v b) && !(anb (upb N t v b) (x + 1))) = !(upb N t v b x) := by rw [hq2.1, anb, ha, Bool.false_or, Bool.true_and]
            rw [show bi true = 1 from rfl, if_neg n10, rd_in (by omega) (by omega), Option.bind_some, rd_in (by omega) (by omega), Option.bind_some, (hr x hxb).1, (hr b hbb).1]
            have hiff : nI (LN N t v x) = nI (LN N t v b) - 1 ↔ LN N t v x + 1 = LN N t v b := by
              rw [zI_nat, zI_nat, zl_1, zI_sub, zI_eq (by omega) (by omega) (by omega) (by omega)]
              omega
            by_cases hln : LN N t v x + 1 = LN N t v b
            · rw [if_pos (hiff.2 hln), md_common hok hv hT hr hbb hxb, Option.bind_some]
              have hu : upb N t v b x = mt N t v b x := by unfold upb; rw [decide_eq_true hln, Bool.true_and]
              cases hmt : mt N t v b x with
              | false =>
                rw [show bi false = 0 from rfl, if_pos n00, f_X8_rivers_l183]
                exact fin true (by rw [hnx, hu, hmt]; rfl)
              | true =>
                rw [show bi true = 1 from rfl, if_neg n10, f_X8_rivers_l187]
                exact fin false (by rw [hnx, hu, hmt]; rfl)
            · rw [if_neg (fun z => hln (hiff.1 z)), f_X8_rivers_l183]
              exact fin true (by rw [hnx]; unfold upb; rw [decide_eq_false hln]; rfl)
      rw [f_X8_rivers_l107_s, if_neg (by rw [nI_lei (by omega) (by omega)]; omega), rd_in (by omega) (by omega), Option.bind_some, e2 b hbb]
      by_cases h3 : 3 ≤ LG N t v b
      · rw [if_neg (by rw [nl_2, nI_lei (by omega) (by omega)]; omega), f_X8_rivers_l135, wz_in (by omega) (by omega) (Or.inr rfl), Option.bind_some]
        refine inner b 0 hm_fu (by omega) (by unfold hm_fu; omega) _ (fun y hy => ?_) ?_
        · rw [ud_n (by omega)]; exact hc y hy
        · rw [ud_s, decide_eq_true h3]; rfl
      · rw [if_pos (by rw [nl_2, nI_lei (by omega) (by omega)]; omega), f_X8_rivers_l135, wz_in (by omega) (by omega) (Or.inl rfl), Option.bind_some]
        refine inner b 0 hm_fu (by omega) (by unfold hm_fu; omega) _ (fun y hy => ?_) ?_
        · rw [ud_n (by omega)]; exact hc y hy
        · rw [ud_s, decide_eq_false h3]; rfl
  obtain ⟨c23, g1, g2⟩ := key (nB N t v) 0 hm_fu (by omega) (by unfold hm_fu; omega) A23 (fun x hx => absurd hx (Nat.not_lt_zero _))
  refine ⟨c22, c23, ?_, fun b hb => ⟨e2 b hb, g2 b hb⟩⟩
  rw [e1, f_X8_rivers_l105]
  exact g1
end RVL
