/-! pure: FAULT, on both sides -/
theorem n10 : ¬ (1 : Int32) = 0 := by decide
theorem n00 : (0 : Int32) = 0 := rfl
def bd (N : Nat) (t : Nat → Int32) (k : Nat) : Prop := ¬ lt_ok N t k ∨ 16 < rn t (k + 1) ∨ 30 < ct (wb t) (k + 1)
def btw (N : Nat) (t : Nat → Int32) (k : Nat) : Prop := 0 < k ∧ k + 1 < N ∧ pn t (k - 1) = true ∧ pn t (k + 1) = true
theorem lt_sl {N : Nat} {t : Nat → Int32} {k : Nat} (h : sl t k = true) : lt_ok N t k ↔ btw N t k := by
  have h1 := sl_bk h
  have h2 : pn t k = false := by
    cases hp : pn t k with
    | false => rfl
    | true => rw [(pn_bk hp).2] at h; cases h
  unfold lt_ok btw
  rw [h1, h2, h]
  simp
theorem lt_nsl {N : Nat} {t : Nat → Int32} {k : Nat} (hb : bk t k = false) (h : sl t k = false) : lt_ok N t k ↔ pn t k = true := by
  unfold lt_ok
  rw [hb, h]
  simp
theorem rn_next {t : Nat → Int32} {k : Nat} (hb : bk t k = false) : rn t (k + 1) = rn t k + 1 := by rw [rn_s, if_neg (by rw [hb]; decide)]
theorem rn_blank {t : Nat → Int32} {k : Nat} (hb : bk t k = true) : rn t (k + 1) = 0 := by rw [rn_s, if_pos hb]
theorem wb_next {t : Nat → Int32} {k : Nat} (hb : bk t k = false) : ct (wb t) (k + 1) = ct (wb t) k + (if rn t k = 0 then 1 else 0) := by
  rw [ct_s]
  by_cases h : rn t k = 0
  · rw [if_pos h, if_pos (wb_iff.mpr ⟨hb, h⟩)]
  · rw [if_neg h, if_neg (fun z => h (wb_iff.mp z).2)]
theorem wb_blank {t : Nat → Int32} {k : Nat} (hb : bk t k = true) : ct (wb t) (k + 1) = ct (wb t) k := by
  rw [ct_s, if_neg (fun z => by rw [(wb_iff.mp z).1] at hb; cases hb), Nat.add_zero]
section FLT
variable {N n1 : Nat} {t : Nat → Int32} {r1 : hm_SR}
theorem cl_btw (hr : r1.1 = nI N) (hN : N ≤ 200) (hn : N ≤ n1) (hn1 : n1 < 2147483648) (ht : ∀ j, j < N → r1.2 j = t j) {k : Nat} (hk : k < N) : ∃ x : Int32, f_X7_isBetweenSigns n1 r1 (nI k) = some x ∧ (btw N t k → x = 1) ∧ (¬ btw N t k → x = 0) := by
  rw [f_X7_isBetweenSigns]
  by_cases h0 : k = 0
  · subst h0
    rw [if_pos (by decide)]
    exact ⟨0, rfl, fun h => absurd h.1 (by omega), fun _ => rfl⟩
  · rw [if_neg (nI_nle (by omega) (by omega)), rg_size, Option.bind_some, hr, nI_1]
    by_cases h1 : N ≤ k + 1
    · rw [if_pos (by rw [nI_lei (by omega) (by omega)]; exact h1)]
      exact ⟨0, rfl, fun h => absurd h.2.1 (by omega), fun _ => rfl⟩
    · rw [if_neg (by rw [nI_lei (by omega) (by omega)]; exact h1), nI_m1 (by omega), rg_in hr (by omega) hn hn1, Option.bind_some, cl_plain, Option.bind_some, ht _ (by omega)]
      by_cases h2 : pn t (k - 1) = true
      · rw [show (sg_slot (t (k - 1))).isSome = true from h2, if_pos rfl, if_neg (by decide), rg_in hr (by omega) hn hn1, Option.bind_some, cl_plain, Option.bind_some, ht _ (by omega)]
        by_cases h3 : pn t (k + 1) = true
        · rw [show (sg_slot (t (k + 1))).isSome = true from h3, if_pos rfl, if_neg (by decide)]
          exact ⟨1, rfl, fun _ => rfl, fun h => absurd ⟨by omega, by omega, h2, h3⟩ h⟩
        · rw [if_neg (show ¬ (sg_slot (t (k + 1))).isSome = true from h3), if_pos rfl]
          exact ⟨0, rfl, fun h => absurd h.2.2.2 h3, fun _ => rfl⟩
      · rw [if_neg (show ¬ (sg_slot (t (k - 1))).isSome = true from h2), if_pos rfl]
        exact ⟨0, rfl, fun h => absurd h.2.2.1 h2, fun _ => rfl⟩
theorem cl_count {J : Int32 → Int32 → Int32 → Option Int32} {k w s : Nat} (hw : w ≤ 30) (hs : s ≤ 16) : (16 < s + 1 ∨ 30 < w + (if s = 0 then 1 else 0) → f_X7_faultOf_l61 J (nI w) (nI s) (nI k) = some (nI k)) ∧ (¬ (16 < s + 1 ∨ 30 < w + (if s = 0 then 1 else 0)) → f_X7_faultOf_l61 J (nI w) (nI s) (nI k) = J (nI (w + (if s = 0 then 1 else 0))) (nI (s + 1)) (nI (k + 1))) := by
  have key : ∀ d : Nat, d ≤ 1 → (16 < s + 1 ∨ 30 < w + d → f_X7_faultOf_l71 J (nI d) (nI w) (nI s) (nI k) = some (nI k)) ∧ (¬ (16 < s + 1 ∨ 30 < w + d) → f_X7_faultOf_l71 J (nI d) (nI w) (nI s) (nI k) = J (nI (w + d)) (nI (s + 1)) (nI (k + 1))) := by
    intro d hd
    rw [f_X7_faultOf_l71, nI_1, nI_add, nl_16, nl_30]
    constructor
    · intro h
      by_cases h1 : 16 < s + 1
      · rw [if_pos (by rw [nI_lti (by omega) (by omega)]; exact h1)]
      · rw [if_neg (by rw [nI_lti (by omega) (by omega)]; exact h1), if_neg (by rw [nI_lei (by omega) (by omega)]; omega)]
    · intro h
      rw [if_neg (by rw [nI_lti (by omega) (by omega)]; omega), if_pos (by rw [nI_lei (by omega) (by omega)]; omega), f_X7_faultOf_l90, nI_1]
  rw [f_X7_faultOf_l61]
  by_cases h0 : s = 0
  · rw [if_pos h0, if_pos (by rw [h0]; rfl)]
    exact key 1 (by omega)
  · rw [if_neg h0, if_neg (nI_ne0 (by omega) (by omega))]
    exact key 0 (by omega)
theorem cl_fstep (hr : r1.1 = nI N) (hN : N ≤ 200) (hn : N ≤ n1) (hn1 : n1 < 2147483648) (ht : ∀ j, j < N → r1.2 j = t j) {k fuel : Nat} (hk : k < N) (hw : ct (wb t) k ≤ 30) (hs : rn t k ≤ 16) :
    (bd N t k → f_X7_faultOf_l6 n1 r1 (fuel + 1) (nI (ct (wb t) k)) (nI (rn t k)) (nI k) = some (nI k)) ∧ (¬ bd N t k → f_X7_faultOf_l6 n1 r1 (fuel + 1) (nI (ct (wb t) k)) (nI (rn t k)) (nI k) = f_X7_faultOf_l6 n1 r1 fuel (nI (ct (wb t) (k + 1))) (nI (rn t (k + 1))) (nI (k + 1))) := by
  rw [f_X7_faultOf_l6_s, rg_size, Option.bind_some, hr, if_neg (by rw [nI_lei (by omega) (by omega)]; omega), rg_in hr hk hn hn1, Option.bind_some, ht k hk]
  cases hb : bk t k with
  | true =>
    rw [if_pos (of_decide_eq_true hb), f_X7_faultOf_l90, nI_1, wb_blank hb, rn_blank hb]
    refine ⟨fun h => ?_, fun _ => rfl⟩
    rcases h with h | h | h
    · exact absurd (Or.inl hb) h
    · rw [rn_blank hb] at h; omega
    · rw [wb_blank hb] at h; omega
  | false =>
    rw [if_neg (of_decide_eq_false hb)]
    have hc := cl_count (J := fun zv1 zv2 zv3 => f_X7_faultOf_l6 n1 r1 fuel zv1 zv2 zv3) (k := k) hw hs
    have hbd : bd N t k ↔ (¬ lt_ok N t k ∨ (16 < rn t k + 1 ∨ 30 < ct (wb t) k + (if rn t k = 0 then 1 else 0))) := by
      unfold bd
      rw [rn_next hb, wb_next hb]
    rw [rn_next hb, wb_next hb, hbd]
    cases hsl : sl t k with
    | true =>
      rw [if_pos (of_decide_eq_true hsl)]
      obtain ⟨x, e1, e2, e3⟩ := cl_btw hr hN hn hn1 ht hk
      rw [e1, Option.bind_some]
      by_cases h4 : btw N t k
      · rw [e2 h4, if_neg n10]
        have h5 : lt_ok N t k := (lt_sl hsl).mpr h4
        exact ⟨fun h => hc.1 (h.resolve_left (fun z => z h5)), fun h => hc.2 (fun z => h (Or.inr z))⟩
      · rw [e3 h4, if_pos n00]
        exact ⟨fun _ => rfl, fun h => absurd (Or.inl (fun z => h4 ((lt_sl hsl).mp z))) h⟩
    | false =>
      rw [if_neg (of_decide_eq_false hsl), cl_plain, Option.bind_some]
      by_cases h4 : pn t k = true
      · rw [show (sg_slot (t k)).isSome = true from h4, if_pos rfl, if_neg n10]
        have h5 : lt_ok N t k := (lt_nsl hb hsl).mpr h4
        exact ⟨fun h => hc.1 (h.resolve_left (fun z => z h5)), fun h => hc.2 (fun z => h (Or.inr z))⟩
      · rw [if_neg (show ¬ (sg_slot (t k)).isSome = true from h4), if_pos rfl]
        exact ⟨fun _ => rfl, fun h => absurd (Or.inl (fun z => h4 ((lt_nsl hb hsl).mp z))) h⟩
end FLT
section FLM
variable {N : Nat} {t A : Nat → Int32} {Z : Int32}
theorem md_at (hZ : Z = nI N) (hN : N ≤ 200) (ht : ∀ j, j < N → A j = t j) {k : Int} (h1 : -1 ≤ k) (h2 : k ≤ 300) : ∃ x : Int32, f_X8_isWholeAt A Z (zI k) = some x ∧ (0 ≤ k ∧ k < N ∧ pn t k.toNat = true → x = 1) ∧ (¬ (0 ≤ k ∧ k < N ∧ pn t k.toNat = true) → x = 0) := by
  have hc : ((0 : Int32) ≤ zI k ∧ zI k ≤ nI N - 1) ↔ (0 ≤ k ∧ k ≤ (N : Int) - 1) := by
    rw [zI_nat, zl_0, zl_1, zI_sub, zI_le (by omega) (by omega) (by omega) (by omega), zI_le (by omega) (by omega) (by omega) (by omega)]
  rw [f_X8_isWholeAt, md_in, Option.bind_some, hZ]
  by_cases h : 0 ≤ k ∧ k ≤ (N : Int) - 1
  · rw [if_pos (hc.mpr h), if_neg n10, zI_N h.1, rd_in (by omega) (by omega), Option.bind_some, md_whole, Option.bind_some, ht _ (by omega)]
    by_cases hp : pn t k.toNat = true
    · rw [show (sg_slot (t k.toNat)).isSome = true from hp, if_pos rfl, if_neg n10]
      exact ⟨_, rfl, fun _ => rfl, fun z => absurd ⟨h.1, by omega, hp⟩ z⟩
    · rw [if_neg (show ¬ (sg_slot (t k.toNat)).isSome = true from hp), if_pos n00]
      exact ⟨_, rfl, fun z => absurd z.2.2 hp, fun _ => rfl⟩
  · rw [if_neg (fun z => h (hc.mp z)), if_pos n00]
    exact ⟨_, rfl, fun z => absurd ⟨z.1, by omega⟩ h, fun _ => rfl⟩
theorem md_count {J : Int32 → Int32 → Int32 → Option Int32} {k w s : Nat} {x : Int32} (hb : ¬ x = 32) (hw : w ≤ 30) (hs : s ≤ 16) : (16 < s + 1 ∨ 30 < w + (if s = 0 then 1 else 0) → f_X8_fault_l78 J (nI w) (nI s) (nI k) x = some (nI k)) ∧ (¬ (16 < s + 1 ∨ 30 < w + (if s = 0 then 1 else 0)) → f_X8_fault_l78 J (nI w) (nI s) (nI k) x = J (nI (w + (if s = 0 then 1 else 0))) (nI (s + 1)) (nI (k + 1))) := by
  have key : ∀ d : Nat, d ≤ 1 → (16 < s + 1 ∨ 30 < w + d → f_X8_fault_l95 J (nI d) (nI w) (nI s) (nI k) x = some (nI k)) ∧ (¬ (16 < s + 1 ∨ 30 < w + d) → f_X8_fault_l95 J (nI d) (nI w) (nI s) (nI k) x = J (nI (w + d)) (nI (s + 1)) (nI (k + 1))) := by
    intro d hd
    rw [f_X8_fault_l95, if_neg hb, f_X8_fault_l111, nI_1, nI_add, nl_16, nl_30]
    constructor
    · intro h
      by_cases h1 : 16 < s + 1
      · rw [if_pos (by rw [nI_lti (by omega) (by omega)]; exact h1)]
      · rw [if_neg (by rw [nI_lti (by omega) (by omega)]; exact h1), if_neg (by rw [nI_lei (by omega) (by omega)]; omega)]
    · intro h
      rw [if_neg (by rw [nI_lti (by omega) (by omega)]; omega), if_pos (by rw [nI_lei (by omega) (by omega)]; omega), nI_1]
  rw [f_X8_fault_l78, if_neg hb]
  by_cases h0 : s = 0
  · rw [if_pos h0, if_pos (by rw [h0]; rfl)]
    exact key 1 (by omega)
  · rw [if_neg h0, if_neg (nI_ne0 (by omega) (by omega)), f_X8_fault_l94]
    exact key 0 (by omega)
theorem md_fstep (hZ : Z = nI N) (hN : N ≤ 200) (ht : ∀ j, j < N → A j = t j) {k fuel : Nat} (hk : k < N) (hw : ct (wb t) k ≤ 30) (hs : rn t k ≤ 16) :
    (bd N t k → f_X8_fault_l6 A Z (fuel + 1) (nI (ct (wb t) k)) (nI (rn t k)) (nI k) = some (nI k)) ∧ (¬ bd N t k → f_X8_fault_l6 A Z (fuel + 1) (nI (ct (wb t) k)) (nI (rn t k)) (nI k) = f_X8_fault_l6 A Z fuel (nI (ct (wb t) (k + 1))) (nI (rn t (k + 1))) (nI (k + 1))) := by
  rw [f_X8_fault_l6_s, if_neg (by rw [hZ, nI_lei (by omega) (by omega)]; omega), rd_in (by omega) (by omega), Option.bind_some, ht k hk]
  cases hb : bk t k with
  | true =>
    have hx : t k = 32 := of_decide_eq_true hb
    rw [if_neg (by rw [hx]; decide), f_X8_fault_l53, f_X8_fault_l54, if_pos hx, f_X8_fault_l78, if_pos hx, f_X8_fault_l94, f_X8_fault_l95, if_pos hx, f_X8_fault_l111, if_neg (by decide), nl_0, nI_add, nl_30, if_pos (by rw [nI_lei (by omega) (by omega)]; omega), nI_1, wb_blank hb, rn_blank hb]
    refine ⟨fun h => ?_, fun _ => rfl⟩
    rcases h with h | h | h
    · exact absurd (Or.inl hb) h
    · rw [rn_blank hb] at h; omega
    · rw [wb_blank hb] at h; omega
  | false =>
    have hx : ¬ t k = 32 := of_decide_eq_false hb
    have hc := md_count (J := fun zv1 zv2 zv3 => f_X8_fault_l6 A Z fuel zv1 zv2 zv3) (k := k) hx hw hs
    have hbd : bd N t k ↔ (¬ lt_ok N t k ∨ (16 < rn t k + 1 ∨ 30 < ct (wb t) k + (if rn t k = 0 then 1 else 0))) := by
      unfold bd
      rw [rn_next hb, wb_next hb]
    rw [rn_next hb, wb_next hb, hbd]
    have l54 : ∀ x : Int32, (lt_ok N t k ↔ (pn t k = true ∨ ¬ x = 0)) → (¬ lt_ok N t k ∨ (16 < rn t k + 1 ∨ 30 < ct (wb t) k + (if rn t k = 0 then 1 else 0)) → f_X8_fault_l54 (fun zv1 zv2 zv3 => f_X8_fault_l6 A Z fuel zv1 zv2 zv3) x (nI (ct (wb t) k)) (nI (rn t k)) (nI k) (t k) = some (nI k)) ∧ (¬ (¬ lt_ok N t k ∨ (16 < rn t k + 1 ∨ 30 < ct (wb t) k + (if rn t k = 0 then 1 else 0))) → f_X8_fault_l54 (fun zv1 zv2 zv3 => f_X8_fault_l6 A Z fuel zv1 zv2 zv3) x (nI (ct (wb t) k)) (nI (rn t k)) (nI k) (t k) = f_X8_fault_l6 A Z fuel (nI (ct (wb t) k + (if rn t k = 0 then 1 else 0))) (nI (rn t k + 1)) (nI (k + 1))) := by
      intro x hlt
      rw [f_X8_fault_l54, if_neg hx, md_whole, Option.bind_some]
      by_cases hp : pn t k = true
      · rw [show (sg_slot (t k)).isSome = true from hp, if_pos rfl, if_neg n10]
        have h5 : lt_ok N t k := hlt.mpr (Or.inl hp)
        exact ⟨fun h => hc.1 (h.resolve_left (fun z => z h5)), fun h => hc.2 (fun z => h (Or.inr z))⟩
      · rw [if_neg (show ¬ (sg_slot (t k)).isSome = true from hp), if_pos rfl]
        by_cases hx0 : x = 0
        · rw [if_pos hx0]
          exact ⟨fun _ => rfl, fun h => absurd (Or.inl (fun z => (hlt.mp z).elim hp (fun z => z hx0))) h⟩
        · rw [if_neg hx0]
          have h5 : lt_ok N t k := hlt.mpr (Or.inr hx0)
          exact ⟨fun h => hc.1 (h.resolve_left (fun z => z h5)), fun h => hc.2 (fun z => h (Or.inr z))⟩
    cases hsl : sl t k with
    | true =>
      have hnp : ¬ pn t k = true := fun hp => by rw [(pn_bk hp).2] at hsl; cases hsl
      rw [if_pos (of_decide_eq_true hsl)]
      obtain ⟨x, e1, e2, e3⟩ := md_at hZ hN ht (k := (k : Int) - 1) (by omega) (by omega)
      obtain ⟨y, g1, g2, g3⟩ := md_at hZ hN ht (k := (k : Int) + 1) (by omega) (by omega)
      have hk1 : nI k - 1 = zI ((k : Int) - 1) := by rw [zI_nat, zl_1, zI_sub]
      have hk2 : nI k + 1 = zI ((k : Int) + 1) := by rw [zI_nat, zl_1, zI_add]
      rw [hk1, hk2, e1, Option.bind_some]
      have t1 : ((k : Int) - 1).toNat = k - 1 := by omega
      have t2 : ((k : Int) + 1).toNat = k + 1 := by omega
      rw [t1] at e2 e3
      rw [t2] at g2 g3
      by_cases h4 : 0 ≤ (k : Int) - 1 ∧ (k : Int) - 1 < N ∧ pn t (k - 1) = true
      · rw [e2 h4, if_neg n10, g1, Option.bind_some]
        by_cases h5 : 0 ≤ (k : Int) + 1 ∧ (k : Int) + 1 < N ∧ pn t (k + 1) = true
        · rw [g2 h5, if_neg n10]
          exact l54 1 ⟨fun _ => Or.inr (by decide), fun _ => (lt_sl hsl).mpr ⟨by omega, by omega, h4.2.2, h5.2.2⟩⟩
        · rw [g3 h5, if_pos n00, f_X8_fault_l53]
          exact l54 0 ⟨fun z => absurd ⟨by omega, by have := ((lt_sl hsl).mp z).2.1; omega, ((lt_sl hsl).mp z).2.2.2⟩ h5, fun z => z.elim (fun z => absurd z hnp) (fun z => absurd rfl z)⟩
      · rw [e3 h4, if_pos n00, f_X8_fault_l53]
        exact l54 0 ⟨fun z => absurd ⟨by have := ((lt_sl hsl).mp z).1; omega, by omega, ((lt_sl hsl).mp z).2.2.1⟩ h4, fun z => z.elim (fun z => absurd z hnp) (fun z => absurd rfl z)⟩
    | false =>
      rw [if_neg (of_decide_eq_false hsl), f_X8_fault_l53]
      exact l54 0 ⟨fun z => Or.inl ((lt_nsl hb hsl).mp z), fun z => z.elim (fun z => (lt_nsl hb hsl).mpr z) (fun z => absurd rfl z)⟩
end FLM
/-- both sides find the same first fault, or none -/
theorem ft_both {N n1 : Nat} {t A : Nat → Int32} {r1 : hm_SR} {Z : Int32} (hr : r1.1 = nI N) (hN : N ≤ 200) (hn : N ≤ n1) (hn1 : n1 < 2147483648) (ht : ∀ j, j < N → r1.2 j = t j) (hZ : Z = nI N) (hA : ∀ j, j < N → A j = t j) :
    (∃ i, i < N ∧ f_X7_faultOf n1 r1 = some (nI i) ∧ f_X8_fault A Z = some (nI i)) ∨ (f_X7_faultOf n1 r1 = some (-1) ∧ f_X8_fault A Z = some (-9) ∧ tx_ok N t) := by
  have key : ∀ (d k : Nat), N = k + d → ct (wb t) k ≤ 30 → rn t k ≤ 16 → (∀ j, j < k → ¬ bd N t j) → ∀ f1 f2 : Nat, d < f1 → d < f2 → (∃ i, i < N ∧ f_X7_faultOf_l6 n1 r1 f1 (nI (ct (wb t) k)) (nI (rn t k)) (nI k) = some (nI i) ∧ f_X8_fault_l6 A Z f2 (nI (ct (wb t) k)) (nI (rn t k)) (nI k) = some (nI i)) ∨ (f_X7_faultOf_l6 n1 r1 f1 (nI (ct (wb t) k)) (nI (rn t k)) (nI k) = some (-1) ∧ f_X8_fault_l6 A Z f2 (nI (ct (wb t) k)) (nI (rn t k)) (nI k) = some (-9) ∧ ct (wb t) N ≤ 30 ∧ ∀ j, j < N → ¬ bd N t j) := by
    intro d
    induction d with
    | zero =>
      intro k hk hw hs hj f1 f2 h1 h2
      right
      obtain ⟨f1, rfl⟩ : ∃ z, f1 = z + 1 := ⟨f1 - 1, by omega⟩
      obtain ⟨f2, rfl⟩ : ∃ z, f2 = z + 1 := ⟨f2 - 1, by omega⟩
      rw [f_X7_faultOf_l6_s, f_X8_fault_l6_s, rg_size, Option.bind_some, hr, hZ, if_pos (by rw [nI_lei (by omega) (by omega)]; omega), if_pos (by rw [nI_lei (by omega) (by omega)]; omega)]
      exact ⟨rfl, rfl, by rw [show N = k by omega]; exact hw, fun j h => hj j (by omega)⟩
    | succ d ih =>
      intro k hk hw hs hj f1 f2 h1 h2
      obtain ⟨f1, rfl⟩ : ∃ z, f1 = z + 1 := ⟨f1 - 1, by omega⟩
      obtain ⟨f2, rfl⟩ : ∃ z, f2 = z + 1 := ⟨f2 - 1, by omega⟩
      have c1 := cl_fstep (fuel := f1) hr hN hn hn1 ht (k := k) (by omega) hw hs
      have c2 := md_fstep (fuel := f2) hZ hN hA (k := k) (by omega) hw hs
      by_cases hb : bd N t k
      · left
        exact ⟨k, by omega, c1.1 hb, c2.1 hb⟩
      · rw [c1.2 hb, c2.2 hb]
        have hb2 := hb
        unfold bd at hb2
        refine ih (k + 1) (by omega) (by omega) (by omega) (fun j h => ?_) f1 f2 (by omega) (by omega)
        by_cases e : j = k
        · rw [e]; exact hb
        · exact hj j (by omega)
  rcases key N 0 (by omega) (Nat.zero_le _) (Nat.zero_le _) (fun j h => by omega) hm_fu hm_fu (by unfold hm_fu; omega) (by unfold hm_fu; omega) with ⟨i, a, b, c⟩ | ⟨a, b, c, d⟩
  · exact Or.inl ⟨i, a, b, c⟩
  · refine Or.inr ⟨a, b, hN, fun j hj => ?_, c⟩
    have := d j hj
    unfold bd at this
    exact ⟨Classical.not_not.mp (fun z => this (Or.inl z)), by omega⟩
