/-! pure: the class's alike and unseen -/
section CAU
variable {N : Nat} {t : Nat → Int32} {v : Nat → Nat}
abbrev hm_GT := (Nat → Int32) × (Nat → Int32) × (Nat → Int32) × hm_SR × hm_SR × hm_SR × hm_SR × hm_SR × Int32 × Int32 × Int32 × Int32 × hm_SR × hm_SR × hm_SR × hm_SR × hm_SR × hm_SR × Int32 × Int32 × (Nat → Int32) × (Nat → Int32) × (Nat → Int64) × Int32 × Int32
def gt_ok (N : Nat) (t : Nat → Int32) (v : Nat → Nat) (x : hm_GT) : Prop := fr_t N t v (x.1, x.2.1, x.2.2.1, x.2.2.2.1, x.2.2.2.2.1, x.2.2.2.2.2.1, x.2.2.2.2.2.2.1, x.2.2.2.2.2.2.2.1, x.2.2.2.2.2.2.2.2.1, x.2.2.2.2.2.2.2.2.2.1, x.2.2.2.2.2.2.2.2.2.2.1, x.2.2.2.2.2.2.2.2.2.2.2.1, x.2.2.2.2.2.2.2.2.2.2.2.2.1, x.2.2.2.2.2.2.2.2.2.2.2.2.2.1, x.2.2.2.2.2.2.2.2.2.2.2.2.2.2.1, x.2.2.2.2.2.2.2.2.2.2.2.2.2.2.2.1, x.2.2.2.2.2.2.2.2.2.2.2.2.2.2.2.2.1, x.2.2.2.2.2.2.2.2.2.2.2.2.2.2.2.2.2.1, x.2.2.2.2.2.2.2.2.2.2.2.2.2.2.2.2.2.2.1, x.2.2.2.2.2.2.2.2.2.2.2.2.2.2.2.2.2.2.2.1, x.2.2.2.2.2.2.2.2.2.2.2.2.2.2.2.2.2.2.2.2.2.2.2.1) ∧ (x.2.2.2.2.2.2.2.2.2.2.2.2.2.2.2.2.2.2.2.2.2.2.2.2 = 1 ∨ (x.2.2.2.2.2.2.2.2.2.2.2.2.2.2.2.2.2.2.2.2.2.2.2.2 = 0 ∧ su_is N t v x.2.2.2.2.2.2.2.2.2.2.2.2.2.2.2.2.2.2.2.2.1 x.2.2.2.2.2.2.2.2.2.2.2.2.2.2.2.2.2.2.2.2.2.2.1))
theorem cl_freshS (hok : tx_ok N t) (hv : sv_ok v) {r0 r1 r2 r3 r4 : hm_SR} (h : ln_k N t v N r0 r1 r2 r3 r4) {z : Int32} {A b0 b1 b2 : Nat → Int32} {J : Nat → Int64} (hs : z = 1 ∨ (z = 0 ∧ su_is N t v A J)) : ∃ (c0 c1 c2 A' : Nat → Int32) (J' : Nat → Int64), f_X7_freshenSurvey z r0 r1 r2 r4 (nI (v 36)) (nI (v 37)) b0 b1 b2 A J = some (c0, c1, c2, A', J', 0) ∧ su_is N t v A' J' := by
  rcases hs with hz | ⟨hz, hs⟩
  · obtain ⟨A', c0, c1, c2, J', e1, e2⟩ := cl_through hok hv h A J b0 b1 b2
    rw [f_X7_freshenSurvey, hz, if_neg n10, e1, Option.bind_some]
    exact ⟨_, _, _, _, _, rfl, e2⟩
  · rw [f_X7_freshenSurvey, hz, if_pos n00]
    exact ⟨_, _, _, _, _, rfl, hs⟩
theorem cl_alikeq (hok : tx_ok N t) (hv : sv_ok v) {f : Nat → Int32} (hf : sv_at f v) {w0 w1 : hm_SR} (h0 : w0.1 = nI (ct (nb t) N) ∧ fil (nb t) t N w0.2) (h1 : w1.1 = nI (ct (we N t) N) ∧ fil (we N t) (fun j => nI (ct (nb t) (j + 1))) N w1.2) {b0 b1 b2 : Nat → Int32} {l0 l1 l2 l3 l4 : hm_SR} {y0 y1 y2 y3 : Int32} {s0 s1 s2 s3 s4 s5 : hm_SR} {y4 y5 z zz : Int32} {A A1 : Nat → Int32} {J : Nat → Int64} (h : gt_ok N t v (b0, b1, b2, l0, l1, l2, l3, l4, y0, y1, y2, y3, s0, s1, s2, s3, s4, s5, y4, y5, A, A1, J, z, zz)) (x : Int32) : ∃ q : Int32 × hm_GT, f_X7_alike z zz w0 w1 f l0 l1 l2 l3 l4 y0 y1 y2 y3 b0 b1 b2 s0 s1 s2 s3 s4 s5 y4 y5 A A1 J x = some q ∧ q.1 = alv N t v x ∧ gt_ok N t v q.2 := by
  unfold alv
  rw [f_X7_alike]
  by_cases hx0 : x < 0
  · rw [if_pos hx0, if_neg (show ¬ (0 ≤ x ∧ x ≤ 2) from fun hh => by have := Int32.lt_iff_toInt_lt.1 hx0; have := Int32.le_iff_toInt_le.1 hh.1; omega)]
    exact ⟨_, rfl, rfl, h⟩
  rw [if_neg hx0]
  by_cases hx2n : ¬ x ≤ 2
  · rw [if_neg hx2n, if_neg (show ¬ (0 ≤ x ∧ x ≤ 2) from fun hh => hx2n hh.2)]
    exact ⟨_, rfl, rfl, h⟩
  have hx2 : x ≤ 2 := Decidable.not_not.1 hx2n
  rw [if_pos hx2, if_pos (show 0 ≤ x ∧ x ≤ 2 from ⟨i_le hx0, hx2⟩)]
  obtain ⟨hfr, hsu⟩ := h
  obtain ⟨y, e1, hs, hz⟩ := cl_fresh (z := z) hok hv hf h0 h1 hfr
  have hfin : fr_t N t v y := Or.inr ⟨hz, hs⟩
  obtain ⟨hln, ⟨g0, g1, g2, g3⟩, hm⟩ := hs
  rw [e1, Option.bind_some]
  cases hT : TB N t v (v 35) 0 with
  | none =>
    rw [hT] at hm
    have hm' : y.2.2.2.2.2.2.2.2.2.2.2.2.2.2.2.2.2.2.1 = 0 := hm
    rw [show f_X5_isThere y.2.2.2.2.2.2.2.2.2.2.2.2.2.2.2.2.2.2.1 = some 0 by rw [hm']; rfl, Option.bind_some, if_pos n00]
    exact ⟨_, rfl, rfl, hfin, hsu⟩
  | some o =>
    rw [hT] at hm
    obtain ⟨m1, m2, m3, m4, m5⟩ := hm
    obtain ⟨c0, c1, c2, A', J', f1, f2⟩ := cl_freshS (b0 := y.1) (b1 := y.2.1) (b2 := y.2.2.1) hok hv hln hsu
    obtain ⟨A1', p1, p2⟩ := cl_pickA hok hv hT f2 A1
    rw [show f_X5_isThere y.2.2.2.2.2.2.2.2.2.2.2.2.2.2.2.2.2.2.1 = some 1 by rw [m1]; rfl, Option.bind_some, if_neg n10, show f_X7_freshenSurvey zz y.2.2.2.1 y.2.2.2.2.1 y.2.2.2.2.2.1 y.2.2.2.2.2.2.2.1 y.2.2.2.2.2.2.2.2.2.2.1 y.2.2.2.2.2.2.2.2.2.2.2.1 y.1 y.2.1 y.2.2.1 A J = some (c0, c1, c2, A', J', 0) by rw [g2, g3]; exact f1, Option.bind_some, nl_35, se_get (by omega), Option.bind_some, hf 35 (by omega)]
    dsimp only
    rw [p1, Option.bind_some, cl_picked p2, Option.bind_some]
    exact ⟨_, rfl, rfl, hfin, Or.inr ⟨rfl, f2⟩⟩
theorem cl_unseenq (hok : tx_ok N t) (hv : sv_ok v) {f : Nat → Int32} (hf : sv_at f v) {w0 w1 w4 : hm_SR} (h0 : w0.1 = nI (ct (nb t) N) ∧ fil (nb t) t N w0.2) (h1 : w1.1 = nI (ct (we N t) N) ∧ fil (we N t) (fun j => nI (ct (nb t) (j + 1))) N w1.2) (h4 : w4.1 = nI (ct (we N t) N) ∧ fil (we N t) (fun j => nI (ct (pl N t) j)) N w4.2) {b0 b1 b2 : Nat → Int32} {l0 l1 l2 l3 l4 : hm_SR} {y0 y1 y2 y3 : Int32} {s0 s1 s2 s3 s4 s5 : hm_SR} {y4 y5 z zz : Int32} {A A1 : Nat → Int32} {J : Nat → Int64} (h : gt_ok N t v (b0, b1, b2, l0, l1, l2, l3, l4, y0, y1, y2, y3, s0, s1, s2, s3, s4, s5, y4, y5, A, A1, J, z, zz)) {c : Nat} {S : Nat → Nat} {B : Nat → Bool} {r2 r3 : hm_SR} {a12 a13 : Nat → Int32} {z6 : Int32} (hn : sn_is (nW N t) c S B r2 r3 a12 a13 z6) (x : Int32) : ∃ q : Int32 × hm_GT, f_X7_unseen r2 r3 z zz w0 w1 w4 f l0 l1 l2 l3 l4 y0 y1 y2 y3 b0 b1 b2 s0 s1 s2 s3 s4 s5 y4 y5 A A1 J x = some q ∧ q.1 = usv N t v S B c x ∧ gt_ok N t v q.2 := by
  unfold usv
  rw [f_X7_unseen]
  by_cases hx0 : x < 0
  · rw [if_pos hx0, if_neg (show ¬ (0 ≤ x ∧ x ≤ 2) from fun hh => by have := Int32.lt_iff_toInt_lt.1 hx0; have := Int32.le_iff_toInt_le.1 hh.1; omega)]
    exact ⟨_, rfl, rfl, h⟩
  rw [if_neg hx0]
  by_cases hx2n : ¬ x ≤ 2
  · rw [if_neg hx2n, if_neg (show ¬ (0 ≤ x ∧ x ≤ 2) from fun hh => hx2n hh.2)]
    exact ⟨_, rfl, rfl, h⟩
  have hx2 : x ≤ 2 := Decidable.not_not.1 hx2n
  rw [if_pos hx2, if_pos (show 0 ≤ x ∧ x ≤ 2 from ⟨i_le hx0, hx2⟩)]
  obtain ⟨hfr, hsu⟩ := h
  obtain ⟨y, e1, hs, hz⟩ := cl_fresh (z := z) hok hv hf h0 h1 hfr
  have hfin : fr_t N t v y := Or.inr ⟨hz, hs⟩
  obtain ⟨hln, ⟨g0, g1, g2, g3⟩, hm⟩ := hs
  obtain ⟨c0, c1, c2, A', J', f1, f2⟩ := cl_freshS (b0 := y.1) (b1 := y.2.1) (b2 := y.2.2.1) hok hv hln hsu
  obtain ⟨A1', p1, p2⟩ := cl_pickS hok f2 h4 hn A1
  rw [e1, Option.bind_some, show f_X7_freshenSurvey zz y.2.2.2.1 y.2.2.2.2.1 y.2.2.2.2.2.1 y.2.2.2.2.2.2.2.1 y.2.2.2.2.2.2.2.2.2.2.1 y.2.2.2.2.2.2.2.2.2.2.2.1 y.1 y.2.1 y.2.2.1 A J = some (c0, c1, c2, A', J', 0) by rw [g2, g3]; exact f1, Option.bind_some]
  dsimp only
  rw [p1, Option.bind_some, cl_picked (G := fun m => usn N t v S B m c) p2, Option.bind_some]
  exact ⟨_, rfl, rfl, hfin, Or.inr ⟨rfl, f2⟩⟩
end CAU
