/-! pure: the sheet made fresh -/
section FSH
variable (N : Nat) (t : Nat → Int32) (v : Nat → Nat)
/-- lengths and sheet tell of the text by the settings -/
def sh_is (l0 l1 l2 l3 l4 : hm_SR) (z0 z1 z2 z3 : Int32) (s0 s1 s2 s3 s4 s5 : hm_SR) (y0 y1 : Int32) : Prop :=
  ln_k N t v N l0 l1 l2 l3 l4 ∧ (z0 = nI (v 34) ∧ z1 = nI (v 35) ∧ z2 = nI (v 36) ∧ z3 = nI (v 37)) ∧ (match TB N t v (v 35) 0 with
    | none => y0 = 0
    | some o => y0 = 1 ∧ y1 = nI o.1 ∧ lrow N t v (pL N t v) s0 s1 ∧ srow N t v (nB N t v) s2 s3 s4 s5 ∧ rrow N t v 0 s4 s5)
abbrev hm_FT := (Nat → Int32) × (Nat → Int32) × (Nat → Int32) × hm_SR × hm_SR × hm_SR × hm_SR × hm_SR × Int32 × Int32 × Int32 × Int32 × hm_SR × hm_SR × hm_SR × hm_SR × hm_SR × hm_SR × Int32 × Int32 × Int32
def sh_t (x : hm_FT) : Prop := sh_is N t v x.2.2.2.1 x.2.2.2.2.1 x.2.2.2.2.2.1 x.2.2.2.2.2.2.1 x.2.2.2.2.2.2.2.1 x.2.2.2.2.2.2.2.2.1 x.2.2.2.2.2.2.2.2.2.1 x.2.2.2.2.2.2.2.2.2.2.1 x.2.2.2.2.2.2.2.2.2.2.2.1 x.2.2.2.2.2.2.2.2.2.2.2.2.1 x.2.2.2.2.2.2.2.2.2.2.2.2.2.1 x.2.2.2.2.2.2.2.2.2.2.2.2.2.2.1 x.2.2.2.2.2.2.2.2.2.2.2.2.2.2.2.1 x.2.2.2.2.2.2.2.2.2.2.2.2.2.2.2.2.1 x.2.2.2.2.2.2.2.2.2.2.2.2.2.2.2.2.2.1 x.2.2.2.2.2.2.2.2.2.2.2.2.2.2.2.2.2.2.1 x.2.2.2.2.2.2.2.2.2.2.2.2.2.2.2.2.2.2.2.1
/-- stale, or so -/
def fr_t (x : hm_FT) : Prop := x.2.2.2.2.2.2.2.2.2.2.2.2.2.2.2.2.2.2.2.2 = 1 ∨ (x.2.2.2.2.2.2.2.2.2.2.2.2.2.2.2.2.2.2.2.2 = 0 ∧ sh_t N t v x)
end FSH
section FSL
variable {N : Nat} {t : Nat → Int32} {v : Nat → Nat}
theorem cl_fresh (hok : tx_ok N t) (hv : sv_ok v) {f : Nat → Int32} (hf : sv_at f v) {w0 w1 : hm_SR} (h0 : w0.1 = nI (ct (nb t) N) ∧ fil (nb t) t N w0.2) (h1 : w1.1 = nI (ct (we N t) N) ∧ fil (we N t) (fun j => nI (ct (nb t) (j + 1))) N w1.2) {b0 b1 b2 : Nat → Int32} {l0 l1 l2 l3 l4 : hm_SR} {z0 z1 z2 z3 : Int32} {s0 s1 s2 s3 s4 s5 : hm_SR} {y0 y1 z : Int32} (h : fr_t N t v (b0, b1, b2, l0, l1, l2, l3, l4, z0, z1, z2, z3, s0, s1, s2, s3, s4, s5, y0, y1, z)) : ∃ x : hm_FT, f_X7_freshen z w0 w1 f l0 l1 l2 l3 l4 z0 z1 z2 z3 b0 b1 b2 s0 s1 s2 s3 s4 s5 y0 y1 = some x ∧ sh_t N t v x ∧ x.2.2.2.2.2.2.2.2.2.2.2.2.2.2.2.2.2.2.2.2 = 0 := by
  rcases h with h | ⟨h, hs⟩
  · have hz : z = 1 := h
    obtain ⟨k0, k1, k2, k3, k4, e1, e2⟩ := cl_take hok hv hf h0 h1 l0 l1 l2 l3 l4
    obtain ⟨c0, c1, c2, e3, e4⟩ := cl_solve hok hv hv.2.2.2.2.2.1 e2 b0 b1 b2
    rw [f_X7_freshen, hz, if_neg n10, e1, Option.bind_some, nl_35, se_get (by omega), hf 35 (by omega), Option.bind_some, e3, Option.bind_some]
    cases hT : TB N t v (v 35) 0 with
    | none =>
      obtain ⟨q0, q1, q2, q3, q4, q5, c, g1, g2, g3⟩ := cl_lay0 (r0 := k0) (r1 := k1) (r2 := k2) (r3 := k3) (r4 := k4) hok hT e4 s0 s1 s2 s3 s4 s5 (nI (v 34)) (nI (v 35))
      dsimp only
      rw [g1, Option.bind_some]
      refine ⟨_, rfl, ⟨e2, ⟨rfl, rfl, rfl, rfl⟩, ?_⟩, rfl⟩
      rw [hT]
    | some o =>
      obtain ⟨q0, q1, q2, q3, q4, q5, g1, g2, g3⟩ := cl_lay1 hok hv e2 hT e4 s0 s1 s2 s3 s4 s5
      obtain ⟨p4, p5, g4, g5⟩ := cl_rivers hok hv hT g2 g3
      dsimp only
      rw [g1, f_X5_lay_l138, g4, Option.bind_some, Option.bind_some]
      refine ⟨_, rfl, ⟨e2, ⟨rfl, rfl, rfl, rfl⟩, ?_⟩, rfl⟩
      rw [hT]
      exact ⟨rfl, rfl, g2, ⟨g3.1, g3.2.1, g5.1, g5.2.1, g3.2.2.2.2⟩, g5⟩
  · have hz : z = 0 := h
    rw [f_X7_freshen, if_pos hz]
    exact ⟨_, rfl, hs, hz⟩
end FSL
