/-! pure: what holds between the two sides, and every step keeps it -/
def hm_Rel : hm_RT := fun R Z ScR SeR SeA LeR LeZ BrA ShR ShZ SuA SuJ A9 Z9 => ty_is (R 0) (A9 0) (Z9 0) ∧ im_is (SeA 1) (SeA 2) (A9 9) (A9 10) ∧ ∃ (N : Nat) (t : Nat → Int32) (v : Nat → Nat), tx_ok N t ∧ sr_k N t N (ScR 0) (ScR 1) (ScR 2) (ScR 3) (ScR 4) (ScR 5) (ScR 6) (ScR 7) (ScR 8) (ScR 9) ∧ (mw_k N t N (A9 1) (A9 2) (A9 3) (A9 4) (A9 5) (A9 6) (Z9 2) (Z9 3) ∧ Z9 1 = nI N ∧ Z9 2 = nI (nW N t) ∧ Z9 3 = nI (nP N t)) ∧ (∃ (n : Nat) (D : Nat → Nat), dr_is (nP N t) n D (R 1) (A9 11) (Z9 5)) ∧ (∃ (m : Nat) (S : Nat → Nat) (B : Nat → Bool), sn_is (nW N t) m S B (R 2) (R 3) (A9 12) (A9 13) (Z9 6)) ∧ (sv_ok v ∧ sv_at (SeA 0) v ∧ sv_at (A9 7) v ∧ ud_is (SeR 0) (SeR 1) (Z9 4) (A9 8) v) ∧ gt_ok N t v (BrA 0, BrA 1, BrA 2, LeR 0, LeR 1, LeR 2, LeR 3, LeR 4, LeZ 0, LeZ 1, LeZ 2, LeZ 3, ShR 0, ShR 1, ShR 2, ShR 3, ShR 4, ShR 5, ShZ 0, ShZ 1, SuA 0, SuA 1, SuJ 0, Z 0, Z 1)
theorem gt_sx {N : Nat} {t : Nat → Int32} {v v' : Nat → Nat} {b0 b1 b2 : Nat → Int32} {l0 l1 l2 l3 l4 : hm_SR} {y0 y1 y2 y3 : Int32} {s0 s1 s2 s3 s4 s5 : hm_SR} {y4 y5 z zz x xx : Int32} {A A1 : Nat → Int32} {J : Nat → Int64} (h : gt_ok N t v (b0, b1, b2, l0, l1, l2, l3, l4, y0, y1, y2, y3, s0, s1, s2, s3, s4, s5, y4, y5, A, A1, J, z, zz)) (hs : (v' = v ∧ x = z ∧ xx = zz) ∨ (x = 1 ∧ (xx = 1 ∨ (xx = zz ∧ sv_same v v')))) : gt_ok N t v' (b0, b1, b2, l0, l1, l2, l3, l4, y0, y1, y2, y3, s0, s1, s2, s3, s4, s5, y4, y5, A, A1, J, x, xx) := by
  rcases hs with ⟨rfl, rfl, rfl⟩ | ⟨e1, e2 | ⟨e2, e3⟩⟩
  · exact h
  · exact ⟨Or.inl e1, Or.inl e2⟩
  · refine ⟨Or.inl e1, ?_⟩
    rcases h.2 with a | ⟨a, b⟩
    · exact Or.inl (e2.trans a)
    · exact Or.inr ⟨e2.trans a, sm_su e3 b⟩
theorem gt_fr {N : Nat} {t : Nat → Int32} {v : Nat → Nat} {b0 b1 b2 : Nat → Int32} {l0 l1 l2 l3 l4 : hm_SR} {y0 y1 y2 y3 : Int32} {s0 s1 s2 s3 s4 s5 : hm_SR} {y4 y5 z zz : Int32} {A A1 : Nat → Int32} {J : Nat → Int64} (h : gt_ok N t v (b0, b1, b2, l0, l1, l2, l3, l4, y0, y1, y2, y3, s0, s1, s2, s3, s4, s5, y4, y5, A, A1, J, z, zz)) : fr_t N t v (b0, b1, b2, l0, l1, l2, l3, l4, y0, y1, y2, y3, s0, s1, s2, s3, s4, s5, y4, y5, z) := h.1
theorem st_type : hm_St_type hm_Rel := by
  intro R Z ScR SeR SeA LeR LeZ BrA ShR ShZ SuA SuJ A9 Z9 hR x0
  obtain ⟨hT, hI, N, t, v, hok, hS, ⟨hM, z1, z2, z3⟩, hD, hN, ⟨hv, hf, hA, hU⟩, hG⟩ := hR
  obtain ⟨q, q9, a1, a2, a3, a4⟩ := two_type hT x0
  exact ⟨q, q9, a1, a2, a3, a4, hI, N, t, v, hok, hS, ⟨hM, z1, z2, z3⟩, hD, hN, ⟨hv, hf, hA, hU⟩, hG⟩
theorem st_clear : hm_St_clear hm_Rel := by
  intro R Z ScR SeR SeA LeR LeZ BrA ShR ShZ SuA SuJ A9 Z9 hR _
  obtain ⟨hT, hI, N, t, v, hok, hS, ⟨hM, z1, z2, z3⟩, hD, hN, ⟨hv, hf, hA, hU⟩, hG⟩ := hR
  obtain ⟨q, q9, a1, a2, a3, a4⟩ := two_clear hT
  exact ⟨q, q9, a1, a2, a3, a4, hI, N, t, v, hok, hS, ⟨hM, z1, z2, z3⟩, hD, hN, ⟨hv, hf, hA, hU⟩, hG⟩
theorem st_word : hm_St_word hm_Rel := by
  intro R Z ScR SeR SeA LeR LeZ BrA ShR ShZ SuA SuJ A9 Z9 hR x0 x1
  obtain ⟨hT, hI, N, t, v, hok, hS, ⟨hM, z1, z2, z3⟩, hD, hN, ⟨hv, hf, hA, hU⟩, hG⟩ := hR
  obtain ⟨q, q9, a1, a2, a3⟩ := two_word hok hM hS.1 hS.2.1 x0 x1
  exact ⟨q, q9, a1, by rw [z2]; exact a2, a3, hT, hI, N, t, v, hok, hS, ⟨hM, z1, z2, z3⟩, hD, hN, ⟨hv, hf, hA, hU⟩, hG⟩
theorem st_different : hm_St_different hm_Rel := by
  intro R Z ScR SeR SeA LeR LeZ BrA ShR ShZ SuA SuJ A9 Z9 hR x0 x1
  obtain ⟨hT, hI, N, t, v, hok, hS, ⟨hM, z1, z2, z3⟩, hD, hN, ⟨hv, hf, hA, hU⟩, hG⟩ := hR
  obtain ⟨q, q9, a1, a2, a3⟩ := two_different hok hM hS.2.2.2.2.2.1 hS.2.2.2.2.2.2.1 x0 x1
  exact ⟨q, q9, a1, by rw [z2]; exact a2, a3, hT, hI, N, t, v, hok, hS, ⟨hM, z1, z2, z3⟩, hD, hN, ⟨hv, hf, hA, hU⟩, hG⟩
theorem st_place : hm_St_place hm_Rel := by
  intro R Z ScR SeR SeA LeR LeZ BrA ShR ShZ SuA SuJ A9 Z9 hR x0 x1
  obtain ⟨hT, hI, N, t, v, hok, hS, ⟨hM, z1, z2, z3⟩, hD, hN, ⟨hv, hf, hA, hU⟩, hG⟩ := hR
  obtain ⟨q, q9, a1, a2, a3⟩ := two_place hok hM hS.2.2.2.2.2.2.2.1 hS.2.2.2.2.2.2.2.2.1 hS.2.2.2.2.2.2.2.2.2 x0 x1
  exact ⟨q, q9, a1, by rw [z3]; exact a2, a3, hT, hI, N, t, v, hok, hS, ⟨hM, z1, z2, z3⟩, hD, hN, ⟨hv, hf, hA, hU⟩, hG⟩
theorem st_wide : hm_St_wide hm_Rel := by
  intro R Z ScR SeR SeA LeR LeZ BrA ShR ShZ SuA SuJ A9 Z9 hR x0 x1
  obtain ⟨hT, hI, N, t, v, hok, hS, ⟨hM, z1, z2, z3⟩, hD, hN, ⟨hv, hf, hA, hU⟩, hG⟩ := hR
  obtain ⟨q, q9, a1, a2, a3, w, b1, b2, b3, b4, b5⟩ := two_wide hU hv hf hA (Z 0) (Z 1) x0 x1
  exact ⟨q, q9, a1, a2, a3, hT, hI, N, t, w, hok, hS, ⟨hM, z1, z2, z3⟩, hD, hN, ⟨b1, b2, b3, b4⟩, gt_sx hG b5⟩
theorem st_hangs : hm_St_hangs hm_Rel := by
  intro R Z ScR SeR SeA LeR LeZ BrA ShR ShZ SuA SuJ A9 Z9 hR x0 x1
  obtain ⟨hT, hI, N, t, v, hok, hS, ⟨hM, z1, z2, z3⟩, hD, hN, ⟨hv, hf, hA, hU⟩, hG⟩ := hR
  obtain ⟨q, q9, a1, a2, a3, w, b1, b2, b3, b4, b5⟩ := two_hangs hU hv hf hA (Z 0) (Z 1) x0 x1
  exact ⟨q, q9, a1, a2, a3, hT, hI, N, t, w, hok, hS, ⟨hM, z1, z2, z3⟩, hD, hN, ⟨b1, b2, b3, b4⟩, gt_sx hG b5⟩
theorem st_sets : hm_St_sets hm_Rel := by
  intro R Z ScR SeR SeA LeR LeZ BrA ShR ShZ SuA SuJ A9 Z9 hR x0 x1
  obtain ⟨hT, hI, N, t, v, hok, hS, ⟨hM, z1, z2, z3⟩, hD, hN, ⟨hv, hf, hA, hU⟩, hG⟩ := hR
  obtain ⟨q, q9, a1, a2, a3, w, b1, b2, b3, b4, b5⟩ := two_sets hU hv hf hA (Z 0) (Z 1) x0 x1
  exact ⟨q, q9, a1, a2, a3, hT, hI, N, t, w, hok, hS, ⟨hM, z1, z2, z3⟩, hD, hN, ⟨b1, b2, b3, b4⟩, gt_sx hG b5⟩
theorem st_undo : hm_St_undo hm_Rel := by
  intro R Z ScR SeR SeA LeR LeZ BrA ShR ShZ SuA SuJ A9 Z9 hR _
  obtain ⟨hT, hI, N, t, v, hok, hS, ⟨hM, z1, z2, z3⟩, hD, hN, ⟨hv, hf, hA, hU⟩, hG⟩ := hR
  obtain ⟨q, q9, a1, a2, a3, w, b1, b2, b3, b4, b5⟩ := two_undo hU hv hf hA (Z 0) (Z 1)
  exact ⟨q, q9, a1, a2, a3, hT, hI, N, t, w, hok, hS, ⟨hM, z1, z2, z3⟩, hD, hN, ⟨b1, b2, b3, b4⟩, gt_sx hG b5⟩
theorem st_back : hm_St_back hm_Rel := by
  intro R Z ScR SeR SeA LeR LeZ BrA ShR ShZ SuA SuJ A9 Z9 hR x0
  obtain ⟨hT, hI, N, t, v, hok, hS, ⟨hM, z1, z2, z3⟩, hD, hN, ⟨hv, hf, hA, hU⟩, hG⟩ := hR
  obtain ⟨q, q9, a1, a2, a3, w, b1, b2, b3, b4, b5⟩ := two_back hU hv hf hA hI (Z 0) (Z 1) x0
  exact ⟨q, q9, a1, a2, a3, hT, hI, N, t, w, hok, hS, ⟨hM, z1, z2, z3⟩, hD, hN, ⟨b1, b2, b3, b4⟩, gt_sx hG b5⟩
theorem st_keep : hm_St_keep hm_Rel := by
  intro R Z ScR SeR SeA LeR LeZ BrA ShR ShZ SuA SuJ A9 Z9 hR x0
  obtain ⟨hT, hI, N, t, v, hok, hS, ⟨hM, z1, z2, z3⟩, hD, hN, ⟨hv, hf, hA, hU⟩, hG⟩ := hR
  obtain ⟨q, q9, a1, a2, a3, a4⟩ := two_keep hv hf hA hI x0
  exact ⟨q, q9, a1, a2, a3, hT, a4, N, t, v, hok, hS, ⟨hM, z1, z2, z3⟩, hD, hN, ⟨hv, hf, hA, hU⟩, hG⟩
theorem st_page : hm_St_page hm_Rel := by
  intro R Z ScR SeR SeA LeR LeZ BrA ShR ShZ SuA SuJ A9 Z9 hR x0
  obtain ⟨hT, hI, N, t, v, hok, hS, ⟨hM, z1, z2, z3⟩, hD, hN, ⟨hv, hf, hA, hU⟩, hG⟩ := hR
  obtain ⟨q, a1, a2, a3⟩ := cl_pageq hok hv hf hS.1 hS.2.1 (gt_fr hG) x0
  obtain ⟨q9, c1, c2⟩ := md_pageq hok hv hA hM (A9 14) (A9 15) (A9 16) (A9 17) (A9 18) (A9 19) (A9 20) (A9 21) (A9 22) (A9 23) (Z9 7) (Z9 8) x0
  exact ⟨q, q9, a1, by rw [z1, z3]; exact c1, a2.trans c2.symm, hT, hI, N, t, v, hok, hS, ⟨hM, z1, z2, z3⟩, hD, hN, ⟨hv, hf, hA, hU⟩, ⟨a3, hG.2⟩⟩
theorem st_line : hm_St_line hm_Rel := by
  intro R Z ScR SeR SeA LeR LeZ BrA ShR ShZ SuA SuJ A9 Z9 hR x0 x1
  obtain ⟨hT, hI, N, t, v, hok, hS, ⟨hM, z1, z2, z3⟩, hD, hN, ⟨hv, hf, hA, hU⟩, hG⟩ := hR
  obtain ⟨q, q9, a1, a2, a3, a4⟩ := two_line hok hv hf hS.1 hS.2.1 (gt_fr hG) hA hM (A9 14) (A9 15) (A9 16) (A9 17) (A9 18) (Z9 7) x0 x1
  exact ⟨q, q9, a1, by rw [z1, z3]; exact a2, a3, hT, hI, N, t, v, hok, hS, ⟨hM, z1, z2, z3⟩, hD, hN, ⟨hv, hf, hA, hU⟩, ⟨a4, hG.2⟩⟩
theorem st_blank : hm_St_blank hm_Rel := by
  intro R Z ScR SeR SeA LeR LeZ BrA ShR ShZ SuA SuJ A9 Z9 hR x0 x1 x2
  obtain ⟨hT, hI, N, t, v, hok, hS, ⟨hM, z1, z2, z3⟩, hD, hN, ⟨hv, hf, hA, hU⟩, hG⟩ := hR
  obtain ⟨q, q9, a1, a2, a3, a4⟩ := two_blank hok hv hf hS.1 hS.2.1 (gt_fr hG) hA hM (A9 14) (A9 15) (A9 16) (A9 17) (A9 18) (A9 19) (A9 20) (A9 21) (A9 22) (A9 23) (Z9 7) (Z9 8) x0 x1 x2
  exact ⟨q, q9, a1, by rw [z1, z3]; exact a2, a3, hT, hI, N, t, v, hok, hS, ⟨hM, z1, z2, z3⟩, hD, hN, ⟨hv, hf, hA, hU⟩, ⟨a4, hG.2⟩⟩
theorem st_leftOf : hm_St_leftOf hm_Rel := by
  intro R Z ScR SeR SeA LeR LeZ BrA ShR ShZ SuA SuJ A9 Z9 hR x0 x1
  obtain ⟨hT, hI, N, t, v, hok, hS, ⟨hM, z1, z2, z3⟩, hD, hN, ⟨hv, hf, hA, hU⟩, hG⟩ := hR
  obtain ⟨q, q9, a1, a2, a3, a4⟩ := two_leftOf hok hv hf hS.1 hS.2.1 hS.2.2.2.2.2.2.2.1.1 (gt_fr hG) hA hM (A9 14) x0 x1
  exact ⟨q, q9, a1, by rw [z1, z3]; exact a2, a3, hT, hI, N, t, v, hok, hS, ⟨hM, z1, z2, z3⟩, hD, hN, ⟨hv, hf, hA, hU⟩, ⟨a4, hG.2⟩⟩
theorem st_judged : hm_St_judged hm_Rel := by
  intro R Z ScR SeR SeA LeR LeZ BrA ShR ShZ SuA SuJ A9 Z9 hR x0
  obtain ⟨hT, hI, N, t, v, hok, hS, ⟨hM, z1, z2, z3⟩, hD, hN, ⟨hv, hf, hA, hU⟩, hG⟩ := hR
  obtain ⟨n, D, hD2⟩ := hD
  obtain ⟨q, q9, a1, a2, a3, a4⟩ := two_judged hok hv hf hS.1 hS.2.1 hS.2.2.2.2.2.2.2.1.1 (gt_fr hG) hA hM hD2 (A9 14) (A9 15) (A9 16) (A9 17) (A9 18) (Z9 7) x0
  exact ⟨q, q9, a1, by rw [z1, z3]; exact a2, a3, hT, hI, N, t, v, hok, hS, ⟨hM, z1, z2, z3⟩, ⟨n, D, hD2⟩, hN, ⟨hv, hf, hA, hU⟩, ⟨a4, hG.2⟩⟩
theorem st_puts : hm_St_puts hm_Rel := by
  intro R Z ScR SeR SeA LeR LeZ BrA ShR ShZ SuA SuJ A9 Z9 hR x0
  obtain ⟨hT, hI, N, t, v, hok, hS, ⟨hM, z1, z2, z3⟩, hD, hN, ⟨hv, hf, hA, hU⟩, hG⟩ := hR
  obtain ⟨n, D, hD2⟩ := hD
  obtain ⟨q, q9, a1, a2, a3, a4⟩ := two_puts hok hS.2.2.2.2.2.2.2.1.1 hD2 x0
  exact ⟨q, q9, a1, by rw [z3]; exact a2, a3, hT, hI, N, t, v, hok, hS, ⟨hM, z1, z2, z3⟩, a4, hN, ⟨hv, hf, hA, hU⟩, hG⟩
theorem st_takes : hm_St_takes hm_Rel := by
  intro R Z ScR SeR SeA LeR LeZ BrA ShR ShZ SuA SuJ A9 Z9 hR _
  obtain ⟨hT, hI, N, t, v, hok, hS, ⟨hM, z1, z2, z3⟩, hD, hN, ⟨hv, hf, hA, hU⟩, hG⟩ := hR
  obtain ⟨n, D, hD2⟩ := hD
  obtain ⟨q, q9, a1, a2, a3, a4⟩ := two_takes hok hD2
  exact ⟨q, q9, a1, a2, a3, hT, hI, N, t, v, hok, hS, ⟨hM, z1, z2, z3⟩, a4, hN, ⟨hv, hf, hA, hU⟩, hG⟩
theorem st_alike : hm_St_alike hm_Rel := by
  intro R Z ScR SeR SeA LeR LeZ BrA ShR ShZ SuA SuJ A9 Z9 hR x0
  obtain ⟨hT, hI, N, t, v, hok, hS, ⟨hM, z1, z2, z3⟩, hD, hN, ⟨hv, hf, hA, hU⟩, hG⟩ := hR
  obtain ⟨q, a1, a2, a3⟩ := cl_alikeq hok hv hf hS.1 hS.2.1 hG x0
  obtain ⟨q9, c1, c2⟩ := md_alikeq hok hv hA hM (A9 14) (A9 15) (A9 16) (A9 17) (A9 18) (A9 24) (Z9 7) (Z9 9) (Z9 10) (Z9 11) x0
  exact ⟨q, q9, a1, by rw [z1, z3]; exact c1, a2.trans c2.symm, hT, hI, N, t, v, hok, hS, ⟨hM, z1, z2, z3⟩, hD, hN, ⟨hv, hf, hA, hU⟩, a3⟩
theorem st_sees : hm_St_sees hm_Rel := by
  intro R Z ScR SeR SeA LeR LeZ BrA ShR ShZ SuA SuJ A9 Z9 hR x0 x1
  obtain ⟨hT, hI, N, t, v, hok, hS, ⟨hM, z1, z2, z3⟩, hD, hN, ⟨hv, hf, hA, hU⟩, hG⟩ := hR
  obtain ⟨m, S, B, hN2⟩ := hN
  have hW : nW N t ≤ 30 := by unfold nW; rw [← ct_words]; exact hok.2.2
  obtain ⟨q, q9, a1, a2, a3, a4⟩ := two_sees hW hS.2.1.1 hN2 x0 x1
  exact ⟨q, q9, a1, by rw [z2]; exact a2, a3, hT, hI, N, t, v, hok, hS, ⟨hM, z1, z2, z3⟩, hD, a4, ⟨hv, hf, hA, hU⟩, hG⟩
theorem st_forget : hm_St_forget hm_Rel := by
  intro R Z ScR SeR SeA LeR LeZ BrA ShR ShZ SuA SuJ A9 Z9 hR _
  obtain ⟨hT, hI, N, t, v, hok, hS, ⟨hM, z1, z2, z3⟩, hD, hN, ⟨hv, hf, hA, hU⟩, hG⟩ := hR
  obtain ⟨m, S, B, hN2⟩ := hN
  obtain ⟨q, q9, a1, a2, a3, a4⟩ := two_forget hN2
  exact ⟨q, q9, a1, a2, a3, hT, hI, N, t, v, hok, hS, ⟨hM, z1, z2, z3⟩, hD, a4, ⟨hv, hf, hA, hU⟩, hG⟩
theorem st_unseen : hm_St_unseen hm_Rel := by
  intro R Z ScR SeR SeA LeR LeZ BrA ShR ShZ SuA SuJ A9 Z9 hR x0
  obtain ⟨hT, hI, N, t, v, hok, hS, ⟨hM, z1, z2, z3⟩, hD, hN, ⟨hv, hf, hA, hU⟩, hG⟩ := hR
  obtain ⟨m, S, B, hN2⟩ := hN
  obtain ⟨q, a1, a2, a3⟩ := cl_unseenq hok hv hf hS.1 hS.2.1 hS.2.2.2.2.1 hG hN2 x0
  obtain ⟨q9, c1, c2⟩ := md_unseenq hok hv hA hM hN2 (A9 14) (A9 15) (A9 16) (A9 17) (A9 18) (Z9 7) (Z9 9) (Z9 10) (Z9 11) x0
  exact ⟨q, q9, a1, by rw [z1, z3]; exact c1, a2.trans c2.symm, hT, hI, N, t, v, hok, hS, ⟨hM, z1, z2, z3⟩, hD, ⟨m, S, B, hN2⟩, ⟨hv, hf, hA, hU⟩, a3⟩
theorem st_count : hm_St_count hm_Rel := by
  intro R Z ScR SeR SeA LeR LeZ BrA ShR ShZ SuA SuJ A9 Z9 hR x0
  obtain ⟨hT, hI, N, t, v, hok, hS, ⟨hM, z1, z2, z3⟩, hD, hN, ⟨hv, hf, hA, hU⟩, hG⟩ := hR
  obtain ⟨n, D, hD2⟩ := hD
  obtain ⟨m, S, B, hN2⟩ := hN
  obtain ⟨k, -, k1, k2, -⟩ := id hT
  obtain ⟨c, -, -, -, c1, -, c2, -⟩ := id hU
  obtain ⟨q, q9, a1, a2, a3⟩ := two_count hok hM hf hA hS.2.1.1 hS.2.2.2.2.2.2.1.1 hS.2.2.2.2.2.2.2.1.1 (k1.trans k2.symm) (hD2.2.1.trans hD2.2.2.1.symm) (hN2.2.1.trans hN2.2.2.2.1.symm) (c1.trans c2.symm) x0
  exact ⟨q, q9, a1, by rw [z2, z3]; exact a2, a3, hT, hI, N, t, v, hok, hS, ⟨hM, z1, z2, z3⟩, ⟨n, D, hD2⟩, ⟨m, S, B, hN2⟩, ⟨hv, hf, hA, hU⟩, hG⟩
theorem st_words : hm_St_words hm_Rel := by
  intro R Z ScR SeR SeA LeR LeZ BrA ShR ShZ SuA SuJ A9 Z9 hR _
  obtain ⟨hT, hI, N, t, v, hok, hS, ⟨hM, z1, z2, z3⟩, hD, hN, ⟨hv, hf, hA, hU⟩, hG⟩ := hR
  obtain ⟨L, hL, k1, k2, k3⟩ := id hT
  rcases ft_both (N := L) (n1 := 200) (t := A9 0) (A := A9 0) (r1 := R 0) (Z := Z9 0) k1 hL hL (by omega) k3 k2 (fun _ _ => rfl) with ⟨i, hi, e1, e2⟩ | ⟨e1, e2, hok2⟩
  · have hn9 : ¬ nI i = -9 := by
      rw [zI_nat, zl_9, zI_neg, zI_eq (by omega) (by omega) (by omega) (by omega)]; omega
    rw [f_X7_words, f_X8_words, e1, e2, Option.bind_some, Option.bind_some, if_neg (nI_pos (by omega)), if_neg hn9]
    exact ⟨_, _, rfl, rfl, rfl, hT, hI, N, t, v, hok, hS, ⟨hM, z1, z2, z3⟩, hD, hN, ⟨hv, hf, hA, hU⟩, hG⟩
  · obtain ⟨v0, v1, v2, v3, v4, v5, v6, v7, v8, v9, g1, g2⟩ := sr_read hok2 (n1 := 200) (r1 := R 0) k1 hL (by omega) k3 (ScR 0) (ScR 1) (ScR 2) (ScR 3) (ScR 4) (ScR 5) (ScR 6) (ScR 7) (ScR 8) (ScR 9)
    obtain ⟨f', b1, b2⟩ := cl_begin (r0 := SeR 0) (r1 := SeR 1) (A2 := SeA 2) (SeA 0)
    obtain ⟨A', d1, d2⟩ := md_begin (A9 7) (A9 9)
    obtain ⟨m1, m2, m3, m4, m5, m6, y2, y3, j1, j2⟩ := mw_loop (N := L) (t := A9 0) (A0 := A9 0) (A7 := A9 7) (A9 := A9 9) hok2 (fun _ _ => rfl) L 0 hm_fu (by omega) (by unfold hm_fu; omega) (A9 1) (A9 2) (A9 3) (A9 4) (A9 5) (A9 6) 0 0 ⟨fun j hj => by omega, fun j hj => by omega, fun j hj => by omega, fun j hj => by omega, fun j hj => by omega, fun j hj => by omega, rfl, rfl⟩
    have hm : f_X8_words (A9 0) (A9 1) (A9 2) (A9 3) (A9 4) (A9 5) (A9 6) (A9 7) (A9 9) (Z9 0) (Z9 1) (Z9 2) (Z9 3) (Z9 4) (Z9 5) (Z9 6) = some (y2, m1, m2, m3, m4, m5, m6, A', upd (upd (A9 9) 0 0) 1 0, 0, nI L, y2, y3, 0, 0, 0) := by
      rw [f_X8_words, e2, Option.bind_some, if_pos rfl, k2, show f_X8_words_l36 (A9 0) (A9 7) (A9 9) hm_fu 0 (A9 1) (A9 2) (A9 3) (A9 4) (A9 5) (A9 6) (nI L) 0 0 = _ from j1, f_X8_words_l198, d1, Option.bind_some]
    have hc : f_X7_words (R 0) (R 1) (R 2) (R 3) (Z 0) (Z 1) (ScR 0) (ScR 1) (ScR 2) (ScR 3) (ScR 4) (ScR 5) (ScR 6) (ScR 7) (ScR 8) (ScR 9) (SeR 0) (SeR 1) (SeA 0) (SeA 2) = some (v1.1, (0, (R 0).2), (0, (R 1).2), (0, (R 2).2), (0, (R 3).2), v0, v1, v2, v3, v4, v5, v6, v7, v8, v9, f', upd (upd (SeA 2) 0 0) 1 0, (0, (SeR 0).2), (0, (SeR 1).2), 1, 1) := by
      rw [f_X7_words, e1, Option.bind_some, if_pos (by decide), g1, Option.bind_some, rg_empty, Option.bind_some, b1, Option.bind_some, rg_empty, Option.bind_some, rg_empty, Option.bind_some, rg_empty, Option.bind_some, f_X3_wordCount, rg_size, Option.bind_some, Option.bind_some]
    have hy2 : y2 = nI (nW L (A9 0)) := by
      rw [j2.2.2.2.2.2.2.1, ct_words]
      rfl
    have hy3 : y3 = nI (nP L (A9 0)) := j2.2.2.2.2.2.2.2
    refine ⟨_, _, hc, hm, ?_, ⟨0, by omega, rfl, rfl, fun j hj => by omega⟩, im_none, L, A9 0, sv0, hok2, g2, ⟨j2, rfl, hy2, hy3⟩, ⟨0, fun _ => 0, by omega, rfl, rfl, fun j hj => by omega, fun j hj => by omega⟩, ⟨0, fun _ => 0, fun _ => true, by omega, rfl, rfl, rfl, fun j hj => by omega⟩, ⟨sv0_ok, b2, d2, ud_none rfl rfl⟩, ⟨Or.inl rfl, Or.inl rfl⟩⟩
    show v1.1 = y2
    rw [hy2]
    exact g2.2.1.1
theorem hm_steps_all : hm_Steps hm_Rel := ⟨st_type, st_clear, st_words, st_word, st_different, st_place, st_wide, st_hangs, st_sets, st_undo, st_page, st_line, st_blank, st_leftOf, st_puts, st_takes, st_judged, st_alike, st_sees, st_forget, st_unseen, st_keep, st_back, st_count⟩
theorem hm_claim_pending : ∃ Rel : hm_RT, hm_Steps Rel ∧ ∃ qe, f_X4_begin (hm_R0 0) (hm_R0 1) (hm_A0 0) (hm_A0 2) = some qe ∧ ∃ qm, f_X8_begins (hm_A0 7) (hm_A0 9) = some qm ∧ Rel hm_R0 (hm_up (hm_up hm_Z0 0 1) 1 1) hm_R0 (hm_up (hm_up hm_R0 0 qe.2.2.1) 1 qe.2.2.2) (hm_up (hm_up hm_A0 0 qe.1) 2 qe.2.1) hm_R0 hm_Z0 hm_A0 hm_R0 hm_Z0 hm_A0 hm_J0 (hm_up (hm_up hm_A0 7 qm.1) 9 qm.2.1) (hm_up (hm_up (hm_up hm_Z0 4 qm.2.2.1) 5 qm.2.2.2.1) 6 qm.2.2.2.2) := by
  obtain ⟨f', b1, b2⟩ := cl_begin (r0 := hm_R0 0) (r1 := hm_R0 1) (A2 := hm_A0 2) (hm_A0 0)
  obtain ⟨A', d1, d2⟩ := md_begin (hm_A0 7) (hm_A0 9)
  have no : ∀ (p : Nat → Bool) (val f : Nat → Int32), fil p val 0 f := fun p val f j hj => by omega
  have z0 : (0 : Int32) = nI 0 := rfl
  refine ⟨hm_Rel, hm_steps_all, _, b1, _, d1, ⟨0, by omega, rfl, rfl, fun j hj => by omega⟩, im_none, 0, fun _ => 0, sv0, ⟨by omega, fun j hj => by omega, by show (0 : Nat) ≤ 30; omega⟩, ?_, ⟨?_, rfl, rfl, rfl⟩, ⟨0, fun _ => 0, by omega, rfl, rfl, fun j hj => by omega, fun j hj => by omega⟩, ⟨0, fun _ => 0, fun _ => true, by omega, rfl, rfl, rfl, fun j hj => by omega⟩, ⟨sv0_ok, b2, d2, ud_none rfl rfl⟩, ⟨Or.inl rfl, Or.inl rfl⟩⟩
  · exact ⟨⟨rfl, no _ _ _⟩, ⟨rfl, no _ _ _⟩, ⟨rfl, no _ _ _⟩, ⟨rfl, no _ _ _⟩, ⟨rfl, no _ _ _⟩, ⟨rfl, fun w hw => absurd hw (Nat.not_lt_zero w)⟩, ⟨rfl, no _ _ _⟩, ⟨rfl, no _ _ _⟩, ⟨rfl, no _ _ _⟩, ⟨rfl, no _ _ _⟩⟩
  · exact ⟨fun j hj => by omega, no _ _ _, no _ _ _, no _ _ _, no _ _ _, no _ _ _, rfl, rfl⟩
