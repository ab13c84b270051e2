section TAK
variable {N : Nat} {t : Nat → Int32} {v : Nat → Nat} {f : Nat → Int32}
theorem blank_last {j : Nat} (hj : j < N) (h : ∀ w, w < nW N t → ew N t w < j) : bk t j = true := by
  cases hb : bk t j with
  | true => rfl
  | false =>
    obtain ⟨h1, h2, h3⟩ := of_word hj hb
    have := h _ h1
    omega
theorem ew_mono {a b : Nat} (h : a ≤ b) (hb : b < nW N t) : ew N t a ≤ ew N t b := by
  by_cases e : a = b
  · rw [e]; exact Nat.le_refl _
  · exact Nat.le_of_lt (nth_mono (p := we N t) (n := N) (show a < b by omega) hb)
theorem cl_take (hok : tx_ok N t) (hv : sv_ok v) (hf : sv_at f v) {w0 w1 : hm_SR} (h0 : w0.1 = nI (ct (nb t) N) ∧ fil (nb t) t N w0.2) (h1 : w1.1 = nI (ct (we N t) N) ∧ fil (we N t) (fun j => nI (ct (nb t) (j + 1))) N w1.2) (r0 r1 r2 r3 r4 : hm_SR) : ∃ s0 s1 s2 s3 s4 : hm_SR, f_X1_take r0 r1 r2 r3 r4 w0 w1 f = some (s0, s1, s2, s3, s4, nI (v 34), nI (v 35), nI (v 36), nI (v 37)) ∧ ln_k N t v N s0 s1 s2 s3 s4 := by
  have hN := hok.1
  have hW : nW N t ≤ 30 := by unfold nW; rw [← ct_words]; exact hok.2.2
  -- where the w-th word's turn begins
  have key : ∀ (d w fuel : Nat), nW N t = w + d → d < fuel → ∀ (x a : Nat) (r0 r1 r2 r3 r4 : hm_SR), (∀ u, u < w → ew N t u < a) → a ≤ N → (w < nW N t → a ≤ sw N t w ∧ x = wsm v t (sw N t w) + v 34 * w ∧ ∀ j, a ≤ j → j < sw N t w → bk t j = true) → ln_k N t v a r0 r1 r2 r3 r4 → ∃ s0 s1 s2 s3 s4 : hm_SR, f_X1_take_l89 w0 w1 f fuel (nI x) (nI w) r0 r1 r2 r3 r4 (nI (v 34)) (nI (v 35)) (nI (v 36)) (nI (v 37)) = some (s0, s1, s2, s3, s4, nI (v 34), nI (v 35), nI (v 36), nI (v 37)) ∧ ln_k N t v N s0 s1 s2 s3 s4 := by
    intro d
    induction d with
    | zero =>
      intro w fuel hw hf2 x a r0 r1 r2 r3 r4 ha1 ha2 ha3 h
      obtain ⟨fuel, rfl⟩ : ∃ z, fuel = z + 1 := ⟨fuel - 1, by omega⟩
      rw [f_X1_take_l89_s, f_X3_wordCount, rg_size, Option.bind_some, Option.bind_some, h1.1, if_pos (by rw [nI_lei (by unfold nW at hW; omega) (by omega)]; unfold nW at hw; omega)]
      exact ⟨_, _, _, _, _, rfl, ln_skips ha2 (fun j q1 q2 => blank_last q2 (fun u hu => by have := ha1 u (by omega); omega)) h⟩
    | succ d ih =>
      intro w fuel hw hf2 x a r0 r1 r2 r3 r4 ha1 ha2 ha3 h
      obtain ⟨fuel, rfl⟩ : ∃ z, fuel = z + 1 := ⟨fuel - 1, by omega⟩
      have hwl : w < nW N t := by omega
      obtain ⟨a1, a2, a3⟩ := ha3 hwl
      obtain ⟨b1, b2, b3, b4⟩ := ew_sp (N := N) (t := t) hwl
      rw [f_X1_take_l89_s, f_X3_wordCount, rg_size, Option.bind_some, Option.bind_some, h1.1, if_neg (by rw [nI_lei (by unfold nW at hW; omega) (by omega)]; unfold nW at hw; omega), a2]
      obtain ⟨s0, s1, s2, s3, s4, e, hl⟩ := cl_takew hok hv hf h0 h1 hwl (ln_skips a1 a3 h)
      rw [e, Option.bind_some, nI_1]
      refine ih (w + 1) fuel (by omega) (by omega) _ (ew N t w + 1) _ _ _ _ _ (fun u hu => ?_) (by omega) (fun hw2 => ?_) hl
      · have := ew_mono (N := N) (t := t) (show u ≤ w by omega) hwl
        omega
      · have hlt := ew_lt_sw (N := N) (t := t) (w := w) hw2
        have hbg : ∀ j, ew N t w + 1 ≤ j → j < sw N t (w + 1) → bk t j = true := fun j q1 q2 => blank_gap hw2 (by omega) q2
        exact ⟨by omega, by rw [wsm_blank (v := v) (show ew N t w + 1 ≤ sw N t (w + 1) by omega) hbg], hbg⟩
  rw [f_X1_take, nl_34, se_get (by omega), Option.bind_some, nl_35, se_get (by omega), Option.bind_some, nl_36, se_get (by omega), Option.bind_some, nl_37, se_get (by omega), Option.bind_some, rg_empty, Option.bind_some, rg_empty, Option.bind_some, rg_empty, Option.bind_some, rg_empty, Option.bind_some, rg_empty, Option.bind_some, rg_add (n := 0) rfl (by omega) (by omega), Option.bind_some, hf 34 (by omega), hf 35 (by omega), hf 36 (by omega), hf 37 (by omega)]
  refine key (nW N t) 0 hm_fu (by omega) (by unfold hm_fu; omega) 0 0 _ _ _ _ _ (fun u hu => by omega) (Nat.zero_le _) (fun hw => ?_) ?_
  · have hbf : ∀ j, 0 ≤ j → j < sw N t 0 → bk t j = true := fun j _ q => blank_first hw q
    exact ⟨Nat.zero_le _, by rw [wsm_blank (v := v) (Nat.zero_le _) hbf]; rfl, hbf⟩
  · exact ⟨⟨rfl, fil_0⟩, ⟨rfl, fil_0⟩, ⟨rfl, fil_0⟩, ⟨rfl, fil_0⟩, ⟨rfl, rfl, fil_0⟩⟩
end TAK
