/-! pure: count -/
section CNT
variable {N : Nat} {t : Nat → Int32} {v : Nat → Nat} {a1 a2 a3 a4 a5 a6 A7 : Nat → Int32} {z2 z3 : Int32}
theorem two_count (hok : tx_ok N t) (h : mw_k N t N a1 a2 a3 a4 a5 a6 z2 z3) {f : Nat → Int32} (hf : sv_at f v) (hA : sv_at A7 v) {r0 r1 r2 w1 w6 w7 u0 : hm_SR} {z0 z4 z5 z6 : Int32} (h1 : w1.1 = nI (nW N t)) (h6 : w6.1 = nI (ct (ff N t) (nW N t))) (h7 : w7.1 = nI (nP N t)) (e0 : r0.1 = z0) (e1 : r1.1 = z5) (e2 : r2.1 = z6) (e4 : u0.1 = z4) (x : Int32) : ∃ q q9 : Int32, f_X7_count r0 r1 r2 w1 w6 w7 u0 f x = some q ∧ f_X8_count a1 a2 a3 A7 z0 (nI (nW N t)) (nI (nP N t)) z4 z5 z6 x = some q9 ∧ q = q9 := by
  have g : ∀ k, k < 38 → f_X4_get f (nI k) = some (nI (v k)) := fun k hk => by rw [se_get hk, hf k hk]
  have g' : ∀ k, k < 38 → hm_rd 38 A7 (nI k) = some (nI (v k)) := fun k hk => by rw [rd_in hk (by omega), hA k hk]
  rw [f_X7_count, f_X8_count]
  by_cases c0 : x = 0
  · rw [if_pos c0, if_pos c0, f_X3_wordCount, rg_size, Option.bind_some, Option.bind_some, h1]; exact ⟨_, _, rfl, rfl, rfl⟩
  rw [if_neg c0, if_neg c0]
  by_cases c1 : x = 1
  · rw [if_pos c1, if_pos c1, f_X3_placeCount, rg_size, Option.bind_some, Option.bind_some, h7]; exact ⟨_, _, rfl, rfl, rfl⟩
  rw [if_neg c1, if_neg c1]
  by_cases c2 : x = 2
  · rw [if_pos c2, if_pos c2, f_X8_count_l70, c2, show f_X4_get f 34 = _ from g 34 (by omega), show hm_rd 38 A7 (34 + 2 - 2) = _ from g' 34 (by omega), Option.bind_some]; exact ⟨_, _, rfl, rfl, rfl⟩
  rw [if_neg c2, if_neg c2]
  by_cases c3 : x = 3
  · rw [if_pos c3, if_pos c3, f_X8_count_l70, c3, show f_X4_get f 35 = _ from g 35 (by omega), show hm_rd 38 A7 (34 + 3 - 2) = _ from g' 35 (by omega), Option.bind_some]; exact ⟨_, _, rfl, rfl, rfl⟩
  rw [if_neg c3, if_neg c3]
  by_cases c4 : x = 4
  · rw [if_pos c4, if_pos c4, f_X8_count_l70, c4, show f_X4_get f 36 = _ from g 36 (by omega), show hm_rd 38 A7 (34 + 4 - 2) = _ from g' 36 (by omega), Option.bind_some]; exact ⟨_, _, rfl, rfl, rfl⟩
  rw [if_neg c4, if_neg c4]
  by_cases c5 : x = 5
  · rw [if_pos c5, if_pos c5, f_X8_count_l70, c5, show f_X4_get f 37 = _ from g 37 (by omega), show hm_rd 38 A7 (34 + 5 - 2) = _ from g' 37 (by omega), Option.bind_some]; exact ⟨_, _, rfl, rfl, rfl⟩
  rw [if_neg c5, if_neg c5]
  by_cases c6 : x = 6
  · rw [if_pos c6, if_pos c6, rg_size, Option.bind_some, e1]; exact ⟨_, _, rfl, rfl, rfl⟩
  rw [if_neg c6, if_neg c6]
  by_cases c7 : x = 7
  · rw [if_pos c7, if_pos c7, rg_size, Option.bind_some, e2]; exact ⟨_, _, rfl, rfl, rfl⟩
  rw [if_neg c7, if_neg c7]
  by_cases c8 : x = 8
  · rw [if_pos c8, if_pos c8, rg_size, Option.bind_some, e0]; exact ⟨_, _, rfl, rfl, rfl⟩
  rw [if_neg c8, if_neg c8]
  by_cases c9 : x = 9
  · rw [if_pos c9, if_pos c9, f_X4_undoable, rg_size, Option.bind_some, Option.bind_some, e4]; exact ⟨_, _, rfl, rfl, rfl⟩
  rw [if_neg c9, if_neg c9]
  by_cases c10 : x = 10
  · rw [if_pos c10, if_pos c10, f_X3_spellings, rg_size, Option.bind_some, Option.bind_some, h6, md_differents hok h, Option.bind_some]; exact ⟨_, _, rfl, rfl, rfl⟩
  rw [if_neg c10, if_neg c10]
  exact ⟨_, _, rfl, rfl, rfl⟩
end CNT
