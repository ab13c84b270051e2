/-! pure: page -/
def sm (f : Nat → Nat) : Nat → Nat
  | 0 => 0
  | n + 1 => sm f n + f n
theorem sm_le {f : Nat → Nat} {m : Nat} {n : Nat} (H : ∀ j, j < n → f j ≤ m) : sm f n ≤ m * n := by
  induction n with
  | zero => exact Nat.zero_le _
  | succ n ih =>
    have h1 := ih (fun j hj => H j (by omega))
    have h2 := H n (by omega)
    rw [sm, Nat.mul_succ]; omega
section PQ
variable (N : Nat) (t : Nat → Int32) (v : Nat → Nat)
def sE (k : Nat) : Bool := sP N t (pB N t v (k + 1) - 1)
def rgh (k : Nat) : Nat := lfk N t v k - spk N t v k
/-- what page answers -/
def pgv (x : Int32) : Int32 := if 0 ≤ x ∧ x ≤ 5 then (match TB N t v (v 35) 0 with
  | none => -9
  | some o => if x = 0 then nI o.1 else if x = 1 then nI (pL N t v) else if x = 2 then nI (ct (sE N t v) (pL N t v)) else if x = 3 then nI (sm (rgh N t v) (pL N t v - 1)) else if x = 4 then nI (ct (SPR N t v) (nB N t v)) else nI (mxl (fun _ => true) (LG N t v) (nB N t v))) else -1
end PQ
section PQL
variable {N : Nat} {t : Nat → Int32} {v : Nat → Nat}
theorem cl_start0 (hok : tx_ok N t) (hv : sv_ok v) {o : Nat × Nat × Nat} (hT : TB N t v (v 35) 0 = some o) {s0 s1 : hm_SR} (hl : lrow N t v (pL N t v) s0 s1) {k : Nat} (hk : k < pL N t v) : f_X5_startOf s0 (nI k) = some (fr (pB N t v k)) ∧ f_X5_endOf s0 (nI k) = some (nI (pB N t v (k + 1) - 1)) ∧ f_X2_get 100 s0 (nI k) = some (nI (pB N t v (k + 1) - 1)) := by
  have hP : nP N t ≤ 100 := pl_100 hok
  have hL := pL_le hv hT
  have g : ∀ j, j < pL N t v → f_X2_get 100 s0 (nI j) = some (nI (pB N t v (j + 1) - 1)) := by
    intro j hj
    rw [rg_in hl.1 hj (by omega) (by omega), hl.2.2.1 j hj]
  refine ⟨?_, by rw [f_X5_endOf, g k hk, Option.bind_some], g k hk⟩
  cases k with
  | zero => rw [f_X5_startOf, if_pos (show nI 0 ≤ 0 from Int32.le_refl _)]; rfl
  | succ k =>
    obtain ⟨l1, l2, l3, l4⟩ := pB_line hT (show k < pL N t v by omega)
    rw [f_X5_startOf, if_neg (by rw [nl_0, nI_lei (by omega) (by omega)]; omega), nI_m1 (by omega), Nat.add_sub_cancel, g k (by omega), Option.bind_some, ← fr_s, l3]
theorem cl_slends (hok : tx_ok N t) (hv : sv_ok v) {o : Nat × Nat × Nat} (hT : TB N t v (v 35) 0 = some o) {s0 s1 : hm_SR} (hl : lrow N t v (pL N t v) s0 s1) {r0 r1 r2 r3 r4 : hm_SR} (h : ln_k N t v N r0 r1 r2 r3 r4) : f_X5_slashEnds s0 r2 = some (nI (ct (sE N t v) (pL N t v))) := by
  have hP : nP N t ≤ 100 := pl_100 hok
  have hL := pL_le hv hT
  have key : ∀ (d k fuel : Nat), pL N t v = k + d → d < fuel → f_X5_slashEnds_l4 s0 r2 fuel (nI (ct (sE N t v) k)) (nI k) = some (nI (ct (sE N t v) (pL N t v))) := by
    intro d
    induction d with
    | zero =>
      intro k fuel hk hf
      obtain ⟨fuel, rfl⟩ : ∃ z, fuel = z + 1 := ⟨fuel - 1, by omega⟩
      rw [f_X5_slashEnds_l4_s, rg_size, Option.bind_some, hl.1, if_pos (by rw [nI_lei (by omega) (by omega)]; omega), show k = pL N t v by omega]
    | succ d ih =>
      intro k fuel hk hf
      obtain ⟨fuel, rfl⟩ : ∃ z, fuel = z + 1 := ⟨fuel - 1, by omega⟩
      have hkL : k < pL N t v := by omega
      obtain ⟨l1, l2, l3, l4⟩ := pB_line hT hkL
      have next := ih (k + 1) fuel (by omega) (by omega)
      rw [f_X5_slashEnds_l4_s, rg_size, Option.bind_some, hl.1, if_neg (by rw [nI_lei (by omega) (by omega)]; omega), (cl_start0 hok hv hT hl hkL).2.2, Option.bind_some, f_X1_isSlashAt, (cl_g0 hok h l2).2.2.1, Option.bind_some]
      cases hs : sP N t (pB N t v (k + 1) - 1) with
      | true =>
        rw [ct_y (show sE N t v k = true from hs)] at next
        rw [bq_t, if_pos n11, Option.bind_some, if_neg n10, f_X5_slashEnds_l36, nI_1, nI_1]
        exact next
      | false =>
        rw [ct_n (show sE N t v k = false from hs)] at next
        rw [bq_f, if_neg n01, Option.bind_some, if_pos n00, f_X5_slashEnds_l36, nI_1, nl_0, nI_add, Nat.add_zero]
        exact next
  exact key (pL N t v) 0 hm_fu (by omega) (by unfold hm_fu; omega)
theorem lfk_le (hv : sv_ok v) {o : Nat × Nat × Nat} (hT : TB N t v (v 35) 0 = some o) {k : Nat} (hk : k < pL N t v) : lfk N t v k ≤ 209 ∧ spk N t v k ≤ lfk N t v k := by
  obtain ⟨l1, l2, l3, l4⟩ := pB_line hT hk
  have hle := lf_le (ms := v 35) hv l1 l2
  have hms := hv.2.2.2.2.2.1
  refine ⟨by unfold lfk; omega, ?_⟩
  unfold spk
  split <;> omega
theorem cl_rough (hok : tx_ok N t) (hv : sv_ok v) {o : Nat × Nat × Nat} (hT : TB N t v (v 35) 0 = some o) {s0 s1 : hm_SR} (hl : lrow N t v (pL N t v) s0 s1) {r0 r1 r2 r3 r4 : hm_SR} (h : ln_k N t v N r0 r1 r2 r3 r4) : f_X5_rough s0 r0 r1 r3 r4 (nI (v 35)) = some (nI (sm (rgh N t v) (pL N t v - 1))) := by
  have hP : nP N t ≤ 100 := pl_100 hok
  have hL := pL_le hv hT
  have key : ∀ (d k fuel : Nat), pL N t v - 1 = k + d → d < fuel → f_X5_rough_l4 s0 r0 r1 r3 r4 (nI (v 35)) fuel (nI (sm (rgh N t v) k)) (nI k) = some (nI (sm (rgh N t v) (pL N t v - 1))) := by
    intro d
    induction d with
    | zero =>
      intro k fuel hk hf
      obtain ⟨fuel, rfl⟩ : ∃ z, fuel = z + 1 := ⟨fuel - 1, by omega⟩
      rw [f_X5_rough_l4_s, rg_size, Option.bind_some, hl.1, nI_1, if_pos (by rw [nI_lei (by omega) (by omega)]; omega), show k = pL N t v - 1 by omega]
    | succ d ih =>
      intro k fuel hk hf
      obtain ⟨fuel, rfl⟩ : ∃ z, fuel = z + 1 := ⟨fuel - 1, by omega⟩
      have hkL : k < pL N t v := by omega
      obtain ⟨l1, l2, l3, l4⟩ := pB_line hT hkL
      have hlf := lfk_le hv hT hkL
      obtain ⟨c1, c2, c3⟩ := cl_start0 hok hv hT hl hkL
      have next := ih (k + 1) fuel (by omega) (by omega)
      rw [f_X5_rough_l4_s, rg_size, Option.bind_some, hl.1, nI_1, if_neg (by rw [nI_lei (by omega) (by omega)]; omega), c1, Option.bind_some, c2, Option.bind_some, f_X1_left, cl_leftBy hok h l1 l2, Option.bind_some, Option.bind_some, Option.bind_some, Option.bind_some, (cl_spread hok hv h hT hkL).2.1, Option.bind_some, zI_N l4]
      have e : (lf N t v (v 35) (pB N t v k) (pB N t v (k + 1) - 1)).toNat = lfk N t v k := rfl
      rw [e, pk_sub hlf.2, nI_add]
      exact next
  exact key (pL N t v - 1) 0 hm_fu (by omega) (by unfold hm_fu; omega)
theorem bi_nI (b : Bool) (n : Nat) : nI n + bi b = nI (n + (if b = true then 1 else 0)) := by
  cases b
  · show nI n + 0 = nI (n + 0); rw [nl_0, nI_add]
  · show nI n + 1 = nI (n + 1); rw [nI_1]
theorem cl_springs (hok : tx_ok N t) {o : Nat × Nat × Nat} (hT : TB N t v (v 35) 0 = some o) {s4 s5 : hm_SR} (hr : rrow N t v 0 s4 s5) : f_X5_springs s5 = some (nI (ct (SPR N t v) (nB N t v))) := by
  have hn : nB N t v ≤ 29 := (bo_le hok hT (pL N t v) (Nat.le_refl _)).2
  have key : ∀ (d k fuel : Nat), nB N t v = k + d → d < fuel → f_X5_springs_l4 s5 fuel (nI (ct (SPR N t v) k)) (nI k) = some (nI (ct (SPR N t v) (nB N t v))) := by
    intro d
    induction d with
    | zero =>
      intro k fuel hk hf
      obtain ⟨fuel, rfl⟩ : ∃ z, fuel = z + 1 := ⟨fuel - 1, by omega⟩
      rw [f_X5_springs_l4_s, rg_size, Option.bind_some, hr.2.1, if_pos (by rw [nI_lei (by omega) (by omega)]; omega), show k = nB N t v by omega]
    | succ d ih =>
      intro k fuel hk hf
      obtain ⟨fuel, rfl⟩ : ∃ z, fuel = z + 1 := ⟨fuel - 1, by omega⟩
      have next := ih (k + 1) fuel (by omega) (by omega)
      rw [ct_s] at next
      rw [f_X5_springs_l4_s, rg_size, Option.bind_some, hr.2.1, if_neg (by rw [nI_lei (by omega) (by omega)]; omega), rg_in hr.2.1 (by omega) (by omega) (by omega), Option.bind_some, (hr.2.2 k (by omega) (by omega)).2, bi_nI, nI_1]
      cases hs : SPR N t v k with
      | true => rw [hs] at next; exact next
      | false => rw [hs] at next; exact next
  exact key (nB N t v) 0 hm_fu (by omega) (by unfold hm_fu; omega)
theorem cl_longall (hok : tx_ok N t) (hv : sv_ok v) {o : Nat × Nat × Nat} (hT : TB N t v (v 35) 0 = some o) {s4 s5 : hm_SR} (hr : rrow N t v 0 s4 s5) : f_X5_longest s4 = some (nI (mxl (fun _ => true) (LG N t v) (nB N t v))) := by
  have hn : nB N t v ≤ 29 := (bo_le hok hT (pL N t v) (Nat.le_refl _)).2
  have hP : nP N t ≤ 100 := pl_100 hok
  have hL := pL_le hv hT
  have key : ∀ (d k fuel : Nat), nB N t v = k + d → d < fuel → f_X5_longest_l4 s4 fuel (nI (mxl (fun _ => true) (LG N t v) k)) (nI k) = some (nI (mxl (fun _ => true) (LG N t v) (nB N t v))) := by
    intro d
    induction d with
    | zero =>
      intro k fuel hk hf
      obtain ⟨fuel, rfl⟩ : ∃ z, fuel = z + 1 := ⟨fuel - 1, by omega⟩
      rw [f_X5_longest_l4_s, rg_size, Option.bind_some, hr.1, if_pos (by rw [nI_lei (by omega) (by omega)]; omega), show k = nB N t v by omega]
    | succ d ih =>
      intro k fuel hk hf
      obtain ⟨fuel, rfl⟩ : ∃ z, fuel = z + 1 := ⟨fuel - 1, by omega⟩
      have next := ih (k + 1) fuel (by omega) (by omega)
      have hm := mxl_le (p := fun _ => true) (n := k) (LG_le (N := N) (t := t) (v := v))
      have hg := LG_le (N := N) (t := t) (v := v) k
      rw [mxl, if_pos rfl] at next
      rw [f_X5_longest_l4_s, rg_size, Option.bind_some, hr.1, if_neg (by rw [nI_lei (by omega) (by omega)]; omega), rg_in hr.1 (by omega) (by omega) (by omega), Option.bind_some, (hr.2.2 k (by omega) (by omega)).1, nI_1]
      by_cases hlt : mxl (fun _ => true) (LG N t v) k < LG N t v k
      · rw [if_pos hlt] at next
        rw [if_pos (by rw [nI_lti (by omega) (by omega)]; exact hlt)]
        exact next
      · rw [if_neg hlt] at next
        rw [if_neg (by rw [nI_lti (by omega) (by omega)]; exact hlt)]
        exact next
  exact key (nB N t v) 0 hm_fu (by omega) (by unfold hm_fu; omega)
end PQL
