theorem hm_arr {args : Array Value} {s : State} {ty : FieldType} (h : (Cond.arrayClass ty).before args s = true) (hty : ∀ C, ty ≠ .object C) : ∃ cA : ClassId, ArrOfT s cA ty ∧ va_RA s cA ty := by
  obtain ⟨cA, kA, comp, h1, h2, h3⟩ := Cond.arrayClass_spec h
  refine ⟨cA, fun n z => ⟨fun k h => (by cases h), kA, h2, comp, h3⟩, ?_⟩
  cases ty with
  | object C => exact absurd rfl (hty C)
  | _ => exact h1
theorem hm_stat {args : Array Value} {s : State} {n : String} {xs : Nat → Int32} (hl : (Cond.laysStatic RX7 n "[I").before args s = true) (hini : (Cond.initialized RX7).before args s = true) (h1 : (Cond.arrayOf (.static RX7 n "[I") .int).before args s = true) (h2 : (Cond.eq (.length (.static RX7 n "[I")) (.int 4)).before args s = true) (h3 : ∀ j : Nat, j < 4 → (Cond.eq (.elem (.static RX7 n "[I") (.int (Int32.ofNat j))) (.int (xs j))).before args s = true) : ∃ t : Nat, hm_Z n xs t (fun q : Nat => s.heap.size ≤ q) s s.heap := by
  have hA : ∀ a : Nat, a < s.heap.size → ¬ (fun q : Nat => s.heap.size ≤ q) a := fun a h h2 => absurd h (Nat.not_lt.mpr h2)
  obtain ⟨t, ht, hT⟩ := va_Tof (f := fun j => .int (xs j)) (N := 4) (by decide) h1 (va_eqt h2) (fun j hj => va_eqt (h3 j hj)) hA
  exact ⟨t, va_Zref hl hini ht hA, hT⟩
set_option maxHeartbeats 8000000 in
set_option maxRecDepth 100000 in
theorem law_start {Rel : hm_RT} (ST : hm_Steps Rel) (qe : (Nat → Int32) × (Nat → Int32) × hm_SR × hm_SR) (hqe : f_X4_begin (hm_R0 0) (hm_R0 1) (hm_A0 0) (hm_A0 2) = some qe) (qm : (Nat → Int32) × (Nat → Int32) × Int32 × Int32 × Int32) (hqm : f_X8_begins (hm_A0 7) (hm_A0 9) = some qm) (hR0 : Rel hm_R0 (hm_up (hm_up hm_Z0 0 1) 1 1) hm_R0 (hm_up (hm_up hm_R0 0 qe.2.2.1) 1 qe.2.2.2) (hm_up (hm_up hm_A0 0 qe.1) 2 qe.2.1) hm_R0 hm_Z0 hm_A0 hm_R0 hm_Z0 hm_A0 hm_J0 (hm_up (hm_up hm_A0 7 qm.1) 9 qm.2.1) (hm_up (hm_up (hm_up hm_Z0 4 qm.2.2.1) 5 qm.2.2.2.1) 6 qm.2.2.2.2)) {p : Program} {e : Env} {s : State} {m : MethodId} {below : List Frame} {meth : Method} {c : Code} (l : Launch) {b L : Nat} {xs : Nat → Int32} (hL : L ≤ 2048) (C0 : lw_At p s m meth c b L xs) : W p l e room_1 s m #[Value.ref b] below meth c s.heap [] 0 0 (lw_Z below #[Value.ref b] s) (entryFrame m ([Value.ref b] : List Value).toArray 4) := by
  obtain ⟨hx, hb, hr, hml, hown, hts, hX, hbl, hlocks, hgv⟩ := id C0
  have S : CallFix p m c cL_law 4 s #[Value.ref b] hm_W RL := ⟨hx, hb, hml, hown, fun w h => hts w (hm_Wtbl w h)⟩
  have hw := S.2.2.2.2
  obtain ⟨c0, iS0, hKn0⟩ := u_known (C := RX0) (T := TX0) (N := 3) (n := 3) hw hm_inX0 (hw _ hw_1_156)
  obtain ⟨c1, iS1, hKn1⟩ := u_known (C := RX1) (T := TX1) (N := 9) (n := 9) hw hm_inX1 (hw _ hw_1_120)
  obtain ⟨c2, iS2, hKn2⟩ := u_known (C := RX2) (T := TX2) (N := 2) (n := 2) hw hm_inX2 (hw _ hw_1_21)
  obtain ⟨c3, iS3, hKn3⟩ := u_known (C := RX3) (T := TX3) (N := 10) (n := 10) hw hm_inX3 (hw _ hw_1_38)
  obtain ⟨c4, iS4, hKn4⟩ := u_known (C := RX4) (T := TX4) (N := 5) (n := 5) hw hm_inX4 (hw _ hw_1_77)
  obtain ⟨c5, iS5, hKn5⟩ := u_known (C := RX5) (T := TX5) (N := 8) (n := 8) hw hm_inX5 (hw _ hw_1_172)
  obtain ⟨c6, iS6, hKn6⟩ := u_known (C := RX6) (T := TX6) (N := 3) (n := 3) hw hm_inX6 (hw _ hw_1_205)
  obtain ⟨c7, iS7, hKn7⟩ := u_known (C := RX7) (T := TX7) (N := 12) (n := 12) hw hm_inX7 (hw _ hw_1_13)
  obtain ⟨c8, iS8, hKn8⟩ := u_known (C := RX8) (T := TX8) (N := 37) (n := 37) hw hm_inX8 (hw _ hw_4_68)
  obtain ⟨D, hKc⟩ : ∃ D : va_G, ∀ (k : Nat) (q : vw_C), vwCl[k]? = some q → u_Kn s q.1 q.2.1 q.2.2 (D.1 k) (D.2 k) := by
    refine ⟨(fun k => [c0, c1, c2, c3, c4, c5, c6, c7, c8].getD k c0, fun k => [iS0, iS1, iS2, iS3, iS4, iS5, iS6, iS7, iS8].getD k iS0), ?_⟩
    intro k q hq
    match k, hq with
    | 0, hq => cases hq; exact hKn0
    | 1, hq => cases hq; exact hKn1
    | 2, hq => cases hq; exact hKn2
    | 3, hq => cases hq; exact hKn3
    | 4, hq => cases hq; exact hKn4
    | 5, hq => cases hq; exact hKn5
    | 6, hq => cases hq; exact hKn6
    | 7, hq => cases hq; exact hKn7
    | 8, hq => cases hq; exact hKn8
    | k + 9, hq => simp [vwCl] at hq
  obtain ⟨yi, hyi, hyi2⟩ := hm_arr (hw _ hw_1_36) (fun C h => by cases h)
  obtain ⟨yj, hyj, hyj2⟩ := hm_arr (hw _ hw_1_220) (fun C h => by cases h)
  obtain ⟨yz, hyz, hyz2⟩ := hm_arr (hw _ hw_1_118) (fun C h => by cases h)
  have hK : va_K D vwCl (hm_ty (D, yi, yj, yz)) s := by
    refine ⟨hKc, fun k q hq => ?_⟩
    match k, hq with
    | 0, hq => cases hq; exact ⟨hyi, hyi2⟩
    | 1, hq => cases hq; exact ⟨hyj, hyj2⟩
    | 2, hq => cases hq; exact ⟨hyz, hyz2⟩
    | k + 3, hq => simp [hm_ty] at hq
  have hfl := flat_of_before _ hgv
  obtain ⟨t0, z0⟩ := hm_stat (n := "LEAST_SET") (xs := hm_sx0) (hts (.laysStatic RX7 "LEAST_SET" "[I") (List.mem_append_right _ (List.mem_append_right _ (List.mem_append_left _ (List.mem_of_getElem? (i := 199) (by decide +kernel)))))) (hw _ hw_1_1) (hfl (.arrayOf (.static RX7 "LEAST_SET" "[I") .int) (by decide +kernel)) (hfl (.eq (.length (.static RX7 "LEAST_SET" "[I")) (.int 4)) (by decide +kernel)) (fun j hj => by
    match j, hj with
    | 0, _ => exact hfl (.eq (.elem (.static RX7 "LEAST_SET" "[I") (.int 0)) (.int 1)) (by decide +kernel)
    | 1, _ => exact hfl (.eq (.elem (.static RX7 "LEAST_SET" "[I") (.int 1)) (.int 10)) (by decide +kernel)
    | 2, _ => exact hfl (.eq (.elem (.static RX7 "LEAST_SET" "[I") (.int 2)) (.int 0)) (by decide +kernel)
    | 3, _ => exact hfl (.eq (.elem (.static RX7 "LEAST_SET" "[I") (.int 3)) (.int 0)) (by decide +kernel)
    | j + 4, hj => omega)
  obtain ⟨t1, z1⟩ := hm_stat (n := "GREATEST_SET") (xs := hm_sx1) (hts (.laysStatic RX7 "GREATEST_SET" "[I") (List.mem_append_right _ (List.mem_append_right _ (List.mem_append_left _ (List.mem_of_getElem? (i := 201) (by decide +kernel)))))) (hw _ hw_1_1) (hfl (.arrayOf (.static RX7 "GREATEST_SET" "[I") .int) (by decide +kernel)) (hfl (.eq (.length (.static RX7 "GREATEST_SET" "[I")) (.int 4)) (by decide +kernel)) (fun j hj => by
    match j, hj with
    | 0, _ => exact hfl (.eq (.elem (.static RX7 "GREATEST_SET" "[I") (.int 0)) (.int 9)) (by decide +kernel)
    | 1, _ => exact hfl (.eq (.elem (.static RX7 "GREATEST_SET" "[I") (.int 1)) (.int 200)) (by decide +kernel)
    | 2, _ => exact hfl (.eq (.elem (.static RX7 "GREATEST_SET" "[I") (.int 2)) (.int 999)) (by decide +kernel)
    | 3, _ => exact hfl (.eq (.elem (.static RX7 "GREATEST_SET" "[I") (.int 3)) (.int 999)) (by decide +kernel)
    | j + 4, hj => omega)
  obtain ⟨t2, z2⟩ := hm_stat (n := "FIRST_SET") (xs := hm_sx2) (hts (.laysStatic RX7 "FIRST_SET" "[I") (List.mem_append_right _ (List.mem_append_left _ (List.mem_of_getElem? (i := 93) (by decide +kernel))))) (hw _ hw_1_1) (hfl (.arrayOf (.static RX7 "FIRST_SET" "[I") .int) (by decide +kernel)) (hfl (.eq (.length (.static RX7 "FIRST_SET" "[I")) (.int 4)) (by decide +kernel)) (fun j hj => by
    match j, hj with
    | 0, _ => exact hfl (.eq (.elem (.static RX7 "FIRST_SET" "[I") (.int 0)) (.int 3)) (by decide +kernel)
    | 1, _ => exact hfl (.eq (.elem (.static RX7 "FIRST_SET" "[I") (.int 1)) (.int 60)) (by decide +kernel)
    | 2, _ => exact hfl (.eq (.elem (.static RX7 "FIRST_SET" "[I") (.int 2)) (.int 50)) (by decide +kernel)
    | 3, _ => exact hfl (.eq (.elem (.static RX7 "FIRST_SET" "[I") (.int 3)) (.int 100)) (by decide +kernel)
    | j + 4, hj => omega)
  have hN : hm_N s := ⟨va_Nw.of rfl (hts (.methodLinkNest RX4 50 yX7_widthSlot RX7) (List.mem_append_right _ (List.mem_append_right _ (List.mem_append_right _ (List.mem_append_left _ (List.mem_of_getElem? (i := 2) (by decide +kernel))))))), va_Nw.of rfl (hts (.methodLinkNest RX4 57 yX7_hangSlot RX7) (List.mem_append_right _ (List.mem_append_right _ (List.mem_append_right _ (List.mem_append_left _ (List.mem_of_getElem? (i := 7) (by decide +kernel))))))), va_Nw.of rfl (hts (.fieldLinkNest RX4 41 RX7 "FIRST_SET" "[I" RX7) (List.mem_append_right _ (List.mem_append_left _ (List.mem_of_getElem? (i := 92) (by decide +kernel))))), va_Nw.of rfl (hts (.methodLinkNest RX7 20 yX3_init RX7) (List.mem_append_right _ (List.mem_append_left _ (List.mem_of_getElem? (i := 39) (by decide +kernel))))), va_Nw.of rfl (hts (.methodLinkNest RX7 43 yX1_init RX7) (List.mem_append_right _ (List.mem_append_left _ (List.mem_of_getElem? (i := 121) (by decide +kernel))))), va_Nw.of rfl (hts (.methodLinkNest RX7 50 yX0_init RX7) (List.mem_append_right _ (List.mem_append_left _ (List.mem_of_getElem? (i := 157) (by decide +kernel))))), va_Nw.of rfl (hts (.methodLinkNest RX7 57 yX5_init RX7) (List.mem_append_right _ (List.mem_append_left _ (List.mem_of_getElem? (i := 173) (by decide +kernel))))), va_Nw.of rfl (hts (.methodLinkNest RX7 64 yX6_init RX7) (List.mem_append_right _ (List.mem_append_left _ (List.mem_of_getElem? (i := 206) (by decide +kernel)))))⟩
  have X : hm_X (D, yi, yj, yz) (fun q : Nat => s.heap.size ≤ q) s s.heap [] [] := ⟨hK, fun k q h => by simp at h, ⟨fun i j p q h => by simp at h, fun k q h => by simp at h⟩, va_S.rf, fun _ h => h, hN, t0, t1, t2, z0, z1, z2⟩
  generalize (D, yi, yj, yz) = g at X
  have hl := lv_entry ([.ref b]) (n := 4) (Nat.le_of_ble_eq_true rfl)
  rw [lg_entry_eq]
  generalize (lg_sl ([.ref b]) ++ List.replicate (4 - (lg_sl ([.ref b])).length) Slot.unset).toArray = ls at hl ⊢
  have hl : lv_has ls 4 [(0, .ref b)] := hl
  refine hm_new (ci := 7) (ty := tyX7) (fs := [.null, .null, .null, .null, .null, .null, .null, .null, .null, .null, .int 0, .int 0]) S X hm_inX7 tyX7_ok hw_1_12 hw_1_13 hw_1_1 rfl hd_X7 (Nat.le_of_ble_eq_true rfl) (Nat.le_of_ble_eq_true rfl) dL_law_0 (fun q1 H X => ?_)
  refine lv_dup hx hb dL_law_3 rfl ?_
  refine hm_mk S X mc_X7_init hw_1_14 (c_X7_init l g q1 qe hqe) (wr := []) hm_same ⟨rfl, rfl, Nat.le_of_ble_eq_true rfl, Nat.le_of_ble_eq_true rfl⟩ rfl hl.1 rfl (Nat.le_of_ble_eq_true rfl) dL_law_4 ⟨Nat.le_of_ble_eq_true rfl, Nat.le_of_ble_eq_true rfl⟩ (fun w9 H9 locs9 e9 X9 => ?_)
  obtain ⟨a, ha, rfl⟩ := e9
  subst ha
  have X := X9.to (List.nil_append _)
  refine lv_astore_n (lv' := [(1, .ref (a 0 0)), (0, .ref b)]) hx hb dL_law_7 rfl hl (by decide) rfl (fun ls hl => ?_)
  refine hm_new (ci := 8) (ty := tyX8) (fs := [.int 0, .null, .int 0, .null, .int 0, .null, .null, .int 0, .null, .null, .null, .null, .int 0, .null, .null, .null, .int 0, .null, .int 0, .null, .null, .null, .null, .null, .null, .int 0, .null, .int 0, .null, .null, .null, .null, .null, .int 0, .int 0, .int 0, .null]) S X hm_inX8 tyX8_ok hw_4_67 hw_4_68 hw_1_10 rfl hd_X8 (Nat.le_of_ble_eq_true rfl) (Nat.le_of_ble_eq_true rfl) dL_law_8 (fun q2 H X => ?_)
  refine lv_dup hx hb dL_law_11 rfl ?_
  refine hm_mk S X mc_X8_init hw_4_69 (c_X8_init l g q2 qm hqm) hm_lawR ⟨rfl, rfl, Nat.le_of_ble_eq_true rfl, Nat.le_of_ble_eq_true rfl⟩ rfl hl.1 rfl (Nat.le_of_ble_eq_true rfl) dL_law_12 ⟨Nat.le_of_ble_eq_true rfl, Nat.le_of_ble_eq_true rfl⟩ (fun w9 H9 locs9 e9 X9 => ?_)
  obtain ⟨b9, hb9, rfl⟩ := e9
  subst hb9
  refine lv_astore_n (lv' := [(2, .ref (b9 0)), (1, .ref (a 0 0)), (0, .ref b)]) hx hb dL_law_15 rfl hl (by decide) rfl (fun ls hl => ?_)
  refine lv_iconst (v := 0) hx hb dL_law_16 (by decide) ?_
  refine lv_istore_n (lv' := [(3, .int 0), (2, .ref (b9 0)), (1, .ref (a 0 0)), (0, .ref b)]) hx hb dL_law_17 rfl hl (by decide) rfl (fun ls hl => ?_)
  refine W.widen (k := 96) (n := 5586) (Nat.le_of_ble_eq_true rfl) (Nat.le_of_ble_eq_true rfl) ?_
  exact law_loop ST hL C0 (L + 1) 0 (by omega) (by omega) _ _ _ _ _ _ _ _ _ _ _ _ _ _ hR0 _ _ X9 _ (lv_sub hl [3, 2, 1, 0] rfl)
