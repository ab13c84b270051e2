def f_X4_get (A_0 : Nat → Int32) (x0 : Int32)  : Option (Int32) :=
  if x0 < 0 then (
  some (0))
  else (
  if (38 : Int32) ≤ x0 then (
  some (0))
  else (
  (hm_rd 38 A_0 x0).bind fun t1 =>
  some (t1)))
abbrev rm_X4_get : Room := { frames := 0, cells := 0, slots := 0, locals := 0 }
set_option maxHeartbeats 4000000 in
set_option maxRecDepth 100000 in
theorem c_X4_get (l : Launch) (g : hm_G) (a : Nat → Nat) (R : Nat → hm_SR) (A : Nat → Nat → Int32) (x0 : Int32) (q : Int32) (hF : f_X4_get (A 0) x0 = some q) : hm_Mi l yX4_get (Cond.code yX4_get cX4_get 2 (some .int) :: hm_W) rm_X4_get g [.ref (a 0), .int x0] ([hm_wSe g a R A] : List va_W).flatten ([hm_wSe g a R A] : List va_W).flatten q := by
  refine hm_ofi [(0, .ref (a 0)), (1, .int x0)] (by decide) (own := RX4) rfl (Nat.le_of_ble_eq_true rfl) rfl rfl ?_
  intro p e s m args below meth c AA S hr hlk X ls hl
  have hx := S.1
  have hb := S.2.1
  have hown := S.2.2.2.1
  have hts := S.2.2.2.2
  have X := X.to (ws' := ([[(a 0, .inr (4, [.ref (a 1), .ref (a 2), .ref (a 4), .ref (a 6), .ref (a 7)]))], [hm_ci g (a 1) 38 (A 0)], hm_row g (a 2) (a 3) 10 (R 0), hm_row g (a 4) (a 5) 10 (R 1), [hm_ci g (a 6) 76 (A 1)], [hm_cz g (a 7) 2 (A 2)]] : List va_W).flatten) rfl
  unfold f_X4_get at hF
  refine lv_iload_n hx hb dX4_get_0 rfl (lv_at hl 1 rfl) ?_
  refine lv_if_lt (tgt := 22) hx hb dX4_get_1 (by decide) (fun c1 => ?_) (fun c1 => ?_)
  · have hF := hm_if hF c1
    refine lv_iconst (v := 0) hx hb dX4_get_22 (by decide) ?_
    obtain rfl := Option.some.inj hF
    exact hm_ri S hr hlk X rfl rfl dX4_get_23
  · have hF := hm_nf hF c1
    refine lv_iload_n hx hb dX4_get_4 rfl (lv_at hl 1 rfl) ?_
    refine lv_aload_n hx hb dX4_get_5 rfl (lv_at hl 0 rfl) ?_
    refine hm_get S X hf_X4_9 0 rfl rfl dX4_get_6 ?_
    refine hm_alen (v := 38) S X 1 0 rfl rfl rfl dX4_get_9 ?_
    refine lv_icmp_ge (tgt := 22) hx hb dX4_get_10 (by decide) (fun c10 => ?_) (fun c10 => ?_)
    · have hF := hm_if hF c10
      refine lv_iconst (v := 0) hx hb dX4_get_22 (by decide) ?_
      obtain rfl := Option.some.inj hF
      exact hm_ri S hr hlk X rfl rfl dX4_get_23
    · have hF := hm_nf hF c10
      refine lv_aload_n hx hb dX4_get_13 rfl (lv_at hl 0 rfl) ?_
      refine hm_get S X hf_X4_9 0 rfl rfl dX4_get_14 ?_
      refine lv_iload_n hx hb dX4_get_17 rfl (lv_at hl 1 rfl) ?_
      obtain ⟨t1, ht1, hF⟩ := hm_bd hF
      refine hm_iald S X ht1 1 rfl dX4_get_18 ?_
      refine lv_goto (tgt := 23) hx hb dX4_get_19 (by decide) ?_
      obtain rfl := Option.some.inj hF
      exact hm_ri S hr hlk X rfl rfl dX4_get_23
def f_X4_widthOf (A_0 : Nat → Int32) (x0 : Int32)  : Option (Int32) :=
  (f_X7_widthSlot x0).bind fun t1 =>
  (f_X4_get A_0 t1).bind fun t2 =>
  some (t2)
abbrev rm_X4_widthOf : Room := { frames := 2, cells := 0, slots := 0, locals := 41 }
set_option maxHeartbeats 4000000 in
set_option maxRecDepth 100000 in
theorem c_X4_widthOf (l : Launch) (g : hm_G) (a : Nat → Nat) (R : Nat → hm_SR) (A : Nat → Nat → Int32) (x0 : Int32) (q : Int32) (hF : f_X4_widthOf (A 0) x0 = some q) : hm_Mi l yX4_widthOf (Cond.code yX4_widthOf cX4_widthOf 2 (some .int) :: hm_W) rm_X4_widthOf g [.ref (a 0), .int x0] ([hm_wSe g a R A] : List va_W).flatten ([hm_wSe g a R A] : List va_W).flatten q := by
  refine hm_ofi [(0, .ref (a 0)), (1, .int x0)] (by decide) (own := RX4) rfl (Nat.le_of_ble_eq_true rfl) rfl rfl ?_
  intro p e s m args below meth c AA S hr hlk X ls hl
  have hx := S.1
  have hb := S.2.1
  have hown := S.2.2.2.1
  have hts := S.2.2.2.2
  obtain ⟨hN, t0, t1, t2, z0, z1, z2⟩ := X.2.2.2.2.2
  have X := X.to (ws' := ([[(a 0, .inr (4, [.ref (a 1), .ref (a 2), .ref (a 4), .ref (a 6), .ref (a 7)]))], [hm_ci g (a 1) 38 (A 0)], hm_row g (a 2) (a 3) 10 (R 0), hm_row g (a 4) (a 5) 10 (R 1), [hm_ci g (a 6) 76 (A 1)], [hm_cz g (a 7) 2 (A 2)]] : List va_W).flatten) rfl
  unfold f_X4_widthOf at hF
  refine lv_aload_n hx hb dX4_widthOf_0 rfl (lv_at hl 0 rfl) ?_
  refine lv_iload_n hx hb dX4_widthOf_1 rfl (lv_at hl 1 rfl) ?_
  obtain ⟨t1, ht1, hF⟩ := hm_bd hF
  refine hm_sni S X mw_X7_widthSlot hN.1 (c_X7_widthSlot l g x0 t1 ht1) hm_non hm_non ⟨rfl, rfl, Nat.le_of_ble_eq_true rfl, Nat.le_of_ble_eq_true rfl⟩ rfl hl.1 rfl (Nat.le_of_ble_eq_true rfl) dX4_widthOf_2 ⟨Nat.zero_le _, Nat.zero_le _⟩ (fun H locs X => ?_)
  have X := X.to (ws' := ([[(a 0, .inr (4, [.ref (a 1), .ref (a 2), .ref (a 4), .ref (a 6), .ref (a 7)]))], [hm_ci g (a 1) 38 (A 0)], hm_row g (a 2) (a 3) 10 (R 0), hm_row g (a 4) (a 5) 10 (R 1), [hm_ci g (a 6) 76 (A 1)], [hm_cz g (a 7) 2 (A 2)]] : List va_W).flatten) rfl
  obtain ⟨t2, ht2, hF⟩ := hm_bd hF
  refine hm_vi (As := [.int t1]) S X mw_X4_get hw_2_182 (c_X4_get l g a R A t1 t2 ht2) (hm_cq (n := 6) [0, 1, 2, 3, 4, 5] [] rfl (by decide +kernel) rfl rfl) (hm_cq (bs := [[(a 0, .inr (4, [.ref (a 1), .ref (a 2), .ref (a 4), .ref (a 6), .ref (a 7)]))], [hm_ci g (a 1) 38 (A 0)], hm_row g (a 2) (a 3) 10 (R 0), hm_row g (a 4) (a 5) 10 (R 1), [hm_ci g (a 6) 76 (A 1)], [hm_cz g (a 7) 2 (A 2)]]) (n := 6) [0, 1, 2, 3, 4, 5] [] rfl (by decide +kernel) rfl rfl) rfl rfl rfl ⟨rfl, rfl, Nat.le_of_ble_eq_true rfl, Nat.le_of_ble_eq_true rfl⟩ rfl hl.1 rfl (Nat.le_of_ble_eq_true rfl) dX4_widthOf_5 ⟨Nat.zero_le _, Nat.zero_le _⟩ (fun H locs X => ?_)
  have X := X.to (ws' := ([[(a 0, .inr (4, [.ref (a 1), .ref (a 2), .ref (a 4), .ref (a 6), .ref (a 7)]))], [hm_ci g (a 1) 38 (A 0)], hm_row g (a 2) (a 3) 10 (R 0), hm_row g (a 4) (a 5) 10 (R 1), [hm_ci g (a 6) 76 (A 1)], [hm_cz g (a 7) 2 (A 2)]] : List va_W).flatten) rfl
  obtain rfl := Option.some.inj hF
  exact hm_ri S hr hlk X rfl rfl dX4_widthOf_8
def f_X4_hungOf (A_0 : Nat → Int32) (x0 : Int32)  : Option (Int32) :=
  (f_X7_widthSlot x0).bind fun t1 =>
  (f_X4_get A_0 t1).bind fun t2 =>
  (f_X7_hangSlot x0).bind fun t3 =>
  (f_X4_get A_0 t3).bind fun t4 =>
  (hm_dv (t2 * t4) 10).bind fun t5 =>
  some (t5)
abbrev rm_X4_hungOf : Room := { frames := 2, cells := 0, slots := 0, locals := 41 }
set_option maxHeartbeats 4000000 in
set_option maxRecDepth 100000 in
theorem c_X4_hungOf (l : Launch) (g : hm_G) (a : Nat → Nat) (R : Nat → hm_SR) (A : Nat → Nat → Int32) (x0 : Int32) (q : Int32) (hF : f_X4_hungOf (A 0) x0 = some q) : hm_Mi l yX4_hungOf (Cond.code yX4_hungOf cX4_hungOf 2 (some .int) :: hm_W) rm_X4_hungOf g [.ref (a 0), .int x0] ([hm_wSe g a R A] : List va_W).flatten ([hm_wSe g a R A] : List va_W).flatten q := by
  refine hm_ofi [(0, .ref (a 0)), (1, .int x0)] (by decide) (own := RX4) rfl (Nat.le_of_ble_eq_true rfl) rfl rfl ?_
  intro p e s m args below meth c AA S hr hlk X ls hl
  have hx := S.1
  have hb := S.2.1
  have hown := S.2.2.2.1
  have hts := S.2.2.2.2
  obtain ⟨hN, t0, t1, t2, z0, z1, z2⟩ := X.2.2.2.2.2
  have X := X.to (ws' := ([[(a 0, .inr (4, [.ref (a 1), .ref (a 2), .ref (a 4), .ref (a 6), .ref (a 7)]))], [hm_ci g (a 1) 38 (A 0)], hm_row g (a 2) (a 3) 10 (R 0), hm_row g (a 4) (a 5) 10 (R 1), [hm_ci g (a 6) 76 (A 1)], [hm_cz g (a 7) 2 (A 2)]] : List va_W).flatten) rfl
  unfold f_X4_hungOf at hF
  refine lv_aload_n hx hb dX4_hungOf_0 rfl (lv_at hl 0 rfl) ?_
  refine lv_iload_n hx hb dX4_hungOf_1 rfl (lv_at hl 1 rfl) ?_
  obtain ⟨t1, ht1, hF⟩ := hm_bd hF
  refine hm_sni S X mw_X7_widthSlot hN.1 (c_X7_widthSlot l g x0 t1 ht1) hm_non hm_non ⟨rfl, rfl, Nat.le_of_ble_eq_true rfl, Nat.le_of_ble_eq_true rfl⟩ rfl hl.1 rfl (Nat.le_of_ble_eq_true rfl) dX4_hungOf_2 ⟨Nat.zero_le _, Nat.zero_le _⟩ (fun H locs X => ?_)
  have X := X.to (ws' := ([[(a 0, .inr (4, [.ref (a 1), .ref (a 2), .ref (a 4), .ref (a 6), .ref (a 7)]))], [hm_ci g (a 1) 38 (A 0)], hm_row g (a 2) (a 3) 10 (R 0), hm_row g (a 4) (a 5) 10 (R 1), [hm_ci g (a 6) 76 (A 1)], [hm_cz g (a 7) 2 (A 2)]] : List va_W).flatten) rfl
  obtain ⟨t2, ht2, hF⟩ := hm_bd hF
  refine hm_vi (As := [.int t1]) S X mw_X4_get hw_2_182 (c_X4_get l g a R A t1 t2 ht2) (hm_cq (n := 6) [0, 1, 2, 3, 4, 5] [] rfl (by decide +kernel) rfl rfl) (hm_cq (bs := [[(a 0, .inr (4, [.ref (a 1), .ref (a 2), .ref (a 4), .ref (a 6), .ref (a 7)]))], [hm_ci g (a 1) 38 (A 0)], hm_row g (a 2) (a 3) 10 (R 0), hm_row g (a 4) (a 5) 10 (R 1), [hm_ci g (a 6) 76 (A 1)], [hm_cz g (a 7) 2 (A 2)]]) (n := 6) [0, 1, 2, 3, 4, 5] [] rfl (by decide +kernel) rfl rfl) rfl rfl rfl ⟨rfl, rfl, Nat.le_of_ble_eq_true rfl, Nat.le_of_ble_eq_true rfl⟩ rfl hl.1 rfl (Nat.le_of_ble_eq_true rfl) dX4_hungOf_5 ⟨Nat.zero_le _, Nat.zero_le _⟩ (fun H locs X => ?_)
  have X := X.to (ws' := ([[(a 0, .inr (4, [.ref (a 1), .ref (a 2), .ref (a 4), .ref (a 6), .ref (a 7)]))], [hm_ci g (a 1) 38 (A 0)], hm_row g (a 2) (a 3) 10 (R 0), hm_row g (a 4) (a 5) 10 (R 1), [hm_ci g (a 6) 76 (A 1)], [hm_cz g (a 7) 2 (A 2)]] : List va_W).flatten) rfl
  refine lv_aload_n hx hb dX4_hungOf_8 rfl (lv_at hl 0 rfl) ?_
  refine lv_iload_n hx hb dX4_hungOf_9 rfl (lv_at hl 1 rfl) ?_
  obtain ⟨t3, ht3, hF⟩ := hm_bd hF
  refine hm_sni S X mw_X7_hangSlot hN.2.1 (c_X7_hangSlot l g x0 t3 ht3) hm_non hm_non ⟨rfl, rfl, Nat.le_of_ble_eq_true rfl, Nat.le_of_ble_eq_true rfl⟩ rfl hl.1 rfl (Nat.le_of_ble_eq_true rfl) dX4_hungOf_10 ⟨Nat.zero_le _, Nat.zero_le _⟩ (fun H locs X => ?_)
  have X := X.to (ws' := ([[(a 0, .inr (4, [.ref (a 1), .ref (a 2), .ref (a 4), .ref (a 6), .ref (a 7)]))], [hm_ci g (a 1) 38 (A 0)], hm_row g (a 2) (a 3) 10 (R 0), hm_row g (a 4) (a 5) 10 (R 1), [hm_ci g (a 6) 76 (A 1)], [hm_cz g (a 7) 2 (A 2)]] : List va_W).flatten) rfl
  obtain ⟨t4, ht4, hF⟩ := hm_bd hF
  refine hm_vi (As := [.int t3]) S X mw_X4_get hw_2_182 (c_X4_get l g a R A t3 t4 ht4) (hm_cq (n := 6) [0, 1, 2, 3, 4, 5] [] rfl (by decide +kernel) rfl rfl) (hm_cq (bs := [[(a 0, .inr (4, [.ref (a 1), .ref (a 2), .ref (a 4), .ref (a 6), .ref (a 7)]))], [hm_ci g (a 1) 38 (A 0)], hm_row g (a 2) (a 3) 10 (R 0), hm_row g (a 4) (a 5) 10 (R 1), [hm_ci g (a 6) 76 (A 1)], [hm_cz g (a 7) 2 (A 2)]]) (n := 6) [0, 1, 2, 3, 4, 5] [] rfl (by decide +kernel) rfl rfl) rfl rfl rfl ⟨rfl, rfl, Nat.le_of_ble_eq_true rfl, Nat.le_of_ble_eq_true rfl⟩ rfl hl.1 rfl (Nat.le_of_ble_eq_true rfl) dX4_hungOf_13 ⟨Nat.zero_le _, Nat.zero_le _⟩ (fun H locs X => ?_)
  have X := X.to (ws' := ([[(a 0, .inr (4, [.ref (a 1), .ref (a 2), .ref (a 4), .ref (a 6), .ref (a 7)]))], [hm_ci g (a 1) 38 (A 0)], hm_row g (a 2) (a 3) 10 (R 0), hm_row g (a 4) (a 5) 10 (R 1), [hm_ci g (a 6) 76 (A 1)], [hm_cz g (a 7) 2 (A 2)]] : List va_W).flatten) rfl
  refine lv_imul hx hb dX4_hungOf_16 ?_
  refine lv_bipush (v := 10) hx hb dX4_hungOf_17 (by decide) ?_
  obtain ⟨t5, ht5, hF⟩ := hm_bd hF
  refine hm_idiv hx hb ht5 dX4_hungOf_19 ?_
  obtain rfl := Option.some.inj hF
  exact hm_ri S hr hlk X rfl rfl dX4_hungOf_20
def f_X4_store (A_0 : Nat → Int32) (x0 : Int32) (x1 : Int32)  : Option ((Nat → Int32)) :=
  if x0 < 0 then (
  some (A_0))
  else (
  if (38 : Int32) ≤ x0 then (
  some (A_0))
  else (
  (hm_wr 38 A_0 x0 x1).bind fun f1 =>
  some (f1)))
abbrev rm_X4_store : Room := { frames := 0, cells := 0, slots := 0, locals := 0 }
set_option maxHeartbeats 4000000 in
set_option maxRecDepth 100000 in
theorem c_X4_store (l : Launch) (g : hm_G) (a : Nat → Nat) (R : Nat → hm_SR) (A : Nat → Nat → Int32) (x0 : Int32) (x1 : Int32) (q : (Nat → Int32)) (hF : f_X4_store (A 0) x0 x1 = some q) : hm_Mv l yX4_store (Cond.code yX4_store cX4_store 3 none :: hm_W) rm_X4_store g [.ref (a 0), .int x0, .int x1] ([hm_wSe g a R A] : List va_W).flatten ([hm_wSe g a R (hm_up A 0 q)] : List va_W).flatten := by
  refine hm_ofv [(0, .ref (a 0)), (1, .int x0), (2, .int x1)] (by decide) (own := RX4) rfl (Nat.le_of_ble_eq_true rfl) rfl rfl ?_
  intro p e s m args below meth c AA S hr hlk X ls hl
  have hx := S.1
  have hb := S.2.1
  have hown := S.2.2.2.1
  have hts := S.2.2.2.2
  have X := X.to (ws' := ([[(a 0, .inr (4, [.ref (a 1), .ref (a 2), .ref (a 4), .ref (a 6), .ref (a 7)]))], [hm_ci g (a 1) 38 (A 0)], hm_row g (a 2) (a 3) 10 (R 0), hm_row g (a 4) (a 5) 10 (R 1), [hm_ci g (a 6) 76 (A 1)], [hm_cz g (a 7) 2 (A 2)]] : List va_W).flatten) rfl
  unfold f_X4_store at hF
  refine lv_iload_n hx hb dX4_store_0 rfl (lv_at hl 1 rfl) ?_
  refine lv_if_lt (tgt := 20) hx hb dX4_store_1 (by decide) (fun c1 => ?_) (fun c1 => ?_)
  · have hF := hm_if hF c1
    obtain rfl := Option.some.inj hF
    exact hm_rv S hr hlk X rfl dX4_store_20
  · have hF := hm_nf hF c1
    refine lv_iload_n hx hb dX4_store_4 rfl (lv_at hl 1 rfl) ?_
    refine lv_aload_n hx hb dX4_store_5 rfl (lv_at hl 0 rfl) ?_
    refine hm_get S X hf_X4_9 0 rfl rfl dX4_store_6 ?_
    refine hm_alen (v := 38) S X 1 0 rfl rfl rfl dX4_store_9 ?_
    refine lv_icmp_ge (tgt := 20) hx hb dX4_store_10 (by decide) (fun c10 => ?_) (fun c10 => ?_)
    · have hF := hm_if hF c10
      obtain rfl := Option.some.inj hF
      exact hm_rv S hr hlk X rfl dX4_store_20
    · have hF := hm_nf hF c10
      refine lv_aload_n hx hb dX4_store_13 rfl (lv_at hl 0 rfl) ?_
      refine hm_get S X hf_X4_9 0 rfl rfl dX4_store_14 ?_
      refine lv_iload_n hx hb dX4_store_17 rfl (lv_at hl 1 rfl) ?_
      refine lv_iload_n hx hb dX4_store_18 rfl (lv_at hl 2 rfl) ?_
      obtain ⟨f1, hf1, hF⟩ := hm_bd hF
      refine hm_iast S X hf1 1 rfl dX4_store_19 (fun H locs X => ?_)
      have X := X.to (ws' := ([[(a 0, .inr (4, [.ref (a 1), .ref (a 2), .ref (a 4), .ref (a 6), .ref (a 7)]))], [hm_ci g (a 1) 38 f1], hm_row g (a 2) (a 3) 10 (R 0), hm_row g (a 4) (a 5) 10 (R 1), [hm_ci g (a 6) 76 (A 1)], [hm_cz g (a 7) 2 (A 2)]] : List va_W).flatten) rfl
      obtain rfl := Option.some.inj hF
      exact hm_rv S hr hlk X rfl dX4_store_20
def f_X4_loseUndone (R_0 : hm_SR) (R_1 : hm_SR)  : Option (hm_SR × hm_SR) :=
  (f_X2_empty R_0).bind fun t1 =>
  (f_X2_empty R_1).bind fun t2 =>
  some (t1, t2)
abbrev rm_X4_loseUndone : Room := { frames := 1, cells := 0, slots := 0, locals := 20 }
set_option maxHeartbeats 4000000 in
set_option maxRecDepth 100000 in
theorem c_X4_loseUndone (l : Launch) (g : hm_G) (a : Nat → Nat) (R : Nat → hm_SR) (A : Nat → Nat → Int32) (q : hm_SR × hm_SR) (hF : f_X4_loseUndone (R 0) (R 1) = some q) : hm_Mv l yX4_loseUndone (Cond.code yX4_loseUndone cX4_loseUndone 1 none :: hm_W) rm_X4_loseUndone g [.ref (a 0)] ([hm_wSe g a R A] : List va_W).flatten ([hm_wSe g a (hm_up (hm_up R 0 q.1) 1 q.2) A] : List va_W).flatten := by
  refine hm_ofv [(0, .ref (a 0))] (by decide) (own := RX4) rfl (Nat.le_of_ble_eq_true rfl) rfl rfl ?_
  intro p e s m args below meth c AA S hr hlk X ls hl
  have hx := S.1
  have hb := S.2.1
  have hown := S.2.2.2.1
  have hts := S.2.2.2.2
  have X := X.to (ws' := ([[(a 0, .inr (4, [.ref (a 1), .ref (a 2), .ref (a 4), .ref (a 6), .ref (a 7)]))], [hm_ci g (a 1) 38 (A 0)], hm_row g (a 2) (a 3) 10 (R 0), hm_row g (a 4) (a 5) 10 (R 1), [hm_ci g (a 6) 76 (A 1)], [hm_cz g (a 7) 2 (A 2)]] : List va_W).flatten) rfl
  unfold f_X4_loseUndone at hF
  refine lv_aload_n hx hb dX4_loseUndone_0 rfl (lv_at hl 0 rfl) ?_
  refine hm_get S X hf_X4_20 0 rfl rfl dX4_loseUndone_1 ?_
  obtain ⟨t1, ht1, hF⟩ := hm_bd hF
  refine hm_vv (As := []) S X mw_X2_empty hw_1_98 (c_X2_empty l g (a 2) (a 3) 10 (R 0) t1 ht1) (hm_mid [[(a 0, .inr (4, [.ref (a 1), .ref (a 2), .ref (a 4), .ref (a 6), .ref (a 7)]))], [hm_ci g (a 1) 38 (A 0)]] [hm_row g (a 4) (a 5) 10 (R 1), [hm_ci g (a 6) 76 (A 1)], [hm_cz g (a 7) 2 (A 2)]]) (hm_mid [[(a 0, .inr (4, [.ref (a 1), .ref (a 2), .ref (a 4), .ref (a 6), .ref (a 7)]))], [hm_ci g (a 1) 38 (A 0)]] [hm_row g (a 4) (a 5) 10 (R 1), [hm_ci g (a 6) 76 (A 1)], [hm_cz g (a 7) 2 (A 2)]] (b := hm_row g (a 2) (a 3) 10 t1)) rfl rfl rfl ⟨rfl, rfl, Nat.le_of_ble_eq_true rfl, Nat.le_of_ble_eq_true rfl⟩ rfl hl.1 rfl (Nat.le_of_ble_eq_true rfl) dX4_loseUndone_4 ⟨Nat.zero_le _, Nat.zero_le _⟩ (fun H locs X => ?_)
  have X := X.to (ws' := ([[(a 0, .inr (4, [.ref (a 1), .ref (a 2), .ref (a 4), .ref (a 6), .ref (a 7)]))], [hm_ci g (a 1) 38 (A 0)], hm_row g (a 2) (a 3) 10 t1, hm_row g (a 4) (a 5) 10 (R 1), [hm_ci g (a 6) 76 (A 1)], [hm_cz g (a 7) 2 (A 2)]] : List va_W).flatten) rfl
  refine lv_aload_n hx hb dX4_loseUndone_7 rfl (lv_at hl 0 rfl) ?_
  refine hm_get S X hf_X4_24 0 rfl rfl dX4_loseUndone_8 ?_
  obtain ⟨t2, ht2, hF⟩ := hm_bd hF
  refine hm_vv (As := []) S X mw_X2_empty hw_1_98 (c_X2_empty l g (a 4) (a 5) 10 (R 1) t2 ht2) (hm_mid [[(a 0, .inr (4, [.ref (a 1), .ref (a 2), .ref (a 4), .ref (a 6), .ref (a 7)]))], [hm_ci g (a 1) 38 (A 0)], hm_row g (a 2) (a 3) 10 t1] [[hm_ci g (a 6) 76 (A 1)], [hm_cz g (a 7) 2 (A 2)]]) (hm_mid [[(a 0, .inr (4, [.ref (a 1), .ref (a 2), .ref (a 4), .ref (a 6), .ref (a 7)]))], [hm_ci g (a 1) 38 (A 0)], hm_row g (a 2) (a 3) 10 t1] [[hm_ci g (a 6) 76 (A 1)], [hm_cz g (a 7) 2 (A 2)]] (b := hm_row g (a 4) (a 5) 10 t2)) rfl rfl rfl ⟨rfl, rfl, Nat.le_of_ble_eq_true rfl, Nat.le_of_ble_eq_true rfl⟩ rfl hl.1 rfl (Nat.le_of_ble_eq_true rfl) dX4_loseUndone_11 ⟨Nat.zero_le _, Nat.zero_le _⟩ (fun H locs X => ?_)
  have X := X.to (ws' := ([[(a 0, .inr (4, [.ref (a 1), .ref (a 2), .ref (a 4), .ref (a 6), .ref (a 7)]))], [hm_ci g (a 1) 38 (A 0)], hm_row g (a 2) (a 3) 10 t1, hm_row g (a 4) (a 5) 10 t2, [hm_ci g (a 6) 76 (A 1)], [hm_cz g (a 7) 2 (A 2)]] : List va_W).flatten) rfl
  obtain rfl := Option.some.inj hF
  exact hm_rv S hr hlk X rfl dX4_loseUndone_14
def f_X4_begin_l93 (R_0 : hm_SR) (R_1 : hm_SR) (wA_0 : Nat → Int32) (wA_2 : Nat → Int32) : Option ((Nat → Int32) × (Nat → Int32) × hm_SR × hm_SR) :=
  (f_X4_loseUndone R_0 R_1).bind fun t1 =>
  some (wA_0, wA_2, t1.1, t1.2)
def f_X4_begin_l71 (R_0 : hm_SR) (R_1 : hm_SR) : Nat → Int32 → (Nat → Int32) → (Nat → Int32) → Option ((Nat → Int32) × (Nat → Int32) × hm_SR × hm_SR)
  | 0, _, _, _ => none
  | k + 1, v1, wA_0, wA_2 =>
  if (2 : Int32) ≤ v1 then (
  f_X4_begin_l93 R_0 R_1 wA_0 wA_2)
  else (
  (hm_wz 2 wA_2 v1 0).bind fun f2 =>
  f_X4_begin_l71 R_0 R_1 k (v1 + 1) wA_0 f2)
theorem f_X4_begin_l71_s (R_0 : hm_SR) (R_1 : hm_SR) (k : Nat) (v1 : Int32) (wA_0 : Nat → Int32) (wA_2 : Nat → Int32) : f_X4_begin_l71 R_0 R_1 (k + 1) v1 wA_0 wA_2 =
  if (2 : Int32) ≤ v1 then (
  f_X4_begin_l93 R_0 R_1 wA_0 wA_2)
  else (
  (hm_wz 2 wA_2 v1 0).bind fun f2 =>
  f_X4_begin_l71 R_0 R_1 k (v1 + 1) wA_0 f2) := rfl
theorem f_X4_begin_l71_z (R_0 : hm_SR) (R_1 : hm_SR) (v1 : Int32) (wA_0 : Nat → Int32) (wA_2 : Nat → Int32) : f_X4_begin_l71 R_0 R_1 0 v1 wA_0 wA_2 = none := rfl
def f_X4_begin_l69 (R_0 : hm_SR) (R_1 : hm_SR) (A_2 : Nat → Int32) (wA_0 : Nat → Int32) : Option ((Nat → Int32) × (Nat → Int32) × hm_SR × hm_SR) :=
  f_X4_begin_l71 R_0 R_1 hm_fu 0 wA_0 A_2
def f_X4_begin_l42 (R_0 : hm_SR) (R_1 : hm_SR) (A_2 : Nat → Int32) : Nat → Int32 → (Nat → Int32) → Option ((Nat → Int32) × (Nat → Int32) × hm_SR × hm_SR)
  | 0, _, _ => none
  | k + 1, v1, wA_0 =>
  if (4 : Int32) ≤ v1 then (
  f_X4_begin_l69 R_0 R_1 A_2 wA_0)
  else (
  (hm_rd 4 hm_sx2 v1).bind fun t3 =>
  (f_X4_store wA_0 (34 + v1) t3).bind fun t4 =>
  f_X4_begin_l42 R_0 R_1 A_2 k (v1 + 1) t4)
theorem f_X4_begin_l42_s (R_0 : hm_SR) (R_1 : hm_SR) (A_2 : Nat → Int32) (k : Nat) (v1 : Int32) (wA_0 : Nat → Int32) : f_X4_begin_l42 R_0 R_1 A_2 (k + 1) v1 wA_0 =
  if (4 : Int32) ≤ v1 then (
  f_X4_begin_l69 R_0 R_1 A_2 wA_0)
  else (
  (hm_rd 4 hm_sx2 v1).bind fun t3 =>
  (f_X4_store wA_0 (34 + v1) t3).bind fun t4 =>
  f_X4_begin_l42 R_0 R_1 A_2 k (v1 + 1) t4) := rfl
theorem f_X4_begin_l42_z (R_0 : hm_SR) (R_1 : hm_SR) (A_2 : Nat → Int32) (v1 : Int32) (wA_0 : Nat → Int32) : f_X4_begin_l42 R_0 R_1 A_2 0 v1 wA_0 = none := rfl
def f_X4_begin_l40 (R_0 : hm_SR) (R_1 : hm_SR) (A_2 : Nat → Int32) (wA_0 : Nat → Int32) : Option ((Nat → Int32) × (Nat → Int32) × hm_SR × hm_SR) :=
  f_X4_begin_l42 R_0 R_1 A_2 hm_fu 0 wA_0
def f_X4_begin_l31 (J2 : Int32 → (Nat → Int32) → Option ((Nat → Int32) × (Nat → Int32) × hm_SR × hm_SR)) (s31_0 : Int32) (s31_1 : Int32) (v1 : Int32) (wA_0 : Nat → Int32) : Option ((Nat → Int32) × (Nat → Int32) × hm_SR × hm_SR) :=
  (f_X4_store wA_0 s31_1 s31_0).bind fun t5 =>
  J2 (v1 + 1) t5
def f_X4_begin_l2 (R_0 : hm_SR) (R_1 : hm_SR) (A_2 : Nat → Int32) : Nat → Int32 → (Nat → Int32) → Option ((Nat → Int32) × (Nat → Int32) × hm_SR × hm_SR)
  | 0, _, _ => none
  | k + 1, v1, wA_0 =>
  if (34 : Int32) ≤ v1 then (
  f_X4_begin_l40 R_0 R_1 A_2 wA_0)
  else (
  if (26 : Int32) ≤ v1 then (
  if (30 : Int32) ≤ v1 then (
  f_X4_begin_l31 (fun zv1 zwA_0 => f_X4_begin_l2 R_0 R_1 A_2 k zv1 zwA_0) 0 v1 v1 wA_0)
  else (
  f_X4_begin_l31 (fun zv1 zwA_0 => f_X4_begin_l2 R_0 R_1 A_2 k zv1 zwA_0) 2 v1 v1 wA_0))
  else (
  f_X4_begin_l31 (fun zv1 zwA_0 => f_X4_begin_l2 R_0 R_1 A_2 k zv1 zwA_0) 4 v1 v1 wA_0))
theorem f_X4_begin_l2_s (R_0 : hm_SR) (R_1 : hm_SR) (A_2 : Nat → Int32) (k : Nat) (v1 : Int32) (wA_0 : Nat → Int32) : f_X4_begin_l2 R_0 R_1 A_2 (k + 1) v1 wA_0 =
  if (34 : Int32) ≤ v1 then (
  f_X4_begin_l40 R_0 R_1 A_2 wA_0)
  else (
  if (26 : Int32) ≤ v1 then (
  if (30 : Int32) ≤ v1 then (
  f_X4_begin_l31 (fun zv1 zwA_0 => f_X4_begin_l2 R_0 R_1 A_2 k zv1 zwA_0) 0 v1 v1 wA_0)
  else (
  f_X4_begin_l31 (fun zv1 zwA_0 => f_X4_begin_l2 R_0 R_1 A_2 k zv1 zwA_0) 2 v1 v1 wA_0))
  else (
  f_X4_begin_l31 (fun zv1 zwA_0 => f_X4_begin_l2 R_0 R_1 A_2 k zv1 zwA_0) 4 v1 v1 wA_0)) := rfl
theorem f_X4_begin_l2_z (R_0 : hm_SR) (R_1 : hm_SR) (A_2 : Nat → Int32) (v1 : Int32) (wA_0 : Nat → Int32) : f_X4_begin_l2 R_0 R_1 A_2 0 v1 wA_0 = none := rfl
def f_X4_begin (R_0 : hm_SR) (R_1 : hm_SR) (A_0 : Nat → Int32) (A_2 : Nat → Int32)  : Option ((Nat → Int32) × (Nat → Int32) × hm_SR × hm_SR) :=
  f_X4_begin_l2 R_0 R_1 A_2 hm_fu 0 A_0
abbrev rm_X4_begin : Room := { frames := 2, cells := 0, slots := 0, locals := 40 }
set_option maxHeartbeats 4000000 in
set_option maxRecDepth 100000 in
theorem c_X4_begin (l : Launch) (g : hm_G) (a : Nat → Nat) (R : Nat → hm_SR) (A : Nat → Nat → Int32) (q : (Nat → Int32) × (Nat → Int32) × hm_SR × hm_SR) (hF : f_X4_begin (R 0) (R 1) (A 0) (A 2) = some q) : hm_Mv l yX4_begin (Cond.code yX4_begin cX4_begin 2 none :: hm_W) rm_X4_begin g [.ref (a 0)] ([hm_wSe g a R A] : List va_W).flatten ([hm_wSe g a (hm_up (hm_up R 0 q.2.2.1) 1 q.2.2.2) (hm_up (hm_up A 0 q.1) 2 q.2.1)] : List va_W).flatten := by
  refine hm_ofv [(0, .ref (a 0))] (by decide) (own := RX4) rfl (Nat.le_of_ble_eq_true rfl) rfl rfl ?_
  intro p e s m args below meth c AA S hr hlk X ls hl
  have hx := S.1
  have hb := S.2.1
  have hown := S.2.2.2.1
  have hts := S.2.2.2.2
  obtain ⟨hN, t0, t1, t2, z0, z1, z2⟩ := X.2.2.2.2.2
  have X := X.to (ws' := ([[(a 0, .inr (4, [.ref (a 1), .ref (a 2), .ref (a 4), .ref (a 6), .ref (a 7)]))], [hm_ci g (a 1) 38 (A 0)], hm_row g (a 2) (a 3) 10 (R 0), hm_row g (a 4) (a 5) 10 (R 1), [hm_ci g (a 6) 76 (A 1)], [hm_cz g (a 7) 2 (A 2)]] : List va_W).flatten) rfl
  have hl93 : ∀ (wA_0 : Nat → Int32) (wA_2 : Nat → Int32), f_X4_begin_l93 (R 0) (R 1) wA_0 wA_2 = some q → ∀ (H : Heap) (locs : List Loc), hm_X g AA s H locs ([[(a 0, .inr (4, [.ref (a 1), .ref (a 2), .ref (a 4), .ref (a 6), .ref (a 7)]))], [hm_ci g (a 1) 38 wA_0], hm_row g (a 2) (a 3) 10 (R 0), hm_row g (a 4) (a 5) 10 (R 1), [hm_ci g (a 6) 76 (A 1)], [hm_cz g (a 7) 2 wA_2]] : List va_W).flatten → ∀ ls : Array Slot, lv_has ls 2 [(0, .ref (a 0))] → W p l e rm_X4_begin s m args below meth c H locs 0 0 (MQ below (hm_Qv g AA ([hm_wSe g a (hm_up (hm_up R 0 q.2.2.1) 1 q.2.2.2) (hm_up (hm_up A 0 q.1) 2 q.2.1)] : List va_W).flatten) args s 0 0 AA) (F0 m 93 ls []) := by
    intro wA_0 wA_2 hF H locs X ls hl
    unfold f_X4_begin_l93 at hF
    refine lv_aload_n hx hb dX4_begin_93 rfl (lv_at hl 0 rfl) ?_
    obtain ⟨t1, ht1, hF⟩ := hm_bd hF
    refine hm_vv (As := []) S X mw_X4_loseUndone hw_1_94 (c_X4_loseUndone l g a R (hm_up (hm_up A 0 wA_0) 2 wA_2) t1 ht1) (hm_cq (n := 6) [0, 1, 2, 3, 4, 5] [] rfl (by decide +kernel) rfl rfl) (hm_cq (bs := [[(a 0, .inr (4, [.ref (a 1), .ref (a 2), .ref (a 4), .ref (a 6), .ref (a 7)]))], [hm_ci g (a 1) 38 wA_0], hm_row g (a 2) (a 3) 10 t1.1, hm_row g (a 4) (a 5) 10 t1.2, [hm_ci g (a 6) 76 (A 1)], [hm_cz g (a 7) 2 wA_2]]) (n := 6) [0, 1, 2, 3, 4, 5] [] rfl (by decide +kernel) rfl rfl) rfl rfl rfl ⟨rfl, rfl, Nat.le_of_ble_eq_true rfl, Nat.le_of_ble_eq_true rfl⟩ rfl hl.1 rfl (Nat.le_of_ble_eq_true rfl) dX4_begin_94 ⟨Nat.zero_le _, Nat.zero_le _⟩ (fun H locs X => ?_)
    have X := X.to (ws' := ([[(a 0, .inr (4, [.ref (a 1), .ref (a 2), .ref (a 4), .ref (a 6), .ref (a 7)]))], [hm_ci g (a 1) 38 wA_0], hm_row g (a 2) (a 3) 10 t1.1, hm_row g (a 4) (a 5) 10 t1.2, [hm_ci g (a 6) 76 (A 1)], [hm_cz g (a 7) 2 wA_2]] : List va_W).flatten) rfl
    obtain rfl := Option.some.inj hF
    exact hm_rv S hr hlk X rfl dX4_begin_97
  have hl71 : ∀ (k71 : Nat) (v1 : Int32) (wA_0 : Nat → Int32) (wA_2 : Nat → Int32), f_X4_begin_l71 (R 0) (R 1) k71 v1 wA_0 wA_2 = some q → ∀ (H : Heap) (locs : List Loc), hm_X g AA s H locs ([[(a 0, .inr (4, [.ref (a 1), .ref (a 2), .ref (a 4), .ref (a 6), .ref (a 7)]))], [hm_ci g (a 1) 38 wA_0], hm_row g (a 2) (a 3) 10 (R 0), hm_row g (a 4) (a 5) 10 (R 1), [hm_ci g (a 6) 76 (A 1)], [hm_cz g (a 7) 2 wA_2]] : List va_W).flatten → ∀ ls : Array Slot, lv_has ls 2 [(0, .ref (a 0)), (1, .int v1)] → W p l e rm_X4_begin s m args below meth c H locs 0 0 (MQ below (hm_Qv g AA ([hm_wSe g a (hm_up (hm_up R 0 q.2.2.1) 1 q.2.2.2) (hm_up (hm_up A 0 q.1) 2 q.2.1)] : List va_W).flatten) args s 0 0 AA) (F0 m 71 ls []) := by
    intro k71
    induction k71 with
    | zero =>
      intro v1 wA_0 wA_2 hF
      rw [f_X4_begin_l71_z] at hF
      cases hF
    | succ k71 ih71 =>
      intro v1 wA_0 wA_2 hF H locs X ls hl
      rw [f_X4_begin_l71_s] at hF
      refine lv_iload_n hx hb dX4_begin_71 rfl (lv_at hl 1 rfl) ?_
      refine lv_aload_n hx hb dX4_begin_72 rfl (lv_at hl 0 rfl) ?_
      refine hm_get S X hf_X4_30 0 rfl rfl dX4_begin_73 ?_
      refine hm_alen (v := 2) S X 7 2 rfl rfl rfl dX4_begin_76 ?_
      refine lv_icmp_ge (tgt := 93) hx hb dX4_begin_77 (by decide) (fun c77 => ?_) (fun c77 => ?_)
      · have hF := hm_if hF c77
        exact hl93 wA_0 wA_2 hF _ _ X _ (lv_sub hl [0] rfl)
      · have hF := hm_nf hF c77
        refine lv_aload_n hx hb dX4_begin_80 rfl (lv_at hl 0 rfl) ?_
        refine hm_get S X hf_X4_30 0 rfl rfl dX4_begin_81 ?_
        refine lv_iload_n hx hb dX4_begin_84 rfl (lv_at hl 1 rfl) ?_
        refine lv_iconst (v := 0) hx hb dX4_begin_85 (by decide) ?_
        obtain ⟨f2, hf2, hF⟩ := hm_bd hF
        refine hm_zast S X hf2 7 rfl dX4_begin_86 (fun H locs X => ?_)
        have X := X.to (ws' := ([[(a 0, .inr (4, [.ref (a 1), .ref (a 2), .ref (a 4), .ref (a 6), .ref (a 7)]))], [hm_ci g (a 1) 38 wA_0], hm_row g (a 2) (a 3) 10 (R 0), hm_row g (a 4) (a 5) 10 (R 1), [hm_ci g (a 6) 76 (A 1)], [hm_cz g (a 7) 2 f2]] : List va_W).flatten) rfl
        refine lv_iinc (v := (v1 + 1)) (lv' := [(1, .int (v1 + 1)), (0, .ref (a 0))]) hx hb dX4_begin_87 hl (k := 1) rfl rfl (by decide) rfl (fun ls hl => ?_)
        refine lv_goto (tgt := 71) hx hb dX4_begin_90 (by decide) ?_
        exact ih71 (v1 + 1) wA_0 f2 hF _ _ X _ (lv_sub hl [1, 0] rfl)
  have hl69 : ∀ (wA_0 : Nat → Int32), f_X4_begin_l69 (R 0) (R 1) (A 2) wA_0 = some q → ∀ (H : Heap) (locs : List Loc), hm_X g AA s H locs ([[(a 0, .inr (4, [.ref (a 1), .ref (a 2), .ref (a 4), .ref (a 6), .ref (a 7)]))], [hm_ci g (a 1) 38 wA_0], hm_row g (a 2) (a 3) 10 (R 0), hm_row g (a 4) (a 5) 10 (R 1), [hm_ci g (a 6) 76 (A 1)], [hm_cz g (a 7) 2 (A 2)]] : List va_W).flatten → ∀ ls : Array Slot, lv_has ls 2 [(0, .ref (a 0))] → W p l e rm_X4_begin s m args below meth c H locs 0 0 (MQ below (hm_Qv g AA ([hm_wSe g a (hm_up (hm_up R 0 q.2.2.1) 1 q.2.2.2) (hm_up (hm_up A 0 q.1) 2 q.2.1)] : List va_W).flatten) args s 0 0 AA) (F0 m 69 ls []) := by
    intro wA_0 hF H locs X ls hl
    unfold f_X4_begin_l69 at hF
    refine lv_iconst (v := 0) hx hb dX4_begin_69 (by decide) ?_
    refine lv_istore_n (lv' := [(1, .int 0), (0, .ref (a 0))]) hx hb dX4_begin_70 rfl hl (by decide) rfl (fun ls hl => ?_)
    exact hl71 hm_fu 0 wA_0 (A 2) hF _ _ X _ (lv_sub hl [1, 0] rfl)
  have hl42 : ∀ (k42 : Nat) (v1 : Int32) (wA_0 : Nat → Int32), f_X4_begin_l42 (R 0) (R 1) (A 2) k42 v1 wA_0 = some q → ∀ (H : Heap) (locs : List Loc), hm_X g AA s H locs ([[(a 0, .inr (4, [.ref (a 1), .ref (a 2), .ref (a 4), .ref (a 6), .ref (a 7)]))], [hm_ci g (a 1) 38 wA_0], hm_row g (a 2) (a 3) 10 (R 0), hm_row g (a 4) (a 5) 10 (R 1), [hm_ci g (a 6) 76 (A 1)], [hm_cz g (a 7) 2 (A 2)]] : List va_W).flatten → ∀ ls : Array Slot, lv_has ls 2 [(0, .ref (a 0)), (1, .int v1)] → W p l e rm_X4_begin s m args below meth c H locs 0 0 (MQ below (hm_Qv g AA ([hm_wSe g a (hm_up (hm_up R 0 q.2.2.1) 1 q.2.2.2) (hm_up (hm_up A 0 q.1) 2 q.2.1)] : List va_W).flatten) args s 0 0 AA) (F0 m 42 ls []) := by
    intro k42
    induction k42 with
    | zero =>
      intro v1 wA_0 hF
      rw [f_X4_begin_l42_z] at hF
      cases hF
    | succ k42 ih42 =>
      intro v1 wA_0 hF H locs X ls hl
      rw [f_X4_begin_l42_s] at hF
      refine lv_iload_n hx hb dX4_begin_42 rfl (lv_at hl 1 rfl) ?_
      refine va_getsN hx hb z2.1 X.2.2.2.1 hown (va_Nw.use rfl hN.2.2.1) (fun _ h9 => h9) dX4_begin_43 ?_
      refine hm_slen hx hb z2 X.2.2.2.1 dX4_begin_46 ?_
      refine lv_icmp_ge (tgt := 69) hx hb dX4_begin_47 (by decide) (fun c47 => ?_) (fun c47 => ?_)
      · have hF := hm_if hF c47
        exact hl69 wA_0 hF _ _ X _ (lv_sub hl [0] rfl)
      · have hF := hm_nf hF c47
        refine lv_aload_n hx hb dX4_begin_50 rfl (lv_at hl 0 rfl) ?_
        refine lv_bipush (v := 34) hx hb dX4_begin_51 (by decide) ?_
        refine lv_iload_n hx hb dX4_begin_53 rfl (lv_at hl 1 rfl) ?_
        refine lv_iadd hx hb dX4_begin_54 ?_
        refine va_getsN hx hb z2.1 X.2.2.2.1 hown (va_Nw.use rfl hN.2.2.1) (fun _ h9 => h9) dX4_begin_55 ?_
        refine lv_iload_n hx hb dX4_begin_58 rfl (lv_at hl 1 rfl) ?_
        obtain ⟨t3, ht3, hF⟩ := hm_bd hF
        refine hm_sld hx hb z2 X.2.2.2.1 ht3 dX4_begin_59 ?_
        obtain ⟨t4, ht4, hF⟩ := hm_bd hF
        refine hm_vv (As := [.int (34 + v1), .int t3]) S X mw_X4_store hw_1_88 (c_X4_store l g a R (hm_up A 0 wA_0) (34 + v1) t3 t4 ht4) (hm_cq (n := 6) [0, 1, 2, 3, 4, 5] [] rfl (by decide +kernel) rfl rfl) (hm_cq (bs := [[(a 0, .inr (4, [.ref (a 1), .ref (a 2), .ref (a 4), .ref (a 6), .ref (a 7)]))], [hm_ci g (a 1) 38 t4], hm_row g (a 2) (a 3) 10 (R 0), hm_row g (a 4) (a 5) 10 (R 1), [hm_ci g (a 6) 76 (A 1)], [hm_cz g (a 7) 2 (A 2)]]) (n := 6) [0, 1, 2, 3, 4, 5] [] rfl (by decide +kernel) rfl rfl) rfl rfl rfl ⟨rfl, rfl, Nat.le_of_ble_eq_true rfl, Nat.le_of_ble_eq_true rfl⟩ rfl hl.1 rfl (Nat.le_of_ble_eq_true rfl) dX4_begin_60 ⟨Nat.zero_le _, Nat.zero_le _⟩ (fun H locs X => ?_)
        have X := X.to (ws' := ([[(a 0, .inr (4, [.ref (a 1), .ref (a 2), .ref (a 4), .ref (a 6), .ref (a 7)]))], [hm_ci g (a 1) 38 t4], hm_row g (a 2) (a 3) 10 (R 0), hm_row g (a 4) (a 5) 10 (R 1), [hm_ci g (a 6) 76 (A 1)], [hm_cz g (a 7) 2 (A 2)]] : List va_W).flatten) rfl
        refine lv_iinc (v := (v1 + 1)) (lv' := [(1, .int (v1 + 1)), (0, .ref (a 0))]) hx hb dX4_begin_63 hl (k := 1) rfl rfl (by decide) rfl (fun ls hl => ?_)
        refine lv_goto (tgt := 42) hx hb dX4_begin_66 (by decide) ?_
        exact ih42 (v1 + 1) t4 hF _ _ X _ (lv_sub hl [1, 0] rfl)
  have hl40 : ∀ (wA_0 : Nat → Int32), f_X4_begin_l40 (R 0) (R 1) (A 2) wA_0 = some q → ∀ (H : Heap) (locs : List Loc), hm_X g AA s H locs ([[(a 0, .inr (4, [.ref (a 1), .ref (a 2), .ref (a 4), .ref (a 6), .ref (a 7)]))], [hm_ci g (a 1) 38 wA_0], hm_row g (a 2) (a 3) 10 (R 0), hm_row g (a 4) (a 5) 10 (R 1), [hm_ci g (a 6) 76 (A 1)], [hm_cz g (a 7) 2 (A 2)]] : List va_W).flatten → ∀ ls : Array Slot, lv_has ls 2 [(0, .ref (a 0))] → W p l e rm_X4_begin s m args below meth c H locs 0 0 (MQ below (hm_Qv g AA ([hm_wSe g a (hm_up (hm_up R 0 q.2.2.1) 1 q.2.2.2) (hm_up (hm_up A 0 q.1) 2 q.2.1)] : List va_W).flatten) args s 0 0 AA) (F0 m 40 ls []) := by
    intro wA_0 hF H locs X ls hl
    unfold f_X4_begin_l40 at hF
    refine lv_iconst (v := 0) hx hb dX4_begin_40 (by decide) ?_
    refine lv_istore_n (lv' := [(1, .int 0), (0, .ref (a 0))]) hx hb dX4_begin_41 rfl hl (by decide) rfl (fun ls hl => ?_)
    exact hl42 hm_fu 0 wA_0 hF _ _ X _ (lv_sub hl [1, 0] rfl)
  have hl2 : ∀ (k2 : Nat) (v1 : Int32) (wA_0 : Nat → Int32), f_X4_begin_l2 (R 0) (R 1) (A 2) k2 v1 wA_0 = some q → ∀ (H : Heap) (locs : List Loc), hm_X g AA s H locs ([[(a 0, .inr (4, [.ref (a 1), .ref (a 2), .ref (a 4), .ref (a 6), .ref (a 7)]))], [hm_ci g (a 1) 38 wA_0], hm_row g (a 2) (a 3) 10 (R 0), hm_row g (a 4) (a 5) 10 (R 1), [hm_ci g (a 6) 76 (A 1)], [hm_cz g (a 7) 2 (A 2)]] : List va_W).flatten → ∀ ls : Array Slot, lv_has ls 2 [(0, .ref (a 0)), (1, .int v1)] → W p l e rm_X4_begin s m args below meth c H locs 0 0 (MQ below (hm_Qv g AA ([hm_wSe g a (hm_up (hm_up R 0 q.2.2.1) 1 q.2.2.2) (hm_up (hm_up A 0 q.1) 2 q.2.1)] : List va_W).flatten) args s 0 0 AA) (F0 m 2 ls []) := by
    intro k2
    induction k2 with
    | zero =>
      intro v1 wA_0 hF
      rw [f_X4_begin_l2_z] at hF
      cases hF
    | succ k2 ih2 =>
      have hl31 : ∀ (s31_0 : Int32) (s31_1 : Int32) (v1 : Int32) (wA_0 : Nat → Int32), f_X4_begin_l31 (fun zv1 zwA_0 => f_X4_begin_l2 (R 0) (R 1) (A 2) k2 zv1 zwA_0) s31_0 s31_1 v1 wA_0 = some q → ∀ (H : Heap) (locs : List Loc), hm_X g AA s H locs ([[(a 0, .inr (4, [.ref (a 1), .ref (a 2), .ref (a 4), .ref (a 6), .ref (a 7)]))], [hm_ci g (a 1) 38 wA_0], hm_row g (a 2) (a 3) 10 (R 0), hm_row g (a 4) (a 5) 10 (R 1), [hm_ci g (a 6) 76 (A 1)], [hm_cz g (a 7) 2 (A 2)]] : List va_W).flatten → ∀ ls : Array Slot, lv_has ls 2 [(0, .ref (a 0)), (1, .int v1)] → W p l e rm_X4_begin s m args below meth c H locs 0 0 (MQ below (hm_Qv g AA ([hm_wSe g a (hm_up (hm_up R 0 q.2.2.1) 1 q.2.2.2) (hm_up (hm_up A 0 q.1) 2 q.2.1)] : List va_W).flatten) args s 0 0 AA) (F0 m 31 ls [.int s31_0, .int s31_1, .ref (a 0)]) := by
        intro s31_0 s31_1 v1 wA_0 hF H locs X ls hl
        unfold f_X4_begin_l31 at hF
        obtain ⟨t5, ht5, hF⟩ := hm_bd hF
        refine hm_vv (As := [.int s31_1, .int s31_0]) S X mw_X4_store hw_1_88 (c_X4_store l g a R (hm_up A 0 wA_0) s31_1 s31_0 t5 ht5) (hm_cq (n := 6) [0, 1, 2, 3, 4, 5] [] rfl (by decide +kernel) rfl rfl) (hm_cq (bs := [[(a 0, .inr (4, [.ref (a 1), .ref (a 2), .ref (a 4), .ref (a 6), .ref (a 7)]))], [hm_ci g (a 1) 38 t5], hm_row g (a 2) (a 3) 10 (R 0), hm_row g (a 4) (a 5) 10 (R 1), [hm_ci g (a 6) 76 (A 1)], [hm_cz g (a 7) 2 (A 2)]]) (n := 6) [0, 1, 2, 3, 4, 5] [] rfl (by decide +kernel) rfl rfl) rfl rfl rfl ⟨rfl, rfl, Nat.le_of_ble_eq_true rfl, Nat.le_of_ble_eq_true rfl⟩ rfl hl.1 rfl (Nat.le_of_ble_eq_true rfl) dX4_begin_31 ⟨Nat.zero_le _, Nat.zero_le _⟩ (fun H locs X => ?_)
        have X := X.to (ws' := ([[(a 0, .inr (4, [.ref (a 1), .ref (a 2), .ref (a 4), .ref (a 6), .ref (a 7)]))], [hm_ci g (a 1) 38 t5], hm_row g (a 2) (a 3) 10 (R 0), hm_row g (a 4) (a 5) 10 (R 1), [hm_ci g (a 6) 76 (A 1)], [hm_cz g (a 7) 2 (A 2)]] : List va_W).flatten) rfl
        refine lv_iinc (v := (v1 + 1)) (lv' := [(1, .int (v1 + 1)), (0, .ref (a 0))]) hx hb dX4_begin_34 hl (k := 1) rfl rfl (by decide) rfl (fun ls hl => ?_)
        refine lv_goto (tgt := 2) hx hb dX4_begin_37 (by decide) ?_
        exact ih2 (v1 + 1) t5 hF _ _ X _ (lv_sub hl [1, 0] rfl)
      intro v1 wA_0 hF H locs X ls hl
      rw [f_X4_begin_l2_s] at hF
      refine lv_iload_n hx hb dX4_begin_2 rfl (lv_at hl 1 rfl) ?_
      refine lv_bipush (v := 34) hx hb dX4_begin_3 (by decide) ?_
      refine lv_icmp_ge (tgt := 40) hx hb dX4_begin_5 (by decide) (fun c5 => ?_) (fun c5 => ?_)
      · have hF := hm_if hF c5
        exact hl40 wA_0 hF _ _ X _ (lv_sub hl [0] rfl)
      · have hF := hm_nf hF c5
        refine lv_aload_n hx hb dX4_begin_8 rfl (lv_at hl 0 rfl) ?_
        refine lv_iload_n hx hb dX4_begin_9 rfl (lv_at hl 1 rfl) ?_
        refine lv_iload_n hx hb dX4_begin_10 rfl (lv_at hl 1 rfl) ?_
        refine lv_bipush (v := 26) hx hb dX4_begin_11 (by decide) ?_
        refine lv_icmp_ge (tgt := 20) hx hb dX4_begin_13 (by decide) (fun c13 => ?_) (fun c13 => ?_)
        · have hF := hm_if hF c13
          refine lv_iload_n hx hb dX4_begin_20 rfl (lv_at hl 1 rfl) ?_
          refine lv_bipush (v := 30) hx hb dX4_begin_21 (by decide) ?_
          refine lv_icmp_ge (tgt := 30) hx hb dX4_begin_23 (by decide) (fun c23 => ?_) (fun c23 => ?_)
          · have hF := hm_if hF c23
            refine lv_iconst (v := 0) hx hb dX4_begin_30 (by decide) ?_
            exact hl31 0 v1 v1 wA_0 hF _ _ X _ (lv_sub hl [0, 1] rfl)
          · have hF := hm_nf hF c23
            refine lv_iconst (v := 2) hx hb dX4_begin_26 (by decide) ?_
            refine lv_goto (tgt := 31) hx hb dX4_begin_27 (by decide) ?_
            exact hl31 2 v1 v1 wA_0 hF _ _ X _ (lv_sub hl [0, 1] rfl)
        · have hF := hm_nf hF c13
          refine lv_iconst (v := 4) hx hb dX4_begin_16 (by decide) ?_
          refine lv_goto (tgt := 31) hx hb dX4_begin_17 (by decide) ?_
          exact hl31 4 v1 v1 wA_0 hF _ _ X _ (lv_sub hl [0, 1] rfl)
  unfold f_X4_begin at hF
  refine lv_iconst (v := 0) hx hb dX4_begin_0 (by decide) ?_
  refine lv_istore_n (lv' := [(1, .int 0), (0, .ref (a 0))]) hx hb dX4_begin_1 rfl hl (by decide) rfl (fun ls hl => ?_)
  exact hl2 hm_fu 0 (A 0) hF _ _ X _ (lv_sub hl [1, 0] rfl)
def f_X4_change_l26 (A_0 : Nat → Int32) (x0 : Int32) (x1 : Int32) (wR_0 : hm_SR) (wR_1 : hm_SR) : Option ((Nat → Int32) × hm_SR × hm_SR) :=
  (f_X2_add 10 wR_0 x0).bind fun t2 =>
  (f_X4_get A_0 x0).bind fun t3 =>
  (f_X2_add 10 wR_1 t3).bind fun t4 =>
  (f_X4_store A_0 x0 x1).bind fun t5 =>
  some (t5, t2.2, t4.2)
def f_X4_change (R_0 : hm_SR) (R_1 : hm_SR) (A_0 : Nat → Int32) (x0 : Int32) (x1 : Int32)  : Option ((Nat → Int32) × hm_SR × hm_SR) :=
  (f_X2_size R_0).bind fun t1 =>
  if t1 < 10 then (
  f_X4_change_l26 A_0 x0 x1 R_0 R_1)
  else (
  (f_X2_dropFirst 10 R_0).bind fun t6 =>
  (f_X2_dropFirst 10 R_1).bind fun t7 =>
  f_X4_change_l26 A_0 x0 x1 t6 t7)
abbrev rm_X4_change : Room := { frames := 2, cells := 0, slots := 0, locals := 43 }
set_option maxHeartbeats 4000000 in
set_option maxRecDepth 100000 in
theorem c_X4_change (l : Launch) (g : hm_G) (a : Nat → Nat) (R : Nat → hm_SR) (A : Nat → Nat → Int32) (x0 : Int32) (x1 : Int32) (q : (Nat → Int32) × hm_SR × hm_SR) (hF : f_X4_change (R 0) (R 1) (A 0) x0 x1 = some q) : hm_Mv l yX4_change (Cond.code yX4_change cX4_change 3 none :: hm_W) rm_X4_change g [.ref (a 0), .int x0, .int x1] ([hm_wSe g a R A] : List va_W).flatten ([hm_wSe g a (hm_up (hm_up R 0 q.2.1) 1 q.2.2) (hm_up A 0 q.1)] : List va_W).flatten := by
  refine hm_ofv [(0, .ref (a 0)), (1, .int x0), (2, .int x1)] (by decide) (own := RX4) rfl (Nat.le_of_ble_eq_true rfl) rfl rfl ?_
  intro p e s m args below meth c AA S hr hlk X ls hl
  have hx := S.1
  have hb := S.2.1
  have hown := S.2.2.2.1
  have hts := S.2.2.2.2
  have X := X.to (ws' := ([[(a 0, .inr (4, [.ref (a 1), .ref (a 2), .ref (a 4), .ref (a 6), .ref (a 7)]))], [hm_ci g (a 1) 38 (A 0)], hm_row g (a 2) (a 3) 10 (R 0), hm_row g (a 4) (a 5) 10 (R 1), [hm_ci g (a 6) 76 (A 1)], [hm_cz g (a 7) 2 (A 2)]] : List va_W).flatten) rfl
  have hl26 : ∀ (wR_0 : hm_SR) (wR_1 : hm_SR), f_X4_change_l26 (A 0) x0 x1 wR_0 wR_1 = some q → ∀ (H : Heap) (locs : List Loc), hm_X g AA s H locs ([[(a 0, .inr (4, [.ref (a 1), .ref (a 2), .ref (a 4), .ref (a 6), .ref (a 7)]))], [hm_ci g (a 1) 38 (A 0)], hm_row g (a 2) (a 3) 10 wR_0, hm_row g (a 4) (a 5) 10 wR_1, [hm_ci g (a 6) 76 (A 1)], [hm_cz g (a 7) 2 (A 2)]] : List va_W).flatten → ∀ ls : Array Slot, lv_has ls 3 [(0, .ref (a 0)), (1, .int x0), (2, .int x1)] → W p l e rm_X4_change s m args below meth c H locs 0 0 (MQ below (hm_Qv g AA ([hm_wSe g a (hm_up (hm_up R 0 q.2.1) 1 q.2.2) (hm_up A 0 q.1)] : List va_W).flatten) args s 0 0 AA) (F0 m 26 ls []) := by
    intro wR_0 wR_1 hF H locs X ls hl
    unfold f_X4_change_l26 at hF
    refine lv_aload_n hx hb dX4_change_26 rfl (lv_at hl 0 rfl) ?_
    refine hm_get S X hf_X4_20 0 rfl rfl dX4_change_27 ?_
    refine lv_iload_n hx hb dX4_change_30 rfl (lv_at hl 1 rfl) ?_
    obtain ⟨t2, ht2, hF⟩ := hm_bd hF
    refine hm_vi (As := [.int x0]) S X mw_X2_add hw_2_181 (c_X2_add l g (a 2) (a 3) 10 wR_0 x0 t2 ht2) (hm_mid [[(a 0, .inr (4, [.ref (a 1), .ref (a 2), .ref (a 4), .ref (a 6), .ref (a 7)]))], [hm_ci g (a 1) 38 (A 0)]] [hm_row g (a 4) (a 5) 10 wR_1, [hm_ci g (a 6) 76 (A 1)], [hm_cz g (a 7) 2 (A 2)]]) (hm_mid [[(a 0, .inr (4, [.ref (a 1), .ref (a 2), .ref (a 4), .ref (a 6), .ref (a 7)]))], [hm_ci g (a 1) 38 (A 0)]] [hm_row g (a 4) (a 5) 10 wR_1, [hm_ci g (a 6) 76 (A 1)], [hm_cz g (a 7) 2 (A 2)]] (b := hm_row g (a 2) (a 3) 10 t2.2)) rfl rfl rfl ⟨rfl, rfl, Nat.le_of_ble_eq_true rfl, Nat.le_of_ble_eq_true rfl⟩ rfl hl.1 rfl (Nat.le_of_ble_eq_true rfl) dX4_change_31 ⟨Nat.zero_le _, Nat.zero_le _⟩ (fun H locs X => ?_)
    have X := X.to (ws' := ([[(a 0, .inr (4, [.ref (a 1), .ref (a 2), .ref (a 4), .ref (a 6), .ref (a 7)]))], [hm_ci g (a 1) 38 (A 0)], hm_row g (a 2) (a 3) 10 t2.2, hm_row g (a 4) (a 5) 10 wR_1, [hm_ci g (a 6) 76 (A 1)], [hm_cz g (a 7) 2 (A 2)]] : List va_W).flatten) rfl
    refine lv_pop hx hb dX4_change_34 rfl ?_
    refine lv_aload_n hx hb dX4_change_35 rfl (lv_at hl 0 rfl) ?_
    refine hm_get S X hf_X4_24 0 rfl rfl dX4_change_36 ?_
    refine lv_aload_n hx hb dX4_change_39 rfl (lv_at hl 0 rfl) ?_
    refine lv_iload_n hx hb dX4_change_40 rfl (lv_at hl 1 rfl) ?_
    obtain ⟨t3, ht3, hF⟩ := hm_bd hF
    refine hm_vi (As := [.int x0]) S X mw_X4_get hw_2_182 (c_X4_get l g a (hm_up (hm_up R 0 t2.2) 1 wR_1) A x0 t3 ht3) (hm_cq (n := 6) [0, 1, 2, 3, 4, 5] [] rfl (by decide +kernel) rfl rfl) (hm_cq (bs := [[(a 0, .inr (4, [.ref (a 1), .ref (a 2), .ref (a 4), .ref (a 6), .ref (a 7)]))], [hm_ci g (a 1) 38 (A 0)], hm_row g (a 2) (a 3) 10 t2.2, hm_row g (a 4) (a 5) 10 wR_1, [hm_ci g (a 6) 76 (A 1)], [hm_cz g (a 7) 2 (A 2)]]) (n := 6) [0, 1, 2, 3, 4, 5] [] rfl (by decide +kernel) rfl rfl) rfl rfl rfl ⟨rfl, rfl, Nat.le_of_ble_eq_true rfl, Nat.le_of_ble_eq_true rfl⟩ rfl hl.1 rfl (Nat.le_of_ble_eq_true rfl) dX4_change_41 ⟨Nat.zero_le _, Nat.zero_le _⟩ (fun H locs X => ?_)
    have X := X.to (ws' := ([[(a 0, .inr (4, [.ref (a 1), .ref (a 2), .ref (a 4), .ref (a 6), .ref (a 7)]))], [hm_ci g (a 1) 38 (A 0)], hm_row g (a 2) (a 3) 10 t2.2, hm_row g (a 4) (a 5) 10 wR_1, [hm_ci g (a 6) 76 (A 1)], [hm_cz g (a 7) 2 (A 2)]] : List va_W).flatten) rfl
    obtain ⟨t4, ht4, hF⟩ := hm_bd hF
    refine hm_vi (As := [.int t3]) S X mw_X2_add hw_2_181 (c_X2_add l g (a 4) (a 5) 10 wR_1 t3 t4 ht4) (hm_mid [[(a 0, .inr (4, [.ref (a 1), .ref (a 2), .ref (a 4), .ref (a 6), .ref (a 7)]))], [hm_ci g (a 1) 38 (A 0)], hm_row g (a 2) (a 3) 10 t2.2] [[hm_ci g (a 6) 76 (A 1)], [hm_cz g (a 7) 2 (A 2)]]) (hm_mid [[(a 0, .inr (4, [.ref (a 1), .ref (a 2), .ref (a 4), .ref (a 6), .ref (a 7)]))], [hm_ci g (a 1) 38 (A 0)], hm_row g (a 2) (a 3) 10 t2.2] [[hm_ci g (a 6) 76 (A 1)], [hm_cz g (a 7) 2 (A 2)]] (b := hm_row g (a 4) (a 5) 10 t4.2)) rfl rfl rfl ⟨rfl, rfl, Nat.le_of_ble_eq_true rfl, Nat.le_of_ble_eq_true rfl⟩ rfl hl.1 rfl (Nat.le_of_ble_eq_true rfl) dX4_change_44 ⟨Nat.zero_le _, Nat.zero_le _⟩ (fun H locs X => ?_)
    have X := X.to (ws' := ([[(a 0, .inr (4, [.ref (a 1), .ref (a 2), .ref (a 4), .ref (a 6), .ref (a 7)]))], [hm_ci g (a 1) 38 (A 0)], hm_row g (a 2) (a 3) 10 t2.2, hm_row g (a 4) (a 5) 10 t4.2, [hm_ci g (a 6) 76 (A 1)], [hm_cz g (a 7) 2 (A 2)]] : List va_W).flatten) rfl
    refine lv_pop hx hb dX4_change_47 rfl ?_
    refine lv_aload_n hx hb dX4_change_48 rfl (lv_at hl 0 rfl) ?_
    refine lv_iload_n hx hb dX4_change_49 rfl (lv_at hl 1 rfl) ?_
    refine lv_iload_n hx hb dX4_change_50 rfl (lv_at hl 2 rfl) ?_
    obtain ⟨t5, ht5, hF⟩ := hm_bd hF
    refine hm_vv (As := [.int x0, .int x1]) S X mw_X4_store hw_1_88 (c_X4_store l g a (hm_up (hm_up R 0 t2.2) 1 t4.2) A x0 x1 t5 ht5) (hm_cq (n := 6) [0, 1, 2, 3, 4, 5] [] rfl (by decide +kernel) rfl rfl) (hm_cq (bs := [[(a 0, .inr (4, [.ref (a 1), .ref (a 2), .ref (a 4), .ref (a 6), .ref (a 7)]))], [hm_ci g (a 1) 38 t5], hm_row g (a 2) (a 3) 10 t2.2, hm_row g (a 4) (a 5) 10 t4.2, [hm_ci g (a 6) 76 (A 1)], [hm_cz g (a 7) 2 (A 2)]]) (n := 6) [0, 1, 2, 3, 4, 5] [] rfl (by decide +kernel) rfl rfl) rfl rfl rfl ⟨rfl, rfl, Nat.le_of_ble_eq_true rfl, Nat.le_of_ble_eq_true rfl⟩ rfl hl.1 rfl (Nat.le_of_ble_eq_true rfl) dX4_change_51 ⟨Nat.zero_le _, Nat.zero_le _⟩ (fun H locs X => ?_)
    have X := X.to (ws' := ([[(a 0, .inr (4, [.ref (a 1), .ref (a 2), .ref (a 4), .ref (a 6), .ref (a 7)]))], [hm_ci g (a 1) 38 t5], hm_row g (a 2) (a 3) 10 t2.2, hm_row g (a 4) (a 5) 10 t4.2, [hm_ci g (a 6) 76 (A 1)], [hm_cz g (a 7) 2 (A 2)]] : List va_W).flatten) rfl
    obtain rfl := Option.some.inj hF
    exact hm_rv S hr hlk X rfl dX4_change_54
  unfold f_X4_change at hF
  refine lv_aload_n hx hb dX4_change_0 rfl (lv_at hl 0 rfl) ?_
  refine hm_get S X hf_X4_20 0 rfl rfl dX4_change_1 ?_
  obtain ⟨t1, ht1, hF⟩ := hm_bd hF
  refine hm_vi (As := []) S X mw_X2_size hw_2_167 (c_X2_size l g (a 2) (a 3) 10 (R 0) t1 ht1) (hm_mid [[(a 0, .inr (4, [.ref (a 1), .ref (a 2), .ref (a 4), .ref (a 6), .ref (a 7)]))], [hm_ci g (a 1) 38 (A 0)]] [hm_row g (a 4) (a 5) 10 (R 1), [hm_ci g (a 6) 76 (A 1)], [hm_cz g (a 7) 2 (A 2)]]) (hm_mid [[(a 0, .inr (4, [.ref (a 1), .ref (a 2), .ref (a 4), .ref (a 6), .ref (a 7)]))], [hm_ci g (a 1) 38 (A 0)]] [hm_row g (a 4) (a 5) 10 (R 1), [hm_ci g (a 6) 76 (A 1)], [hm_cz g (a 7) 2 (A 2)]] (b := hm_row g (a 2) (a 3) 10 (R 0))) rfl rfl rfl ⟨rfl, rfl, Nat.le_of_ble_eq_true rfl, Nat.le_of_ble_eq_true rfl⟩ rfl hl.1 rfl (Nat.le_of_ble_eq_true rfl) dX4_change_4 ⟨Nat.zero_le _, Nat.zero_le _⟩ (fun H locs X => ?_)
  have X := X.to (ws' := ([[(a 0, .inr (4, [.ref (a 1), .ref (a 2), .ref (a 4), .ref (a 6), .ref (a 7)]))], [hm_ci g (a 1) 38 (A 0)], hm_row g (a 2) (a 3) 10 (R 0), hm_row g (a 4) (a 5) 10 (R 1), [hm_ci g (a 6) 76 (A 1)], [hm_cz g (a 7) 2 (A 2)]] : List va_W).flatten) rfl
  refine lv_bipush (v := 10) hx hb dX4_change_7 (by decide) ?_
  refine lv_icmp_lt (tgt := 26) hx hb dX4_change_9 (by decide) (fun c9 => ?_) (fun c9 => ?_)
  · have hF := hm_if hF c9
    exact hl26 (R 0) (R 1) hF _ _ X _ (lv_sub hl [0, 1, 2] rfl)
  · have hF := hm_nf hF c9
    refine lv_aload_n hx hb dX4_change_12 rfl (lv_at hl 0 rfl) ?_
    refine hm_get S X hf_X4_20 0 rfl rfl dX4_change_13 ?_
    obtain ⟨t6, ht6, hF⟩ := hm_bd hF
    refine hm_vv (As := []) S X mw_X2_dropFirst hw_2_168 (c_X2_dropFirst l g (a 2) (a 3) 10 (R 0) t6 ht6) (hm_mid [[(a 0, .inr (4, [.ref (a 1), .ref (a 2), .ref (a 4), .ref (a 6), .ref (a 7)]))], [hm_ci g (a 1) 38 (A 0)]] [hm_row g (a 4) (a 5) 10 (R 1), [hm_ci g (a 6) 76 (A 1)], [hm_cz g (a 7) 2 (A 2)]]) (hm_mid [[(a 0, .inr (4, [.ref (a 1), .ref (a 2), .ref (a 4), .ref (a 6), .ref (a 7)]))], [hm_ci g (a 1) 38 (A 0)]] [hm_row g (a 4) (a 5) 10 (R 1), [hm_ci g (a 6) 76 (A 1)], [hm_cz g (a 7) 2 (A 2)]] (b := hm_row g (a 2) (a 3) 10 t6)) rfl rfl rfl ⟨rfl, rfl, Nat.le_of_ble_eq_true rfl, Nat.le_of_ble_eq_true rfl⟩ rfl hl.1 rfl (Nat.le_of_ble_eq_true rfl) dX4_change_16 ⟨Nat.zero_le _, Nat.zero_le _⟩ (fun H locs X => ?_)
    have X := X.to (ws' := ([[(a 0, .inr (4, [.ref (a 1), .ref (a 2), .ref (a 4), .ref (a 6), .ref (a 7)]))], [hm_ci g (a 1) 38 (A 0)], hm_row g (a 2) (a 3) 10 t6, hm_row g (a 4) (a 5) 10 (R 1), [hm_ci g (a 6) 76 (A 1)], [hm_cz g (a 7) 2 (A 2)]] : List va_W).flatten) rfl
    refine lv_aload_n hx hb dX4_change_19 rfl (lv_at hl 0 rfl) ?_
    refine hm_get S X hf_X4_24 0 rfl rfl dX4_change_20 ?_
    obtain ⟨t7, ht7, hF⟩ := hm_bd hF
    refine hm_vv (As := []) S X mw_X2_dropFirst hw_2_168 (c_X2_dropFirst l g (a 4) (a 5) 10 (R 1) t7 ht7) (hm_mid [[(a 0, .inr (4, [.ref (a 1), .ref (a 2), .ref (a 4), .ref (a 6), .ref (a 7)]))], [hm_ci g (a 1) 38 (A 0)], hm_row g (a 2) (a 3) 10 t6] [[hm_ci g (a 6) 76 (A 1)], [hm_cz g (a 7) 2 (A 2)]]) (hm_mid [[(a 0, .inr (4, [.ref (a 1), .ref (a 2), .ref (a 4), .ref (a 6), .ref (a 7)]))], [hm_ci g (a 1) 38 (A 0)], hm_row g (a 2) (a 3) 10 t6] [[hm_ci g (a 6) 76 (A 1)], [hm_cz g (a 7) 2 (A 2)]] (b := hm_row g (a 4) (a 5) 10 t7)) rfl rfl rfl ⟨rfl, rfl, Nat.le_of_ble_eq_true rfl, Nat.le_of_ble_eq_true rfl⟩ rfl hl.1 rfl (Nat.le_of_ble_eq_true rfl) dX4_change_23 ⟨Nat.zero_le _, Nat.zero_le _⟩ (fun H locs X => ?_)
    have X := X.to (ws' := ([[(a 0, .inr (4, [.ref (a 1), .ref (a 2), .ref (a 4), .ref (a 6), .ref (a 7)]))], [hm_ci g (a 1) 38 (A 0)], hm_row g (a 2) (a 3) 10 t6, hm_row g (a 4) (a 5) 10 t7, [hm_ci g (a 6) 76 (A 1)], [hm_cz g (a 7) 2 (A 2)]] : List va_W).flatten) rfl
    exact hl26 t6 t7 hF _ _ X _ (lv_sub hl [0, 1, 2] rfl)
def f_X4_undoable (R_0 : hm_SR)  : Option (Int32) :=
  (f_X2_size R_0).bind fun t1 =>
  some (t1)
abbrev rm_X4_undoable : Room := { frames := 1, cells := 0, slots := 0, locals := 20 }
set_option maxHeartbeats 4000000 in
set_option maxRecDepth 100000 in
theorem c_X4_undoable (l : Launch) (g : hm_G) (a : Nat → Nat) (R : Nat → hm_SR) (A : Nat → Nat → Int32) (q : Int32) (hF : f_X4_undoable (R 0) = some q) : hm_Mi l yX4_undoable (Cond.code yX4_undoable cX4_undoable 1 (some .int) :: hm_W) rm_X4_undoable g [.ref (a 0)] ([hm_wSe g a R A] : List va_W).flatten ([hm_wSe g a R A] : List va_W).flatten q := by
  refine hm_ofi [(0, .ref (a 0))] (by decide) (own := RX4) rfl (Nat.le_of_ble_eq_true rfl) rfl rfl ?_
  intro p e s m args below meth c AA S hr hlk X ls hl
  have hx := S.1
  have hb := S.2.1
  have hown := S.2.2.2.1
  have hts := S.2.2.2.2
  have X := X.to (ws' := ([[(a 0, .inr (4, [.ref (a 1), .ref (a 2), .ref (a 4), .ref (a 6), .ref (a 7)]))], [hm_ci g (a 1) 38 (A 0)], hm_row g (a 2) (a 3) 10 (R 0), hm_row g (a 4) (a 5) 10 (R 1), [hm_ci g (a 6) 76 (A 1)], [hm_cz g (a 7) 2 (A 2)]] : List va_W).flatten) rfl
  unfold f_X4_undoable at hF
  refine lv_aload_n hx hb dX4_undoable_0 rfl (lv_at hl 0 rfl) ?_
  refine hm_get S X hf_X4_20 0 rfl rfl dX4_undoable_1 ?_
  obtain ⟨t1, ht1, hF⟩ := hm_bd hF
  refine hm_vi (As := []) S X mw_X2_size hw_2_167 (c_X2_size l g (a 2) (a 3) 10 (R 0) t1 ht1) (hm_mid [[(a 0, .inr (4, [.ref (a 1), .ref (a 2), .ref (a 4), .ref (a 6), .ref (a 7)]))], [hm_ci g (a 1) 38 (A 0)]] [hm_row g (a 4) (a 5) 10 (R 1), [hm_ci g (a 6) 76 (A 1)], [hm_cz g (a 7) 2 (A 2)]]) (hm_mid [[(a 0, .inr (4, [.ref (a 1), .ref (a 2), .ref (a 4), .ref (a 6), .ref (a 7)]))], [hm_ci g (a 1) 38 (A 0)]] [hm_row g (a 4) (a 5) 10 (R 1), [hm_ci g (a 6) 76 (A 1)], [hm_cz g (a 7) 2 (A 2)]] (b := hm_row g (a 2) (a 3) 10 (R 0))) rfl rfl rfl ⟨rfl, rfl, Nat.le_of_ble_eq_true rfl, Nat.le_of_ble_eq_true rfl⟩ rfl hl.1 rfl (Nat.le_of_ble_eq_true rfl) dX4_undoable_4 ⟨Nat.zero_le _, Nat.zero_le _⟩ (fun H locs X => ?_)
  have X := X.to (ws' := ([[(a 0, .inr (4, [.ref (a 1), .ref (a 2), .ref (a 4), .ref (a 6), .ref (a 7)]))], [hm_ci g (a 1) 38 (A 0)], hm_row g (a 2) (a 3) 10 (R 0), hm_row g (a 4) (a 5) 10 (R 1), [hm_ci g (a 6) 76 (A 1)], [hm_cz g (a 7) 2 (A 2)]] : List va_W).flatten) rfl
  obtain rfl := Option.some.inj hF
  exact hm_ri S hr hlk X rfl rfl dX4_undoable_7
def f_X4_takeBack (R_0 : hm_SR) (R_1 : hm_SR) (A_0 : Nat → Int32)  : Option (Int32 × (Nat → Int32) × hm_SR × hm_SR) :=
  (f_X2_size R_0).bind fun t1 =>
  (f_X2_get 10 R_0 (t1 - 1)).bind fun t2 =>
  if (t1 - 1) < 0 then (
  some (t2, A_0, R_0, R_1))
  else (
  (f_X2_get 10 R_1 (t1 - 1)).bind fun t3 =>
  (f_X4_store A_0 t2 t3).bind fun t4 =>
  (f_X2_drop R_0).bind fun t5 =>
  (f_X2_drop R_1).bind fun t6 =>
  some (t2, t4, t5, t6))
abbrev rm_X4_takeBack : Room := { frames := 1, cells := 0, slots := 0, locals := 22 }
set_option maxHeartbeats 4000000 in
set_option maxRecDepth 100000 in
theorem c_X4_takeBack (l : Launch) (g : hm_G) (a : Nat → Nat) (R : Nat → hm_SR) (A : Nat → Nat → Int32) (q : Int32 × (Nat → Int32) × hm_SR × hm_SR) (hF : f_X4_takeBack (R 0) (R 1) (A 0) = some q) : hm_Mi l yX4_takeBack (Cond.code yX4_takeBack cX4_takeBack 3 (some .int) :: hm_W) rm_X4_takeBack g [.ref (a 0)] ([hm_wSe g a R A] : List va_W).flatten ([hm_wSe g a (hm_up (hm_up R 0 q.2.2.1) 1 q.2.2.2) (hm_up A 0 q.2.1)] : List va_W).flatten q.1 := by
  refine hm_ofi [(0, .ref (a 0))] (by decide) (own := RX4) rfl (Nat.le_of_ble_eq_true rfl) rfl rfl ?_
  intro p e s m args below meth c AA S hr hlk X ls hl
  have hx := S.1
  have hb := S.2.1
  have hown := S.2.2.2.1
  have hts := S.2.2.2.2
  have X := X.to (ws' := ([[(a 0, .inr (4, [.ref (a 1), .ref (a 2), .ref (a 4), .ref (a 6), .ref (a 7)]))], [hm_ci g (a 1) 38 (A 0)], hm_row g (a 2) (a 3) 10 (R 0), hm_row g (a 4) (a 5) 10 (R 1), [hm_ci g (a 6) 76 (A 1)], [hm_cz g (a 7) 2 (A 2)]] : List va_W).flatten) rfl
  unfold f_X4_takeBack at hF
  refine lv_aload_n hx hb dX4_takeBack_0 rfl (lv_at hl 0 rfl) ?_
  refine hm_get S X hf_X4_20 0 rfl rfl dX4_takeBack_1 ?_
  obtain ⟨t1, ht1, hF⟩ := hm_bd hF
  refine hm_vi (As := []) S X mw_X2_size hw_2_167 (c_X2_size l g (a 2) (a 3) 10 (R 0) t1 ht1) (hm_mid [[(a 0, .inr (4, [.ref (a 1), .ref (a 2), .ref (a 4), .ref (a 6), .ref (a 7)]))], [hm_ci g (a 1) 38 (A 0)]] [hm_row g (a 4) (a 5) 10 (R 1), [hm_ci g (a 6) 76 (A 1)], [hm_cz g (a 7) 2 (A 2)]]) (hm_mid [[(a 0, .inr (4, [.ref (a 1), .ref (a 2), .ref (a 4), .ref (a 6), .ref (a 7)]))], [hm_ci g (a 1) 38 (A 0)]] [hm_row g (a 4) (a 5) 10 (R 1), [hm_ci g (a 6) 76 (A 1)], [hm_cz g (a 7) 2 (A 2)]] (b := hm_row g (a 2) (a 3) 10 (R 0))) rfl rfl rfl ⟨rfl, rfl, Nat.le_of_ble_eq_true rfl, Nat.le_of_ble_eq_true rfl⟩ rfl hl.1 rfl (Nat.le_of_ble_eq_true rfl) dX4_takeBack_4 ⟨Nat.zero_le _, Nat.zero_le _⟩ (fun H locs X => ?_)
  have X := X.to (ws' := ([[(a 0, .inr (4, [.ref (a 1), .ref (a 2), .ref (a 4), .ref (a 6), .ref (a 7)]))], [hm_ci g (a 1) 38 (A 0)], hm_row g (a 2) (a 3) 10 (R 0), hm_row g (a 4) (a 5) 10 (R 1), [hm_ci g (a 6) 76 (A 1)], [hm_cz g (a 7) 2 (A 2)]] : List va_W).flatten) rfl
  refine lv_iconst (v := 1) hx hb dX4_takeBack_7 (by decide) ?_
  refine lv_isub hx hb dX4_takeBack_8 ?_
  refine lv_istore_n (lv' := [(1, .int (t1 - 1)), (0, .ref (a 0))]) hx hb dX4_takeBack_9 rfl hl (by decide) rfl (fun ls hl => ?_)
  refine lv_aload_n hx hb dX4_takeBack_10 rfl (lv_at hl 1 rfl) ?_
  refine hm_get S X hf_X4_20 0 rfl rfl dX4_takeBack_11 ?_
  refine lv_iload_n hx hb dX4_takeBack_14 rfl (lv_at hl 0 rfl) ?_
  obtain ⟨t2, ht2, hF⟩ := hm_bd hF
  refine hm_vi (As := [.int (t1 - 1)]) S X mw_X2_get hw_2_214 (c_X2_get l g (a 2) (a 3) 10 (R 0) (t1 - 1) t2 ht2) (hm_mid [[(a 0, .inr (4, [.ref (a 1), .ref (a 2), .ref (a 4), .ref (a 6), .ref (a 7)]))], [hm_ci g (a 1) 38 (A 0)]] [hm_row g (a 4) (a 5) 10 (R 1), [hm_ci g (a 6) 76 (A 1)], [hm_cz g (a 7) 2 (A 2)]]) (hm_mid [[(a 0, .inr (4, [.ref (a 1), .ref (a 2), .ref (a 4), .ref (a 6), .ref (a 7)]))], [hm_ci g (a 1) 38 (A 0)]] [hm_row g (a 4) (a 5) 10 (R 1), [hm_ci g (a 6) 76 (A 1)], [hm_cz g (a 7) 2 (A 2)]] (b := hm_row g (a 2) (a 3) 10 (R 0))) rfl rfl rfl ⟨rfl, rfl, Nat.le_of_ble_eq_true rfl, Nat.le_of_ble_eq_true rfl⟩ rfl hl.1 rfl (Nat.le_of_ble_eq_true rfl) dX4_takeBack_15 ⟨Nat.zero_le _, Nat.zero_le _⟩ (fun H locs X => ?_)
  have X := X.to (ws' := ([[(a 0, .inr (4, [.ref (a 1), .ref (a 2), .ref (a 4), .ref (a 6), .ref (a 7)]))], [hm_ci g (a 1) 38 (A 0)], hm_row g (a 2) (a 3) 10 (R 0), hm_row g (a 4) (a 5) 10 (R 1), [hm_ci g (a 6) 76 (A 1)], [hm_cz g (a 7) 2 (A 2)]] : List va_W).flatten) rfl
  refine lv_istore_n (lv' := [(2, .int t2), (1, .int (t1 - 1)), (0, .ref (a 0))]) hx hb dX4_takeBack_18 rfl hl (by decide) rfl (fun ls hl => ?_)
  refine lv_iload_n hx hb dX4_takeBack_19 rfl (lv_at hl 1 rfl) ?_
  refine lv_if_lt (tgt := 50) hx hb dX4_takeBack_20 (by decide) (fun c20 => ?_) (fun c20 => ?_)
  · have hF := hm_if hF c20
    refine lv_iload_n hx hb dX4_takeBack_50 rfl (lv_at hl 0 rfl) ?_
    obtain rfl := Option.some.inj hF
    exact hm_ri S hr hlk X rfl rfl dX4_takeBack_51
  · have hF := hm_nf hF c20
    refine lv_aload_n hx hb dX4_takeBack_23 rfl (lv_at hl 2 rfl) ?_
    refine lv_iload_n hx hb dX4_takeBack_24 rfl (lv_at hl 0 rfl) ?_
    refine lv_aload_n hx hb dX4_takeBack_25 rfl (lv_at hl 2 rfl) ?_
    refine hm_get S X hf_X4_24 0 rfl rfl dX4_takeBack_26 ?_
    refine lv_iload_n hx hb dX4_takeBack_29 rfl (lv_at hl 1 rfl) ?_
    obtain ⟨t3, ht3, hF⟩ := hm_bd hF
    refine hm_vi (As := [.int (t1 - 1)]) S X mw_X2_get hw_2_214 (c_X2_get l g (a 4) (a 5) 10 (R 1) (t1 - 1) t3 ht3) (hm_mid [[(a 0, .inr (4, [.ref (a 1), .ref (a 2), .ref (a 4), .ref (a 6), .ref (a 7)]))], [hm_ci g (a 1) 38 (A 0)], hm_row g (a 2) (a 3) 10 (R 0)] [[hm_ci g (a 6) 76 (A 1)], [hm_cz g (a 7) 2 (A 2)]]) (hm_mid [[(a 0, .inr (4, [.ref (a 1), .ref (a 2), .ref (a 4), .ref (a 6), .ref (a 7)]))], [hm_ci g (a 1) 38 (A 0)], hm_row g (a 2) (a 3) 10 (R 0)] [[hm_ci g (a 6) 76 (A 1)], [hm_cz g (a 7) 2 (A 2)]] (b := hm_row g (a 4) (a 5) 10 (R 1))) rfl rfl rfl ⟨rfl, rfl, Nat.le_of_ble_eq_true rfl, Nat.le_of_ble_eq_true rfl⟩ rfl hl.1 rfl (Nat.le_of_ble_eq_true rfl) dX4_takeBack_30 ⟨Nat.zero_le _, Nat.zero_le _⟩ (fun H locs X => ?_)
    have X := X.to (ws' := ([[(a 0, .inr (4, [.ref (a 1), .ref (a 2), .ref (a 4), .ref (a 6), .ref (a 7)]))], [hm_ci g (a 1) 38 (A 0)], hm_row g (a 2) (a 3) 10 (R 0), hm_row g (a 4) (a 5) 10 (R 1), [hm_ci g (a 6) 76 (A 1)], [hm_cz g (a 7) 2 (A 2)]] : List va_W).flatten) rfl
    obtain ⟨t4, ht4, hF⟩ := hm_bd hF
    refine hm_vv (As := [.int t2, .int t3]) S X mw_X4_store hw_1_88 (c_X4_store l g a R A t2 t3 t4 ht4) (hm_cq (n := 6) [0, 1, 2, 3, 4, 5] [] rfl (by decide +kernel) rfl rfl) (hm_cq (bs := [[(a 0, .inr (4, [.ref (a 1), .ref (a 2), .ref (a 4), .ref (a 6), .ref (a 7)]))], [hm_ci g (a 1) 38 t4], hm_row g (a 2) (a 3) 10 (R 0), hm_row g (a 4) (a 5) 10 (R 1), [hm_ci g (a 6) 76 (A 1)], [hm_cz g (a 7) 2 (A 2)]]) (n := 6) [0, 1, 2, 3, 4, 5] [] rfl (by decide +kernel) rfl rfl) rfl rfl rfl ⟨rfl, rfl, Nat.le_of_ble_eq_true rfl, Nat.le_of_ble_eq_true rfl⟩ rfl hl.1 rfl (Nat.le_of_ble_eq_true rfl) dX4_takeBack_33 ⟨Nat.zero_le _, Nat.zero_le _⟩ (fun H locs X => ?_)
    have X := X.to (ws' := ([[(a 0, .inr (4, [.ref (a 1), .ref (a 2), .ref (a 4), .ref (a 6), .ref (a 7)]))], [hm_ci g (a 1) 38 t4], hm_row g (a 2) (a 3) 10 (R 0), hm_row g (a 4) (a 5) 10 (R 1), [hm_ci g (a 6) 76 (A 1)], [hm_cz g (a 7) 2 (A 2)]] : List va_W).flatten) rfl
    refine lv_aload_n hx hb dX4_takeBack_36 rfl (lv_at hl 2 rfl) ?_
    refine hm_get S X hf_X4_20 0 rfl rfl dX4_takeBack_37 ?_
    obtain ⟨t5, ht5, hF⟩ := hm_bd hF
    refine hm_vv (As := []) S X mw_X2_drop hw_2_215 (c_X2_drop l g (a 2) (a 3) 10 (R 0) t5 ht5) (hm_mid [[(a 0, .inr (4, [.ref (a 1), .ref (a 2), .ref (a 4), .ref (a 6), .ref (a 7)]))], [hm_ci g (a 1) 38 t4]] [hm_row g (a 4) (a 5) 10 (R 1), [hm_ci g (a 6) 76 (A 1)], [hm_cz g (a 7) 2 (A 2)]]) (hm_mid [[(a 0, .inr (4, [.ref (a 1), .ref (a 2), .ref (a 4), .ref (a 6), .ref (a 7)]))], [hm_ci g (a 1) 38 t4]] [hm_row g (a 4) (a 5) 10 (R 1), [hm_ci g (a 6) 76 (A 1)], [hm_cz g (a 7) 2 (A 2)]] (b := hm_row g (a 2) (a 3) 10 t5)) rfl rfl rfl ⟨rfl, rfl, Nat.le_of_ble_eq_true rfl, Nat.le_of_ble_eq_true rfl⟩ rfl hl.1 rfl (Nat.le_of_ble_eq_true rfl) dX4_takeBack_40 ⟨Nat.zero_le _, Nat.zero_le _⟩ (fun H locs X => ?_)
    have X := X.to (ws' := ([[(a 0, .inr (4, [.ref (a 1), .ref (a 2), .ref (a 4), .ref (a 6), .ref (a 7)]))], [hm_ci g (a 1) 38 t4], hm_row g (a 2) (a 3) 10 t5, hm_row g (a 4) (a 5) 10 (R 1), [hm_ci g (a 6) 76 (A 1)], [hm_cz g (a 7) 2 (A 2)]] : List va_W).flatten) rfl
    refine lv_aload_n hx hb dX4_takeBack_43 rfl (lv_at hl 2 rfl) ?_
    refine hm_get S X hf_X4_24 0 rfl rfl dX4_takeBack_44 ?_
    obtain ⟨t6, ht6, hF⟩ := hm_bd hF
    refine hm_vv (As := []) S X mw_X2_drop hw_2_215 (c_X2_drop l g (a 4) (a 5) 10 (R 1) t6 ht6) (hm_mid [[(a 0, .inr (4, [.ref (a 1), .ref (a 2), .ref (a 4), .ref (a 6), .ref (a 7)]))], [hm_ci g (a 1) 38 t4], hm_row g (a 2) (a 3) 10 t5] [[hm_ci g (a 6) 76 (A 1)], [hm_cz g (a 7) 2 (A 2)]]) (hm_mid [[(a 0, .inr (4, [.ref (a 1), .ref (a 2), .ref (a 4), .ref (a 6), .ref (a 7)]))], [hm_ci g (a 1) 38 t4], hm_row g (a 2) (a 3) 10 t5] [[hm_ci g (a 6) 76 (A 1)], [hm_cz g (a 7) 2 (A 2)]] (b := hm_row g (a 4) (a 5) 10 t6)) rfl rfl rfl ⟨rfl, rfl, Nat.le_of_ble_eq_true rfl, Nat.le_of_ble_eq_true rfl⟩ rfl hl.1 rfl (Nat.le_of_ble_eq_true rfl) dX4_takeBack_47 ⟨Nat.zero_le _, Nat.zero_le _⟩ (fun H locs X => ?_)
    have X := X.to (ws' := ([[(a 0, .inr (4, [.ref (a 1), .ref (a 2), .ref (a 4), .ref (a 6), .ref (a 7)]))], [hm_ci g (a 1) 38 t4], hm_row g (a 2) (a 3) 10 t5, hm_row g (a 4) (a 5) 10 t6, [hm_ci g (a 6) 76 (A 1)], [hm_cz g (a 7) 2 (A 2)]] : List va_W).flatten) rfl
    refine lv_iload_n hx hb dX4_takeBack_50 rfl (lv_at hl 0 rfl) ?_
    obtain rfl := Option.some.inj hF
    exact hm_ri S hr hlk X rfl rfl dX4_takeBack_51
def f_X4_has (A_2 : Nat → Int32) (x0 : Int32)  : Option (Int32) :=
  if x0 < 0 then (
  some (0))
  else (
  if (2 : Int32) ≤ x0 then (
  some (0))
  else (
  (hm_rd 2 A_2 x0).bind fun t1 =>
  if t1 = 0 then (
  some (0))
  else (
  some (1))))
abbrev rm_X4_has : Room := { frames := 0, cells := 0, slots := 0, locals := 0 }
set_option maxHeartbeats 4000000 in
set_option maxRecDepth 100000 in
theorem c_X4_has (l : Launch) (g : hm_G) (a : Nat → Nat) (R : Nat → hm_SR) (A : Nat → Nat → Int32) (x0 : Int32) (q : Int32) (hF : f_X4_has (A 2) x0 = some q) : hm_Mi l yX4_has (Cond.code yX4_has cX4_has 2 (some .boolean) :: hm_W) rm_X4_has g [.ref (a 0), .int x0] ([hm_wSe g a R A] : List va_W).flatten ([hm_wSe g a R A] : List va_W).flatten q := by
  refine hm_ofi [(0, .ref (a 0)), (1, .int x0)] (by decide) (own := RX4) rfl (Nat.le_of_ble_eq_true rfl) rfl rfl ?_
  intro p e s m args below meth c AA S hr hlk X ls hl
  have hx := S.1
  have hb := S.2.1
  have hown := S.2.2.2.1
  have hts := S.2.2.2.2
  have X := X.to (ws' := ([[(a 0, .inr (4, [.ref (a 1), .ref (a 2), .ref (a 4), .ref (a 6), .ref (a 7)]))], [hm_ci g (a 1) 38 (A 0)], hm_row g (a 2) (a 3) 10 (R 0), hm_row g (a 4) (a 5) 10 (R 1), [hm_ci g (a 6) 76 (A 1)], [hm_cz g (a 7) 2 (A 2)]] : List va_W).flatten) rfl
  unfold f_X4_has at hF
  refine lv_iload_n hx hb dX4_has_0 rfl (lv_at hl 1 rfl) ?_
  refine lv_if_lt (tgt := 26) hx hb dX4_has_1 (by decide) (fun c1 => ?_) (fun c1 => ?_)
  · have hF := hm_if hF c1
    refine lv_iconst (v := 0) hx hb dX4_has_26 (by decide) ?_
    obtain rfl := Option.some.inj hF
    exact hm_rz S hr hlk X rfl rfl (Or.inl rfl) dX4_has_27
  · have hF := hm_nf hF c1
    refine lv_iload_n hx hb dX4_has_4 rfl (lv_at hl 1 rfl) ?_
    refine lv_aload_n hx hb dX4_has_5 rfl (lv_at hl 0 rfl) ?_
    refine hm_get S X hf_X4_30 0 rfl rfl dX4_has_6 ?_
    refine hm_alen (v := 2) S X 7 2 rfl rfl rfl dX4_has_9 ?_
    refine lv_icmp_ge (tgt := 26) hx hb dX4_has_10 (by decide) (fun c10 => ?_) (fun c10 => ?_)
    · have hF := hm_if hF c10
      refine lv_iconst (v := 0) hx hb dX4_has_26 (by decide) ?_
      obtain rfl := Option.some.inj hF
      exact hm_rz S hr hlk X rfl rfl (Or.inl rfl) dX4_has_27
    · have hF := hm_nf hF c10
      refine lv_aload_n hx hb dX4_has_13 rfl (lv_at hl 0 rfl) ?_
      refine hm_get S X hf_X4_30 0 rfl rfl dX4_has_14 ?_
      refine lv_iload_n hx hb dX4_has_17 rfl (lv_at hl 1 rfl) ?_
      obtain ⟨t1, ht1, hF⟩ := hm_bd hF
      refine hm_zald S X ht1 7 rfl dX4_has_18 ?_
      refine lv_if_eq (tgt := 26) hx hb dX4_has_19 (by decide) (fun c19 => ?_) (fun c19 => ?_)
      · have hF := hm_if hF c19
        refine lv_iconst (v := 0) hx hb dX4_has_26 (by decide) ?_
        obtain rfl := Option.some.inj hF
        exact hm_rz S hr hlk X rfl rfl (Or.inl rfl) dX4_has_27
      · have hF := hm_nf hF c19
        refine lv_iconst (v := 1) hx hb dX4_has_22 (by decide) ?_
        refine lv_goto (tgt := 27) hx hb dX4_has_23 (by decide) ?_
        obtain rfl := Option.some.inj hF
        exact hm_rz S hr hlk X rfl rfl (Or.inr rfl) dX4_has_27
def f_X4_copyTo (A_0 : Nat → Int32) (A_1 : Nat → Int32) (A_2 : Nat → Int32) (x0 : Int32)  : Option ((Nat → Int32) × (Nat → Int32)) :=
  if x0 < 0 then (
  some (A_1, A_2))
  else (
  if x0 < 2 then (
  (hm_cy 38 A_0 0 76 A_1 (x0 * 38) 38).bind fun f1 =>
  (hm_wz 2 A_2 x0 1).bind fun f2 =>
  some (f1, f2))
  else (
  some (A_1, A_2)))
abbrev rm_X4_copyTo : Room := { frames := 1, cells := 0, slots := 0, locals := 60 }
set_option maxHeartbeats 4000000 in
set_option maxRecDepth 100000 in
theorem c_X4_copyTo (l : Launch) (g : hm_G) (a : Nat → Nat) (R : Nat → hm_SR) (A : Nat → Nat → Int32) (x0 : Int32) (q : (Nat → Int32) × (Nat → Int32)) (hF : f_X4_copyTo (A 0) (A 1) (A 2) x0 = some q) : hm_Mv l yX4_copyTo (Cond.code yX4_copyTo cX4_copyTo 2 none :: hm_W) rm_X4_copyTo g [.ref (a 0), .int x0] ([hm_wSe g a R A] : List va_W).flatten ([hm_wSe g a R (hm_up (hm_up A 1 q.1) 2 q.2)] : List va_W).flatten := by
  refine hm_ofv [(0, .ref (a 0)), (1, .int x0)] (by decide) (own := RX4) rfl (Nat.le_of_ble_eq_true rfl) rfl rfl ?_
  intro p e s m args below meth c AA S hr hlk X ls hl
  have hx := S.1
  have hb := S.2.1
  have hown := S.2.2.2.1
  have hts := S.2.2.2.2
  have X := X.to (ws' := ([[(a 0, .inr (4, [.ref (a 1), .ref (a 2), .ref (a 4), .ref (a 6), .ref (a 7)]))], [hm_ci g (a 1) 38 (A 0)], hm_row g (a 2) (a 3) 10 (R 0), hm_row g (a 4) (a 5) 10 (R 1), [hm_ci g (a 6) 76 (A 1)], [hm_cz g (a 7) 2 (A 2)]] : List va_W).flatten) rfl
  unfold f_X4_copyTo at hF
  refine lv_iload_n hx hb dX4_copyTo_0 rfl (lv_at hl 1 rfl) ?_
  refine lv_if_lt (tgt := 13) hx hb dX4_copyTo_1 (by decide) (fun c1 => ?_) (fun c1 => ?_)
  · have hF := hm_if hF c1
    obtain rfl := Option.some.inj hF
    exact hm_rv S hr hlk X rfl dX4_copyTo_13
  · have hF := hm_nf hF c1
    refine lv_iload_n hx hb dX4_copyTo_4 rfl (lv_at hl 1 rfl) ?_
    refine lv_aload_n hx hb dX4_copyTo_5 rfl (lv_at hl 0 rfl) ?_
    refine hm_get S X hf_X4_30 0 rfl rfl dX4_copyTo_6 ?_
    refine hm_alen (v := 2) S X 7 2 rfl rfl rfl dX4_copyTo_9 ?_
    refine lv_icmp_lt (tgt := 14) hx hb dX4_copyTo_10 (by decide) (fun c10 => ?_) (fun c10 => ?_)
    · have hF := hm_if hF c10
      refine lv_aload_n hx hb dX4_copyTo_14 rfl (lv_at hl 0 rfl) ?_
      refine hm_get S X hf_X4_9 0 rfl rfl dX4_copyTo_15 ?_
      refine lv_iconst (v := 0) hx hb dX4_copyTo_18 (by decide) ?_
      refine lv_aload_n hx hb dX4_copyTo_19 rfl (lv_at hl 0 rfl) ?_
      refine hm_get S X hf_X4_27 0 rfl rfl dX4_copyTo_20 ?_
      refine lv_iload_n hx hb dX4_copyTo_23 rfl (lv_at hl 1 rfl) ?_
      refine lv_bipush (v := 38) hx hb dX4_copyTo_24 (by decide) ?_
      refine lv_imul hx hb dX4_copyTo_26 ?_
      refine lv_bipush (v := 38) hx hb dX4_copyTo_27 (by decide) ?_
      obtain ⟨f1, hf1, hF⟩ := hm_bd hF
      refine hm_copy S X hf1 1 6 rfl rfl hl.1 hw_4_47 (Nat.le_of_ble_eq_true rfl) (Nat.le_of_ble_eq_true rfl) dX4_copyTo_29 (fun H locs X => ?_)
      have X := X.to (ws' := ([[(a 0, .inr (4, [.ref (a 1), .ref (a 2), .ref (a 4), .ref (a 6), .ref (a 7)]))], [hm_ci g (a 1) 38 (A 0)], hm_row g (a 2) (a 3) 10 (R 0), hm_row g (a 4) (a 5) 10 (R 1), [hm_ci g (a 6) 76 f1], [hm_cz g (a 7) 2 (A 2)]] : List va_W).flatten) rfl
      refine lv_aload_n hx hb dX4_copyTo_32 rfl (lv_at hl 0 rfl) ?_
      refine hm_get S X hf_X4_30 0 rfl rfl dX4_copyTo_33 ?_
      refine lv_iload_n hx hb dX4_copyTo_36 rfl (lv_at hl 1 rfl) ?_
      refine lv_iconst (v := 1) hx hb dX4_copyTo_37 (by decide) ?_
      obtain ⟨f2, hf2, hF⟩ := hm_bd hF
      refine hm_zast S X hf2 7 rfl dX4_copyTo_38 (fun H locs X => ?_)
      have X := X.to (ws' := ([[(a 0, .inr (4, [.ref (a 1), .ref (a 2), .ref (a 4), .ref (a 6), .ref (a 7)]))], [hm_ci g (a 1) 38 (A 0)], hm_row g (a 2) (a 3) 10 (R 0), hm_row g (a 4) (a 5) 10 (R 1), [hm_ci g (a 6) 76 f1], [hm_cz g (a 7) 2 f2]] : List va_W).flatten) rfl
      obtain rfl := Option.some.inj hF
      exact hm_rv S hr hlk X rfl dX4_copyTo_39
    · have hF := hm_nf hF c10
      obtain rfl := Option.some.inj hF
      exact hm_rv S hr hlk X rfl dX4_copyTo_13
def f_X4_copyFrom (R_0 : hm_SR) (R_1 : hm_SR) (A_0 : Nat → Int32) (A_1 : Nat → Int32) (A_2 : Nat → Int32) (x0 : Int32)  : Option ((Nat → Int32) × hm_SR × hm_SR) :=
  (f_X4_has A_2 x0).bind fun t1 =>
  if t1 = 0 then (
  some (A_0, R_0, R_1))
  else (
  (hm_cy 76 A_1 (x0 * 38) 38 A_0 0 38).bind fun f2 =>
  (f_X4_loseUndone R_0 R_1).bind fun t3 =>
  some (f2, t3.1, t3.2))
abbrev rm_X4_copyFrom : Room := { frames := 2, cells := 0, slots := 0, locals := 60 }
set_option maxHeartbeats 4000000 in
set_option maxRecDepth 100000 in
theorem c_X4_copyFrom (l : Launch) (g : hm_G) (a : Nat → Nat) (R : Nat → hm_SR) (A : Nat → Nat → Int32) (x0 : Int32) (q : (Nat → Int32) × hm_SR × hm_SR) (hF : f_X4_copyFrom (R 0) (R 1) (A 0) (A 1) (A 2) x0 = some q) : hm_Mv l yX4_copyFrom (Cond.code yX4_copyFrom cX4_copyFrom 2 none :: hm_W) rm_X4_copyFrom g [.ref (a 0), .int x0] ([hm_wSe g a R A] : List va_W).flatten ([hm_wSe g a (hm_up (hm_up R 0 q.2.1) 1 q.2.2) (hm_up A 0 q.1)] : List va_W).flatten := by
  refine hm_ofv [(0, .ref (a 0)), (1, .int x0)] (by decide) (own := RX4) rfl (Nat.le_of_ble_eq_true rfl) rfl rfl ?_
  intro p e s m args below meth c AA S hr hlk X ls hl
  have hx := S.1
  have hb := S.2.1
  have hown := S.2.2.2.1
  have hts := S.2.2.2.2
  have X := X.to (ws' := ([[(a 0, .inr (4, [.ref (a 1), .ref (a 2), .ref (a 4), .ref (a 6), .ref (a 7)]))], [hm_ci g (a 1) 38 (A 0)], hm_row g (a 2) (a 3) 10 (R 0), hm_row g (a 4) (a 5) 10 (R 1), [hm_ci g (a 6) 76 (A 1)], [hm_cz g (a 7) 2 (A 2)]] : List va_W).flatten) rfl
  unfold f_X4_copyFrom at hF
  refine lv_aload_n hx hb dX4_copyFrom_0 rfl (lv_at hl 0 rfl) ?_
  refine lv_iload_n hx hb dX4_copyFrom_1 rfl (lv_at hl 1 rfl) ?_
  obtain ⟨t1, ht1, hF⟩ := hm_bd hF
  refine hm_vi (As := [.int x0]) S X mw_X4_has hw_4_62 (c_X4_has l g a R A x0 t1 ht1) (hm_cq (n := 6) [0, 1, 2, 3, 4, 5] [] rfl (by decide +kernel) rfl rfl) (hm_cq (bs := [[(a 0, .inr (4, [.ref (a 1), .ref (a 2), .ref (a 4), .ref (a 6), .ref (a 7)]))], [hm_ci g (a 1) 38 (A 0)], hm_row g (a 2) (a 3) 10 (R 0), hm_row g (a 4) (a 5) 10 (R 1), [hm_ci g (a 6) 76 (A 1)], [hm_cz g (a 7) 2 (A 2)]]) (n := 6) [0, 1, 2, 3, 4, 5] [] rfl (by decide +kernel) rfl rfl) rfl rfl rfl ⟨rfl, rfl, Nat.le_of_ble_eq_true rfl, Nat.le_of_ble_eq_true rfl⟩ rfl hl.1 rfl (Nat.le_of_ble_eq_true rfl) dX4_copyFrom_2 ⟨Nat.zero_le _, Nat.zero_le _⟩ (fun H locs X => ?_)
  have X := X.to (ws' := ([[(a 0, .inr (4, [.ref (a 1), .ref (a 2), .ref (a 4), .ref (a 6), .ref (a 7)]))], [hm_ci g (a 1) 38 (A 0)], hm_row g (a 2) (a 3) 10 (R 0), hm_row g (a 4) (a 5) 10 (R 1), [hm_ci g (a 6) 76 (A 1)], [hm_cz g (a 7) 2 (A 2)]] : List va_W).flatten) rfl
  refine lv_if_eq (tgt := 30) hx hb dX4_copyFrom_5 (by decide) (fun c5 => ?_) (fun c5 => ?_)
  · have hF := hm_if hF c5
    obtain rfl := Option.some.inj hF
    exact hm_rv S hr hlk X rfl dX4_copyFrom_30
  · have hF := hm_nf hF c5
    refine lv_aload_n hx hb dX4_copyFrom_8 rfl (lv_at hl 0 rfl) ?_
    refine hm_get S X hf_X4_27 0 rfl rfl dX4_copyFrom_9 ?_
    refine lv_iload_n hx hb dX4_copyFrom_12 rfl (lv_at hl 1 rfl) ?_
    refine lv_bipush (v := 38) hx hb dX4_copyFrom_13 (by decide) ?_
    refine lv_imul hx hb dX4_copyFrom_15 ?_
    refine lv_aload_n hx hb dX4_copyFrom_16 rfl (lv_at hl 0 rfl) ?_
    refine hm_get S X hf_X4_9 0 rfl rfl dX4_copyFrom_17 ?_
    refine lv_iconst (v := 0) hx hb dX4_copyFrom_20 (by decide) ?_
    refine lv_bipush (v := 38) hx hb dX4_copyFrom_21 (by decide) ?_
    obtain ⟨f2, hf2, hF⟩ := hm_bd hF
    refine hm_copy S X hf2 6 1 rfl rfl hl.1 hw_4_47 (Nat.le_of_ble_eq_true rfl) (Nat.le_of_ble_eq_true rfl) dX4_copyFrom_23 (fun H locs X => ?_)
    have X := X.to (ws' := ([[(a 0, .inr (4, [.ref (a 1), .ref (a 2), .ref (a 4), .ref (a 6), .ref (a 7)]))], [hm_ci g (a 1) 38 f2], hm_row g (a 2) (a 3) 10 (R 0), hm_row g (a 4) (a 5) 10 (R 1), [hm_ci g (a 6) 76 (A 1)], [hm_cz g (a 7) 2 (A 2)]] : List va_W).flatten) rfl
    refine lv_aload_n hx hb dX4_copyFrom_26 rfl (lv_at hl 0 rfl) ?_
    obtain ⟨t3, ht3, hF⟩ := hm_bd hF
    refine hm_vv (As := []) S X mw_X4_loseUndone hw_1_94 (c_X4_loseUndone l g a R (hm_up A 0 f2) t3 ht3) (hm_cq (n := 6) [0, 1, 2, 3, 4, 5] [] rfl (by decide +kernel) rfl rfl) (hm_cq (bs := [[(a 0, .inr (4, [.ref (a 1), .ref (a 2), .ref (a 4), .ref (a 6), .ref (a 7)]))], [hm_ci g (a 1) 38 f2], hm_row g (a 2) (a 3) 10 t3.1, hm_row g (a 4) (a 5) 10 t3.2, [hm_ci g (a 6) 76 (A 1)], [hm_cz g (a 7) 2 (A 2)]]) (n := 6) [0, 1, 2, 3, 4, 5] [] rfl (by decide +kernel) rfl rfl) rfl rfl rfl ⟨rfl, rfl, Nat.le_of_ble_eq_true rfl, Nat.le_of_ble_eq_true rfl⟩ rfl hl.1 rfl (Nat.le_of_ble_eq_true rfl) dX4_copyFrom_27 ⟨Nat.zero_le _, Nat.zero_le _⟩ (fun H locs X => ?_)
    have X := X.to (ws' := ([[(a 0, .inr (4, [.ref (a 1), .ref (a 2), .ref (a 4), .ref (a 6), .ref (a 7)]))], [hm_ci g (a 1) 38 f2], hm_row g (a 2) (a 3) 10 t3.1, hm_row g (a 4) (a 5) 10 t3.2, [hm_ci g (a 6) 76 (A 1)], [hm_cz g (a 7) 2 (A 2)]] : List va_W).flatten) rfl
    obtain rfl := Option.some.inj hF
    exact hm_rv S hr hlk X rfl dX4_copyFrom_30
