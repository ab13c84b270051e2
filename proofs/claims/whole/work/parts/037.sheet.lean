def f_X5_addBlank (R_2 : hm_SR) (R_3 : hm_SR) (R_4 : hm_SR) (R_5 : hm_SR) (x0 : Int32) (x1 : Int32)  : Option (hm_SR × hm_SR × hm_SR × hm_SR) :=
  (f_X2_add 30 R_2 x0).bind fun t1 =>
  (f_X2_add 30 R_3 x1).bind fun t2 =>
  (f_X2_add 30 R_4 0).bind fun t3 =>
  (f_X2_add 30 R_5 0).bind fun t4 =>
  some (t1.2, t2.2, t3.2, t4.2)
abbrev rm_X5_addBlank : Room := { frames := 1, cells := 0, slots := 0, locals := 21 }
set_option maxHeartbeats 4000000 in
set_option maxRecDepth 100000 in
theorem c_X5_addBlank (l : Launch) (g : hm_G) (a : Nat → Nat) (R : Nat → hm_SR) (Z : Nat → Int32) (x0 : Int32) (x1 : Int32) (q : hm_SR × hm_SR × hm_SR × hm_SR) (hF : f_X5_addBlank (R 2) (R 3) (R 4) (R 5) x0 x1 = some q) : hm_Mv l yX5_addBlank (Cond.code yX5_addBlank cX5_addBlank 3 none :: hm_W) rm_X5_addBlank g [.ref (a 0), .int x0, .int x1] ([hm_wSh g a R Z] : List va_W).flatten ([hm_wSh g a (hm_up (hm_up (hm_up (hm_up R 2 q.1) 3 q.2.1) 4 q.2.2.1) 5 q.2.2.2) Z] : List va_W).flatten := by
  refine hm_ofv [(0, .ref (a 0)), (1, .int x0), (2, .int x1)] (by decide) (own := RX5) rfl (Nat.le_of_ble_eq_true rfl) rfl rfl ?_
  intro p e s m args below meth c AA S hr hlk X ls hl
  have hx := S.1
  have hb := S.2.1
  have hown := S.2.2.2.1
  have hts := S.2.2.2.2
  have X := X.to (ws' := ([[(a 0, .inr (5, [.ref (a 1), .ref (a 3), .ref (a 5), .ref (a 7), .ref (a 9), .ref (a 11), .int (Z 0), .int (Z 1)]))], hm_row g (a 1) (a 2) 100 (R 0), hm_row g (a 3) (a 4) 101 (R 1), hm_row g (a 5) (a 6) 30 (R 2), hm_row g (a 7) (a 8) 30 (R 3), hm_row g (a 9) (a 10) 30 (R 4), hm_row g (a 11) (a 12) 30 (R 5)] : List va_W).flatten) rfl
  unfold f_X5_addBlank at hF
  refine lv_aload_n hx hb dX5_addBlank_0 rfl (lv_at hl 0 rfl) ?_
  refine hm_get S X hf_X5_23 0 rfl rfl dX5_addBlank_1 ?_
  refine lv_iload_n hx hb dX5_addBlank_4 rfl (lv_at hl 1 rfl) ?_
  obtain ⟨t1, ht1, hF⟩ := hm_bd hF
  refine hm_vi (As := [.int x0]) S X mw_X2_add hw_3_55 (c_X2_add l g (a 5) (a 6) 30 (R 2) x0 t1 ht1) (hm_mid [[(a 0, .inr (5, [.ref (a 1), .ref (a 3), .ref (a 5), .ref (a 7), .ref (a 9), .ref (a 11), .int (Z 0), .int (Z 1)]))], hm_row g (a 1) (a 2) 100 (R 0), hm_row g (a 3) (a 4) 101 (R 1)] [hm_row g (a 7) (a 8) 30 (R 3), hm_row g (a 9) (a 10) 30 (R 4), hm_row g (a 11) (a 12) 30 (R 5)]) (hm_mid [[(a 0, .inr (5, [.ref (a 1), .ref (a 3), .ref (a 5), .ref (a 7), .ref (a 9), .ref (a 11), .int (Z 0), .int (Z 1)]))], hm_row g (a 1) (a 2) 100 (R 0), hm_row g (a 3) (a 4) 101 (R 1)] [hm_row g (a 7) (a 8) 30 (R 3), hm_row g (a 9) (a 10) 30 (R 4), hm_row g (a 11) (a 12) 30 (R 5)] (b := hm_row g (a 5) (a 6) 30 t1.2)) rfl rfl rfl ⟨rfl, rfl, Nat.le_of_ble_eq_true rfl, Nat.le_of_ble_eq_true rfl⟩ rfl hl.1 rfl (Nat.le_of_ble_eq_true rfl) dX5_addBlank_5 ⟨Nat.zero_le _, Nat.zero_le _⟩ (fun H locs X => ?_)
  have X := X.to (ws' := ([[(a 0, .inr (5, [.ref (a 1), .ref (a 3), .ref (a 5), .ref (a 7), .ref (a 9), .ref (a 11), .int (Z 0), .int (Z 1)]))], hm_row g (a 1) (a 2) 100 (R 0), hm_row g (a 3) (a 4) 101 (R 1), hm_row g (a 5) (a 6) 30 t1.2, hm_row g (a 7) (a 8) 30 (R 3), hm_row g (a 9) (a 10) 30 (R 4), hm_row g (a 11) (a 12) 30 (R 5)] : List va_W).flatten) rfl
  refine lv_pop hx hb dX5_addBlank_8 rfl ?_
  refine lv_aload_n hx hb dX5_addBlank_9 rfl (lv_at hl 0 rfl) ?_
  refine hm_get S X hf_X5_26 0 rfl rfl dX5_addBlank_10 ?_
  refine lv_iload_n hx hb dX5_addBlank_13 rfl (lv_at hl 2 rfl) ?_
  obtain ⟨t2, ht2, hF⟩ := hm_bd hF
  refine hm_vi (As := [.int x1]) S X mw_X2_add hw_3_55 (c_X2_add l g (a 7) (a 8) 30 (R 3) x1 t2 ht2) (hm_mid [[(a 0, .inr (5, [.ref (a 1), .ref (a 3), .ref (a 5), .ref (a 7), .ref (a 9), .ref (a 11), .int (Z 0), .int (Z 1)]))], hm_row g (a 1) (a 2) 100 (R 0), hm_row g (a 3) (a 4) 101 (R 1), hm_row g (a 5) (a 6) 30 t1.2] [hm_row g (a 9) (a 10) 30 (R 4), hm_row g (a 11) (a 12) 30 (R 5)]) (hm_mid [[(a 0, .inr (5, [.ref (a 1), .ref (a 3), .ref (a 5), .ref (a 7), .ref (a 9), .ref (a 11), .int (Z 0), .int (Z 1)]))], hm_row g (a 1) (a 2) 100 (R 0), hm_row g (a 3) (a 4) 101 (R 1), hm_row g (a 5) (a 6) 30 t1.2] [hm_row g (a 9) (a 10) 30 (R 4), hm_row g (a 11) (a 12) 30 (R 5)] (b := hm_row g (a 7) (a 8) 30 t2.2)) rfl rfl rfl ⟨rfl, rfl, Nat.le_of_ble_eq_true rfl, Nat.le_of_ble_eq_true rfl⟩ rfl hl.1 rfl (Nat.le_of_ble_eq_true rfl) dX5_addBlank_14 ⟨Nat.zero_le _, Nat.zero_le _⟩ (fun H locs X => ?_)
  have X := X.to (ws' := ([[(a 0, .inr (5, [.ref (a 1), .ref (a 3), .ref (a 5), .ref (a 7), .ref (a 9), .ref (a 11), .int (Z 0), .int (Z 1)]))], hm_row g (a 1) (a 2) 100 (R 0), hm_row g (a 3) (a 4) 101 (R 1), hm_row g (a 5) (a 6) 30 t1.2, hm_row g (a 7) (a 8) 30 t2.2, hm_row g (a 9) (a 10) 30 (R 4), hm_row g (a 11) (a 12) 30 (R 5)] : List va_W).flatten) rfl
  refine lv_pop hx hb dX5_addBlank_17 rfl ?_
  refine lv_aload_n hx hb dX5_addBlank_18 rfl (lv_at hl 0 rfl) ?_
  refine hm_get S X hf_X5_29 0 rfl rfl dX5_addBlank_19 ?_
  refine lv_iconst (v := 0) hx hb dX5_addBlank_22 (by decide) ?_
  obtain ⟨t3, ht3, hF⟩ := hm_bd hF
  refine hm_vi (As := [.int 0]) S X mw_X2_add hw_3_55 (c_X2_add l g (a 9) (a 10) 30 (R 4) 0 t3 ht3) (hm_mid [[(a 0, .inr (5, [.ref (a 1), .ref (a 3), .ref (a 5), .ref (a 7), .ref (a 9), .ref (a 11), .int (Z 0), .int (Z 1)]))], hm_row g (a 1) (a 2) 100 (R 0), hm_row g (a 3) (a 4) 101 (R 1), hm_row g (a 5) (a 6) 30 t1.2, hm_row g (a 7) (a 8) 30 t2.2] [hm_row g (a 11) (a 12) 30 (R 5)]) (hm_mid [[(a 0, .inr (5, [.ref (a 1), .ref (a 3), .ref (a 5), .ref (a 7), .ref (a 9), .ref (a 11), .int (Z 0), .int (Z 1)]))], hm_row g (a 1) (a 2) 100 (R 0), hm_row g (a 3) (a 4) 101 (R 1), hm_row g (a 5) (a 6) 30 t1.2, hm_row g (a 7) (a 8) 30 t2.2] [hm_row g (a 11) (a 12) 30 (R 5)] (b := hm_row g (a 9) (a 10) 30 t3.2)) rfl rfl rfl ⟨rfl, rfl, Nat.le_of_ble_eq_true rfl, Nat.le_of_ble_eq_true rfl⟩ rfl hl.1 rfl (Nat.le_of_ble_eq_true rfl) dX5_addBlank_23 ⟨Nat.zero_le _, Nat.zero_le _⟩ (fun H locs X => ?_)
  have X := X.to (ws' := ([[(a 0, .inr (5, [.ref (a 1), .ref (a 3), .ref (a 5), .ref (a 7), .ref (a 9), .ref (a 11), .int (Z 0), .int (Z 1)]))], hm_row g (a 1) (a 2) 100 (R 0), hm_row g (a 3) (a 4) 101 (R 1), hm_row g (a 5) (a 6) 30 t1.2, hm_row g (a 7) (a 8) 30 t2.2, hm_row g (a 9) (a 10) 30 t3.2, hm_row g (a 11) (a 12) 30 (R 5)] : List va_W).flatten) rfl
  refine lv_pop hx hb dX5_addBlank_26 rfl ?_
  refine lv_aload_n hx hb dX5_addBlank_27 rfl (lv_at hl 0 rfl) ?_
  refine hm_get S X hf_X5_32 0 rfl rfl dX5_addBlank_28 ?_
  refine lv_iconst (v := 0) hx hb dX5_addBlank_31 (by decide) ?_
  obtain ⟨t4, ht4, hF⟩ := hm_bd hF
  refine hm_vi (As := [.int 0]) S X mw_X2_add hw_3_55 (c_X2_add l g (a 11) (a 12) 30 (R 5) 0 t4 ht4) (hm_mid [[(a 0, .inr (5, [.ref (a 1), .ref (a 3), .ref (a 5), .ref (a 7), .ref (a 9), .ref (a 11), .int (Z 0), .int (Z 1)]))], hm_row g (a 1) (a 2) 100 (R 0), hm_row g (a 3) (a 4) 101 (R 1), hm_row g (a 5) (a 6) 30 t1.2, hm_row g (a 7) (a 8) 30 t2.2, hm_row g (a 9) (a 10) 30 t3.2] []) (hm_mid [[(a 0, .inr (5, [.ref (a 1), .ref (a 3), .ref (a 5), .ref (a 7), .ref (a 9), .ref (a 11), .int (Z 0), .int (Z 1)]))], hm_row g (a 1) (a 2) 100 (R 0), hm_row g (a 3) (a 4) 101 (R 1), hm_row g (a 5) (a 6) 30 t1.2, hm_row g (a 7) (a 8) 30 t2.2, hm_row g (a 9) (a 10) 30 t3.2] [] (b := hm_row g (a 11) (a 12) 30 t4.2)) rfl rfl rfl ⟨rfl, rfl, Nat.le_of_ble_eq_true rfl, Nat.le_of_ble_eq_true rfl⟩ rfl hl.1 rfl (Nat.le_of_ble_eq_true rfl) dX5_addBlank_32 ⟨Nat.zero_le _, Nat.zero_le _⟩ (fun H locs X => ?_)
  have X := X.to (ws' := ([[(a 0, .inr (5, [.ref (a 1), .ref (a 3), .ref (a 5), .ref (a 7), .ref (a 9), .ref (a 11), .int (Z 0), .int (Z 1)]))], hm_row g (a 1) (a 2) 100 (R 0), hm_row g (a 3) (a 4) 101 (R 1), hm_row g (a 5) (a 6) 30 t1.2, hm_row g (a 7) (a 8) 30 t2.2, hm_row g (a 9) (a 10) 30 t3.2, hm_row g (a 11) (a 12) 30 t4.2] : List va_W).flatten) rfl
  refine lv_pop hx hb dX5_addBlank_35 rfl ?_
  obtain rfl := Option.some.inj hF
  exact hm_rv S hr hlk X rfl dX5_addBlank_36
def f_X5_setLine_l129 (J56 : Int32 → Int32 → Int32 → Int32 → hm_SR → hm_SR → hm_SR → hm_SR → Option (hm_SR × hm_SR × hm_SR × hm_SR)) (v5 : Int32) (v6 : Int32) (v7 : Int32) (v8 : Int32) (wR_2 : hm_SR) (wR_3 : hm_SR) (wR_4 : hm_SR) (wR_5 : hm_SR) : Option (hm_SR × hm_SR × hm_SR × hm_SR) :=
  J56 v5 v6 v7 (v8 + 1) wR_2 wR_3 wR_4 wR_5
def f_X5_setLine_l122 (J56 : Int32 → Int32 → Int32 → Int32 → hm_SR → hm_SR → hm_SR → hm_SR → Option (hm_SR × hm_SR × hm_SR × hm_SR)) (s122_0 : Int32) (s122_1 : Int32) (s122_2 : Int32) (v5 : Int32) (v6 : Int32) (v7 : Int32) (v8 : Int32) (wR_2 : hm_SR) (wR_3 : hm_SR) (wR_4 : hm_SR) (wR_5 : hm_SR) : Option (hm_SR × hm_SR × hm_SR × hm_SR) :=
  (f_X5_addBlank wR_2 wR_3 wR_4 wR_5 s122_2 (s122_1 + s122_0)).bind fun t5 =>
  f_X5_setLine_l129 J56 v5 v6 (v7 + 1) v8 t5.1 t5.2.1 t5.2.2.1 t5.2.2.2
def f_X5_setLine_l56 (LeR_0 : hm_SR) (LeR_2 : hm_SR) (LeR_4 : hm_SR) (LeZ_0 : Int32) (x0 : Int32) (x1 : Int32) : Nat → Int32 → Int32 → Int32 → Int32 → hm_SR → hm_SR → hm_SR → hm_SR → Option (hm_SR × hm_SR × hm_SR × hm_SR)
  | 0, _, _, _, _, _, _, _, _ => none
  | k + 1, v5, v6, v7, v8, wR_2, wR_3, wR_4, wR_5 =>
  if x1 ≤ v8 then (
  some (wR_2, wR_3, wR_4, wR_5))
  else (
  (f_X1_isSlashAt LeR_2 v8).bind fun t2 =>
  if t2 = 0 then (
  (f_X1_natural LeR_0 LeR_4 x0 v8).bind fun t3 =>
  (f_X1_gap LeZ_0).bind fun t4 =>
  if v6 ≤ v7 then (
  f_X5_setLine_l122 (fun zv5 zv6 zv7 zv8 zwR_2 zwR_3 zwR_4 zwR_5 => f_X5_setLine_l56 LeR_0 LeR_2 LeR_4 LeZ_0 x0 x1 k zv5 zv6 zv7 zv8 zwR_2 zwR_3 zwR_4 zwR_5) 0 ((((t3 + (v7 * v5)) + (if v6 < v7 then v6 else v7)) + t4) + v5) ((t3 + (v7 * v5)) + (if v6 < v7 then v6 else v7)) v5 v6 v7 v8 wR_2 wR_3 wR_4 wR_5)
  else (
  f_X5_setLine_l122 (fun zv5 zv6 zv7 zv8 zwR_2 zwR_3 zwR_4 zwR_5 => f_X5_setLine_l56 LeR_0 LeR_2 LeR_4 LeZ_0 x0 x1 k zv5 zv6 zv7 zv8 zwR_2 zwR_3 zwR_4 zwR_5) 1 ((((t3 + (v7 * v5)) + (if v6 < v7 then v6 else v7)) + t4) + v5) ((t3 + (v7 * v5)) + (if v6 < v7 then v6 else v7)) v5 v6 v7 v8 wR_2 wR_3 wR_4 wR_5))
  else (
  f_X5_setLine_l129 (fun zv5 zv6 zv7 zv8 zwR_2 zwR_3 zwR_4 zwR_5 => f_X5_setLine_l56 LeR_0 LeR_2 LeR_4 LeZ_0 x0 x1 k zv5 zv6 zv7 zv8 zwR_2 zwR_3 zwR_4 zwR_5) v5 v6 v7 v8 wR_2 wR_3 wR_4 wR_5))
theorem f_X5_setLine_l56_s (LeR_0 : hm_SR) (LeR_2 : hm_SR) (LeR_4 : hm_SR) (LeZ_0 : Int32) (x0 : Int32) (x1 : Int32) (k : Nat) (v5 : Int32) (v6 : Int32) (v7 : Int32) (v8 : Int32) (wR_2 : hm_SR) (wR_3 : hm_SR) (wR_4 : hm_SR) (wR_5 : hm_SR) : f_X5_setLine_l56 LeR_0 LeR_2 LeR_4 LeZ_0 x0 x1 (k + 1) v5 v6 v7 v8 wR_2 wR_3 wR_4 wR_5 =
  if x1 ≤ v8 then (
  some (wR_2, wR_3, wR_4, wR_5))
  else (
  (f_X1_isSlashAt LeR_2 v8).bind fun t2 =>
  if t2 = 0 then (
  (f_X1_natural LeR_0 LeR_4 x0 v8).bind fun t3 =>
  (f_X1_gap LeZ_0).bind fun t4 =>
  if v6 ≤ v7 then (
  f_X5_setLine_l122 (fun zv5 zv6 zv7 zv8 zwR_2 zwR_3 zwR_4 zwR_5 => f_X5_setLine_l56 LeR_0 LeR_2 LeR_4 LeZ_0 x0 x1 k zv5 zv6 zv7 zv8 zwR_2 zwR_3 zwR_4 zwR_5) 0 ((((t3 + (v7 * v5)) + (if v6 < v7 then v6 else v7)) + t4) + v5) ((t3 + (v7 * v5)) + (if v6 < v7 then v6 else v7)) v5 v6 v7 v8 wR_2 wR_3 wR_4 wR_5)
  else (
  f_X5_setLine_l122 (fun zv5 zv6 zv7 zv8 zwR_2 zwR_3 zwR_4 zwR_5 => f_X5_setLine_l56 LeR_0 LeR_2 LeR_4 LeZ_0 x0 x1 k zv5 zv6 zv7 zv8 zwR_2 zwR_3 zwR_4 zwR_5) 1 ((((t3 + (v7 * v5)) + (if v6 < v7 then v6 else v7)) + t4) + v5) ((t3 + (v7 * v5)) + (if v6 < v7 then v6 else v7)) v5 v6 v7 v8 wR_2 wR_3 wR_4 wR_5))
  else (
  f_X5_setLine_l129 (fun zv5 zv6 zv7 zv8 zwR_2 zwR_3 zwR_4 zwR_5 => f_X5_setLine_l56 LeR_0 LeR_2 LeR_4 LeZ_0 x0 x1 k zv5 zv6 zv7 zv8 zwR_2 zwR_3 zwR_4 zwR_5) v5 v6 v7 v8 wR_2 wR_3 wR_4 wR_5)) := rfl
theorem f_X5_setLine_l56_z (LeR_0 : hm_SR) (LeR_2 : hm_SR) (LeR_4 : hm_SR) (LeZ_0 : Int32) (x0 : Int32) (x1 : Int32) (v5 : Int32) (v6 : Int32) (v7 : Int32) (v8 : Int32) (wR_2 : hm_SR) (wR_3 : hm_SR) (wR_4 : hm_SR) (wR_5 : hm_SR) : f_X5_setLine_l56 LeR_0 LeR_2 LeR_4 LeZ_0 x0 x1 0 v5 v6 v7 v8 wR_2 wR_3 wR_4 wR_5 = none := rfl
def f_X5_setLine_l46 (R_2 : hm_SR) (R_3 : hm_SR) (R_4 : hm_SR) (R_5 : hm_SR) (LeR_0 : hm_SR) (LeR_2 : hm_SR) (LeR_4 : hm_SR) (LeZ_0 : Int32) (x0 : Int32) (x1 : Int32) (s46_0 : Int32) (v5 : Int32) : Option (hm_SR × hm_SR × hm_SR × hm_SR) :=
  f_X5_setLine_l56 LeR_0 LeR_2 LeR_4 LeZ_0 x0 x1 hm_fu v5 s46_0 0 (x0 + 1) R_2 R_3 R_4 R_5
def f_X5_setLine_l26 (R_2 : hm_SR) (R_3 : hm_SR) (R_4 : hm_SR) (R_5 : hm_SR) (LeR_0 : hm_SR) (LeR_1 : hm_SR) (LeR_2 : hm_SR) (LeR_3 : hm_SR) (LeR_4 : hm_SR) (LeZ_0 : Int32) (LeZ_1 : Int32) (x0 : Int32) (x1 : Int32) (s26_0 : Int32) (v4 : Int32) : Option (hm_SR × hm_SR × hm_SR × hm_SR) :=
  if v4 ≤ 0 then (
  f_X5_setLine_l46 R_2 R_3 R_4 R_5 LeR_0 LeR_2 LeR_4 LeZ_0 x0 x1 0 s26_0)
  else (
  (f_X1_spread LeR_0 LeR_1 LeR_3 LeR_4 LeZ_1 x0 x1).bind fun t6 =>
  (hm_rm t6 v4).bind fun t7 =>
  f_X5_setLine_l46 R_2 R_3 R_4 R_5 LeR_0 LeR_2 LeR_4 LeZ_0 x0 x1 t7 s26_0)
def f_X5_setLine (R_2 : hm_SR) (R_3 : hm_SR) (R_4 : hm_SR) (R_5 : hm_SR) (LeR_0 : hm_SR) (LeR_1 : hm_SR) (LeR_2 : hm_SR) (LeR_3 : hm_SR) (LeR_4 : hm_SR) (LeZ_0 : Int32) (LeZ_1 : Int32) (x0 : Int32) (x1 : Int32)  : Option (hm_SR × hm_SR × hm_SR × hm_SR) :=
  (f_X1_blanks LeR_3 x0 x1).bind fun t1 =>
  if t1 ≤ 0 then (
  f_X5_setLine_l26 R_2 R_3 R_4 R_5 LeR_0 LeR_1 LeR_2 LeR_3 LeR_4 LeZ_0 LeZ_1 x0 x1 0 t1)
  else (
  (f_X1_spread LeR_0 LeR_1 LeR_3 LeR_4 LeZ_1 x0 x1).bind fun t8 =>
  (hm_dv t8 t1).bind fun t9 =>
  f_X5_setLine_l26 R_2 R_3 R_4 R_5 LeR_0 LeR_1 LeR_2 LeR_3 LeR_4 LeZ_0 LeZ_1 x0 x1 t9 t1)
abbrev rm_X5_setLine : Room := { frames := 3, cells := 0, slots := 0, locals := 66 }
set_option maxHeartbeats 4000000 in
set_option maxRecDepth 100000 in
theorem c_X5_setLine (l : Launch) (g : hm_G) (a : Nat → Nat) (R : Nat → hm_SR) (Z : Nat → Int32) (aLe : Nat → Nat) (LeR : Nat → hm_SR) (LeZ : Nat → Int32) (x0 : Int32) (x1 : Int32) (q : hm_SR × hm_SR × hm_SR × hm_SR) (hF : f_X5_setLine (R 2) (R 3) (R 4) (R 5) (LeR 0) (LeR 1) (LeR 2) (LeR 3) (LeR 4) (LeZ 0) (LeZ 1) x0 x1 = some q) : hm_Mv l yX5_setLine (Cond.code yX5_setLine cX5_setLine 10 none :: hm_W) rm_X5_setLine g [.ref (a 0), .ref (aLe 0), .int x0, .int x1] ([hm_wSh g a R Z, hm_wLe g aLe LeR LeZ] : List va_W).flatten ([hm_wSh g a (hm_up (hm_up (hm_up (hm_up R 2 q.1) 3 q.2.1) 4 q.2.2.1) 5 q.2.2.2) Z, hm_wLe g aLe LeR LeZ] : List va_W).flatten := by
  refine hm_ofv [(0, .ref (a 0)), (1, .ref (aLe 0)), (2, .int x0), (3, .int x1)] (by decide) (own := RX5) rfl (Nat.le_of_ble_eq_true rfl) rfl rfl ?_
  intro p e s m args below meth c AA S hr hlk X ls hl
  have hx := S.1
  have hb := S.2.1
  have hown := S.2.2.2.1
  have hts := S.2.2.2.2
  have X := X.to (ws' := ([[(a 0, .inr (5, [.ref (a 1), .ref (a 3), .ref (a 5), .ref (a 7), .ref (a 9), .ref (a 11), .int (Z 0), .int (Z 1)]))], hm_row g (a 1) (a 2) 100 (R 0), hm_row g (a 3) (a 4) 101 (R 1), hm_row g (a 5) (a 6) 30 (R 2), hm_row g (a 7) (a 8) 30 (R 3), hm_row g (a 9) (a 10) 30 (R 4), hm_row g (a 11) (a 12) 30 (R 5), hm_wLe g aLe LeR LeZ] : List va_W).flatten) rfl
  have hl56 : ∀ (k56 : Nat) (v5 : Int32) (v6 : Int32) (v7 : Int32) (v8 : Int32) (wR_2 : hm_SR) (wR_3 : hm_SR) (wR_4 : hm_SR) (wR_5 : hm_SR), f_X5_setLine_l56 (LeR 0) (LeR 2) (LeR 4) (LeZ 0) x0 x1 k56 v5 v6 v7 v8 wR_2 wR_3 wR_4 wR_5 = some q → ∀ (H : Heap) (locs : List Loc), hm_X g AA s H locs ([[(a 0, .inr (5, [.ref (a 1), .ref (a 3), .ref (a 5), .ref (a 7), .ref (a 9), .ref (a 11), .int (Z 0), .int (Z 1)]))], hm_row g (a 1) (a 2) 100 (R 0), hm_row g (a 3) (a 4) 101 (R 1), hm_row g (a 5) (a 6) 30 wR_2, hm_row g (a 7) (a 8) 30 wR_3, hm_row g (a 9) (a 10) 30 wR_4, hm_row g (a 11) (a 12) 30 wR_5, hm_wLe g aLe LeR LeZ] : List va_W).flatten → ∀ ls : Array Slot, lv_has ls 10 [(0, .ref (a 0)), (1, .ref (aLe 0)), (2, .int x0), (3, .int x1), (5, .int v5), (6, .int v6), (7, .int v7), (8, .int v8)] → W p l e rm_X5_setLine s m args below meth c H locs 0 0 (MQ below (hm_Qv g AA ([hm_wSh g a (hm_up (hm_up (hm_up (hm_up R 2 q.1) 3 q.2.1) 4 q.2.2.1) 5 q.2.2.2) Z, hm_wLe g aLe LeR LeZ] : List va_W).flatten) args s 0 0 AA) (F0 m 56 ls []) := by
    intro k56
    induction k56 with
    | zero =>
      intro v5 v6 v7 v8 wR_2 wR_3 wR_4 wR_5 hF
      rw [f_X5_setLine_l56_z] at hF
      cases hF
    | succ k56 ih56 =>
      have hl129 : ∀ (v5 : Int32) (v6 : Int32) (v7 : Int32) (v8 : Int32) (wR_2 : hm_SR) (wR_3 : hm_SR) (wR_4 : hm_SR) (wR_5 : hm_SR), f_X5_setLine_l129 (fun zv5 zv6 zv7 zv8 zwR_2 zwR_3 zwR_4 zwR_5 => f_X5_setLine_l56 (LeR 0) (LeR 2) (LeR 4) (LeZ 0) x0 x1 k56 zv5 zv6 zv7 zv8 zwR_2 zwR_3 zwR_4 zwR_5) v5 v6 v7 v8 wR_2 wR_3 wR_4 wR_5 = some q → ∀ (H : Heap) (locs : List Loc), hm_X g AA s H locs ([[(a 0, .inr (5, [.ref (a 1), .ref (a 3), .ref (a 5), .ref (a 7), .ref (a 9), .ref (a 11), .int (Z 0), .int (Z 1)]))], hm_row g (a 1) (a 2) 100 (R 0), hm_row g (a 3) (a 4) 101 (R 1), hm_row g (a 5) (a 6) 30 wR_2, hm_row g (a 7) (a 8) 30 wR_3, hm_row g (a 9) (a 10) 30 wR_4, hm_row g (a 11) (a 12) 30 wR_5, hm_wLe g aLe LeR LeZ] : List va_W).flatten → ∀ ls : Array Slot, lv_has ls 10 [(0, .ref (a 0)), (1, .ref (aLe 0)), (2, .int x0), (3, .int x1), (5, .int v5), (6, .int v6), (7, .int v7), (8, .int v8)] → W p l e rm_X5_setLine s m args below meth c H locs 0 0 (MQ below (hm_Qv g AA ([hm_wSh g a (hm_up (hm_up (hm_up (hm_up R 2 q.1) 3 q.2.1) 4 q.2.2.1) 5 q.2.2.2) Z, hm_wLe g aLe LeR LeZ] : List va_W).flatten) args s 0 0 AA) (F0 m 129 ls []) := by
        intro v5 v6 v7 v8 wR_2 wR_3 wR_4 wR_5 hF H locs X ls hl
        unfold f_X5_setLine_l129 at hF
        refine lv_iinc (v := (v8 + 1)) (lv' := [(8, .int (v8 + 1)), (0, .ref (a 0)), (1, .ref (aLe 0)), (2, .int x0), (3, .int x1), (5, .int v5), (6, .int v6), (7, .int v7)]) hx hb dX5_setLine_129 hl (k := 7) rfl rfl (by decide) rfl (fun ls hl => ?_)
        refine lv_goto (tgt := 56) hx hb dX5_setLine_132 (by decide) ?_
        exact ih56 v5 v6 v7 (v8 + 1) wR_2 wR_3 wR_4 wR_5 hF _ _ X _ (lv_sub hl [1, 2, 3, 4, 5, 6, 7, 0] rfl)
      have hl122 : ∀ (s122_0 : Int32) (s122_1 : Int32) (s122_2 : Int32) (v5 : Int32) (v6 : Int32) (v7 : Int32) (v8 : Int32) (wR_2 : hm_SR) (wR_3 : hm_SR) (wR_4 : hm_SR) (wR_5 : hm_SR), f_X5_setLine_l122 (fun zv5 zv6 zv7 zv8 zwR_2 zwR_3 zwR_4 zwR_5 => f_X5_setLine_l56 (LeR 0) (LeR 2) (LeR 4) (LeZ 0) x0 x1 k56 zv5 zv6 zv7 zv8 zwR_2 zwR_3 zwR_4 zwR_5) s122_0 s122_1 s122_2 v5 v6 v7 v8 wR_2 wR_3 wR_4 wR_5 = some q → ∀ (H : Heap) (locs : List Loc), hm_X g AA s H locs ([[(a 0, .inr (5, [.ref (a 1), .ref (a 3), .ref (a 5), .ref (a 7), .ref (a 9), .ref (a 11), .int (Z 0), .int (Z 1)]))], hm_row g (a 1) (a 2) 100 (R 0), hm_row g (a 3) (a 4) 101 (R 1), hm_row g (a 5) (a 6) 30 wR_2, hm_row g (a 7) (a 8) 30 wR_3, hm_row g (a 9) (a 10) 30 wR_4, hm_row g (a 11) (a 12) 30 wR_5, hm_wLe g aLe LeR LeZ] : List va_W).flatten → ∀ ls : Array Slot, lv_has ls 10 [(0, .ref (a 0)), (1, .ref (aLe 0)), (2, .int x0), (3, .int x1), (5, .int v5), (6, .int v6), (7, .int v7), (8, .int v8)] → W p l e rm_X5_setLine s m args below meth c H locs 0 0 (MQ below (hm_Qv g AA ([hm_wSh g a (hm_up (hm_up (hm_up (hm_up R 2 q.1) 3 q.2.1) 4 q.2.2.1) 5 q.2.2.2) Z, hm_wLe g aLe LeR LeZ] : List va_W).flatten) args s 0 0 AA) (F0 m 122 ls [.int s122_0, .int s122_1, .int s122_2, .ref (a 0)]) := by
        intro s122_0 s122_1 s122_2 v5 v6 v7 v8 wR_2 wR_3 wR_4 wR_5 hF H locs X ls hl
        unfold f_X5_setLine_l122 at hF
        refine lv_iadd hx hb dX5_setLine_122 ?_
        obtain ⟨t5, ht5, hF⟩ := hm_bd hF
        refine hm_vv (As := [.int s122_2, .int (s122_1 + s122_0)]) S X mw_X5_addBlank hw_3_92 (c_X5_addBlank l g a (hm_up (hm_up (hm_up (hm_up R 2 wR_2) 3 wR_3) 4 wR_4) 5 wR_5) Z s122_2 (s122_1 + s122_0) t5 ht5) (hm_cq (n := 8) [0, 1, 2, 3, 4, 5, 6] [7] rfl (by decide +kernel) rfl rfl) (hm_cq (bs := [[(a 0, .inr (5, [.ref (a 1), .ref (a 3), .ref (a 5), .ref (a 7), .ref (a 9), .ref (a 11), .int (Z 0), .int (Z 1)]))], hm_row g (a 1) (a 2) 100 (R 0), hm_row g (a 3) (a 4) 101 (R 1), hm_row g (a 5) (a 6) 30 t5.1, hm_row g (a 7) (a 8) 30 t5.2.1, hm_row g (a 9) (a 10) 30 t5.2.2.1, hm_row g (a 11) (a 12) 30 t5.2.2.2, hm_wLe g aLe LeR LeZ]) (n := 8) [0, 1, 2, 3, 4, 5, 6] [7] rfl (by decide +kernel) rfl rfl) rfl rfl rfl ⟨rfl, rfl, Nat.le_of_ble_eq_true rfl, Nat.le_of_ble_eq_true rfl⟩ rfl hl.1 rfl (Nat.le_of_ble_eq_true rfl) dX5_setLine_123 ⟨Nat.zero_le _, Nat.zero_le _⟩ (fun H locs X => ?_)
        have X := X.to (ws' := ([[(a 0, .inr (5, [.ref (a 1), .ref (a 3), .ref (a 5), .ref (a 7), .ref (a 9), .ref (a 11), .int (Z 0), .int (Z 1)]))], hm_row g (a 1) (a 2) 100 (R 0), hm_row g (a 3) (a 4) 101 (R 1), hm_row g (a 5) (a 6) 30 t5.1, hm_row g (a 7) (a 8) 30 t5.2.1, hm_row g (a 9) (a 10) 30 t5.2.2.1, hm_row g (a 11) (a 12) 30 t5.2.2.2, hm_wLe g aLe LeR LeZ] : List va_W).flatten) rfl
        refine lv_iinc (v := (v7 + 1)) (lv' := [(7, .int (v7 + 1)), (0, .ref (a 0)), (1, .ref (aLe 0)), (2, .int x0), (3, .int x1), (5, .int v5), (6, .int v6), (8, .int v8)]) hx hb dX5_setLine_126 hl (k := 6) rfl rfl (by decide) rfl (fun ls hl => ?_)
        exact hl129 v5 v6 (v7 + 1) v8 t5.1 t5.2.1 t5.2.2.1 t5.2.2.2 hF _ _ X _ (lv_sub hl [1, 2, 3, 4, 5, 6, 0, 7] rfl)
      intro v5 v6 v7 v8 wR_2 wR_3 wR_4 wR_5 hF H locs X ls hl
      rw [f_X5_setLine_l56_s] at hF
      refine lv_iload hx hb dX5_setLine_56 (lv_at hl 7 rfl) ?_
      refine lv_iload_n hx hb dX5_setLine_58 rfl (lv_at hl 3 rfl) ?_
      refine lv_icmp_ge (tgt := 135) hx hb dX5_setLine_59 (by decide) (fun c59 => ?_) (fun c59 => ?_)
      · have hF := hm_if hF c59
        obtain rfl := Option.some.inj hF
        exact hm_rv S hr hlk X rfl dX5_setLine_135
      · have hF := hm_nf hF c59
        refine lv_aload_n hx hb dX5_setLine_62 rfl (lv_at hl 1 rfl) ?_
        refine lv_iload hx hb dX5_setLine_63 (lv_at hl 7 rfl) ?_
        obtain ⟨t2, ht2, hF⟩ := hm_bd hF
        refine hm_vi (As := [.int v8]) S X mw_X1_isSlashAt hw_3_79 (c_X1_isSlashAt l g aLe LeR LeZ v8 t2 ht2) (hm_mid [[(a 0, .inr (5, [.ref (a 1), .ref (a 3), .ref (a 5), .ref (a 7), .ref (a 9), .ref (a 11), .int (Z 0), .int (Z 1)]))], hm_row g (a 1) (a 2) 100 (R 0), hm_row g (a 3) (a 4) 101 (R 1), hm_row g (a 5) (a 6) 30 wR_2, hm_row g (a 7) (a 8) 30 wR_3, hm_row g (a 9) (a 10) 30 wR_4, hm_row g (a 11) (a 12) 30 wR_5] []) (hm_mid [[(a 0, .inr (5, [.ref (a 1), .ref (a 3), .ref (a 5), .ref (a 7), .ref (a 9), .ref (a 11), .int (Z 0), .int (Z 1)]))], hm_row g (a 1) (a 2) 100 (R 0), hm_row g (a 3) (a 4) 101 (R 1), hm_row g (a 5) (a 6) 30 wR_2, hm_row g (a 7) (a 8) 30 wR_3, hm_row g (a 9) (a 10) 30 wR_4, hm_row g (a 11) (a 12) 30 wR_5] [] (b := hm_wLe g aLe LeR LeZ)) rfl rfl rfl ⟨rfl, rfl, Nat.le_of_ble_eq_true rfl, Nat.le_of_ble_eq_true rfl⟩ rfl hl.1 rfl (Nat.le_of_ble_eq_true rfl) dX5_setLine_65 ⟨Nat.zero_le _, Nat.zero_le _⟩ (fun H locs X => ?_)
        have X := X.to (ws' := ([[(a 0, .inr (5, [.ref (a 1), .ref (a 3), .ref (a 5), .ref (a 7), .ref (a 9), .ref (a 11), .int (Z 0), .int (Z 1)]))], hm_row g (a 1) (a 2) 100 (R 0), hm_row g (a 3) (a 4) 101 (R 1), hm_row g (a 5) (a 6) 30 wR_2, hm_row g (a 7) (a 8) 30 wR_3, hm_row g (a 9) (a 10) 30 wR_4, hm_row g (a 11) (a 12) 30 wR_5, hm_wLe g aLe LeR LeZ] : List va_W).flatten) rfl
        refine lv_if_eq (tgt := 74) hx hb dX5_setLine_68 (by decide) (fun c68 => ?_) (fun c68 => ?_)
        · have hF := hm_if hF c68
          refine lv_aload_n hx hb dX5_setLine_74 rfl (lv_at hl 1 rfl) ?_
          refine lv_iload_n hx hb dX5_setLine_75 rfl (lv_at hl 2 rfl) ?_
          refine lv_iload hx hb dX5_setLine_76 (lv_at hl 7 rfl) ?_
          obtain ⟨t3, ht3, hF⟩ := hm_bd hF
          refine hm_vi (As := [.int x0, .int v8]) S X mw_X1_natural hw_3_83 (c_X1_natural l g aLe LeR LeZ x0 v8 t3 ht3) (hm_mid [[(a 0, .inr (5, [.ref (a 1), .ref (a 3), .ref (a 5), .ref (a 7), .ref (a 9), .ref (a 11), .int (Z 0), .int (Z 1)]))], hm_row g (a 1) (a 2) 100 (R 0), hm_row g (a 3) (a 4) 101 (R 1), hm_row g (a 5) (a 6) 30 wR_2, hm_row g (a 7) (a 8) 30 wR_3, hm_row g (a 9) (a 10) 30 wR_4, hm_row g (a 11) (a 12) 30 wR_5] []) (hm_mid [[(a 0, .inr (5, [.ref (a 1), .ref (a 3), .ref (a 5), .ref (a 7), .ref (a 9), .ref (a 11), .int (Z 0), .int (Z 1)]))], hm_row g (a 1) (a 2) 100 (R 0), hm_row g (a 3) (a 4) 101 (R 1), hm_row g (a 5) (a 6) 30 wR_2, hm_row g (a 7) (a 8) 30 wR_3, hm_row g (a 9) (a 10) 30 wR_4, hm_row g (a 11) (a 12) 30 wR_5] [] (b := hm_wLe g aLe LeR LeZ)) rfl rfl rfl ⟨rfl, rfl, Nat.le_of_ble_eq_true rfl, Nat.le_of_ble_eq_true rfl⟩ rfl hl.1 rfl (Nat.le_of_ble_eq_true rfl) dX5_setLine_78 ⟨Nat.zero_le _, Nat.zero_le _⟩ (fun H locs X => ?_)
          have X := X.to (ws' := ([[(a 0, .inr (5, [.ref (a 1), .ref (a 3), .ref (a 5), .ref (a 7), .ref (a 9), .ref (a 11), .int (Z 0), .int (Z 1)]))], hm_row g (a 1) (a 2) 100 (R 0), hm_row g (a 3) (a 4) 101 (R 1), hm_row g (a 5) (a 6) 30 wR_2, hm_row g (a 7) (a 8) 30 wR_3, hm_row g (a 9) (a 10) 30 wR_4, hm_row g (a 11) (a 12) 30 wR_5, hm_wLe g aLe LeR LeZ] : List va_W).flatten) rfl
          refine lv_iload hx hb dX5_setLine_81 (lv_at hl 6 rfl) ?_
          refine lv_iload hx hb dX5_setLine_83 (lv_at hl 4 rfl) ?_
          refine lv_imul hx hb dX5_setLine_85 ?_
          refine lv_iadd hx hb dX5_setLine_86 ?_
          refine lv_iload hx hb dX5_setLine_87 (lv_at hl 6 rfl) ?_
          refine lv_iload hx hb dX5_setLine_89 (lv_at hl 5 rfl) ?_
          refine hm_mmin S hl.1 hw_3_87 (Nat.le_of_ble_eq_true rfl) (Nat.le_of_ble_eq_true rfl) (Nat.zero_le _) (Nat.zero_le _) dX5_setLine_91 ?_
          refine lv_iadd hx hb dX5_setLine_94 ?_
          refine lv_istore (lv' := [(9, .int ((t3 + (v7 * v5)) + (if v6 < v7 then v6 else v7))), (0, .ref (a 0)), (1, .ref (aLe 0)), (2, .int x0), (3, .int x1), (5, .int v5), (6, .int v6), (7, .int v7), (8, .int v8)]) hx hb dX5_setLine_95 hl (by decide) rfl (fun ls hl => ?_)
          refine lv_aload_n hx hb dX5_setLine_97 rfl (lv_at hl 1 rfl) ?_
          refine lv_iload hx hb dX5_setLine_98 (lv_at hl 0 rfl) ?_
          refine lv_iload hx hb dX5_setLine_100 (lv_at hl 0 rfl) ?_
          refine lv_aload_n hx hb dX5_setLine_102 rfl (lv_at hl 2 rfl) ?_
          obtain ⟨t4, ht4, hF⟩ := hm_bd hF
          refine hm_vi (As := []) S X mw_X1_gap hw_3_88 (c_X1_gap l g aLe LeR LeZ t4 ht4) (hm_mid [[(a 0, .inr (5, [.ref (a 1), .ref (a 3), .ref (a 5), .ref (a 7), .ref (a 9), .ref (a 11), .int (Z 0), .int (Z 1)]))], hm_row g (a 1) (a 2) 100 (R 0), hm_row g (a 3) (a 4) 101 (R 1), hm_row g (a 5) (a 6) 30 wR_2, hm_row g (a 7) (a 8) 30 wR_3, hm_row g (a 9) (a 10) 30 wR_4, hm_row g (a 11) (a 12) 30 wR_5] []) (hm_mid [[(a 0, .inr (5, [.ref (a 1), .ref (a 3), .ref (a 5), .ref (a 7), .ref (a 9), .ref (a 11), .int (Z 0), .int (Z 1)]))], hm_row g (a 1) (a 2) 100 (R 0), hm_row g (a 3) (a 4) 101 (R 1), hm_row g (a 5) (a 6) 30 wR_2, hm_row g (a 7) (a 8) 30 wR_3, hm_row g (a 9) (a 10) 30 wR_4, hm_row g (a 11) (a 12) 30 wR_5] [] (b := hm_wLe g aLe LeR LeZ)) rfl rfl rfl ⟨rfl, rfl, Nat.le_of_ble_eq_true rfl, Nat.le_of_ble_eq_true rfl⟩ rfl hl.1 rfl (Nat.le_of_ble_eq_true rfl) dX5_setLine_103 ⟨Nat.zero_le _, Nat.zero_le _⟩ (fun H locs X => ?_)
          have X := X.to (ws' := ([[(a 0, .inr (5, [.ref (a 1), .ref (a 3), .ref (a 5), .ref (a 7), .ref (a 9), .ref (a 11), .int (Z 0), .int (Z 1)]))], hm_row g (a 1) (a 2) 100 (R 0), hm_row g (a 3) (a 4) 101 (R 1), hm_row g (a 5) (a 6) 30 wR_2, hm_row g (a 7) (a 8) 30 wR_3, hm_row g (a 9) (a 10) 30 wR_4, hm_row g (a 11) (a 12) 30 wR_5, hm_wLe g aLe LeR LeZ] : List va_W).flatten) rfl
          refine lv_iadd hx hb dX5_setLine_106 ?_
          refine lv_iload hx hb dX5_setLine_107 (lv_at hl 5 rfl) ?_
          refine lv_iadd hx hb dX5_setLine_109 ?_
          refine lv_iload hx hb dX5_setLine_110 (lv_at hl 7 rfl) ?_
          refine lv_iload hx hb dX5_setLine_112 (lv_at hl 6 rfl) ?_
          refine lv_icmp_ge (tgt := 121) hx hb dX5_setLine_114 (by decide) (fun c114 => ?_) (fun c114 => ?_)
          · have hF := hm_if hF c114
            refine lv_iconst (v := 0) hx hb dX5_setLine_121 (by decide) ?_
            exact hl122 0 ((((t3 + (v7 * v5)) + (if v6 < v7 then v6 else v7)) + t4) + v5) ((t3 + (v7 * v5)) + (if v6 < v7 then v6 else v7)) v5 v6 v7 v8 wR_2 wR_3 wR_4 wR_5 hF _ _ X _ (lv_sub hl [1, 2, 3, 4, 5, 6, 7, 8] rfl)
          · have hF := hm_nf hF c114
            refine lv_iconst (v := 1) hx hb dX5_setLine_117 (by decide) ?_
            refine lv_goto (tgt := 122) hx hb dX5_setLine_118 (by decide) ?_
            exact hl122 1 ((((t3 + (v7 * v5)) + (if v6 < v7 then v6 else v7)) + t4) + v5) ((t3 + (v7 * v5)) + (if v6 < v7 then v6 else v7)) v5 v6 v7 v8 wR_2 wR_3 wR_4 wR_5 hF _ _ X _ (lv_sub hl [1, 2, 3, 4, 5, 6, 7, 8] rfl)
        · have hF := hm_nf hF c68
          refine lv_goto (tgt := 129) hx hb dX5_setLine_71 (by decide) ?_
          exact hl129 v5 v6 v7 v8 wR_2 wR_3 wR_4 wR_5 hF _ _ X _ (lv_sub hl [0, 1, 2, 3, 4, 5, 6, 7] rfl)
  have hl46 : ∀ (s46_0 : Int32) (v5 : Int32), f_X5_setLine_l46 (R 2) (R 3) (R 4) (R 5) (LeR 0) (LeR 2) (LeR 4) (LeZ 0) x0 x1 s46_0 v5 = some q → ∀ (H : Heap) (locs : List Loc), hm_X g AA s H locs ([[(a 0, .inr (5, [.ref (a 1), .ref (a 3), .ref (a 5), .ref (a 7), .ref (a 9), .ref (a 11), .int (Z 0), .int (Z 1)]))], hm_row g (a 1) (a 2) 100 (R 0), hm_row g (a 3) (a 4) 101 (R 1), hm_row g (a 5) (a 6) 30 (R 2), hm_row g (a 7) (a 8) 30 (R 3), hm_row g (a 9) (a 10) 30 (R 4), hm_row g (a 11) (a 12) 30 (R 5), hm_wLe g aLe LeR LeZ] : List va_W).flatten → ∀ ls : Array Slot, lv_has ls 10 [(0, .ref (a 0)), (1, .ref (aLe 0)), (2, .int x0), (3, .int x1), (5, .int v5)] → W p l e rm_X5_setLine s m args below meth c H locs 0 0 (MQ below (hm_Qv g AA ([hm_wSh g a (hm_up (hm_up (hm_up (hm_up R 2 q.1) 3 q.2.1) 4 q.2.2.1) 5 q.2.2.2) Z, hm_wLe g aLe LeR LeZ] : List va_W).flatten) args s 0 0 AA) (F0 m 46 ls [.int s46_0]) := by
    intro s46_0 v5 hF H locs X ls hl
    unfold f_X5_setLine_l46 at hF
    refine lv_istore (lv' := [(6, .int s46_0), (0, .ref (a 0)), (1, .ref (aLe 0)), (2, .int x0), (3, .int x1), (5, .int v5)]) hx hb dX5_setLine_46 hl (by decide) rfl (fun ls hl => ?_)
    refine lv_iconst (v := 0) hx hb dX5_setLine_48 (by decide) ?_
    refine lv_istore (lv' := [(7, .int 0), (6, .int s46_0), (0, .ref (a 0)), (1, .ref (aLe 0)), (2, .int x0), (3, .int x1), (5, .int v5)]) hx hb dX5_setLine_49 hl (by decide) rfl (fun ls hl => ?_)
    refine lv_iload_n hx hb dX5_setLine_51 rfl (lv_at hl 4 rfl) ?_
    refine lv_iconst (v := 1) hx hb dX5_setLine_52 (by decide) ?_
    refine lv_iadd hx hb dX5_setLine_53 ?_
    refine lv_istore (lv' := [(8, .int (x0 + 1)), (7, .int 0), (6, .int s46_0), (0, .ref (a 0)), (1, .ref (aLe 0)), (2, .int x0), (3, .int x1), (5, .int v5)]) hx hb dX5_setLine_54 hl (by decide) rfl (fun ls hl => ?_)
    exact hl56 hm_fu v5 s46_0 0 (x0 + 1) (R 2) (R 3) (R 4) (R 5) hF _ _ X _ (lv_sub hl [3, 4, 5, 6, 7, 2, 1, 0] rfl)
  have hl26 : ∀ (s26_0 : Int32) (v4 : Int32), f_X5_setLine_l26 (R 2) (R 3) (R 4) (R 5) (LeR 0) (LeR 1) (LeR 2) (LeR 3) (LeR 4) (LeZ 0) (LeZ 1) x0 x1 s26_0 v4 = some q → ∀ (H : Heap) (locs : List Loc), hm_X g AA s H locs ([[(a 0, .inr (5, [.ref (a 1), .ref (a 3), .ref (a 5), .ref (a 7), .ref (a 9), .ref (a 11), .int (Z 0), .int (Z 1)]))], hm_row g (a 1) (a 2) 100 (R 0), hm_row g (a 3) (a 4) 101 (R 1), hm_row g (a 5) (a 6) 30 (R 2), hm_row g (a 7) (a 8) 30 (R 3), hm_row g (a 9) (a 10) 30 (R 4), hm_row g (a 11) (a 12) 30 (R 5), hm_wLe g aLe LeR LeZ] : List va_W).flatten → ∀ ls : Array Slot, lv_has ls 10 [(0, .ref (a 0)), (1, .ref (aLe 0)), (2, .int x0), (3, .int x1), (4, .int v4)] → W p l e rm_X5_setLine s m args below meth c H locs 0 0 (MQ below (hm_Qv g AA ([hm_wSh g a (hm_up (hm_up (hm_up (hm_up R 2 q.1) 3 q.2.1) 4 q.2.2.1) 5 q.2.2.2) Z, hm_wLe g aLe LeR LeZ] : List va_W).flatten) args s 0 0 AA) (F0 m 26 ls [.int s26_0]) := by
    intro s26_0 v4 hF H locs X ls hl
    unfold f_X5_setLine_l26 at hF
    refine lv_istore (lv' := [(5, .int s26_0), (0, .ref (a 0)), (1, .ref (aLe 0)), (2, .int x0), (3, .int x1), (4, .int v4)]) hx hb dX5_setLine_26 hl (by decide) rfl (fun ls hl => ?_)
    refine lv_iload hx hb dX5_setLine_28 (lv_at hl 5 rfl) ?_
    refine lv_if_le (tgt := 45) hx hb dX5_setLine_30 (by decide) (fun c30 => ?_) (fun c30 => ?_)
    · have hF := hm_if hF c30
      refine lv_iconst (v := 0) hx hb dX5_setLine_45 (by decide) ?_
      exact hl46 0 s26_0 hF _ _ X _ (lv_sub hl [1, 2, 3, 4, 0] rfl)
    · have hF := hm_nf hF c30
      refine lv_aload_n hx hb dX5_setLine_33 rfl (lv_at hl 2 rfl) ?_
      refine lv_iload_n hx hb dX5_setLine_34 rfl (lv_at hl 3 rfl) ?_
      refine lv_iload_n hx hb dX5_setLine_35 rfl (lv_at hl 4 rfl) ?_
      obtain ⟨t6, ht6, hF⟩ := hm_bd hF
      refine hm_vi (As := [.int x0, .int x1]) S X mw_X1_spread hw_3_72 (c_X1_spread l g aLe LeR LeZ x0 x1 t6 ht6) (hm_mid [[(a 0, .inr (5, [.ref (a 1), .ref (a 3), .ref (a 5), .ref (a 7), .ref (a 9), .ref (a 11), .int (Z 0), .int (Z 1)]))], hm_row g (a 1) (a 2) 100 (R 0), hm_row g (a 3) (a 4) 101 (R 1), hm_row g (a 5) (a 6) 30 (R 2), hm_row g (a 7) (a 8) 30 (R 3), hm_row g (a 9) (a 10) 30 (R 4), hm_row g (a 11) (a 12) 30 (R 5)] []) (hm_mid [[(a 0, .inr (5, [.ref (a 1), .ref (a 3), .ref (a 5), .ref (a 7), .ref (a 9), .ref (a 11), .int (Z 0), .int (Z 1)]))], hm_row g (a 1) (a 2) 100 (R 0), hm_row g (a 3) (a 4) 101 (R 1), hm_row g (a 5) (a 6) 30 (R 2), hm_row g (a 7) (a 8) 30 (R 3), hm_row g (a 9) (a 10) 30 (R 4), hm_row g (a 11) (a 12) 30 (R 5)] [] (b := hm_wLe g aLe LeR LeZ)) rfl rfl rfl ⟨rfl, rfl, Nat.le_of_ble_eq_true rfl, Nat.le_of_ble_eq_true rfl⟩ rfl hl.1 rfl (Nat.le_of_ble_eq_true rfl) dX5_setLine_36 ⟨Nat.zero_le _, Nat.zero_le _⟩ (fun H locs X => ?_)
      have X := X.to (ws' := ([[(a 0, .inr (5, [.ref (a 1), .ref (a 3), .ref (a 5), .ref (a 7), .ref (a 9), .ref (a 11), .int (Z 0), .int (Z 1)]))], hm_row g (a 1) (a 2) 100 (R 0), hm_row g (a 3) (a 4) 101 (R 1), hm_row g (a 5) (a 6) 30 (R 2), hm_row g (a 7) (a 8) 30 (R 3), hm_row g (a 9) (a 10) 30 (R 4), hm_row g (a 11) (a 12) 30 (R 5), hm_wLe g aLe LeR LeZ] : List va_W).flatten) rfl
      refine lv_iload hx hb dX5_setLine_39 (lv_at hl 5 rfl) ?_
      obtain ⟨t7, ht7, hF⟩ := hm_bd hF
      refine hm_irem hx hb ht7 dX5_setLine_41 ?_
      refine lv_goto (tgt := 46) hx hb dX5_setLine_42 (by decide) ?_
      exact hl46 t7 s26_0 hF _ _ X _ (lv_sub hl [1, 2, 3, 4, 0] rfl)
  unfold f_X5_setLine at hF
  refine lv_aload_n hx hb dX5_setLine_0 rfl (lv_at hl 1 rfl) ?_
  refine lv_iload_n hx hb dX5_setLine_1 rfl (lv_at hl 2 rfl) ?_
  refine lv_iload_n hx hb dX5_setLine_2 rfl (lv_at hl 3 rfl) ?_
  obtain ⟨t1, ht1, hF⟩ := hm_bd hF
  refine hm_vi (As := [.int x0, .int x1]) S X mw_X1_blanks hw_3_68 (c_X1_blanks l g aLe LeR LeZ x0 x1 t1 ht1) (hm_mid [[(a 0, .inr (5, [.ref (a 1), .ref (a 3), .ref (a 5), .ref (a 7), .ref (a 9), .ref (a 11), .int (Z 0), .int (Z 1)]))], hm_row g (a 1) (a 2) 100 (R 0), hm_row g (a 3) (a 4) 101 (R 1), hm_row g (a 5) (a 6) 30 (R 2), hm_row g (a 7) (a 8) 30 (R 3), hm_row g (a 9) (a 10) 30 (R 4), hm_row g (a 11) (a 12) 30 (R 5)] []) (hm_mid [[(a 0, .inr (5, [.ref (a 1), .ref (a 3), .ref (a 5), .ref (a 7), .ref (a 9), .ref (a 11), .int (Z 0), .int (Z 1)]))], hm_row g (a 1) (a 2) 100 (R 0), hm_row g (a 3) (a 4) 101 (R 1), hm_row g (a 5) (a 6) 30 (R 2), hm_row g (a 7) (a 8) 30 (R 3), hm_row g (a 9) (a 10) 30 (R 4), hm_row g (a 11) (a 12) 30 (R 5)] [] (b := hm_wLe g aLe LeR LeZ)) rfl rfl rfl ⟨rfl, rfl, Nat.le_of_ble_eq_true rfl, Nat.le_of_ble_eq_true rfl⟩ rfl hl.1 rfl (Nat.le_of_ble_eq_true rfl) dX5_setLine_3 ⟨Nat.zero_le _, Nat.zero_le _⟩ (fun H locs X => ?_)
  have X := X.to (ws' := ([[(a 0, .inr (5, [.ref (a 1), .ref (a 3), .ref (a 5), .ref (a 7), .ref (a 9), .ref (a 11), .int (Z 0), .int (Z 1)]))], hm_row g (a 1) (a 2) 100 (R 0), hm_row g (a 3) (a 4) 101 (R 1), hm_row g (a 5) (a 6) 30 (R 2), hm_row g (a 7) (a 8) 30 (R 3), hm_row g (a 9) (a 10) 30 (R 4), hm_row g (a 11) (a 12) 30 (R 5), hm_wLe g aLe LeR LeZ] : List va_W).flatten) rfl
  refine lv_istore (lv' := [(4, .int t1), (0, .ref (a 0)), (1, .ref (aLe 0)), (2, .int x0), (3, .int x1)]) hx hb dX5_setLine_6 hl (by decide) rfl (fun ls hl => ?_)
  refine lv_iload hx hb dX5_setLine_8 (lv_at hl 0 rfl) ?_
  refine lv_if_le (tgt := 25) hx hb dX5_setLine_10 (by decide) (fun c10 => ?_) (fun c10 => ?_)
  · have hF := hm_if hF c10
    refine lv_iconst (v := 0) hx hb dX5_setLine_25 (by decide) ?_
    exact hl26 0 t1 hF _ _ X _ (lv_sub hl [1, 2, 3, 4, 0] rfl)
  · have hF := hm_nf hF c10
    refine lv_aload_n hx hb dX5_setLine_13 rfl (lv_at hl 2 rfl) ?_
    refine lv_iload_n hx hb dX5_setLine_14 rfl (lv_at hl 3 rfl) ?_
    refine lv_iload_n hx hb dX5_setLine_15 rfl (lv_at hl 4 rfl) ?_
    obtain ⟨t8, ht8, hF⟩ := hm_bd hF
    refine hm_vi (As := [.int x0, .int x1]) S X mw_X1_spread hw_3_72 (c_X1_spread l g aLe LeR LeZ x0 x1 t8 ht8) (hm_mid [[(a 0, .inr (5, [.ref (a 1), .ref (a 3), .ref (a 5), .ref (a 7), .ref (a 9), .ref (a 11), .int (Z 0), .int (Z 1)]))], hm_row g (a 1) (a 2) 100 (R 0), hm_row g (a 3) (a 4) 101 (R 1), hm_row g (a 5) (a 6) 30 (R 2), hm_row g (a 7) (a 8) 30 (R 3), hm_row g (a 9) (a 10) 30 (R 4), hm_row g (a 11) (a 12) 30 (R 5)] []) (hm_mid [[(a 0, .inr (5, [.ref (a 1), .ref (a 3), .ref (a 5), .ref (a 7), .ref (a 9), .ref (a 11), .int (Z 0), .int (Z 1)]))], hm_row g (a 1) (a 2) 100 (R 0), hm_row g (a 3) (a 4) 101 (R 1), hm_row g (a 5) (a 6) 30 (R 2), hm_row g (a 7) (a 8) 30 (R 3), hm_row g (a 9) (a 10) 30 (R 4), hm_row g (a 11) (a 12) 30 (R 5)] [] (b := hm_wLe g aLe LeR LeZ)) rfl rfl rfl ⟨rfl, rfl, Nat.le_of_ble_eq_true rfl, Nat.le_of_ble_eq_true rfl⟩ rfl hl.1 rfl (Nat.le_of_ble_eq_true rfl) dX5_setLine_16 ⟨Nat.zero_le _, Nat.zero_le _⟩ (fun H locs X => ?_)
    have X := X.to (ws' := ([[(a 0, .inr (5, [.ref (a 1), .ref (a 3), .ref (a 5), .ref (a 7), .ref (a 9), .ref (a 11), .int (Z 0), .int (Z 1)]))], hm_row g (a 1) (a 2) 100 (R 0), hm_row g (a 3) (a 4) 101 (R 1), hm_row g (a 5) (a 6) 30 (R 2), hm_row g (a 7) (a 8) 30 (R 3), hm_row g (a 9) (a 10) 30 (R 4), hm_row g (a 11) (a 12) 30 (R 5), hm_wLe g aLe LeR LeZ] : List va_W).flatten) rfl
    refine lv_iload hx hb dX5_setLine_19 (lv_at hl 0 rfl) ?_
    obtain ⟨t9, ht9, hF⟩ := hm_bd hF
    refine hm_idiv hx hb ht9 dX5_setLine_21 ?_
    refine lv_goto (tgt := 26) hx hb dX5_setLine_22 (by decide) ?_
    exact hl26 t9 t1 hF _ _ X _ (lv_sub hl [1, 2, 3, 4, 0] rfl)
def f_X5_lineCount (R_0 : hm_SR)  : Option (Int32) :=
  (f_X2_size R_0).bind fun t1 =>
  some (t1)
abbrev rm_X5_lineCount : Room := { frames := 1, cells := 0, slots := 0, locals := 20 }
set_option maxHeartbeats 4000000 in
set_option maxRecDepth 100000 in
theorem c_X5_lineCount (l : Launch) (g : hm_G) (a : Nat → Nat) (R : Nat → hm_SR) (Z : Nat → Int32) (q : Int32) (hF : f_X5_lineCount (R 0) = some q) : hm_Mi l yX5_lineCount (Cond.code yX5_lineCount cX5_lineCount 1 (some .int) :: hm_W) rm_X5_lineCount g [.ref (a 0)] ([hm_wSh g a R Z] : List va_W).flatten ([hm_wSh g a R Z] : List va_W).flatten q := by
  refine hm_ofi [(0, .ref (a 0))] (by decide) (own := RX5) rfl (Nat.le_of_ble_eq_true rfl) rfl rfl ?_
  intro p e s m args below meth c AA S hr hlk X ls hl
  have hx := S.1
  have hb := S.2.1
  have hown := S.2.2.2.1
  have hts := S.2.2.2.2
  have X := X.to (ws' := ([[(a 0, .inr (5, [.ref (a 1), .ref (a 3), .ref (a 5), .ref (a 7), .ref (a 9), .ref (a 11), .int (Z 0), .int (Z 1)]))], hm_row g (a 1) (a 2) 100 (R 0), hm_row g (a 3) (a 4) 101 (R 1), hm_row g (a 5) (a 6) 30 (R 2), hm_row g (a 7) (a 8) 30 (R 3), hm_row g (a 9) (a 10) 30 (R 4), hm_row g (a 11) (a 12) 30 (R 5)] : List va_W).flatten) rfl
  unfold f_X5_lineCount at hF
  refine lv_aload_n hx hb dX5_lineCount_0 rfl (lv_at hl 0 rfl) ?_
  refine hm_get S X hf_X5_14 0 rfl rfl dX5_lineCount_1 ?_
  obtain ⟨t1, ht1, hF⟩ := hm_bd hF
  refine hm_vi (As := []) S X mw_X2_size hw_3_96 (c_X2_size l g (a 1) (a 2) 100 (R 0) t1 ht1) (hm_mid [[(a 0, .inr (5, [.ref (a 1), .ref (a 3), .ref (a 5), .ref (a 7), .ref (a 9), .ref (a 11), .int (Z 0), .int (Z 1)]))]] [hm_row g (a 3) (a 4) 101 (R 1), hm_row g (a 5) (a 6) 30 (R 2), hm_row g (a 7) (a 8) 30 (R 3), hm_row g (a 9) (a 10) 30 (R 4), hm_row g (a 11) (a 12) 30 (R 5)]) (hm_mid [[(a 0, .inr (5, [.ref (a 1), .ref (a 3), .ref (a 5), .ref (a 7), .ref (a 9), .ref (a 11), .int (Z 0), .int (Z 1)]))]] [hm_row g (a 3) (a 4) 101 (R 1), hm_row g (a 5) (a 6) 30 (R 2), hm_row g (a 7) (a 8) 30 (R 3), hm_row g (a 9) (a 10) 30 (R 4), hm_row g (a 11) (a 12) 30 (R 5)] (b := hm_row g (a 1) (a 2) 100 (R 0))) rfl rfl rfl ⟨rfl, rfl, Nat.le_of_ble_eq_true rfl, Nat.le_of_ble_eq_true rfl⟩ rfl hl.1 rfl (Nat.le_of_ble_eq_true rfl) dX5_lineCount_4 ⟨Nat.zero_le _, Nat.zero_le _⟩ (fun H locs X => ?_)
  have X := X.to (ws' := ([[(a 0, .inr (5, [.ref (a 1), .ref (a 3), .ref (a 5), .ref (a 7), .ref (a 9), .ref (a 11), .int (Z 0), .int (Z 1)]))], hm_row g (a 1) (a 2) 100 (R 0), hm_row g (a 3) (a 4) 101 (R 1), hm_row g (a 5) (a 6) 30 (R 2), hm_row g (a 7) (a 8) 30 (R 3), hm_row g (a 9) (a 10) 30 (R 4), hm_row g (a 11) (a 12) 30 (R 5)] : List va_W).flatten) rfl
  obtain rfl := Option.some.inj hF
  exact hm_ri S hr hlk X rfl rfl dX5_lineCount_7
def f_X5_meet (R_2 : hm_SR) (R_3 : hm_SR) (x0 : Int32) (x1 : Int32)  : Option (Int32) :=
  (f_X2_get 30 R_2 x0).bind fun t1 =>
  (f_X2_get 30 R_3 x1).bind fun t2 =>
  if t2 ≤ t1 then (
  some (0))
  else (
  (f_X2_get 30 R_2 x1).bind fun t3 =>
  (f_X2_get 30 R_3 x0).bind fun t4 =>
  if t4 ≤ t3 then (
  some (0))
  else (
  some (1)))
abbrev rm_X5_meet : Room := { frames := 1, cells := 0, slots := 0, locals := 21 }
set_option maxHeartbeats 4000000 in
set_option maxRecDepth 100000 in
theorem c_X5_meet (l : Launch) (g : hm_G) (a : Nat → Nat) (R : Nat → hm_SR) (Z : Nat → Int32) (x0 : Int32) (x1 : Int32) (q : Int32) (hF : f_X5_meet (R 2) (R 3) x0 x1 = some q) : hm_Mi l yX5_meet (Cond.code yX5_meet cX5_meet 3 (some .boolean) :: hm_W) rm_X5_meet g [.ref (a 0), .int x0, .int x1] ([hm_wSh g a R Z] : List va_W).flatten ([hm_wSh g a R Z] : List va_W).flatten q := by
  refine hm_ofi [(0, .ref (a 0)), (1, .int x0), (2, .int x1)] (by decide) (own := RX5) rfl (Nat.le_of_ble_eq_true rfl) rfl rfl ?_
  intro p e s m args below meth c AA S hr hlk X ls hl
  have hx := S.1
  have hb := S.2.1
  have hown := S.2.2.2.1
  have hts := S.2.2.2.2
  have X := X.to (ws' := ([[(a 0, .inr (5, [.ref (a 1), .ref (a 3), .ref (a 5), .ref (a 7), .ref (a 9), .ref (a 11), .int (Z 0), .int (Z 1)]))], hm_row g (a 1) (a 2) 100 (R 0), hm_row g (a 3) (a 4) 101 (R 1), hm_row g (a 5) (a 6) 30 (R 2), hm_row g (a 7) (a 8) 30 (R 3), hm_row g (a 9) (a 10) 30 (R 4), hm_row g (a 11) (a 12) 30 (R 5)] : List va_W).flatten) rfl
  unfold f_X5_meet at hF
  refine lv_aload_n hx hb dX5_meet_0 rfl (lv_at hl 0 rfl) ?_
  refine hm_get S X hf_X5_23 0 rfl rfl dX5_meet_1 ?_
  refine lv_iload_n hx hb dX5_meet_4 rfl (lv_at hl 1 rfl) ?_
  obtain ⟨t1, ht1, hF⟩ := hm_bd hF
  refine hm_vi (As := [.int x0]) S X mw_X2_get hw_3_105 (c_X2_get l g (a 5) (a 6) 30 (R 2) x0 t1 ht1) (hm_mid [[(a 0, .inr (5, [.ref (a 1), .ref (a 3), .ref (a 5), .ref (a 7), .ref (a 9), .ref (a 11), .int (Z 0), .int (Z 1)]))], hm_row g (a 1) (a 2) 100 (R 0), hm_row g (a 3) (a 4) 101 (R 1)] [hm_row g (a 7) (a 8) 30 (R 3), hm_row g (a 9) (a 10) 30 (R 4), hm_row g (a 11) (a 12) 30 (R 5)]) (hm_mid [[(a 0, .inr (5, [.ref (a 1), .ref (a 3), .ref (a 5), .ref (a 7), .ref (a 9), .ref (a 11), .int (Z 0), .int (Z 1)]))], hm_row g (a 1) (a 2) 100 (R 0), hm_row g (a 3) (a 4) 101 (R 1)] [hm_row g (a 7) (a 8) 30 (R 3), hm_row g (a 9) (a 10) 30 (R 4), hm_row g (a 11) (a 12) 30 (R 5)] (b := hm_row g (a 5) (a 6) 30 (R 2))) rfl rfl rfl ⟨rfl, rfl, Nat.le_of_ble_eq_true rfl, Nat.le_of_ble_eq_true rfl⟩ rfl hl.1 rfl (Nat.le_of_ble_eq_true rfl) dX5_meet_5 ⟨Nat.zero_le _, Nat.zero_le _⟩ (fun H locs X => ?_)
  have X := X.to (ws' := ([[(a 0, .inr (5, [.ref (a 1), .ref (a 3), .ref (a 5), .ref (a 7), .ref (a 9), .ref (a 11), .int (Z 0), .int (Z 1)]))], hm_row g (a 1) (a 2) 100 (R 0), hm_row g (a 3) (a 4) 101 (R 1), hm_row g (a 5) (a 6) 30 (R 2), hm_row g (a 7) (a 8) 30 (R 3), hm_row g (a 9) (a 10) 30 (R 4), hm_row g (a 11) (a 12) 30 (R 5)] : List va_W).flatten) rfl
  refine lv_aload_n hx hb dX5_meet_8 rfl (lv_at hl 0 rfl) ?_
  refine hm_get S X hf_X5_26 0 rfl rfl dX5_meet_9 ?_
  refine lv_iload_n hx hb dX5_meet_12 rfl (lv_at hl 2 rfl) ?_
  obtain ⟨t2, ht2, hF⟩ := hm_bd hF
  refine hm_vi (As := [.int x1]) S X mw_X2_get hw_3_105 (c_X2_get l g (a 7) (a 8) 30 (R 3) x1 t2 ht2) (hm_mid [[(a 0, .inr (5, [.ref (a 1), .ref (a 3), .ref (a 5), .ref (a 7), .ref (a 9), .ref (a 11), .int (Z 0), .int (Z 1)]))], hm_row g (a 1) (a 2) 100 (R 0), hm_row g (a 3) (a 4) 101 (R 1), hm_row g (a 5) (a 6) 30 (R 2)] [hm_row g (a 9) (a 10) 30 (R 4), hm_row g (a 11) (a 12) 30 (R 5)]) (hm_mid [[(a 0, .inr (5, [.ref (a 1), .ref (a 3), .ref (a 5), .ref (a 7), .ref (a 9), .ref (a 11), .int (Z 0), .int (Z 1)]))], hm_row g (a 1) (a 2) 100 (R 0), hm_row g (a 3) (a 4) 101 (R 1), hm_row g (a 5) (a 6) 30 (R 2)] [hm_row g (a 9) (a 10) 30 (R 4), hm_row g (a 11) (a 12) 30 (R 5)] (b := hm_row g (a 7) (a 8) 30 (R 3))) rfl rfl rfl ⟨rfl, rfl, Nat.le_of_ble_eq_true rfl, Nat.le_of_ble_eq_true rfl⟩ rfl hl.1 rfl (Nat.le_of_ble_eq_true rfl) dX5_meet_13 ⟨Nat.zero_le _, Nat.zero_le _⟩ (fun H locs X => ?_)
  have X := X.to (ws' := ([[(a 0, .inr (5, [.ref (a 1), .ref (a 3), .ref (a 5), .ref (a 7), .ref (a 9), .ref (a 11), .int (Z 0), .int (Z 1)]))], hm_row g (a 1) (a 2) 100 (R 0), hm_row g (a 3) (a 4) 101 (R 1), hm_row g (a 5) (a 6) 30 (R 2), hm_row g (a 7) (a 8) 30 (R 3), hm_row g (a 9) (a 10) 30 (R 4), hm_row g (a 11) (a 12) 30 (R 5)] : List va_W).flatten) rfl
  refine lv_icmp_ge (tgt := 42) hx hb dX5_meet_16 (by decide) (fun c16 => ?_) (fun c16 => ?_)
  · have hF := hm_if hF c16
    refine lv_iconst (v := 0) hx hb dX5_meet_42 (by decide) ?_
    obtain rfl := Option.some.inj hF
    exact hm_rz S hr hlk X rfl rfl (Or.inl rfl) dX5_meet_43
  · have hF := hm_nf hF c16
    refine lv_aload_n hx hb dX5_meet_19 rfl (lv_at hl 0 rfl) ?_
    refine hm_get S X hf_X5_23 0 rfl rfl dX5_meet_20 ?_
    refine lv_iload_n hx hb dX5_meet_23 rfl (lv_at hl 2 rfl) ?_
    obtain ⟨t3, ht3, hF⟩ := hm_bd hF
    refine hm_vi (As := [.int x1]) S X mw_X2_get hw_3_105 (c_X2_get l g (a 5) (a 6) 30 (R 2) x1 t3 ht3) (hm_mid [[(a 0, .inr (5, [.ref (a 1), .ref (a 3), .ref (a 5), .ref (a 7), .ref (a 9), .ref (a 11), .int (Z 0), .int (Z 1)]))], hm_row g (a 1) (a 2) 100 (R 0), hm_row g (a 3) (a 4) 101 (R 1)] [hm_row g (a 7) (a 8) 30 (R 3), hm_row g (a 9) (a 10) 30 (R 4), hm_row g (a 11) (a 12) 30 (R 5)]) (hm_mid [[(a 0, .inr (5, [.ref (a 1), .ref (a 3), .ref (a 5), .ref (a 7), .ref (a 9), .ref (a 11), .int (Z 0), .int (Z 1)]))], hm_row g (a 1) (a 2) 100 (R 0), hm_row g (a 3) (a 4) 101 (R 1)] [hm_row g (a 7) (a 8) 30 (R 3), hm_row g (a 9) (a 10) 30 (R 4), hm_row g (a 11) (a 12) 30 (R 5)] (b := hm_row g (a 5) (a 6) 30 (R 2))) rfl rfl rfl ⟨rfl, rfl, Nat.le_of_ble_eq_true rfl, Nat.le_of_ble_eq_true rfl⟩ rfl hl.1 rfl (Nat.le_of_ble_eq_true rfl) dX5_meet_24 ⟨Nat.zero_le _, Nat.zero_le _⟩ (fun H locs X => ?_)
    have X := X.to (ws' := ([[(a 0, .inr (5, [.ref (a 1), .ref (a 3), .ref (a 5), .ref (a 7), .ref (a 9), .ref (a 11), .int (Z 0), .int (Z 1)]))], hm_row g (a 1) (a 2) 100 (R 0), hm_row g (a 3) (a 4) 101 (R 1), hm_row g (a 5) (a 6) 30 (R 2), hm_row g (a 7) (a 8) 30 (R 3), hm_row g (a 9) (a 10) 30 (R 4), hm_row g (a 11) (a 12) 30 (R 5)] : List va_W).flatten) rfl
    refine lv_aload_n hx hb dX5_meet_27 rfl (lv_at hl 0 rfl) ?_
    refine hm_get S X hf_X5_26 0 rfl rfl dX5_meet_28 ?_
    refine lv_iload_n hx hb dX5_meet_31 rfl (lv_at hl 1 rfl) ?_
    obtain ⟨t4, ht4, hF⟩ := hm_bd hF
    refine hm_vi (As := [.int x0]) S X mw_X2_get hw_3_105 (c_X2_get l g (a 7) (a 8) 30 (R 3) x0 t4 ht4) (hm_mid [[(a 0, .inr (5, [.ref (a 1), .ref (a 3), .ref (a 5), .ref (a 7), .ref (a 9), .ref (a 11), .int (Z 0), .int (Z 1)]))], hm_row g (a 1) (a 2) 100 (R 0), hm_row g (a 3) (a 4) 101 (R 1), hm_row g (a 5) (a 6) 30 (R 2)] [hm_row g (a 9) (a 10) 30 (R 4), hm_row g (a 11) (a 12) 30 (R 5)]) (hm_mid [[(a 0, .inr (5, [.ref (a 1), .ref (a 3), .ref (a 5), .ref (a 7), .ref (a 9), .ref (a 11), .int (Z 0), .int (Z 1)]))], hm_row g (a 1) (a 2) 100 (R 0), hm_row g (a 3) (a 4) 101 (R 1), hm_row g (a 5) (a 6) 30 (R 2)] [hm_row g (a 9) (a 10) 30 (R 4), hm_row g (a 11) (a 12) 30 (R 5)] (b := hm_row g (a 7) (a 8) 30 (R 3))) rfl rfl rfl ⟨rfl, rfl, Nat.le_of_ble_eq_true rfl, Nat.le_of_ble_eq_true rfl⟩ rfl hl.1 rfl (Nat.le_of_ble_eq_true rfl) dX5_meet_32 ⟨Nat.zero_le _, Nat.zero_le _⟩ (fun H locs X => ?_)
    have X := X.to (ws' := ([[(a 0, .inr (5, [.ref (a 1), .ref (a 3), .ref (a 5), .ref (a 7), .ref (a 9), .ref (a 11), .int (Z 0), .int (Z 1)]))], hm_row g (a 1) (a 2) 100 (R 0), hm_row g (a 3) (a 4) 101 (R 1), hm_row g (a 5) (a 6) 30 (R 2), hm_row g (a 7) (a 8) 30 (R 3), hm_row g (a 9) (a 10) 30 (R 4), hm_row g (a 11) (a 12) 30 (R 5)] : List va_W).flatten) rfl
    refine lv_icmp_ge (tgt := 42) hx hb dX5_meet_35 (by decide) (fun c35 => ?_) (fun c35 => ?_)
    · have hF := hm_if hF c35
      refine lv_iconst (v := 0) hx hb dX5_meet_42 (by decide) ?_
      obtain rfl := Option.some.inj hF
      exact hm_rz S hr hlk X rfl rfl (Or.inl rfl) dX5_meet_43
    · have hF := hm_nf hF c35
      refine lv_iconst (v := 1) hx hb dX5_meet_38 (by decide) ?_
      refine lv_goto (tgt := 43) hx hb dX5_meet_39 (by decide) ?_
      obtain rfl := Option.some.inj hF
      exact hm_rz S hr hlk X rfl rfl (Or.inr rfl) dX5_meet_43
def f_X5_longestMet_l51 (J12 : Int32 → Int32 → Option (Int32)) (v3 : Int32) (v4 : Int32) : Option (Int32) :=
  J12 v3 (v4 + 1)
def f_X5_longestMet_l12 (R_1 : hm_SR) (R_2 : hm_SR) (R_3 : hm_SR) (R_4 : hm_SR) (x0 : Int32) (x1 : Int32) : Nat → Int32 → Int32 → Option (Int32)
  | 0, _, _ => none
  | k + 1, v3, v4 =>
  (f_X2_get 101 R_1 (x1 + 1)).bind fun t2 =>
  if t2 ≤ v4 then (
  some (v3))
  else (
  (f_X5_meet R_2 R_3 x0 v4).bind fun t3 =>
  if t3 = 0 then (
  f_X5_longestMet_l51 (fun zv3 zv4 => f_X5_longestMet_l12 R_1 R_2 R_3 R_4 x0 x1 k zv3 zv4) v3 v4)
  else (
  (f_X2_get 30 R_4 v4).bind fun t4 =>
  f_X5_longestMet_l51 (fun zv3 zv4 => f_X5_longestMet_l12 R_1 R_2 R_3 R_4 x0 x1 k zv3 zv4) (if v3 < t4 then t4 else v3) v4))
theorem f_X5_longestMet_l12_s (R_1 : hm_SR) (R_2 : hm_SR) (R_3 : hm_SR) (R_4 : hm_SR) (x0 : Int32) (x1 : Int32) (k : Nat) (v3 : Int32) (v4 : Int32) : f_X5_longestMet_l12 R_1 R_2 R_3 R_4 x0 x1 (k + 1) v3 v4 =
  (f_X2_get 101 R_1 (x1 + 1)).bind fun t2 =>
  if t2 ≤ v4 then (
  some (v3))
  else (
  (f_X5_meet R_2 R_3 x0 v4).bind fun t3 =>
  if t3 = 0 then (
  f_X5_longestMet_l51 (fun zv3 zv4 => f_X5_longestMet_l12 R_1 R_2 R_3 R_4 x0 x1 k zv3 zv4) v3 v4)
  else (
  (f_X2_get 30 R_4 v4).bind fun t4 =>
  f_X5_longestMet_l51 (fun zv3 zv4 => f_X5_longestMet_l12 R_1 R_2 R_3 R_4 x0 x1 k zv3 zv4) (if v3 < t4 then t4 else v3) v4)) := rfl
theorem f_X5_longestMet_l12_z (R_1 : hm_SR) (R_2 : hm_SR) (R_3 : hm_SR) (R_4 : hm_SR) (x0 : Int32) (x1 : Int32) (v3 : Int32) (v4 : Int32) : f_X5_longestMet_l12 R_1 R_2 R_3 R_4 x0 x1 0 v3 v4 = none := rfl
def f_X5_longestMet (R_1 : hm_SR) (R_2 : hm_SR) (R_3 : hm_SR) (R_4 : hm_SR) (x0 : Int32) (x1 : Int32)  : Option (Int32) :=
  (f_X2_get 101 R_1 x1).bind fun t1 =>
  f_X5_longestMet_l12 R_1 R_2 R_3 R_4 x0 x1 hm_fu 0 t1
abbrev rm_X5_longestMet : Room := { frames := 2, cells := 0, slots := 0, locals := 43 }
set_option maxHeartbeats 4000000 in
set_option maxRecDepth 100000 in
theorem c_X5_longestMet (l : Launch) (g : hm_G) (a : Nat → Nat) (R : Nat → hm_SR) (Z : Nat → Int32) (x0 : Int32) (x1 : Int32) (q : Int32) (hF : f_X5_longestMet (R 1) (R 2) (R 3) (R 4) x0 x1 = some q) : hm_Mi l yX5_longestMet (Cond.code yX5_longestMet cX5_longestMet 5 (some .int) :: hm_W) rm_X5_longestMet g [.ref (a 0), .int x0, .int x1] ([hm_wSh g a R Z] : List va_W).flatten ([hm_wSh g a R Z] : List va_W).flatten q := by
  refine hm_ofi [(0, .ref (a 0)), (1, .int x0), (2, .int x1)] (by decide) (own := RX5) rfl (Nat.le_of_ble_eq_true rfl) rfl rfl ?_
  intro p e s m args below meth c AA S hr hlk X ls hl
  have hx := S.1
  have hb := S.2.1
  have hown := S.2.2.2.1
  have hts := S.2.2.2.2
  have X := X.to (ws' := ([[(a 0, .inr (5, [.ref (a 1), .ref (a 3), .ref (a 5), .ref (a 7), .ref (a 9), .ref (a 11), .int (Z 0), .int (Z 1)]))], hm_row g (a 1) (a 2) 100 (R 0), hm_row g (a 3) (a 4) 101 (R 1), hm_row g (a 5) (a 6) 30 (R 2), hm_row g (a 7) (a 8) 30 (R 3), hm_row g (a 9) (a 10) 30 (R 4), hm_row g (a 11) (a 12) 30 (R 5)] : List va_W).flatten) rfl
  have hl12 : ∀ (k12 : Nat) (v3 : Int32) (v4 : Int32), f_X5_longestMet_l12 (R 1) (R 2) (R 3) (R 4) x0 x1 k12 v3 v4 = some q → ∀ (H : Heap) (locs : List Loc), hm_X g AA s H locs ([[(a 0, .inr (5, [.ref (a 1), .ref (a 3), .ref (a 5), .ref (a 7), .ref (a 9), .ref (a 11), .int (Z 0), .int (Z 1)]))], hm_row g (a 1) (a 2) 100 (R 0), hm_row g (a 3) (a 4) 101 (R 1), hm_row g (a 5) (a 6) 30 (R 2), hm_row g (a 7) (a 8) 30 (R 3), hm_row g (a 9) (a 10) 30 (R 4), hm_row g (a 11) (a 12) 30 (R 5)] : List va_W).flatten → ∀ ls : Array Slot, lv_has ls 5 [(0, .ref (a 0)), (1, .int x0), (2, .int x1), (3, .int v3), (4, .int v4)] → W p l e rm_X5_longestMet s m args below meth c H locs 0 0 (MQ below (hm_Qi g AA ([hm_wSh g a R Z] : List va_W).flatten q) args s 0 0 AA) (F0 m 12 ls []) := by
    intro k12
    induction k12 with
    | zero =>
      intro v3 v4 hF
      rw [f_X5_longestMet_l12_z] at hF
      cases hF
    | succ k12 ih12 =>
      have hl51 : ∀ (v3 : Int32) (v4 : Int32), f_X5_longestMet_l51 (fun zv3 zv4 => f_X5_longestMet_l12 (R 1) (R 2) (R 3) (R 4) x0 x1 k12 zv3 zv4) v3 v4 = some q → ∀ (H : Heap) (locs : List Loc), hm_X g AA s H locs ([[(a 0, .inr (5, [.ref (a 1), .ref (a 3), .ref (a 5), .ref (a 7), .ref (a 9), .ref (a 11), .int (Z 0), .int (Z 1)]))], hm_row g (a 1) (a 2) 100 (R 0), hm_row g (a 3) (a 4) 101 (R 1), hm_row g (a 5) (a 6) 30 (R 2), hm_row g (a 7) (a 8) 30 (R 3), hm_row g (a 9) (a 10) 30 (R 4), hm_row g (a 11) (a 12) 30 (R 5)] : List va_W).flatten → ∀ ls : Array Slot, lv_has ls 5 [(0, .ref (a 0)), (1, .int x0), (2, .int x1), (3, .int v3), (4, .int v4)] → W p l e rm_X5_longestMet s m args below meth c H locs 0 0 (MQ below (hm_Qi g AA ([hm_wSh g a R Z] : List va_W).flatten q) args s 0 0 AA) (F0 m 51 ls []) := by
        intro v3 v4 hF H locs X ls hl
        unfold f_X5_longestMet_l51 at hF
        refine lv_iinc (v := (v4 + 1)) (lv' := [(4, .int (v4 + 1)), (0, .ref (a 0)), (1, .int x0), (2, .int x1), (3, .int v3)]) hx hb dX5_longestMet_51 hl (k := 4) rfl rfl (by decide) rfl (fun ls hl => ?_)
        refine lv_goto (tgt := 12) hx hb dX5_longestMet_54 (by decide) ?_
        exact ih12 v3 (v4 + 1) hF _ _ X _ (lv_sub hl [1, 2, 3, 4, 0] rfl)
      intro v3 v4 hF H locs X ls hl
      rw [f_X5_longestMet_l12_s] at hF
      refine lv_iload hx hb dX5_longestMet_12 (lv_at hl 4 rfl) ?_
      refine lv_aload_n hx hb dX5_longestMet_14 rfl (lv_at hl 0 rfl) ?_
      refine hm_get S X hf_X5_20 0 rfl rfl dX5_longestMet_15 ?_
      refine lv_iload_n hx hb dX5_longestMet_18 rfl (lv_at hl 2 rfl) ?_
      refine lv_iconst (v := 1) hx hb dX5_longestMet_19 (by decide) ?_
      refine lv_iadd hx hb dX5_longestMet_20 ?_
      obtain ⟨t2, ht2, hF⟩ := hm_bd hF
      refine hm_vi (As := [.int (x1 + 1)]) S X mw_X2_get hw_3_105 (c_X2_get l g (a 3) (a 4) 101 (R 1) (x1 + 1) t2 ht2) (hm_mid [[(a 0, .inr (5, [.ref (a 1), .ref (a 3), .ref (a 5), .ref (a 7), .ref (a 9), .ref (a 11), .int (Z 0), .int (Z 1)]))], hm_row g (a 1) (a 2) 100 (R 0)] [hm_row g (a 5) (a 6) 30 (R 2), hm_row g (a 7) (a 8) 30 (R 3), hm_row g (a 9) (a 10) 30 (R 4), hm_row g (a 11) (a 12) 30 (R 5)]) (hm_mid [[(a 0, .inr (5, [.ref (a 1), .ref (a 3), .ref (a 5), .ref (a 7), .ref (a 9), .ref (a 11), .int (Z 0), .int (Z 1)]))], hm_row g (a 1) (a 2) 100 (R 0)] [hm_row g (a 5) (a 6) 30 (R 2), hm_row g (a 7) (a 8) 30 (R 3), hm_row g (a 9) (a 10) 30 (R 4), hm_row g (a 11) (a 12) 30 (R 5)] (b := hm_row g (a 3) (a 4) 101 (R 1))) rfl rfl rfl ⟨rfl, rfl, Nat.le_of_ble_eq_true rfl, Nat.le_of_ble_eq_true rfl⟩ rfl hl.1 rfl (Nat.le_of_ble_eq_true rfl) dX5_longestMet_21 ⟨Nat.zero_le _, Nat.zero_le _⟩ (fun H locs X => ?_)
      have X := X.to (ws' := ([[(a 0, .inr (5, [.ref (a 1), .ref (a 3), .ref (a 5), .ref (a 7), .ref (a 9), .ref (a 11), .int (Z 0), .int (Z 1)]))], hm_row g (a 1) (a 2) 100 (R 0), hm_row g (a 3) (a 4) 101 (R 1), hm_row g (a 5) (a 6) 30 (R 2), hm_row g (a 7) (a 8) 30 (R 3), hm_row g (a 9) (a 10) 30 (R 4), hm_row g (a 11) (a 12) 30 (R 5)] : List va_W).flatten) rfl
      refine lv_icmp_ge (tgt := 57) hx hb dX5_longestMet_24 (by decide) (fun c24 => ?_) (fun c24 => ?_)
      · have hF := hm_if hF c24
        refine lv_iload_n hx hb dX5_longestMet_57 rfl (lv_at hl 3 rfl) ?_
        obtain rfl := Option.some.inj hF
        exact hm_ri S hr hlk X rfl rfl dX5_longestMet_58
      · have hF := hm_nf hF c24
        refine lv_aload_n hx hb dX5_longestMet_27 rfl (lv_at hl 0 rfl) ?_
        refine lv_iload_n hx hb dX5_longestMet_28 rfl (lv_at hl 1 rfl) ?_
        refine lv_iload hx hb dX5_longestMet_29 (lv_at hl 4 rfl) ?_
        obtain ⟨t3, ht3, hF⟩ := hm_bd hF
        refine hm_vi (As := [.int x0, .int v4]) S X mw_X5_meet hw_3_110 (c_X5_meet l g a R Z x0 v4 t3 ht3) (hm_cq (n := 7) [0, 1, 2, 3, 4, 5, 6] [] rfl (by decide +kernel) rfl rfl) (hm_cq (bs := [[(a 0, .inr (5, [.ref (a 1), .ref (a 3), .ref (a 5), .ref (a 7), .ref (a 9), .ref (a 11), .int (Z 0), .int (Z 1)]))], hm_row g (a 1) (a 2) 100 (R 0), hm_row g (a 3) (a 4) 101 (R 1), hm_row g (a 5) (a 6) 30 (R 2), hm_row g (a 7) (a 8) 30 (R 3), hm_row g (a 9) (a 10) 30 (R 4), hm_row g (a 11) (a 12) 30 (R 5)]) (n := 7) [0, 1, 2, 3, 4, 5, 6] [] rfl (by decide +kernel) rfl rfl) rfl rfl rfl ⟨rfl, rfl, Nat.le_of_ble_eq_true rfl, Nat.le_of_ble_eq_true rfl⟩ rfl hl.1 rfl (Nat.le_of_ble_eq_true rfl) dX5_longestMet_31 ⟨Nat.zero_le _, Nat.zero_le _⟩ (fun H locs X => ?_)
        have X := X.to (ws' := ([[(a 0, .inr (5, [.ref (a 1), .ref (a 3), .ref (a 5), .ref (a 7), .ref (a 9), .ref (a 11), .int (Z 0), .int (Z 1)]))], hm_row g (a 1) (a 2) 100 (R 0), hm_row g (a 3) (a 4) 101 (R 1), hm_row g (a 5) (a 6) 30 (R 2), hm_row g (a 7) (a 8) 30 (R 3), hm_row g (a 9) (a 10) 30 (R 4), hm_row g (a 11) (a 12) 30 (R 5)] : List va_W).flatten) rfl
        refine lv_if_eq (tgt := 51) hx hb dX5_longestMet_34 (by decide) (fun c34 => ?_) (fun c34 => ?_)
        · have hF := hm_if hF c34
          exact hl51 v3 v4 hF _ _ X _ (lv_sub hl [0, 1, 2, 3, 4] rfl)
        · have hF := hm_nf hF c34
          refine lv_iload_n hx hb dX5_longestMet_37 rfl (lv_at hl 3 rfl) ?_
          refine lv_aload_n hx hb dX5_longestMet_38 rfl (lv_at hl 0 rfl) ?_
          refine hm_get S X hf_X5_29 0 rfl rfl dX5_longestMet_39 ?_
          refine lv_iload hx hb dX5_longestMet_42 (lv_at hl 4 rfl) ?_
          obtain ⟨t4, ht4, hF⟩ := hm_bd hF
          refine hm_vi (As := [.int v4]) S X mw_X2_get hw_3_105 (c_X2_get l g (a 9) (a 10) 30 (R 4) v4 t4 ht4) (hm_mid [[(a 0, .inr (5, [.ref (a 1), .ref (a 3), .ref (a 5), .ref (a 7), .ref (a 9), .ref (a 11), .int (Z 0), .int (Z 1)]))], hm_row g (a 1) (a 2) 100 (R 0), hm_row g (a 3) (a 4) 101 (R 1), hm_row g (a 5) (a 6) 30 (R 2), hm_row g (a 7) (a 8) 30 (R 3)] [hm_row g (a 11) (a 12) 30 (R 5)]) (hm_mid [[(a 0, .inr (5, [.ref (a 1), .ref (a 3), .ref (a 5), .ref (a 7), .ref (a 9), .ref (a 11), .int (Z 0), .int (Z 1)]))], hm_row g (a 1) (a 2) 100 (R 0), hm_row g (a 3) (a 4) 101 (R 1), hm_row g (a 5) (a 6) 30 (R 2), hm_row g (a 7) (a 8) 30 (R 3)] [hm_row g (a 11) (a 12) 30 (R 5)] (b := hm_row g (a 9) (a 10) 30 (R 4))) rfl rfl rfl ⟨rfl, rfl, Nat.le_of_ble_eq_true rfl, Nat.le_of_ble_eq_true rfl⟩ rfl hl.1 rfl (Nat.le_of_ble_eq_true rfl) dX5_longestMet_44 ⟨Nat.zero_le _, Nat.zero_le _⟩ (fun H locs X => ?_)
          have X := X.to (ws' := ([[(a 0, .inr (5, [.ref (a 1), .ref (a 3), .ref (a 5), .ref (a 7), .ref (a 9), .ref (a 11), .int (Z 0), .int (Z 1)]))], hm_row g (a 1) (a 2) 100 (R 0), hm_row g (a 3) (a 4) 101 (R 1), hm_row g (a 5) (a 6) 30 (R 2), hm_row g (a 7) (a 8) 30 (R 3), hm_row g (a 9) (a 10) 30 (R 4), hm_row g (a 11) (a 12) 30 (R 5)] : List va_W).flatten) rfl
          refine hm_mmax S hl.1 hw_3_114 (Nat.le_of_ble_eq_true rfl) (Nat.le_of_ble_eq_true rfl) (Nat.zero_le _) (Nat.zero_le _) dX5_longestMet_47 ?_
          refine lv_istore_n (lv' := [(3, .int (if v3 < t4 then t4 else v3)), (0, .ref (a 0)), (1, .int x0), (2, .int x1), (4, .int v4)]) hx hb dX5_longestMet_50 rfl hl (by decide) rfl (fun ls hl => ?_)
          exact hl51 (if v3 < t4 then t4 else v3) v4 hF _ _ X _ (lv_sub hl [1, 2, 3, 0, 4] rfl)
  unfold f_X5_longestMet at hF
  refine lv_iconst (v := 0) hx hb dX5_longestMet_0 (by decide) ?_
  refine lv_istore_n (lv' := [(3, .int 0), (0, .ref (a 0)), (1, .int x0), (2, .int x1)]) hx hb dX5_longestMet_1 rfl hl (by decide) rfl (fun ls hl => ?_)
  refine lv_aload_n hx hb dX5_longestMet_2 rfl (lv_at hl 1 rfl) ?_
  refine hm_get S X hf_X5_20 0 rfl rfl dX5_longestMet_3 ?_
  refine lv_iload_n hx hb dX5_longestMet_6 rfl (lv_at hl 3 rfl) ?_
  obtain ⟨t1, ht1, hF⟩ := hm_bd hF
  refine hm_vi (As := [.int x1]) S X mw_X2_get hw_3_105 (c_X2_get l g (a 3) (a 4) 101 (R 1) x1 t1 ht1) (hm_mid [[(a 0, .inr (5, [.ref (a 1), .ref (a 3), .ref (a 5), .ref (a 7), .ref (a 9), .ref (a 11), .int (Z 0), .int (Z 1)]))], hm_row g (a 1) (a 2) 100 (R 0)] [hm_row g (a 5) (a 6) 30 (R 2), hm_row g (a 7) (a 8) 30 (R 3), hm_row g (a 9) (a 10) 30 (R 4), hm_row g (a 11) (a 12) 30 (R 5)]) (hm_mid [[(a 0, .inr (5, [.ref (a 1), .ref (a 3), .ref (a 5), .ref (a 7), .ref (a 9), .ref (a 11), .int (Z 0), .int (Z 1)]))], hm_row g (a 1) (a 2) 100 (R 0)] [hm_row g (a 5) (a 6) 30 (R 2), hm_row g (a 7) (a 8) 30 (R 3), hm_row g (a 9) (a 10) 30 (R 4), hm_row g (a 11) (a 12) 30 (R 5)] (b := hm_row g (a 3) (a 4) 101 (R 1))) rfl rfl rfl ⟨rfl, rfl, Nat.le_of_ble_eq_true rfl, Nat.le_of_ble_eq_true rfl⟩ rfl hl.1 rfl (Nat.le_of_ble_eq_true rfl) dX5_longestMet_7 ⟨Nat.zero_le _, Nat.zero_le _⟩ (fun H locs X => ?_)
  have X := X.to (ws' := ([[(a 0, .inr (5, [.ref (a 1), .ref (a 3), .ref (a 5), .ref (a 7), .ref (a 9), .ref (a 11), .int (Z 0), .int (Z 1)]))], hm_row g (a 1) (a 2) 100 (R 0), hm_row g (a 3) (a 4) 101 (R 1), hm_row g (a 5) (a 6) 30 (R 2), hm_row g (a 7) (a 8) 30 (R 3), hm_row g (a 9) (a 10) 30 (R 4), hm_row g (a 11) (a 12) 30 (R 5)] : List va_W).flatten) rfl
  refine lv_istore (lv' := [(4, .int t1), (3, .int 0), (0, .ref (a 0)), (1, .int x0), (2, .int x1)]) hx hb dX5_longestMet_10 hl (by decide) rfl (fun ls hl => ?_)
  exact hl12 hm_fu 0 t1 hF _ _ X _ (lv_sub hl [2, 3, 4, 1, 0] rfl)
def f_X5_meetsAny_l15 (R_1 : hm_SR) (R_2 : hm_SR) (R_3 : hm_SR) (x0 : Int32) (x1 : Int32) : Nat → Int32 → Option (Int32)
  | 0, _ => none
  | k + 1, v3 =>
  (f_X2_get 101 R_1 (x1 + 1)).bind fun t2 =>
  if t2 ≤ v3 then (
  some (0))
  else (
  (f_X5_meet R_2 R_3 x0 v3).bind fun t3 =>
  if t3 = 0 then (
  f_X5_meetsAny_l15 R_1 R_2 R_3 x0 x1 k (v3 + 1))
  else (
  some (1)))
theorem f_X5_meetsAny_l15_s (R_1 : hm_SR) (R_2 : hm_SR) (R_3 : hm_SR) (x0 : Int32) (x1 : Int32) (k : Nat) (v3 : Int32) : f_X5_meetsAny_l15 R_1 R_2 R_3 x0 x1 (k + 1) v3 =
  (f_X2_get 101 R_1 (x1 + 1)).bind fun t2 =>
  if t2 ≤ v3 then (
  some (0))
  else (
  (f_X5_meet R_2 R_3 x0 v3).bind fun t3 =>
  if t3 = 0 then (
  f_X5_meetsAny_l15 R_1 R_2 R_3 x0 x1 k (v3 + 1))
  else (
  some (1))) := rfl
theorem f_X5_meetsAny_l15_z (R_1 : hm_SR) (R_2 : hm_SR) (R_3 : hm_SR) (x0 : Int32) (x1 : Int32) (v3 : Int32) : f_X5_meetsAny_l15 R_1 R_2 R_3 x0 x1 0 v3 = none := rfl
def f_X5_meetsAny (R_1 : hm_SR) (R_2 : hm_SR) (R_3 : hm_SR) (x0 : Int32) (x1 : Int32)  : Option (Int32) :=
  if (0 : Int32) ≤ x1 then (
  (f_X2_get 101 R_1 x1).bind fun t1 =>
  f_X5_meetsAny_l15 R_1 R_2 R_3 x0 x1 hm_fu t1)
  else (
  some (0))
abbrev rm_X5_meetsAny : Room := { frames := 2, cells := 0, slots := 0, locals := 43 }
set_option maxHeartbeats 4000000 in
set_option maxRecDepth 100000 in
theorem c_X5_meetsAny (l : Launch) (g : hm_G) (a : Nat → Nat) (R : Nat → hm_SR) (Z : Nat → Int32) (x0 : Int32) (x1 : Int32) (q : Int32) (hF : f_X5_meetsAny (R 1) (R 2) (R 3) x0 x1 = some q) : hm_Mi l yX5_meetsAny (Cond.code yX5_meetsAny cX5_meetsAny 4 (some .boolean) :: hm_W) rm_X5_meetsAny g [.ref (a 0), .int x0, .int x1] ([hm_wSh g a R Z] : List va_W).flatten ([hm_wSh g a R Z] : List va_W).flatten q := by
  refine hm_ofi [(0, .ref (a 0)), (1, .int x0), (2, .int x1)] (by decide) (own := RX5) rfl (Nat.le_of_ble_eq_true rfl) rfl rfl ?_
  intro p e s m args below meth c AA S hr hlk X ls hl
  have hx := S.1
  have hb := S.2.1
  have hown := S.2.2.2.1
  have hts := S.2.2.2.2
  have X := X.to (ws' := ([[(a 0, .inr (5, [.ref (a 1), .ref (a 3), .ref (a 5), .ref (a 7), .ref (a 9), .ref (a 11), .int (Z 0), .int (Z 1)]))], hm_row g (a 1) (a 2) 100 (R 0), hm_row g (a 3) (a 4) 101 (R 1), hm_row g (a 5) (a 6) 30 (R 2), hm_row g (a 7) (a 8) 30 (R 3), hm_row g (a 9) (a 10) 30 (R 4), hm_row g (a 11) (a 12) 30 (R 5)] : List va_W).flatten) rfl
  have hl15 : ∀ (k15 : Nat) (v3 : Int32), f_X5_meetsAny_l15 (R 1) (R 2) (R 3) x0 x1 k15 v3 = some q → ∀ (H : Heap) (locs : List Loc), hm_X g AA s H locs ([[(a 0, .inr (5, [.ref (a 1), .ref (a 3), .ref (a 5), .ref (a 7), .ref (a 9), .ref (a 11), .int (Z 0), .int (Z 1)]))], hm_row g (a 1) (a 2) 100 (R 0), hm_row g (a 3) (a 4) 101 (R 1), hm_row g (a 5) (a 6) 30 (R 2), hm_row g (a 7) (a 8) 30 (R 3), hm_row g (a 9) (a 10) 30 (R 4), hm_row g (a 11) (a 12) 30 (R 5)] : List va_W).flatten → ∀ ls : Array Slot, lv_has ls 4 [(0, .ref (a 0)), (1, .int x0), (2, .int x1), (3, .int v3)] → W p l e rm_X5_meetsAny s m args below meth c H locs 0 0 (MQ below (hm_Qi g AA ([hm_wSh g a R Z] : List va_W).flatten q) args s 0 0 AA) (F0 m 15 ls []) := by
    intro k15
    induction k15 with
    | zero =>
      intro v3 hF
      rw [f_X5_meetsAny_l15_z] at hF
      cases hF
    | succ k15 ih15 =>
      intro v3 hF H locs X ls hl
      rw [f_X5_meetsAny_l15_s] at hF
      refine lv_iload_n hx hb dX5_meetsAny_15 rfl (lv_at hl 3 rfl) ?_
      refine lv_aload_n hx hb dX5_meetsAny_16 rfl (lv_at hl 0 rfl) ?_
      refine hm_get S X hf_X5_20 0 rfl rfl dX5_meetsAny_17 ?_
      refine lv_iload_n hx hb dX5_meetsAny_20 rfl (lv_at hl 2 rfl) ?_
      refine lv_iconst (v := 1) hx hb dX5_meetsAny_21 (by decide) ?_
      refine lv_iadd hx hb dX5_meetsAny_22 ?_
      obtain ⟨t2, ht2, hF⟩ := hm_bd hF
      refine hm_vi (As := [.int (x1 + 1)]) S X mw_X2_get hw_3_105 (c_X2_get l g (a 3) (a 4) 101 (R 1) (x1 + 1) t2 ht2) (hm_mid [[(a 0, .inr (5, [.ref (a 1), .ref (a 3), .ref (a 5), .ref (a 7), .ref (a 9), .ref (a 11), .int (Z 0), .int (Z 1)]))], hm_row g (a 1) (a 2) 100 (R 0)] [hm_row g (a 5) (a 6) 30 (R 2), hm_row g (a 7) (a 8) 30 (R 3), hm_row g (a 9) (a 10) 30 (R 4), hm_row g (a 11) (a 12) 30 (R 5)]) (hm_mid [[(a 0, .inr (5, [.ref (a 1), .ref (a 3), .ref (a 5), .ref (a 7), .ref (a 9), .ref (a 11), .int (Z 0), .int (Z 1)]))], hm_row g (a 1) (a 2) 100 (R 0)] [hm_row g (a 5) (a 6) 30 (R 2), hm_row g (a 7) (a 8) 30 (R 3), hm_row g (a 9) (a 10) 30 (R 4), hm_row g (a 11) (a 12) 30 (R 5)] (b := hm_row g (a 3) (a 4) 101 (R 1))) rfl rfl rfl ⟨rfl, rfl, Nat.le_of_ble_eq_true rfl, Nat.le_of_ble_eq_true rfl⟩ rfl hl.1 rfl (Nat.le_of_ble_eq_true rfl) dX5_meetsAny_23 ⟨Nat.zero_le _, Nat.zero_le _⟩ (fun H locs X => ?_)
      have X := X.to (ws' := ([[(a 0, .inr (5, [.ref (a 1), .ref (a 3), .ref (a 5), .ref (a 7), .ref (a 9), .ref (a 11), .int (Z 0), .int (Z 1)]))], hm_row g (a 1) (a 2) 100 (R 0), hm_row g (a 3) (a 4) 101 (R 1), hm_row g (a 5) (a 6) 30 (R 2), hm_row g (a 7) (a 8) 30 (R 3), hm_row g (a 9) (a 10) 30 (R 4), hm_row g (a 11) (a 12) 30 (R 5)] : List va_W).flatten) rfl
      refine lv_icmp_ge (tgt := 46) hx hb dX5_meetsAny_26 (by decide) (fun c26 => ?_) (fun c26 => ?_)
      · have hF := hm_if hF c26
        refine lv_iconst (v := 0) hx hb dX5_meetsAny_46 (by decide) ?_
        obtain rfl := Option.some.inj hF
        exact hm_rz S hr hlk X rfl rfl (Or.inl rfl) dX5_meetsAny_47
      · have hF := hm_nf hF c26
        refine lv_aload_n hx hb dX5_meetsAny_29 rfl (lv_at hl 0 rfl) ?_
        refine lv_iload_n hx hb dX5_meetsAny_30 rfl (lv_at hl 1 rfl) ?_
        refine lv_iload_n hx hb dX5_meetsAny_31 rfl (lv_at hl 3 rfl) ?_
        obtain ⟨t3, ht3, hF⟩ := hm_bd hF
        refine hm_vi (As := [.int x0, .int v3]) S X mw_X5_meet hw_3_110 (c_X5_meet l g a R Z x0 v3 t3 ht3) (hm_cq (n := 7) [0, 1, 2, 3, 4, 5, 6] [] rfl (by decide +kernel) rfl rfl) (hm_cq (bs := [[(a 0, .inr (5, [.ref (a 1), .ref (a 3), .ref (a 5), .ref (a 7), .ref (a 9), .ref (a 11), .int (Z 0), .int (Z 1)]))], hm_row g (a 1) (a 2) 100 (R 0), hm_row g (a 3) (a 4) 101 (R 1), hm_row g (a 5) (a 6) 30 (R 2), hm_row g (a 7) (a 8) 30 (R 3), hm_row g (a 9) (a 10) 30 (R 4), hm_row g (a 11) (a 12) 30 (R 5)]) (n := 7) [0, 1, 2, 3, 4, 5, 6] [] rfl (by decide +kernel) rfl rfl) rfl rfl rfl ⟨rfl, rfl, Nat.le_of_ble_eq_true rfl, Nat.le_of_ble_eq_true rfl⟩ rfl hl.1 rfl (Nat.le_of_ble_eq_true rfl) dX5_meetsAny_32 ⟨Nat.zero_le _, Nat.zero_le _⟩ (fun H locs X => ?_)
        have X := X.to (ws' := ([[(a 0, .inr (5, [.ref (a 1), .ref (a 3), .ref (a 5), .ref (a 7), .ref (a 9), .ref (a 11), .int (Z 0), .int (Z 1)]))], hm_row g (a 1) (a 2) 100 (R 0), hm_row g (a 3) (a 4) 101 (R 1), hm_row g (a 5) (a 6) 30 (R 2), hm_row g (a 7) (a 8) 30 (R 3), hm_row g (a 9) (a 10) 30 (R 4), hm_row g (a 11) (a 12) 30 (R 5)] : List va_W).flatten) rfl
        refine lv_if_eq (tgt := 40) hx hb dX5_meetsAny_35 (by decide) (fun c35 => ?_) (fun c35 => ?_)
        · have hF := hm_if hF c35
          refine lv_iinc (v := (v3 + 1)) (lv' := [(3, .int (v3 + 1)), (0, .ref (a 0)), (1, .int x0), (2, .int x1)]) hx hb dX5_meetsAny_40 hl (k := 3) rfl rfl (by decide) rfl (fun ls hl => ?_)
          refine lv_goto (tgt := 15) hx hb dX5_meetsAny_43 (by decide) ?_
          exact ih15 (v3 + 1) hF _ _ X _ (lv_sub hl [1, 2, 3, 0] rfl)
        · have hF := hm_nf hF c35
          refine lv_iconst (v := 1) hx hb dX5_meetsAny_38 (by decide) ?_
          obtain rfl := Option.some.inj hF
          exact hm_rz S hr hlk X rfl rfl (Or.inr rfl) dX5_meetsAny_39
  unfold f_X5_meetsAny at hF
  refine lv_iload_n hx hb dX5_meetsAny_0 rfl (lv_at hl 2 rfl) ?_
  refine lv_if_ge (tgt := 6) hx hb dX5_meetsAny_1 (by decide) (fun c1 => ?_) (fun c1 => ?_)
  · have hF := hm_if hF c1
    refine lv_aload_n hx hb dX5_meetsAny_6 rfl (lv_at hl 0 rfl) ?_
    refine hm_get S X hf_X5_20 0 rfl rfl dX5_meetsAny_7 ?_
    refine lv_iload_n hx hb dX5_meetsAny_10 rfl (lv_at hl 2 rfl) ?_
    obtain ⟨t1, ht1, hF⟩ := hm_bd hF
    refine hm_vi (As := [.int x1]) S X mw_X2_get hw_3_105 (c_X2_get l g (a 3) (a 4) 101 (R 1) x1 t1 ht1) (hm_mid [[(a 0, .inr (5, [.ref (a 1), .ref (a 3), .ref (a 5), .ref (a 7), .ref (a 9), .ref (a 11), .int (Z 0), .int (Z 1)]))], hm_row g (a 1) (a 2) 100 (R 0)] [hm_row g (a 5) (a 6) 30 (R 2), hm_row g (a 7) (a 8) 30 (R 3), hm_row g (a 9) (a 10) 30 (R 4), hm_row g (a 11) (a 12) 30 (R 5)]) (hm_mid [[(a 0, .inr (5, [.ref (a 1), .ref (a 3), .ref (a 5), .ref (a 7), .ref (a 9), .ref (a 11), .int (Z 0), .int (Z 1)]))], hm_row g (a 1) (a 2) 100 (R 0)] [hm_row g (a 5) (a 6) 30 (R 2), hm_row g (a 7) (a 8) 30 (R 3), hm_row g (a 9) (a 10) 30 (R 4), hm_row g (a 11) (a 12) 30 (R 5)] (b := hm_row g (a 3) (a 4) 101 (R 1))) rfl rfl rfl ⟨rfl, rfl, Nat.le_of_ble_eq_true rfl, Nat.le_of_ble_eq_true rfl⟩ rfl hl.1 rfl (Nat.le_of_ble_eq_true rfl) dX5_meetsAny_11 ⟨Nat.zero_le _, Nat.zero_le _⟩ (fun H locs X => ?_)
    have X := X.to (ws' := ([[(a 0, .inr (5, [.ref (a 1), .ref (a 3), .ref (a 5), .ref (a 7), .ref (a 9), .ref (a 11), .int (Z 0), .int (Z 1)]))], hm_row g (a 1) (a 2) 100 (R 0), hm_row g (a 3) (a 4) 101 (R 1), hm_row g (a 5) (a 6) 30 (R 2), hm_row g (a 7) (a 8) 30 (R 3), hm_row g (a 9) (a 10) 30 (R 4), hm_row g (a 11) (a 12) 30 (R 5)] : List va_W).flatten) rfl
    refine lv_istore_n (lv' := [(3, .int t1), (0, .ref (a 0)), (1, .int x0), (2, .int x1)]) hx hb dX5_meetsAny_14 rfl hl (by decide) rfl (fun ls hl => ?_)
    exact hl15 hm_fu t1 hF _ _ X _ (lv_sub hl [1, 2, 3, 0] rfl)
  · have hF := hm_nf hF c1
    refine lv_iconst (v := 0) hx hb dX5_meetsAny_4 (by decide) ?_
    obtain rfl := Option.some.inj hF
    exact hm_rz S hr hlk X rfl rfl (Or.inl rfl) dX5_meetsAny_5
def f_X5_measureRivers_l104 (J7 : Int32 → hm_SR → hm_SR → Option (hm_SR × hm_SR)) (v1 : Int32) (wR_4 : hm_SR) (wR_5 : hm_SR) : Option (hm_SR × hm_SR) :=
  J7 (v1 + (-1)) wR_4 wR_5
def f_X5_measureRivers_l95 (J7 : Int32 → hm_SR → hm_SR → Option (hm_SR × hm_SR)) (J20 : Int32 → Int32 → hm_SR → hm_SR → Option (hm_SR × hm_SR)) (s95_0 : Int32) (s95_1 : Int32) (v1 : Int32) (v2 : Int32) (wR_4 : hm_SR) (wR_5 : hm_SR) : Option (hm_SR × hm_SR) :=
  (f_X2_set 30 wR_5 s95_1 s95_0).bind fun t7 =>
  J20 v1 (v2 + 1) wR_4 t7
def f_X5_measureRivers_l80 (J7 : Int32 → hm_SR → hm_SR → Option (hm_SR × hm_SR)) (J20 : Int32 → Int32 → hm_SR → hm_SR → Option (hm_SR × hm_SR)) (s80_0 : Int32) (v1 : Int32) (v2 : Int32) (wR_4 : hm_SR) (wR_5 : hm_SR) : Option (hm_SR × hm_SR) :=
  if s80_0 = 0 then (
  f_X5_measureRivers_l95 J7 J20 0 v2 v1 v2 wR_4 wR_5)
  else (
  f_X5_measureRivers_l95 J7 J20 1 v2 v1 v2 wR_4 wR_5)
def f_X5_measureRivers_l79 (J7 : Int32 → hm_SR → hm_SR → Option (hm_SR × hm_SR)) (J20 : Int32 → Int32 → hm_SR → hm_SR → Option (hm_SR × hm_SR)) (v1 : Int32) (v2 : Int32) (wR_4 : hm_SR) (wR_5 : hm_SR) : Option (hm_SR × hm_SR) :=
  f_X5_measureRivers_l80 J7 J20 0 v1 v2 wR_4 wR_5
def f_X5_measureRivers_l20 (J7 : Int32 → hm_SR → hm_SR → Option (hm_SR × hm_SR)) (R_1 : hm_SR) (R_2 : hm_SR) (R_3 : hm_SR) : Nat → Int32 → Int32 → hm_SR → hm_SR → Option (hm_SR × hm_SR)
  | 0, _, _, _, _ => none
  | k + 1, v1, v2, wR_4, wR_5 =>
  (f_X2_get 101 R_1 (v1 + 1)).bind fun t3 =>
  if t3 ≤ v2 then (
  f_X5_measureRivers_l104 J7 v1 wR_4 wR_5)
  else (
  (f_X5_longestMet R_1 R_2 R_3 wR_4 v2 (v1 + 1)).bind fun t4 =>
  (f_X2_set 30 wR_4 v2 (1 + t4)).bind fun t5 =>
  (f_X2_get 30 t5 v2).bind fun t6 =>
  if t6 < 3 then (
  f_X5_measureRivers_l79 J7 (fun zv1 zv2 zwR_4 zwR_5 => f_X5_measureRivers_l20 J7 R_1 R_2 R_3 k zv1 zv2 zwR_4 zwR_5) v1 v2 t5 wR_5)
  else (
  (f_X5_meetsAny R_1 R_2 R_3 v2 (v1 - 1)).bind fun t8 =>
  if t8 = 0 then (
  f_X5_measureRivers_l80 J7 (fun zv1 zv2 zwR_4 zwR_5 => f_X5_measureRivers_l20 J7 R_1 R_2 R_3 k zv1 zv2 zwR_4 zwR_5) 1 v1 v2 t5 wR_5)
  else (
  f_X5_measureRivers_l79 J7 (fun zv1 zv2 zwR_4 zwR_5 => f_X5_measureRivers_l20 J7 R_1 R_2 R_3 k zv1 zv2 zwR_4 zwR_5) v1 v2 t5 wR_5)))
theorem f_X5_measureRivers_l20_s (J7 : Int32 → hm_SR → hm_SR → Option (hm_SR × hm_SR)) (R_1 : hm_SR) (R_2 : hm_SR) (R_3 : hm_SR) (k : Nat) (v1 : Int32) (v2 : Int32) (wR_4 : hm_SR) (wR_5 : hm_SR) : f_X5_measureRivers_l20 J7 R_1 R_2 R_3 (k + 1) v1 v2 wR_4 wR_5 =
  (f_X2_get 101 R_1 (v1 + 1)).bind fun t3 =>
  if t3 ≤ v2 then (
  f_X5_measureRivers_l104 J7 v1 wR_4 wR_5)
  else (
  (f_X5_longestMet R_1 R_2 R_3 wR_4 v2 (v1 + 1)).bind fun t4 =>
  (f_X2_set 30 wR_4 v2 (1 + t4)).bind fun t5 =>
  (f_X2_get 30 t5 v2).bind fun t6 =>
  if t6 < 3 then (
  f_X5_measureRivers_l79 J7 (fun zv1 zv2 zwR_4 zwR_5 => f_X5_measureRivers_l20 J7 R_1 R_2 R_3 k zv1 zv2 zwR_4 zwR_5) v1 v2 t5 wR_5)
  else (
  (f_X5_meetsAny R_1 R_2 R_3 v2 (v1 - 1)).bind fun t8 =>
  if t8 = 0 then (
  f_X5_measureRivers_l80 J7 (fun zv1 zv2 zwR_4 zwR_5 => f_X5_measureRivers_l20 J7 R_1 R_2 R_3 k zv1 zv2 zwR_4 zwR_5) 1 v1 v2 t5 wR_5)
  else (
  f_X5_measureRivers_l79 J7 (fun zv1 zv2 zwR_4 zwR_5 => f_X5_measureRivers_l20 J7 R_1 R_2 R_3 k zv1 zv2 zwR_4 zwR_5) v1 v2 t5 wR_5))) := rfl
theorem f_X5_measureRivers_l20_z (J7 : Int32 → hm_SR → hm_SR → Option (hm_SR × hm_SR)) (R_1 : hm_SR) (R_2 : hm_SR) (R_3 : hm_SR) (v1 : Int32) (v2 : Int32) (wR_4 : hm_SR) (wR_5 : hm_SR) : f_X5_measureRivers_l20 J7 R_1 R_2 R_3 0 v1 v2 wR_4 wR_5 = none := rfl
def f_X5_measureRivers_l7 (R_1 : hm_SR) (R_2 : hm_SR) (R_3 : hm_SR) : Nat → Int32 → hm_SR → hm_SR → Option (hm_SR × hm_SR)
  | 0, _, _, _ => none
  | k + 1, v1, wR_4, wR_5 =>
  if v1 < 0 then (
  some (wR_4, wR_5))
  else (
  (f_X2_get 101 R_1 v1).bind fun t2 =>
  f_X5_measureRivers_l20 (fun zv1 zwR_4 zwR_5 => f_X5_measureRivers_l7 R_1 R_2 R_3 k zv1 zwR_4 zwR_5) R_1 R_2 R_3 hm_fu v1 t2 wR_4 wR_5)
theorem f_X5_measureRivers_l7_s (R_1 : hm_SR) (R_2 : hm_SR) (R_3 : hm_SR) (k : Nat) (v1 : Int32) (wR_4 : hm_SR) (wR_5 : hm_SR) : f_X5_measureRivers_l7 R_1 R_2 R_3 (k + 1) v1 wR_4 wR_5 =
  if v1 < 0 then (
  some (wR_4, wR_5))
  else (
  (f_X2_get 101 R_1 v1).bind fun t2 =>
  f_X5_measureRivers_l20 (fun zv1 zwR_4 zwR_5 => f_X5_measureRivers_l7 R_1 R_2 R_3 k zv1 zwR_4 zwR_5) R_1 R_2 R_3 hm_fu v1 t2 wR_4 wR_5) := rfl
theorem f_X5_measureRivers_l7_z (R_1 : hm_SR) (R_2 : hm_SR) (R_3 : hm_SR) (v1 : Int32) (wR_4 : hm_SR) (wR_5 : hm_SR) : f_X5_measureRivers_l7 R_1 R_2 R_3 0 v1 wR_4 wR_5 = none := rfl
def f_X5_measureRivers (R_0 : hm_SR) (R_1 : hm_SR) (R_2 : hm_SR) (R_3 : hm_SR) (R_4 : hm_SR) (R_5 : hm_SR)  : Option (hm_SR × hm_SR) :=
  (f_X5_lineCount R_0).bind fun t1 =>
  f_X5_measureRivers_l7 R_1 R_2 R_3 hm_fu (t1 - 1) R_4 R_5
abbrev rm_X5_measureRivers : Room := { frames := 3, cells := 0, slots := 0, locals := 67 }
set_option maxHeartbeats 4000000 in
set_option maxRecDepth 100000 in
theorem c_X5_measureRivers (l : Launch) (g : hm_G) (a : Nat → Nat) (R : Nat → hm_SR) (Z : Nat → Int32) (q : hm_SR × hm_SR) (hF : f_X5_measureRivers (R 0) (R 1) (R 2) (R 3) (R 4) (R 5) = some q) : hm_Mv l yX5_measureRivers (Cond.code yX5_measureRivers cX5_measureRivers 4 none :: hm_W) rm_X5_measureRivers g [.ref (a 0)] ([hm_wSh g a R Z] : List va_W).flatten ([hm_wSh g a (hm_up (hm_up R 4 q.1) 5 q.2) Z] : List va_W).flatten := by
  refine hm_ofv [(0, .ref (a 0))] (by decide) (own := RX5) rfl (Nat.le_of_ble_eq_true rfl) rfl rfl ?_
  intro p e s m args below meth c AA S hr hlk X ls hl
  have hx := S.1
  have hb := S.2.1
  have hown := S.2.2.2.1
  have hts := S.2.2.2.2
  have X := X.to (ws' := ([[(a 0, .inr (5, [.ref (a 1), .ref (a 3), .ref (a 5), .ref (a 7), .ref (a 9), .ref (a 11), .int (Z 0), .int (Z 1)]))], hm_row g (a 1) (a 2) 100 (R 0), hm_row g (a 3) (a 4) 101 (R 1), hm_row g (a 5) (a 6) 30 (R 2), hm_row g (a 7) (a 8) 30 (R 3), hm_row g (a 9) (a 10) 30 (R 4), hm_row g (a 11) (a 12) 30 (R 5)] : List va_W).flatten) rfl
  have hl7 : ∀ (k7 : Nat) (v1 : Int32) (wR_4 : hm_SR) (wR_5 : hm_SR), f_X5_measureRivers_l7 (R 1) (R 2) (R 3) k7 v1 wR_4 wR_5 = some q → ∀ (H : Heap) (locs : List Loc), hm_X g AA s H locs ([[(a 0, .inr (5, [.ref (a 1), .ref (a 3), .ref (a 5), .ref (a 7), .ref (a 9), .ref (a 11), .int (Z 0), .int (Z 1)]))], hm_row g (a 1) (a 2) 100 (R 0), hm_row g (a 3) (a 4) 101 (R 1), hm_row g (a 5) (a 6) 30 (R 2), hm_row g (a 7) (a 8) 30 (R 3), hm_row g (a 9) (a 10) 30 wR_4, hm_row g (a 11) (a 12) 30 wR_5] : List va_W).flatten → ∀ ls : Array Slot, lv_has ls 4 [(0, .ref (a 0)), (1, .int v1)] → W p l e rm_X5_measureRivers s m args below meth c H locs 0 0 (MQ below (hm_Qv g AA ([hm_wSh g a (hm_up (hm_up R 4 q.1) 5 q.2) Z] : List va_W).flatten) args s 0 0 AA) (F0 m 7 ls []) := by
    intro k7
    induction k7 with
    | zero =>
      intro v1 wR_4 wR_5 hF
      rw [f_X5_measureRivers_l7_z] at hF
      cases hF
    | succ k7 ih7 =>
      have hl104 : ∀ (v1 : Int32) (wR_4 : hm_SR) (wR_5 : hm_SR), f_X5_measureRivers_l104 (fun zv1 zwR_4 zwR_5 => f_X5_measureRivers_l7 (R 1) (R 2) (R 3) k7 zv1 zwR_4 zwR_5) v1 wR_4 wR_5 = some q → ∀ (H : Heap) (locs : List Loc), hm_X g AA s H locs ([[(a 0, .inr (5, [.ref (a 1), .ref (a 3), .ref (a 5), .ref (a 7), .ref (a 9), .ref (a 11), .int (Z 0), .int (Z 1)]))], hm_row g (a 1) (a 2) 100 (R 0), hm_row g (a 3) (a 4) 101 (R 1), hm_row g (a 5) (a 6) 30 (R 2), hm_row g (a 7) (a 8) 30 (R 3), hm_row g (a 9) (a 10) 30 wR_4, hm_row g (a 11) (a 12) 30 wR_5] : List va_W).flatten → ∀ ls : Array Slot, lv_has ls 4 [(0, .ref (a 0)), (1, .int v1)] → W p l e rm_X5_measureRivers s m args below meth c H locs 0 0 (MQ below (hm_Qv g AA ([hm_wSh g a (hm_up (hm_up R 4 q.1) 5 q.2) Z] : List va_W).flatten) args s 0 0 AA) (F0 m 104 ls []) := by
        intro v1 wR_4 wR_5 hF H locs X ls hl
        unfold f_X5_measureRivers_l104 at hF
        refine lv_iinc (v := (v1 + (-1))) (lv' := [(1, .int (v1 + (-1))), (0, .ref (a 0))]) hx hb dX5_measureRivers_104 hl (k := 1) rfl rfl (by decide) rfl (fun ls hl => ?_)
        refine lv_goto (tgt := 7) hx hb dX5_measureRivers_107 (by decide) ?_
        exact ih7 (v1 + (-1)) wR_4 wR_5 hF _ _ X _ (lv_sub hl [1, 0] rfl)
      have hl20 : ∀ (k20 : Nat) (v1 : Int32) (v2 : Int32) (wR_4 : hm_SR) (wR_5 : hm_SR), f_X5_measureRivers_l20 (fun zv1 zwR_4 zwR_5 => f_X5_measureRivers_l7 (R 1) (R 2) (R 3) k7 zv1 zwR_4 zwR_5) (R 1) (R 2) (R 3) k20 v1 v2 wR_4 wR_5 = some q → ∀ (H : Heap) (locs : List Loc), hm_X g AA s H locs ([[(a 0, .inr (5, [.ref (a 1), .ref (a 3), .ref (a 5), .ref (a 7), .ref (a 9), .ref (a 11), .int (Z 0), .int (Z 1)]))], hm_row g (a 1) (a 2) 100 (R 0), hm_row g (a 3) (a 4) 101 (R 1), hm_row g (a 5) (a 6) 30 (R 2), hm_row g (a 7) (a 8) 30 (R 3), hm_row g (a 9) (a 10) 30 wR_4, hm_row g (a 11) (a 12) 30 wR_5] : List va_W).flatten → ∀ ls : Array Slot, lv_has ls 4 [(0, .ref (a 0)), (1, .int v1), (2, .int v2)] → W p l e rm_X5_measureRivers s m args below meth c H locs 0 0 (MQ below (hm_Qv g AA ([hm_wSh g a (hm_up (hm_up R 4 q.1) 5 q.2) Z] : List va_W).flatten) args s 0 0 AA) (F0 m 20 ls []) := by
        intro k20
        induction k20 with
        | zero =>
          intro v1 v2 wR_4 wR_5 hF
          rw [f_X5_measureRivers_l20_z] at hF
          cases hF
        | succ k20 ih20 =>
          have hl95 : ∀ (s95_0 : Int32) (s95_1 : Int32) (v1 : Int32) (v2 : Int32) (wR_4 : hm_SR) (wR_5 : hm_SR), f_X5_measureRivers_l95 (fun zv1 zwR_4 zwR_5 => f_X5_measureRivers_l7 (R 1) (R 2) (R 3) k7 zv1 zwR_4 zwR_5) (fun zv1 zv2 zwR_4 zwR_5 => f_X5_measureRivers_l20 (fun zv1 zwR_4 zwR_5 => f_X5_measureRivers_l7 (R 1) (R 2) (R 3) k7 zv1 zwR_4 zwR_5) (R 1) (R 2) (R 3) k20 zv1 zv2 zwR_4 zwR_5) s95_0 s95_1 v1 v2 wR_4 wR_5 = some q → ∀ (H : Heap) (locs : List Loc), hm_X g AA s H locs ([[(a 0, .inr (5, [.ref (a 1), .ref (a 3), .ref (a 5), .ref (a 7), .ref (a 9), .ref (a 11), .int (Z 0), .int (Z 1)]))], hm_row g (a 1) (a 2) 100 (R 0), hm_row g (a 3) (a 4) 101 (R 1), hm_row g (a 5) (a 6) 30 (R 2), hm_row g (a 7) (a 8) 30 (R 3), hm_row g (a 9) (a 10) 30 wR_4, hm_row g (a 11) (a 12) 30 wR_5] : List va_W).flatten → ∀ ls : Array Slot, lv_has ls 4 [(0, .ref (a 0)), (1, .int v1), (2, .int v2)] → W p l e rm_X5_measureRivers s m args below meth c H locs 0 0 (MQ below (hm_Qv g AA ([hm_wSh g a (hm_up (hm_up R 4 q.1) 5 q.2) Z] : List va_W).flatten) args s 0 0 AA) (F0 m 95 ls [.int s95_0, .int s95_1, .ref (a 11)]) := by
            intro s95_0 s95_1 v1 v2 wR_4 wR_5 hF H locs X ls hl
            unfold f_X5_measureRivers_l95 at hF
            obtain ⟨t7, ht7, hF⟩ := hm_bd hF
            refine hm_vv (As := [.int s95_1, .int s95_0]) S X mw_X2_set hw_3_115 (c_X2_set l g (a 11) (a 12) 30 wR_5 s95_1 s95_0 t7 ht7) (hm_mid [[(a 0, .inr (5, [.ref (a 1), .ref (a 3), .ref (a 5), .ref (a 7), .ref (a 9), .ref (a 11), .int (Z 0), .int (Z 1)]))], hm_row g (a 1) (a 2) 100 (R 0), hm_row g (a 3) (a 4) 101 (R 1), hm_row g (a 5) (a 6) 30 (R 2), hm_row g (a 7) (a 8) 30 (R 3), hm_row g (a 9) (a 10) 30 wR_4] []) (hm_mid [[(a 0, .inr (5, [.ref (a 1), .ref (a 3), .ref (a 5), .ref (a 7), .ref (a 9), .ref (a 11), .int (Z 0), .int (Z 1)]))], hm_row g (a 1) (a 2) 100 (R 0), hm_row g (a 3) (a 4) 101 (R 1), hm_row g (a 5) (a 6) 30 (R 2), hm_row g (a 7) (a 8) 30 (R 3), hm_row g (a 9) (a 10) 30 wR_4] [] (b := hm_row g (a 11) (a 12) 30 t7)) rfl rfl rfl ⟨rfl, rfl, Nat.le_of_ble_eq_true rfl, Nat.le_of_ble_eq_true rfl⟩ rfl hl.1 rfl (Nat.le_of_ble_eq_true rfl) dX5_measureRivers_95 ⟨Nat.zero_le _, Nat.zero_le _⟩ (fun H locs X => ?_)
            have X := X.to (ws' := ([[(a 0, .inr (5, [.ref (a 1), .ref (a 3), .ref (a 5), .ref (a 7), .ref (a 9), .ref (a 11), .int (Z 0), .int (Z 1)]))], hm_row g (a 1) (a 2) 100 (R 0), hm_row g (a 3) (a 4) 101 (R 1), hm_row g (a 5) (a 6) 30 (R 2), hm_row g (a 7) (a 8) 30 (R 3), hm_row g (a 9) (a 10) 30 wR_4, hm_row g (a 11) (a 12) 30 t7] : List va_W).flatten) rfl
            refine lv_iinc (v := (v2 + 1)) (lv' := [(2, .int (v2 + 1)), (0, .ref (a 0)), (1, .int v1)]) hx hb dX5_measureRivers_98 hl (k := 2) rfl rfl (by decide) rfl (fun ls hl => ?_)
            refine lv_goto (tgt := 20) hx hb dX5_measureRivers_101 (by decide) ?_
            exact ih20 v1 (v2 + 1) wR_4 t7 hF _ _ X _ (lv_sub hl [1, 2, 0] rfl)
          have hl80 : ∀ (s80_0 : Int32) (v1 : Int32) (v2 : Int32) (wR_4 : hm_SR) (wR_5 : hm_SR), f_X5_measureRivers_l80 (fun zv1 zwR_4 zwR_5 => f_X5_measureRivers_l7 (R 1) (R 2) (R 3) k7 zv1 zwR_4 zwR_5) (fun zv1 zv2 zwR_4 zwR_5 => f_X5_measureRivers_l20 (fun zv1 zwR_4 zwR_5 => f_X5_measureRivers_l7 (R 1) (R 2) (R 3) k7 zv1 zwR_4 zwR_5) (R 1) (R 2) (R 3) k20 zv1 zv2 zwR_4 zwR_5) s80_0 v1 v2 wR_4 wR_5 = some q → ∀ (H : Heap) (locs : List Loc), hm_X g AA s H locs ([[(a 0, .inr (5, [.ref (a 1), .ref (a 3), .ref (a 5), .ref (a 7), .ref (a 9), .ref (a 11), .int (Z 0), .int (Z 1)]))], hm_row g (a 1) (a 2) 100 (R 0), hm_row g (a 3) (a 4) 101 (R 1), hm_row g (a 5) (a 6) 30 (R 2), hm_row g (a 7) (a 8) 30 (R 3), hm_row g (a 9) (a 10) 30 wR_4, hm_row g (a 11) (a 12) 30 wR_5] : List va_W).flatten → ∀ ls : Array Slot, lv_has ls 4 [(0, .ref (a 0)), (1, .int v1), (2, .int v2)] → W p l e rm_X5_measureRivers s m args below meth c H locs 0 0 (MQ below (hm_Qv g AA ([hm_wSh g a (hm_up (hm_up R 4 q.1) 5 q.2) Z] : List va_W).flatten) args s 0 0 AA) (F0 m 80 ls [.int s80_0]) := by
            intro s80_0 v1 v2 wR_4 wR_5 hF H locs X ls hl
            unfold f_X5_measureRivers_l80 at hF
            refine lv_istore_n (lv' := [(3, .int s80_0), (0, .ref (a 0)), (1, .int v1), (2, .int v2)]) hx hb dX5_measureRivers_80 rfl hl (by decide) rfl (fun ls hl => ?_)
            refine lv_aload_n hx hb dX5_measureRivers_81 rfl (lv_at hl 1 rfl) ?_
            refine hm_get S X hf_X5_32 0 rfl rfl dX5_measureRivers_82 ?_
            refine lv_iload_n hx hb dX5_measureRivers_85 rfl (lv_at hl 3 rfl) ?_
            refine lv_iload_n hx hb dX5_measureRivers_86 rfl (lv_at hl 0 rfl) ?_
            refine lv_if_eq (tgt := 94) hx hb dX5_measureRivers_87 (by decide) (fun c87 => ?_) (fun c87 => ?_)
            · have hF := hm_if hF c87
              refine lv_iconst (v := 0) hx hb dX5_measureRivers_94 (by decide) ?_
              exact hl95 0 v2 v1 v2 wR_4 wR_5 hF _ _ X _ (lv_sub hl [1, 2, 3] rfl)
            · have hF := hm_nf hF c87
              refine lv_iconst (v := 1) hx hb dX5_measureRivers_90 (by decide) ?_
              refine lv_goto (tgt := 95) hx hb dX5_measureRivers_91 (by decide) ?_
              exact hl95 1 v2 v1 v2 wR_4 wR_5 hF _ _ X _ (lv_sub hl [1, 2, 3] rfl)
          have hl79 : ∀ (v1 : Int32) (v2 : Int32) (wR_4 : hm_SR) (wR_5 : hm_SR), f_X5_measureRivers_l79 (fun zv1 zwR_4 zwR_5 => f_X5_measureRivers_l7 (R 1) (R 2) (R 3) k7 zv1 zwR_4 zwR_5) (fun zv1 zv2 zwR_4 zwR_5 => f_X5_measureRivers_l20 (fun zv1 zwR_4 zwR_5 => f_X5_measureRivers_l7 (R 1) (R 2) (R 3) k7 zv1 zwR_4 zwR_5) (R 1) (R 2) (R 3) k20 zv1 zv2 zwR_4 zwR_5) v1 v2 wR_4 wR_5 = some q → ∀ (H : Heap) (locs : List Loc), hm_X g AA s H locs ([[(a 0, .inr (5, [.ref (a 1), .ref (a 3), .ref (a 5), .ref (a 7), .ref (a 9), .ref (a 11), .int (Z 0), .int (Z 1)]))], hm_row g (a 1) (a 2) 100 (R 0), hm_row g (a 3) (a 4) 101 (R 1), hm_row g (a 5) (a 6) 30 (R 2), hm_row g (a 7) (a 8) 30 (R 3), hm_row g (a 9) (a 10) 30 wR_4, hm_row g (a 11) (a 12) 30 wR_5] : List va_W).flatten → ∀ ls : Array Slot, lv_has ls 4 [(0, .ref (a 0)), (1, .int v1), (2, .int v2)] → W p l e rm_X5_measureRivers s m args below meth c H locs 0 0 (MQ below (hm_Qv g AA ([hm_wSh g a (hm_up (hm_up R 4 q.1) 5 q.2) Z] : List va_W).flatten) args s 0 0 AA) (F0 m 79 ls []) := by
            intro v1 v2 wR_4 wR_5 hF H locs X ls hl
            unfold f_X5_measureRivers_l79 at hF
            refine lv_iconst (v := 0) hx hb dX5_measureRivers_79 (by decide) ?_
            exact hl80 0 v1 v2 wR_4 wR_5 hF _ _ X _ (lv_sub hl [0, 1, 2] rfl)
          intro v1 v2 wR_4 wR_5 hF H locs X ls hl
          rw [f_X5_measureRivers_l20_s] at hF
          refine lv_iload_n hx hb dX5_measureRivers_20 rfl (lv_at hl 2 rfl) ?_
          refine lv_aload_n hx hb dX5_measureRivers_21 rfl (lv_at hl 0 rfl) ?_
          refine hm_get S X hf_X5_20 0 rfl rfl dX5_measureRivers_22 ?_
          refine lv_iload_n hx hb dX5_measureRivers_25 rfl (lv_at hl 1 rfl) ?_
          refine lv_iconst (v := 1) hx hb dX5_measureRivers_26 (by decide) ?_
          refine lv_iadd hx hb dX5_measureRivers_27 ?_
          obtain ⟨t3, ht3, hF⟩ := hm_bd hF
          refine hm_vi (As := [.int (v1 + 1)]) S X mw_X2_get hw_3_105 (c_X2_get l g (a 3) (a 4) 101 (R 1) (v1 + 1) t3 ht3) (hm_mid [[(a 0, .inr (5, [.ref (a 1), .ref (a 3), .ref (a 5), .ref (a 7), .ref (a 9), .ref (a 11), .int (Z 0), .int (Z 1)]))], hm_row g (a 1) (a 2) 100 (R 0)] [hm_row g (a 5) (a 6) 30 (R 2), hm_row g (a 7) (a 8) 30 (R 3), hm_row g (a 9) (a 10) 30 wR_4, hm_row g (a 11) (a 12) 30 wR_5]) (hm_mid [[(a 0, .inr (5, [.ref (a 1), .ref (a 3), .ref (a 5), .ref (a 7), .ref (a 9), .ref (a 11), .int (Z 0), .int (Z 1)]))], hm_row g (a 1) (a 2) 100 (R 0)] [hm_row g (a 5) (a 6) 30 (R 2), hm_row g (a 7) (a 8) 30 (R 3), hm_row g (a 9) (a 10) 30 wR_4, hm_row g (a 11) (a 12) 30 wR_5] (b := hm_row g (a 3) (a 4) 101 (R 1))) rfl rfl rfl ⟨rfl, rfl, Nat.le_of_ble_eq_true rfl, Nat.le_of_ble_eq_true rfl⟩ rfl hl.1 rfl (Nat.le_of_ble_eq_true rfl) dX5_measureRivers_28 ⟨Nat.zero_le _, Nat.zero_le _⟩ (fun H locs X => ?_)
          have X := X.to (ws' := ([[(a 0, .inr (5, [.ref (a 1), .ref (a 3), .ref (a 5), .ref (a 7), .ref (a 9), .ref (a 11), .int (Z 0), .int (Z 1)]))], hm_row g (a 1) (a 2) 100 (R 0), hm_row g (a 3) (a 4) 101 (R 1), hm_row g (a 5) (a 6) 30 (R 2), hm_row g (a 7) (a 8) 30 (R 3), hm_row g (a 9) (a 10) 30 wR_4, hm_row g (a 11) (a 12) 30 wR_5] : List va_W).flatten) rfl
          refine lv_icmp_ge (tgt := 104) hx hb dX5_measureRivers_31 (by decide) (fun c31 => ?_) (fun c31 => ?_)
          · have hF := hm_if hF c31
            exact hl104 v1 wR_4 wR_5 hF _ _ X _ (lv_sub hl [0, 1] rfl)
          · have hF := hm_nf hF c31
            refine lv_aload_n hx hb dX5_measureRivers_34 rfl (lv_at hl 0 rfl) ?_
            refine hm_get S X hf_X5_29 0 rfl rfl dX5_measureRivers_35 ?_
            refine lv_iload_n hx hb dX5_measureRivers_38 rfl (lv_at hl 2 rfl) ?_
            refine lv_iconst (v := 1) hx hb dX5_measureRivers_39 (by decide) ?_
            refine lv_aload_n hx hb dX5_measureRivers_40 rfl (lv_at hl 0 rfl) ?_
            refine lv_iload_n hx hb dX5_measureRivers_41 rfl (lv_at hl 2 rfl) ?_
            refine lv_iload_n hx hb dX5_measureRivers_42 rfl (lv_at hl 1 rfl) ?_
            refine lv_iconst (v := 1) hx hb dX5_measureRivers_43 (by decide) ?_
            refine lv_iadd hx hb dX5_measureRivers_44 ?_
            obtain ⟨t4, ht4, hF⟩ := hm_bd hF
            refine hm_vi (As := [.int v2, .int (v1 + 1)]) S X mw_X5_longestMet hw_3_106 (c_X5_longestMet l g a (hm_up (hm_up R 4 wR_4) 5 wR_5) Z v2 (v1 + 1) t4 ht4) (hm_cq (n := 7) [0, 1, 2, 3, 4, 5, 6] [] rfl (by decide +kernel) rfl rfl) (hm_cq (bs := [[(a 0, .inr (5, [.ref (a 1), .ref (a 3), .ref (a 5), .ref (a 7), .ref (a 9), .ref (a 11), .int (Z 0), .int (Z 1)]))], hm_row g (a 1) (a 2) 100 (R 0), hm_row g (a 3) (a 4) 101 (R 1), hm_row g (a 5) (a 6) 30 (R 2), hm_row g (a 7) (a 8) 30 (R 3), hm_row g (a 9) (a 10) 30 wR_4, hm_row g (a 11) (a 12) 30 wR_5]) (n := 7) [0, 1, 2, 3, 4, 5, 6] [] rfl (by decide +kernel) rfl rfl) rfl rfl rfl ⟨rfl, rfl, Nat.le_of_ble_eq_true rfl, Nat.le_of_ble_eq_true rfl⟩ rfl hl.1 rfl (Nat.le_of_ble_eq_true rfl) dX5_measureRivers_45 ⟨Nat.zero_le _, Nat.zero_le _⟩ (fun H locs X => ?_)
            have X := X.to (ws' := ([[(a 0, .inr (5, [.ref (a 1), .ref (a 3), .ref (a 5), .ref (a 7), .ref (a 9), .ref (a 11), .int (Z 0), .int (Z 1)]))], hm_row g (a 1) (a 2) 100 (R 0), hm_row g (a 3) (a 4) 101 (R 1), hm_row g (a 5) (a 6) 30 (R 2), hm_row g (a 7) (a 8) 30 (R 3), hm_row g (a 9) (a 10) 30 wR_4, hm_row g (a 11) (a 12) 30 wR_5] : List va_W).flatten) rfl
            refine lv_iadd hx hb dX5_measureRivers_48 ?_
            obtain ⟨t5, ht5, hF⟩ := hm_bd hF
            refine hm_vv (As := [.int v2, .int (1 + t4)]) S X mw_X2_set hw_3_115 (c_X2_set l g (a 9) (a 10) 30 wR_4 v2 (1 + t4) t5 ht5) (hm_mid [[(a 0, .inr (5, [.ref (a 1), .ref (a 3), .ref (a 5), .ref (a 7), .ref (a 9), .ref (a 11), .int (Z 0), .int (Z 1)]))], hm_row g (a 1) (a 2) 100 (R 0), hm_row g (a 3) (a 4) 101 (R 1), hm_row g (a 5) (a 6) 30 (R 2), hm_row g (a 7) (a 8) 30 (R 3)] [hm_row g (a 11) (a 12) 30 wR_5]) (hm_mid [[(a 0, .inr (5, [.ref (a 1), .ref (a 3), .ref (a 5), .ref (a 7), .ref (a 9), .ref (a 11), .int (Z 0), .int (Z 1)]))], hm_row g (a 1) (a 2) 100 (R 0), hm_row g (a 3) (a 4) 101 (R 1), hm_row g (a 5) (a 6) 30 (R 2), hm_row g (a 7) (a 8) 30 (R 3)] [hm_row g (a 11) (a 12) 30 wR_5] (b := hm_row g (a 9) (a 10) 30 t5)) rfl rfl rfl ⟨rfl, rfl, Nat.le_of_ble_eq_true rfl, Nat.le_of_ble_eq_true rfl⟩ rfl hl.1 rfl (Nat.le_of_ble_eq_true rfl) dX5_measureRivers_49 ⟨Nat.zero_le _, Nat.zero_le _⟩ (fun H locs X => ?_)
            have X := X.to (ws' := ([[(a 0, .inr (5, [.ref (a 1), .ref (a 3), .ref (a 5), .ref (a 7), .ref (a 9), .ref (a 11), .int (Z 0), .int (Z 1)]))], hm_row g (a 1) (a 2) 100 (R 0), hm_row g (a 3) (a 4) 101 (R 1), hm_row g (a 5) (a 6) 30 (R 2), hm_row g (a 7) (a 8) 30 (R 3), hm_row g (a 9) (a 10) 30 t5, hm_row g (a 11) (a 12) 30 wR_5] : List va_W).flatten) rfl
            refine lv_aload_n hx hb dX5_measureRivers_52 rfl (lv_at hl 0 rfl) ?_
            refine hm_get S X hf_X5_29 0 rfl rfl dX5_measureRivers_53 ?_
            refine lv_iload_n hx hb dX5_measureRivers_56 rfl (lv_at hl 2 rfl) ?_
            obtain ⟨t6, ht6, hF⟩ := hm_bd hF
            refine hm_vi (As := [.int v2]) S X mw_X2_get hw_3_105 (c_X2_get l g (a 9) (a 10) 30 t5 v2 t6 ht6) (hm_mid [[(a 0, .inr (5, [.ref (a 1), .ref (a 3), .ref (a 5), .ref (a 7), .ref (a 9), .ref (a 11), .int (Z 0), .int (Z 1)]))], hm_row g (a 1) (a 2) 100 (R 0), hm_row g (a 3) (a 4) 101 (R 1), hm_row g (a 5) (a 6) 30 (R 2), hm_row g (a 7) (a 8) 30 (R 3)] [hm_row g (a 11) (a 12) 30 wR_5]) (hm_mid [[(a 0, .inr (5, [.ref (a 1), .ref (a 3), .ref (a 5), .ref (a 7), .ref (a 9), .ref (a 11), .int (Z 0), .int (Z 1)]))], hm_row g (a 1) (a 2) 100 (R 0), hm_row g (a 3) (a 4) 101 (R 1), hm_row g (a 5) (a 6) 30 (R 2), hm_row g (a 7) (a 8) 30 (R 3)] [hm_row g (a 11) (a 12) 30 wR_5] (b := hm_row g (a 9) (a 10) 30 t5)) rfl rfl rfl ⟨rfl, rfl, Nat.le_of_ble_eq_true rfl, Nat.le_of_ble_eq_true rfl⟩ rfl hl.1 rfl (Nat.le_of_ble_eq_true rfl) dX5_measureRivers_57 ⟨Nat.zero_le _, Nat.zero_le _⟩ (fun H locs X => ?_)
            have X := X.to (ws' := ([[(a 0, .inr (5, [.ref (a 1), .ref (a 3), .ref (a 5), .ref (a 7), .ref (a 9), .ref (a 11), .int (Z 0), .int (Z 1)]))], hm_row g (a 1) (a 2) 100 (R 0), hm_row g (a 3) (a 4) 101 (R 1), hm_row g (a 5) (a 6) 30 (R 2), hm_row g (a 7) (a 8) 30 (R 3), hm_row g (a 9) (a 10) 30 t5, hm_row g (a 11) (a 12) 30 wR_5] : List va_W).flatten) rfl
            refine lv_iconst (v := 3) hx hb dX5_measureRivers_60 (by decide) ?_
            refine lv_icmp_lt (tgt := 79) hx hb dX5_measureRivers_61 (by decide) (fun c61 => ?_) (fun c61 => ?_)
            · have hF := hm_if hF c61
              exact hl79 v1 v2 t5 wR_5 hF _ _ X _ (lv_sub hl [0, 1, 2] rfl)
            · have hF := hm_nf hF c61
              refine lv_aload_n hx hb dX5_measureRivers_64 rfl (lv_at hl 0 rfl) ?_
              refine lv_iload_n hx hb dX5_measureRivers_65 rfl (lv_at hl 2 rfl) ?_
              refine lv_iload_n hx hb dX5_measureRivers_66 rfl (lv_at hl 1 rfl) ?_
              refine lv_iconst (v := 1) hx hb dX5_measureRivers_67 (by decide) ?_
              refine lv_isub hx hb dX5_measureRivers_68 ?_
              obtain ⟨t8, ht8, hF⟩ := hm_bd hF
              refine hm_vi (As := [.int v2, .int (v1 - 1)]) S X mw_X5_meetsAny hw_3_116 (c_X5_meetsAny l g a (hm_up (hm_up R 4 t5) 5 wR_5) Z v2 (v1 - 1) t8 ht8) (hm_cq (n := 7) [0, 1, 2, 3, 4, 5, 6] [] rfl (by decide +kernel) rfl rfl) (hm_cq (bs := [[(a 0, .inr (5, [.ref (a 1), .ref (a 3), .ref (a 5), .ref (a 7), .ref (a 9), .ref (a 11), .int (Z 0), .int (Z 1)]))], hm_row g (a 1) (a 2) 100 (R 0), hm_row g (a 3) (a 4) 101 (R 1), hm_row g (a 5) (a 6) 30 (R 2), hm_row g (a 7) (a 8) 30 (R 3), hm_row g (a 9) (a 10) 30 t5, hm_row g (a 11) (a 12) 30 wR_5]) (n := 7) [0, 1, 2, 3, 4, 5, 6] [] rfl (by decide +kernel) rfl rfl) rfl rfl rfl ⟨rfl, rfl, Nat.le_of_ble_eq_true rfl, Nat.le_of_ble_eq_true rfl⟩ rfl hl.1 rfl (Nat.le_of_ble_eq_true rfl) dX5_measureRivers_69 ⟨Nat.zero_le _, Nat.zero_le _⟩ (fun H locs X => ?_)
              have X := X.to (ws' := ([[(a 0, .inr (5, [.ref (a 1), .ref (a 3), .ref (a 5), .ref (a 7), .ref (a 9), .ref (a 11), .int (Z 0), .int (Z 1)]))], hm_row g (a 1) (a 2) 100 (R 0), hm_row g (a 3) (a 4) 101 (R 1), hm_row g (a 5) (a 6) 30 (R 2), hm_row g (a 7) (a 8) 30 (R 3), hm_row g (a 9) (a 10) 30 t5, hm_row g (a 11) (a 12) 30 wR_5] : List va_W).flatten) rfl
              refine lv_if_ne (tgt := 79) hx hb dX5_measureRivers_72 (by decide) (fun c72 => ?_) (fun c72 => ?_)
              · have hF := hm_nf hF c72
                exact hl79 v1 v2 t5 wR_5 hF _ _ X _ (lv_sub hl [0, 1, 2] rfl)
              · have hF := hm_if hF c72
                refine lv_iconst (v := 1) hx hb dX5_measureRivers_75 (by decide) ?_
                refine lv_goto (tgt := 80) hx hb dX5_measureRivers_76 (by decide) ?_
                exact hl80 1 v1 v2 t5 wR_5 hF _ _ X _ (lv_sub hl [0, 1, 2] rfl)
      intro v1 wR_4 wR_5 hF H locs X ls hl
      rw [f_X5_measureRivers_l7_s] at hF
      refine lv_iload_n hx hb dX5_measureRivers_7 rfl (lv_at hl 1 rfl) ?_
      refine lv_if_lt (tgt := 110) hx hb dX5_measureRivers_8 (by decide) (fun c8 => ?_) (fun c8 => ?_)
      · have hF := hm_if hF c8
        obtain rfl := Option.some.inj hF
        exact hm_rv S hr hlk X rfl dX5_measureRivers_110
      · have hF := hm_nf hF c8
        refine lv_aload_n hx hb dX5_measureRivers_11 rfl (lv_at hl 0 rfl) ?_
        refine hm_get S X hf_X5_20 0 rfl rfl dX5_measureRivers_12 ?_
        refine lv_iload_n hx hb dX5_measureRivers_15 rfl (lv_at hl 1 rfl) ?_
        obtain ⟨t2, ht2, hF⟩ := hm_bd hF
        refine hm_vi (As := [.int v1]) S X mw_X2_get hw_3_105 (c_X2_get l g (a 3) (a 4) 101 (R 1) v1 t2 ht2) (hm_mid [[(a 0, .inr (5, [.ref (a 1), .ref (a 3), .ref (a 5), .ref (a 7), .ref (a 9), .ref (a 11), .int (Z 0), .int (Z 1)]))], hm_row g (a 1) (a 2) 100 (R 0)] [hm_row g (a 5) (a 6) 30 (R 2), hm_row g (a 7) (a 8) 30 (R 3), hm_row g (a 9) (a 10) 30 wR_4, hm_row g (a 11) (a 12) 30 wR_5]) (hm_mid [[(a 0, .inr (5, [.ref (a 1), .ref (a 3), .ref (a 5), .ref (a 7), .ref (a 9), .ref (a 11), .int (Z 0), .int (Z 1)]))], hm_row g (a 1) (a 2) 100 (R 0)] [hm_row g (a 5) (a 6) 30 (R 2), hm_row g (a 7) (a 8) 30 (R 3), hm_row g (a 9) (a 10) 30 wR_4, hm_row g (a 11) (a 12) 30 wR_5] (b := hm_row g (a 3) (a 4) 101 (R 1))) rfl rfl rfl ⟨rfl, rfl, Nat.le_of_ble_eq_true rfl, Nat.le_of_ble_eq_true rfl⟩ rfl hl.1 rfl (Nat.le_of_ble_eq_true rfl) dX5_measureRivers_16 ⟨Nat.zero_le _, Nat.zero_le _⟩ (fun H locs X => ?_)
        have X := X.to (ws' := ([[(a 0, .inr (5, [.ref (a 1), .ref (a 3), .ref (a 5), .ref (a 7), .ref (a 9), .ref (a 11), .int (Z 0), .int (Z 1)]))], hm_row g (a 1) (a 2) 100 (R 0), hm_row g (a 3) (a 4) 101 (R 1), hm_row g (a 5) (a 6) 30 (R 2), hm_row g (a 7) (a 8) 30 (R 3), hm_row g (a 9) (a 10) 30 wR_4, hm_row g (a 11) (a 12) 30 wR_5] : List va_W).flatten) rfl
        refine lv_istore_n (lv' := [(2, .int t2), (0, .ref (a 0)), (1, .int v1)]) hx hb dX5_measureRivers_19 rfl hl (by decide) rfl (fun ls hl => ?_)
        exact hl20 hm_fu v1 t2 wR_4 wR_5 hF _ _ X _ (lv_sub hl [1, 2, 0] rfl)
  unfold f_X5_measureRivers at hF
  refine lv_aload_n hx hb dX5_measureRivers_0 rfl (lv_at hl 0 rfl) ?_
  obtain ⟨t1, ht1, hF⟩ := hm_bd hF
  refine hm_vi (As := []) S X mw_X5_lineCount hw_3_101 (c_X5_lineCount l g a R Z t1 ht1) (hm_cq (n := 7) [0, 1, 2, 3, 4, 5, 6] [] rfl (by decide +kernel) rfl rfl) (hm_cq (bs := [[(a 0, .inr (5, [.ref (a 1), .ref (a 3), .ref (a 5), .ref (a 7), .ref (a 9), .ref (a 11), .int (Z 0), .int (Z 1)]))], hm_row g (a 1) (a 2) 100 (R 0), hm_row g (a 3) (a 4) 101 (R 1), hm_row g (a 5) (a 6) 30 (R 2), hm_row g (a 7) (a 8) 30 (R 3), hm_row g (a 9) (a 10) 30 (R 4), hm_row g (a 11) (a 12) 30 (R 5)]) (n := 7) [0, 1, 2, 3, 4, 5, 6] [] rfl (by decide +kernel) rfl rfl) rfl rfl rfl ⟨rfl, rfl, Nat.le_of_ble_eq_true rfl, Nat.le_of_ble_eq_true rfl⟩ rfl hl.1 rfl (Nat.le_of_ble_eq_true rfl) dX5_measureRivers_1 ⟨Nat.zero_le _, Nat.zero_le _⟩ (fun H locs X => ?_)
  have X := X.to (ws' := ([[(a 0, .inr (5, [.ref (a 1), .ref (a 3), .ref (a 5), .ref (a 7), .ref (a 9), .ref (a 11), .int (Z 0), .int (Z 1)]))], hm_row g (a 1) (a 2) 100 (R 0), hm_row g (a 3) (a 4) 101 (R 1), hm_row g (a 5) (a 6) 30 (R 2), hm_row g (a 7) (a 8) 30 (R 3), hm_row g (a 9) (a 10) 30 (R 4), hm_row g (a 11) (a 12) 30 (R 5)] : List va_W).flatten) rfl
  refine lv_iconst (v := 1) hx hb dX5_measureRivers_4 (by decide) ?_
  refine lv_isub hx hb dX5_measureRivers_5 ?_
  refine lv_istore_n (lv' := [(1, .int (t1 - 1)), (0, .ref (a 0))]) hx hb dX5_measureRivers_6 rfl hl (by decide) rfl (fun ls hl => ?_)
  exact hl7 hm_fu (t1 - 1) (R 4) (R 5) hF _ _ X _ (lv_sub hl [1, 0] rfl)
def f_X5_lay_l138  (wR_0 : hm_SR) (wR_1 : hm_SR) (wR_2 : hm_SR) (wR_3 : hm_SR) (wR_4 : hm_SR) (wR_5 : hm_SR) (wZ_0 : Int32) (wZ_1 : Int32) : Option (hm_SR × hm_SR × hm_SR × hm_SR × hm_SR × hm_SR × Int32 × Int32) :=
  (f_X5_measureRivers wR_0 wR_1 wR_2 wR_3 wR_4 wR_5).bind fun t12 =>
  some (wR_0, wR_1, wR_2, wR_3, t12.1, t12.2, wZ_0, wZ_1)
def f_X5_lay_l80 (LeR_0 : hm_SR) (LeR_1 : hm_SR) (LeR_2 : hm_SR) (LeR_3 : hm_SR) (LeR_4 : hm_SR) (LeZ_0 : Int32) (LeZ_1 : Int32) (BrA_1 : Nat → Int32) (BrA_2 : Nat → Int32) : Nat → Int32 → Int32 → hm_SR → hm_SR → hm_SR → hm_SR → hm_SR → hm_SR → Int32 → Int32 → Option (hm_SR × hm_SR × hm_SR × hm_SR × hm_SR × hm_SR × Int32 × Int32)
  | 0, _, _, _, _, _, _, _, _, _, _ => none
  | k + 1, v3, v4, wR_0, wR_1, wR_2, wR_3, wR_4, wR_5, wZ_0, wZ_1 =>
  (f_X0_lineCount BrA_1).bind fun t11 =>
  if t11 ≤ v4 then (
  f_X5_lay_l138 wR_0 wR_1 wR_2 wR_3 wR_4 wR_5 wZ_0 wZ_1)
  else (
  (f_X0_endBehind BrA_2 v3).bind fun t13 =>
  (f_X2_add 100 wR_0 t13).bind fun t14 =>
  (f_X5_setLine wR_2 wR_3 wR_4 wR_5 LeR_0 LeR_1 LeR_2 LeR_3 LeR_4 LeZ_0 LeZ_1 v3 t13).bind fun t15 =>
  (f_X2_size t15.1).bind fun t16 =>
  (f_X2_add 101 wR_1 t16).bind fun t17 =>
  f_X5_lay_l80 LeR_0 LeR_1 LeR_2 LeR_3 LeR_4 LeZ_0 LeZ_1 BrA_1 BrA_2 k t13 (v4 + 1) t14.2 t17.2 t15.1 t15.2.1 t15.2.2.1 t15.2.2.2 wZ_0 wZ_1)
theorem f_X5_lay_l80_s (LeR_0 : hm_SR) (LeR_1 : hm_SR) (LeR_2 : hm_SR) (LeR_3 : hm_SR) (LeR_4 : hm_SR) (LeZ_0 : Int32) (LeZ_1 : Int32) (BrA_1 : Nat → Int32) (BrA_2 : Nat → Int32) (k : Nat) (v3 : Int32) (v4 : Int32) (wR_0 : hm_SR) (wR_1 : hm_SR) (wR_2 : hm_SR) (wR_3 : hm_SR) (wR_4 : hm_SR) (wR_5 : hm_SR) (wZ_0 : Int32) (wZ_1 : Int32) : f_X5_lay_l80 LeR_0 LeR_1 LeR_2 LeR_3 LeR_4 LeZ_0 LeZ_1 BrA_1 BrA_2 (k + 1) v3 v4 wR_0 wR_1 wR_2 wR_3 wR_4 wR_5 wZ_0 wZ_1 =
  (f_X0_lineCount BrA_1).bind fun t11 =>
  if t11 ≤ v4 then (
  f_X5_lay_l138 wR_0 wR_1 wR_2 wR_3 wR_4 wR_5 wZ_0 wZ_1)
  else (
  (f_X0_endBehind BrA_2 v3).bind fun t13 =>
  (f_X2_add 100 wR_0 t13).bind fun t14 =>
  (f_X5_setLine wR_2 wR_3 wR_4 wR_5 LeR_0 LeR_1 LeR_2 LeR_3 LeR_4 LeZ_0 LeZ_1 v3 t13).bind fun t15 =>
  (f_X2_size t15.1).bind fun t16 =>
  (f_X2_add 101 wR_1 t16).bind fun t17 =>
  f_X5_lay_l80 LeR_0 LeR_1 LeR_2 LeR_3 LeR_4 LeZ_0 LeZ_1 BrA_1 BrA_2 k t13 (v4 + 1) t14.2 t17.2 t15.1 t15.2.1 t15.2.2.1 t15.2.2.2 wZ_0 wZ_1) := rfl
theorem f_X5_lay_l80_z (LeR_0 : hm_SR) (LeR_1 : hm_SR) (LeR_2 : hm_SR) (LeR_3 : hm_SR) (LeR_4 : hm_SR) (LeZ_0 : Int32) (LeZ_1 : Int32) (BrA_1 : Nat → Int32) (BrA_2 : Nat → Int32) (v3 : Int32) (v4 : Int32) (wR_0 : hm_SR) (wR_1 : hm_SR) (wR_2 : hm_SR) (wR_3 : hm_SR) (wR_4 : hm_SR) (wR_5 : hm_SR) (wZ_0 : Int32) (wZ_1 : Int32) : f_X5_lay_l80 LeR_0 LeR_1 LeR_2 LeR_3 LeR_4 LeZ_0 LeZ_1 BrA_1 BrA_2 0 v3 v4 wR_0 wR_1 wR_2 wR_3 wR_4 wR_5 wZ_0 wZ_1 = none := rfl
def f_X5_lay (R_0 : hm_SR) (R_1 : hm_SR) (R_2 : hm_SR) (R_3 : hm_SR) (R_4 : hm_SR) (R_5 : hm_SR) (LeR_0 : hm_SR) (LeR_1 : hm_SR) (LeR_2 : hm_SR) (LeR_3 : hm_SR) (LeR_4 : hm_SR) (LeZ_0 : Int32) (LeZ_1 : Int32) (BrA_0 : Nat → Int32) (BrA_1 : Nat → Int32) (BrA_2 : Nat → Int32)  : Option (hm_SR × hm_SR × hm_SR × hm_SR × hm_SR × hm_SR × Int32 × Int32) :=
  (f_X2_empty R_0).bind fun t1 =>
  (f_X2_empty R_1).bind fun t2 =>
  (f_X2_empty R_2).bind fun t3 =>
  (f_X2_empty R_3).bind fun t4 =>
  (f_X2_empty R_4).bind fun t5 =>
  (f_X2_empty R_5).bind fun t6 =>
  (f_X0_hasPage BrA_1).bind fun t7 =>
  (hm_bl t7).bind fun t8 =>
  (f_X0_cost BrA_0).bind fun t9 =>
  if t7 = 0 then (
  some (t1, t2, t3, t4, t5, t6, t7, t9))
  else (
  (f_X2_add 101 t2 0).bind fun t10 =>
  f_X5_lay_l80 LeR_0 LeR_1 LeR_2 LeR_3 LeR_4 LeZ_0 LeZ_1 BrA_1 BrA_2 hm_fu (-1) 0 t1 t10.2 t3 t4 t5 t6 t7 t9)
abbrev rm_X5_lay : Room := { frames := 4, cells := 0, slots := 0, locals := 95 }
set_option maxHeartbeats 4000000 in
set_option maxRecDepth 100000 in
theorem c_X5_lay (l : Launch) (g : hm_G) (a : Nat → Nat) (R : Nat → hm_SR) (Z : Nat → Int32) (aLe : Nat → Nat) (LeR : Nat → hm_SR) (LeZ : Nat → Int32) (aBr : Nat → Nat) (BrA : Nat → Nat → Int32) (q : hm_SR × hm_SR × hm_SR × hm_SR × hm_SR × hm_SR × Int32 × Int32) (hF : f_X5_lay (R 0) (R 1) (R 2) (R 3) (R 4) (R 5) (LeR 0) (LeR 1) (LeR 2) (LeR 3) (LeR 4) (LeZ 0) (LeZ 1) (BrA 0) (BrA 1) (BrA 2) = some q) : hm_Mv l yX5_lay (Cond.code yX5_lay cX5_lay 6 none :: hm_W) rm_X5_lay g [.ref (a 0), .ref (aLe 0), .ref (aBr 0)] ([hm_wSh g a R Z, hm_wLe g aLe LeR LeZ, hm_wBr g aBr BrA] : List va_W).flatten ([hm_wSh g a (hm_up (hm_up (hm_up (hm_up (hm_up (hm_up R 0 q.1) 1 q.2.1) 2 q.2.2.1) 3 q.2.2.2.1) 4 q.2.2.2.2.1) 5 q.2.2.2.2.2.1) (hm_up (hm_up Z 0 q.2.2.2.2.2.2.1) 1 q.2.2.2.2.2.2.2), hm_wLe g aLe LeR LeZ, hm_wBr g aBr BrA] : List va_W).flatten := by
  refine hm_ofv [(0, .ref (a 0)), (1, .ref (aLe 0)), (2, .ref (aBr 0))] (by decide) (own := RX5) rfl (Nat.le_of_ble_eq_true rfl) rfl rfl ?_
  intro p e s m args below meth c AA S hr hlk X ls hl
  have hx := S.1
  have hb := S.2.1
  have hown := S.2.2.2.1
  have hts := S.2.2.2.2
  have X := X.to (ws' := ([[(a 0, .inr (5, [.ref (a 1), .ref (a 3), .ref (a 5), .ref (a 7), .ref (a 9), .ref (a 11), .int (Z 0), .int (Z 1)]))], hm_row g (a 1) (a 2) 100 (R 0), hm_row g (a 3) (a 4) 101 (R 1), hm_row g (a 5) (a 6) 30 (R 2), hm_row g (a 7) (a 8) 30 (R 3), hm_row g (a 9) (a 10) 30 (R 4), hm_row g (a 11) (a 12) 30 (R 5), hm_wLe g aLe LeR LeZ, hm_wBr g aBr BrA] : List va_W).flatten) rfl
  have hl138 : ∀ (wR_0 : hm_SR) (wR_1 : hm_SR) (wR_2 : hm_SR) (wR_3 : hm_SR) (wR_4 : hm_SR) (wR_5 : hm_SR) (wZ_0 : Int32) (wZ_1 : Int32), f_X5_lay_l138 wR_0 wR_1 wR_2 wR_3 wR_4 wR_5 wZ_0 wZ_1 = some q → ∀ (H : Heap) (locs : List Loc), hm_X g AA s H locs ([[(a 0, .inr (5, [.ref (a 1), .ref (a 3), .ref (a 5), .ref (a 7), .ref (a 9), .ref (a 11), .int wZ_0, .int wZ_1]))], hm_row g (a 1) (a 2) 100 wR_0, hm_row g (a 3) (a 4) 101 wR_1, hm_row g (a 5) (a 6) 30 wR_2, hm_row g (a 7) (a 8) 30 wR_3, hm_row g (a 9) (a 10) 30 wR_4, hm_row g (a 11) (a 12) 30 wR_5, hm_wLe g aLe LeR LeZ, hm_wBr g aBr BrA] : List va_W).flatten → ∀ ls : Array Slot, lv_has ls 6 [(0, .ref (a 0))] → W p l e rm_X5_lay s m args below meth c H locs 0 0 (MQ below (hm_Qv g AA ([hm_wSh g a (hm_up (hm_up (hm_up (hm_up (hm_up (hm_up R 0 q.1) 1 q.2.1) 2 q.2.2.1) 3 q.2.2.2.1) 4 q.2.2.2.2.1) 5 q.2.2.2.2.2.1) (hm_up (hm_up Z 0 q.2.2.2.2.2.2.1) 1 q.2.2.2.2.2.2.2), hm_wLe g aLe LeR LeZ, hm_wBr g aBr BrA] : List va_W).flatten) args s 0 0 AA) (F0 m 138 ls []) := by
    intro wR_0 wR_1 wR_2 wR_3 wR_4 wR_5 wZ_0 wZ_1 hF H locs X ls hl
    unfold f_X5_lay_l138 at hF
    refine lv_aload_n hx hb dX5_lay_138 rfl (lv_at hl 0 rfl) ?_
    obtain ⟨t12, ht12, hF⟩ := hm_bd hF
    refine hm_vv (As := []) S X mw_X5_measureRivers hw_3_97 (c_X5_measureRivers l g a (hm_up (hm_up (hm_up (hm_up (hm_up (hm_up R 0 wR_0) 1 wR_1) 2 wR_2) 3 wR_3) 4 wR_4) 5 wR_5) (hm_up (hm_up Z 0 wZ_0) 1 wZ_1) t12 ht12) (hm_cq (n := 9) [0, 1, 2, 3, 4, 5, 6] [7, 8] rfl (by decide +kernel) rfl rfl) (hm_cq (bs := [[(a 0, .inr (5, [.ref (a 1), .ref (a 3), .ref (a 5), .ref (a 7), .ref (a 9), .ref (a 11), .int wZ_0, .int wZ_1]))], hm_row g (a 1) (a 2) 100 wR_0, hm_row g (a 3) (a 4) 101 wR_1, hm_row g (a 5) (a 6) 30 wR_2, hm_row g (a 7) (a 8) 30 wR_3, hm_row g (a 9) (a 10) 30 t12.1, hm_row g (a 11) (a 12) 30 t12.2, hm_wLe g aLe LeR LeZ, hm_wBr g aBr BrA]) (n := 9) [0, 1, 2, 3, 4, 5, 6] [7, 8] rfl (by decide +kernel) rfl rfl) rfl rfl rfl ⟨rfl, rfl, Nat.le_of_ble_eq_true rfl, Nat.le_of_ble_eq_true rfl⟩ rfl hl.1 rfl (Nat.le_of_ble_eq_true rfl) dX5_lay_139 ⟨Nat.zero_le _, Nat.zero_le _⟩ (fun H locs X => ?_)
    have X := X.to (ws' := ([[(a 0, .inr (5, [.ref (a 1), .ref (a 3), .ref (a 5), .ref (a 7), .ref (a 9), .ref (a 11), .int wZ_0, .int wZ_1]))], hm_row g (a 1) (a 2) 100 wR_0, hm_row g (a 3) (a 4) 101 wR_1, hm_row g (a 5) (a 6) 30 wR_2, hm_row g (a 7) (a 8) 30 wR_3, hm_row g (a 9) (a 10) 30 t12.1, hm_row g (a 11) (a 12) 30 t12.2, hm_wLe g aLe LeR LeZ, hm_wBr g aBr BrA] : List va_W).flatten) rfl
    obtain rfl := Option.some.inj hF
    exact hm_rv S hr hlk X rfl dX5_lay_142
  have hl80 : ∀ (k80 : Nat) (v3 : Int32) (v4 : Int32) (wR_0 : hm_SR) (wR_1 : hm_SR) (wR_2 : hm_SR) (wR_3 : hm_SR) (wR_4 : hm_SR) (wR_5 : hm_SR) (wZ_0 : Int32) (wZ_1 : Int32), f_X5_lay_l80 (LeR 0) (LeR 1) (LeR 2) (LeR 3) (LeR 4) (LeZ 0) (LeZ 1) (BrA 1) (BrA 2) k80 v3 v4 wR_0 wR_1 wR_2 wR_3 wR_4 wR_5 wZ_0 wZ_1 = some q → ∀ (H : Heap) (locs : List Loc), hm_X g AA s H locs ([[(a 0, .inr (5, [.ref (a 1), .ref (a 3), .ref (a 5), .ref (a 7), .ref (a 9), .ref (a 11), .int wZ_0, .int wZ_1]))], hm_row g (a 1) (a 2) 100 wR_0, hm_row g (a 3) (a 4) 101 wR_1, hm_row g (a 5) (a 6) 30 wR_2, hm_row g (a 7) (a 8) 30 wR_3, hm_row g (a 9) (a 10) 30 wR_4, hm_row g (a 11) (a 12) 30 wR_5, hm_wLe g aLe LeR LeZ, hm_wBr g aBr BrA] : List va_W).flatten → ∀ ls : Array Slot, lv_has ls 6 [(0, .ref (a 0)), (1, .ref (aLe 0)), (2, .ref (aBr 0)), (3, .int v3), (4, .int v4)] → W p l e rm_X5_lay s m args below meth c H locs 0 0 (MQ below (hm_Qv g AA ([hm_wSh g a (hm_up (hm_up (hm_up (hm_up (hm_up (hm_up R 0 q.1) 1 q.2.1) 2 q.2.2.1) 3 q.2.2.2.1) 4 q.2.2.2.2.1) 5 q.2.2.2.2.2.1) (hm_up (hm_up Z 0 q.2.2.2.2.2.2.1) 1 q.2.2.2.2.2.2.2), hm_wLe g aLe LeR LeZ, hm_wBr g aBr BrA] : List va_W).flatten) args s 0 0 AA) (F0 m 80 ls []) := by
    intro k80
    induction k80 with
    | zero =>
      intro v3 v4 wR_0 wR_1 wR_2 wR_3 wR_4 wR_5 wZ_0 wZ_1 hF
      rw [f_X5_lay_l80_z] at hF
      cases hF
    | succ k80 ih80 =>
      intro v3 v4 wR_0 wR_1 wR_2 wR_3 wR_4 wR_5 wZ_0 wZ_1 hF H locs X ls hl
      rw [f_X5_lay_l80_s] at hF
      refine lv_iload hx hb dX5_lay_80 (lv_at hl 4 rfl) ?_
      refine lv_aload_n hx hb dX5_lay_82 rfl (lv_at hl 2 rfl) ?_
      obtain ⟨t11, ht11, hF⟩ := hm_bd hF
      refine hm_vi (As := []) S X mw_X0_lineCount hw_3_56 (c_X0_lineCount l g aBr BrA t11 ht11) (hm_mid [[(a 0, .inr (5, [.ref (a 1), .ref (a 3), .ref (a 5), .ref (a 7), .ref (a 9), .ref (a 11), .int wZ_0, .int wZ_1]))], hm_row g (a 1) (a 2) 100 wR_0, hm_row g (a 3) (a 4) 101 wR_1, hm_row g (a 5) (a 6) 30 wR_2, hm_row g (a 7) (a 8) 30 wR_3, hm_row g (a 9) (a 10) 30 wR_4, hm_row g (a 11) (a 12) 30 wR_5, hm_wLe g aLe LeR LeZ] []) (hm_mid [[(a 0, .inr (5, [.ref (a 1), .ref (a 3), .ref (a 5), .ref (a 7), .ref (a 9), .ref (a 11), .int wZ_0, .int wZ_1]))], hm_row g (a 1) (a 2) 100 wR_0, hm_row g (a 3) (a 4) 101 wR_1, hm_row g (a 5) (a 6) 30 wR_2, hm_row g (a 7) (a 8) 30 wR_3, hm_row g (a 9) (a 10) 30 wR_4, hm_row g (a 11) (a 12) 30 wR_5, hm_wLe g aLe LeR LeZ] [] (b := hm_wBr g aBr BrA)) rfl rfl rfl ⟨rfl, rfl, Nat.le_of_ble_eq_true rfl, Nat.le_of_ble_eq_true rfl⟩ rfl hl.1 rfl (Nat.le_of_ble_eq_true rfl) dX5_lay_83 ⟨Nat.zero_le _, Nat.zero_le _⟩ (fun H locs X => ?_)
      have X := X.to (ws' := ([[(a 0, .inr (5, [.ref (a 1), .ref (a 3), .ref (a 5), .ref (a 7), .ref (a 9), .ref (a 11), .int wZ_0, .int wZ_1]))], hm_row g (a 1) (a 2) 100 wR_0, hm_row g (a 3) (a 4) 101 wR_1, hm_row g (a 5) (a 6) 30 wR_2, hm_row g (a 7) (a 8) 30 wR_3, hm_row g (a 9) (a 10) 30 wR_4, hm_row g (a 11) (a 12) 30 wR_5, hm_wLe g aLe LeR LeZ, hm_wBr g aBr BrA] : List va_W).flatten) rfl
      refine lv_icmp_ge (tgt := 138) hx hb dX5_lay_86 (by decide) (fun c86 => ?_) (fun c86 => ?_)
      · have hF := hm_if hF c86
        exact hl138 wR_0 wR_1 wR_2 wR_3 wR_4 wR_5 wZ_0 wZ_1 hF _ _ X _ (lv_sub hl [0] rfl)
      · have hF := hm_nf hF c86
        refine lv_aload_n hx hb dX5_lay_89 rfl (lv_at hl 2 rfl) ?_
        refine lv_iload_n hx hb dX5_lay_90 rfl (lv_at hl 3 rfl) ?_
        obtain ⟨t13, ht13, hF⟩ := hm_bd hF
        refine hm_vi (As := [.int v3]) S X mw_X0_endBehind hw_3_60 (c_X0_endBehind l g aBr BrA v3 t13 ht13) (hm_mid [[(a 0, .inr (5, [.ref (a 1), .ref (a 3), .ref (a 5), .ref (a 7), .ref (a 9), .ref (a 11), .int wZ_0, .int wZ_1]))], hm_row g (a 1) (a 2) 100 wR_0, hm_row g (a 3) (a 4) 101 wR_1, hm_row g (a 5) (a 6) 30 wR_2, hm_row g (a 7) (a 8) 30 wR_3, hm_row g (a 9) (a 10) 30 wR_4, hm_row g (a 11) (a 12) 30 wR_5, hm_wLe g aLe LeR LeZ] []) (hm_mid [[(a 0, .inr (5, [.ref (a 1), .ref (a 3), .ref (a 5), .ref (a 7), .ref (a 9), .ref (a 11), .int wZ_0, .int wZ_1]))], hm_row g (a 1) (a 2) 100 wR_0, hm_row g (a 3) (a 4) 101 wR_1, hm_row g (a 5) (a 6) 30 wR_2, hm_row g (a 7) (a 8) 30 wR_3, hm_row g (a 9) (a 10) 30 wR_4, hm_row g (a 11) (a 12) 30 wR_5, hm_wLe g aLe LeR LeZ] [] (b := hm_wBr g aBr BrA)) rfl rfl rfl ⟨rfl, rfl, Nat.le_of_ble_eq_true rfl, Nat.le_of_ble_eq_true rfl⟩ rfl hl.1 rfl (Nat.le_of_ble_eq_true rfl) dX5_lay_91 ⟨Nat.zero_le _, Nat.zero_le _⟩ (fun H locs X => ?_)
        have X := X.to (ws' := ([[(a 0, .inr (5, [.ref (a 1), .ref (a 3), .ref (a 5), .ref (a 7), .ref (a 9), .ref (a 11), .int wZ_0, .int wZ_1]))], hm_row g (a 1) (a 2) 100 wR_0, hm_row g (a 3) (a 4) 101 wR_1, hm_row g (a 5) (a 6) 30 wR_2, hm_row g (a 7) (a 8) 30 wR_3, hm_row g (a 9) (a 10) 30 wR_4, hm_row g (a 11) (a 12) 30 wR_5, hm_wLe g aLe LeR LeZ, hm_wBr g aBr BrA] : List va_W).flatten) rfl
        refine lv_istore (lv' := [(5, .int t13), (0, .ref (a 0)), (1, .ref (aLe 0)), (2, .ref (aBr 0)), (3, .int v3), (4, .int v4)]) hx hb dX5_lay_94 hl (by decide) rfl (fun ls hl => ?_)
        refine lv_aload_n hx hb dX5_lay_96 rfl (lv_at hl 1 rfl) ?_
        refine hm_get S X hf_X5_14 0 rfl rfl dX5_lay_97 ?_
        refine lv_iload hx hb dX5_lay_100 (lv_at hl 0 rfl) ?_
        obtain ⟨t14, ht14, hF⟩ := hm_bd hF
        refine hm_vi (As := [.int t13]) S X mw_X2_add hw_3_55 (c_X2_add l g (a 1) (a 2) 100 wR_0 t13 t14 ht14) (hm_mid [[(a 0, .inr (5, [.ref (a 1), .ref (a 3), .ref (a 5), .ref (a 7), .ref (a 9), .ref (a 11), .int wZ_0, .int wZ_1]))]] [hm_row g (a 3) (a 4) 101 wR_1, hm_row g (a 5) (a 6) 30 wR_2, hm_row g (a 7) (a 8) 30 wR_3, hm_row g (a 9) (a 10) 30 wR_4, hm_row g (a 11) (a 12) 30 wR_5, hm_wLe g aLe LeR LeZ, hm_wBr g aBr BrA]) (hm_mid [[(a 0, .inr (5, [.ref (a 1), .ref (a 3), .ref (a 5), .ref (a 7), .ref (a 9), .ref (a 11), .int wZ_0, .int wZ_1]))]] [hm_row g (a 3) (a 4) 101 wR_1, hm_row g (a 5) (a 6) 30 wR_2, hm_row g (a 7) (a 8) 30 wR_3, hm_row g (a 9) (a 10) 30 wR_4, hm_row g (a 11) (a 12) 30 wR_5, hm_wLe g aLe LeR LeZ, hm_wBr g aBr BrA] (b := hm_row g (a 1) (a 2) 100 t14.2)) rfl rfl rfl ⟨rfl, rfl, Nat.le_of_ble_eq_true rfl, Nat.le_of_ble_eq_true rfl⟩ rfl hl.1 rfl (Nat.le_of_ble_eq_true rfl) dX5_lay_102 ⟨Nat.zero_le _, Nat.zero_le _⟩ (fun H locs X => ?_)
        have X := X.to (ws' := ([[(a 0, .inr (5, [.ref (a 1), .ref (a 3), .ref (a 5), .ref (a 7), .ref (a 9), .ref (a 11), .int wZ_0, .int wZ_1]))], hm_row g (a 1) (a 2) 100 t14.2, hm_row g (a 3) (a 4) 101 wR_1, hm_row g (a 5) (a 6) 30 wR_2, hm_row g (a 7) (a 8) 30 wR_3, hm_row g (a 9) (a 10) 30 wR_4, hm_row g (a 11) (a 12) 30 wR_5, hm_wLe g aLe LeR LeZ, hm_wBr g aBr BrA] : List va_W).flatten) rfl
        refine lv_pop hx hb dX5_lay_105 rfl ?_
        refine lv_aload_n hx hb dX5_lay_106 rfl (lv_at hl 1 rfl) ?_
        refine lv_aload_n hx hb dX5_lay_107 rfl (lv_at hl 2 rfl) ?_
        refine lv_iload_n hx hb dX5_lay_108 rfl (lv_at hl 4 rfl) ?_
        refine lv_iload hx hb dX5_lay_109 (lv_at hl 0 rfl) ?_
        obtain ⟨t15, ht15, hF⟩ := hm_bd hF
        refine hm_vv (As := [.ref (aLe 0), .int v3, .int t13]) S X mw_X5_setLine hw_3_64 (c_X5_setLine l g a (hm_up (hm_up (hm_up (hm_up (hm_up (hm_up R 0 t14.2) 1 wR_1) 2 wR_2) 3 wR_3) 4 wR_4) 5 wR_5) (hm_up (hm_up Z 0 wZ_0) 1 wZ_1) aLe LeR LeZ v3 t13 t15 ht15) (hm_cq (n := 9) [0, 1, 2, 3, 4, 5, 6, 7] [8] rfl (by decide +kernel) rfl rfl) (hm_cq (bs := [[(a 0, .inr (5, [.ref (a 1), .ref (a 3), .ref (a 5), .ref (a 7), .ref (a 9), .ref (a 11), .int wZ_0, .int wZ_1]))], hm_row g (a 1) (a 2) 100 t14.2, hm_row g (a 3) (a 4) 101 wR_1, hm_row g (a 5) (a 6) 30 t15.1, hm_row g (a 7) (a 8) 30 t15.2.1, hm_row g (a 9) (a 10) 30 t15.2.2.1, hm_row g (a 11) (a 12) 30 t15.2.2.2, hm_wLe g aLe LeR LeZ, hm_wBr g aBr BrA]) (n := 9) [0, 1, 2, 3, 4, 5, 6, 7] [8] rfl (by decide +kernel) rfl rfl) rfl rfl rfl ⟨rfl, rfl, Nat.le_of_ble_eq_true rfl, Nat.le_of_ble_eq_true rfl⟩ rfl hl.1 rfl (Nat.le_of_ble_eq_true rfl) dX5_lay_111 ⟨Nat.zero_le _, Nat.zero_le _⟩ (fun H locs X => ?_)
        have X := X.to (ws' := ([[(a 0, .inr (5, [.ref (a 1), .ref (a 3), .ref (a 5), .ref (a 7), .ref (a 9), .ref (a 11), .int wZ_0, .int wZ_1]))], hm_row g (a 1) (a 2) 100 t14.2, hm_row g (a 3) (a 4) 101 wR_1, hm_row g (a 5) (a 6) 30 t15.1, hm_row g (a 7) (a 8) 30 t15.2.1, hm_row g (a 9) (a 10) 30 t15.2.2.1, hm_row g (a 11) (a 12) 30 t15.2.2.2, hm_wLe g aLe LeR LeZ, hm_wBr g aBr BrA] : List va_W).flatten) rfl
        refine lv_aload_n hx hb dX5_lay_114 rfl (lv_at hl 1 rfl) ?_
        refine hm_get S X hf_X5_20 0 rfl rfl dX5_lay_115 ?_
        refine lv_aload_n hx hb dX5_lay_118 rfl (lv_at hl 1 rfl) ?_
        refine hm_get S X hf_X5_23 0 rfl rfl dX5_lay_119 ?_
        obtain ⟨t16, ht16, hF⟩ := hm_bd hF
        refine hm_vi (As := []) S X mw_X2_size hw_3_96 (c_X2_size l g (a 5) (a 6) 30 t15.1 t16 ht16) (hm_mid [[(a 0, .inr (5, [.ref (a 1), .ref (a 3), .ref (a 5), .ref (a 7), .ref (a 9), .ref (a 11), .int wZ_0, .int wZ_1]))], hm_row g (a 1) (a 2) 100 t14.2, hm_row g (a 3) (a 4) 101 wR_1] [hm_row g (a 7) (a 8) 30 t15.2.1, hm_row g (a 9) (a 10) 30 t15.2.2.1, hm_row g (a 11) (a 12) 30 t15.2.2.2, hm_wLe g aLe LeR LeZ, hm_wBr g aBr BrA]) (hm_mid [[(a 0, .inr (5, [.ref (a 1), .ref (a 3), .ref (a 5), .ref (a 7), .ref (a 9), .ref (a 11), .int wZ_0, .int wZ_1]))], hm_row g (a 1) (a 2) 100 t14.2, hm_row g (a 3) (a 4) 101 wR_1] [hm_row g (a 7) (a 8) 30 t15.2.1, hm_row g (a 9) (a 10) 30 t15.2.2.1, hm_row g (a 11) (a 12) 30 t15.2.2.2, hm_wLe g aLe LeR LeZ, hm_wBr g aBr BrA] (b := hm_row g (a 5) (a 6) 30 t15.1)) rfl rfl rfl ⟨rfl, rfl, Nat.le_of_ble_eq_true rfl, Nat.le_of_ble_eq_true rfl⟩ rfl hl.1 rfl (Nat.le_of_ble_eq_true rfl) dX5_lay_122 ⟨Nat.zero_le _, Nat.zero_le _⟩ (fun H locs X => ?_)
        have X := X.to (ws' := ([[(a 0, .inr (5, [.ref (a 1), .ref (a 3), .ref (a 5), .ref (a 7), .ref (a 9), .ref (a 11), .int wZ_0, .int wZ_1]))], hm_row g (a 1) (a 2) 100 t14.2, hm_row g (a 3) (a 4) 101 wR_1, hm_row g (a 5) (a 6) 30 t15.1, hm_row g (a 7) (a 8) 30 t15.2.1, hm_row g (a 9) (a 10) 30 t15.2.2.1, hm_row g (a 11) (a 12) 30 t15.2.2.2, hm_wLe g aLe LeR LeZ, hm_wBr g aBr BrA] : List va_W).flatten) rfl
        obtain ⟨t17, ht17, hF⟩ := hm_bd hF
        refine hm_vi (As := [.int t16]) S X mw_X2_add hw_3_55 (c_X2_add l g (a 3) (a 4) 101 wR_1 t16 t17 ht17) (hm_mid [[(a 0, .inr (5, [.ref (a 1), .ref (a 3), .ref (a 5), .ref (a 7), .ref (a 9), .ref (a 11), .int wZ_0, .int wZ_1]))], hm_row g (a 1) (a 2) 100 t14.2] [hm_row g (a 5) (a 6) 30 t15.1, hm_row g (a 7) (a 8) 30 t15.2.1, hm_row g (a 9) (a 10) 30 t15.2.2.1, hm_row g (a 11) (a 12) 30 t15.2.2.2, hm_wLe g aLe LeR LeZ, hm_wBr g aBr BrA]) (hm_mid [[(a 0, .inr (5, [.ref (a 1), .ref (a 3), .ref (a 5), .ref (a 7), .ref (a 9), .ref (a 11), .int wZ_0, .int wZ_1]))], hm_row g (a 1) (a 2) 100 t14.2] [hm_row g (a 5) (a 6) 30 t15.1, hm_row g (a 7) (a 8) 30 t15.2.1, hm_row g (a 9) (a 10) 30 t15.2.2.1, hm_row g (a 11) (a 12) 30 t15.2.2.2, hm_wLe g aLe LeR LeZ, hm_wBr g aBr BrA] (b := hm_row g (a 3) (a 4) 101 t17.2)) rfl rfl rfl ⟨rfl, rfl, Nat.le_of_ble_eq_true rfl, Nat.le_of_ble_eq_true rfl⟩ rfl hl.1 rfl (Nat.le_of_ble_eq_true rfl) dX5_lay_125 ⟨Nat.zero_le _, Nat.zero_le _⟩ (fun H locs X => ?_)
        have X := X.to (ws' := ([[(a 0, .inr (5, [.ref (a 1), .ref (a 3), .ref (a 5), .ref (a 7), .ref (a 9), .ref (a 11), .int wZ_0, .int wZ_1]))], hm_row g (a 1) (a 2) 100 t14.2, hm_row g (a 3) (a 4) 101 t17.2, hm_row g (a 5) (a 6) 30 t15.1, hm_row g (a 7) (a 8) 30 t15.2.1, hm_row g (a 9) (a 10) 30 t15.2.2.1, hm_row g (a 11) (a 12) 30 t15.2.2.2, hm_wLe g aLe LeR LeZ, hm_wBr g aBr BrA] : List va_W).flatten) rfl
        refine lv_pop hx hb dX5_lay_128 rfl ?_
        refine lv_iload hx hb dX5_lay_129 (lv_at hl 0 rfl) ?_
        refine lv_istore_n (lv' := [(3, .int t13), (5, .int t13), (0, .ref (a 0)), (1, .ref (aLe 0)), (2, .ref (aBr 0)), (4, .int v4)]) hx hb dX5_lay_131 rfl hl (by decide) rfl (fun ls hl => ?_)
        refine lv_iinc (v := (v4 + 1)) (lv' := [(4, .int (v4 + 1)), (3, .int t13), (5, .int t13), (0, .ref (a 0)), (1, .ref (aLe 0)), (2, .ref (aBr 0))]) hx hb dX5_lay_132 hl (k := 5) rfl rfl (by decide) rfl (fun ls hl => ?_)
        refine lv_goto (tgt := 80) hx hb dX5_lay_135 (by decide) ?_
        exact ih80 t13 (v4 + 1) t14.2 t17.2 t15.1 t15.2.1 t15.2.2.1 t15.2.2.2 wZ_0 wZ_1 hF _ _ X _ (lv_sub hl [3, 4, 5, 1, 0] rfl)
  unfold f_X5_lay at hF
  refine lv_aload_n hx hb dX5_lay_0 rfl (lv_at hl 0 rfl) ?_
  refine hm_get S X hf_X5_14 0 rfl rfl dX5_lay_1 ?_
  obtain ⟨t1, ht1, hF⟩ := hm_bd hF
  refine hm_vv (As := []) S X mw_X2_empty hw_3_46 (c_X2_empty l g (a 1) (a 2) 100 (R 0) t1 ht1) (hm_mid [[(a 0, .inr (5, [.ref (a 1), .ref (a 3), .ref (a 5), .ref (a 7), .ref (a 9), .ref (a 11), .int (Z 0), .int (Z 1)]))]] [hm_row g (a 3) (a 4) 101 (R 1), hm_row g (a 5) (a 6) 30 (R 2), hm_row g (a 7) (a 8) 30 (R 3), hm_row g (a 9) (a 10) 30 (R 4), hm_row g (a 11) (a 12) 30 (R 5), hm_wLe g aLe LeR LeZ, hm_wBr g aBr BrA]) (hm_mid [[(a 0, .inr (5, [.ref (a 1), .ref (a 3), .ref (a 5), .ref (a 7), .ref (a 9), .ref (a 11), .int (Z 0), .int (Z 1)]))]] [hm_row g (a 3) (a 4) 101 (R 1), hm_row g (a 5) (a 6) 30 (R 2), hm_row g (a 7) (a 8) 30 (R 3), hm_row g (a 9) (a 10) 30 (R 4), hm_row g (a 11) (a 12) 30 (R 5), hm_wLe g aLe LeR LeZ, hm_wBr g aBr BrA] (b := hm_row g (a 1) (a 2) 100 t1)) rfl rfl rfl ⟨rfl, rfl, Nat.le_of_ble_eq_true rfl, Nat.le_of_ble_eq_true rfl⟩ rfl hl.1 rfl (Nat.le_of_ble_eq_true rfl) dX5_lay_4 ⟨Nat.zero_le _, Nat.zero_le _⟩ (fun H locs X => ?_)
  have X := X.to (ws' := ([[(a 0, .inr (5, [.ref (a 1), .ref (a 3), .ref (a 5), .ref (a 7), .ref (a 9), .ref (a 11), .int (Z 0), .int (Z 1)]))], hm_row g (a 1) (a 2) 100 t1, hm_row g (a 3) (a 4) 101 (R 1), hm_row g (a 5) (a 6) 30 (R 2), hm_row g (a 7) (a 8) 30 (R 3), hm_row g (a 9) (a 10) 30 (R 4), hm_row g (a 11) (a 12) 30 (R 5), hm_wLe g aLe LeR LeZ, hm_wBr g aBr BrA] : List va_W).flatten) rfl
  refine lv_aload_n hx hb dX5_lay_7 rfl (lv_at hl 0 rfl) ?_
  refine hm_get S X hf_X5_20 0 rfl rfl dX5_lay_8 ?_
  obtain ⟨t2, ht2, hF⟩ := hm_bd hF
  refine hm_vv (As := []) S X mw_X2_empty hw_3_46 (c_X2_empty l g (a 3) (a 4) 101 (R 1) t2 ht2) (hm_mid [[(a 0, .inr (5, [.ref (a 1), .ref (a 3), .ref (a 5), .ref (a 7), .ref (a 9), .ref (a 11), .int (Z 0), .int (Z 1)]))], hm_row g (a 1) (a 2) 100 t1] [hm_row g (a 5) (a 6) 30 (R 2), hm_row g (a 7) (a 8) 30 (R 3), hm_row g (a 9) (a 10) 30 (R 4), hm_row g (a 11) (a 12) 30 (R 5), hm_wLe g aLe LeR LeZ, hm_wBr g aBr BrA]) (hm_mid [[(a 0, .inr (5, [.ref (a 1), .ref (a 3), .ref (a 5), .ref (a 7), .ref (a 9), .ref (a 11), .int (Z 0), .int (Z 1)]))], hm_row g (a 1) (a 2) 100 t1] [hm_row g (a 5) (a 6) 30 (R 2), hm_row g (a 7) (a 8) 30 (R 3), hm_row g (a 9) (a 10) 30 (R 4), hm_row g (a 11) (a 12) 30 (R 5), hm_wLe g aLe LeR LeZ, hm_wBr g aBr BrA] (b := hm_row g (a 3) (a 4) 101 t2)) rfl rfl rfl ⟨rfl, rfl, Nat.le_of_ble_eq_true rfl, Nat.le_of_ble_eq_true rfl⟩ rfl hl.1 rfl (Nat.le_of_ble_eq_true rfl) dX5_lay_11 ⟨Nat.zero_le _, Nat.zero_le _⟩ (fun H locs X => ?_)
  have X := X.to (ws' := ([[(a 0, .inr (5, [.ref (a 1), .ref (a 3), .ref (a 5), .ref (a 7), .ref (a 9), .ref (a 11), .int (Z 0), .int (Z 1)]))], hm_row g (a 1) (a 2) 100 t1, hm_row g (a 3) (a 4) 101 t2, hm_row g (a 5) (a 6) 30 (R 2), hm_row g (a 7) (a 8) 30 (R 3), hm_row g (a 9) (a 10) 30 (R 4), hm_row g (a 11) (a 12) 30 (R 5), hm_wLe g aLe LeR LeZ, hm_wBr g aBr BrA] : List va_W).flatten) rfl
  refine lv_aload_n hx hb dX5_lay_14 rfl (lv_at hl 0 rfl) ?_
  refine hm_get S X hf_X5_23 0 rfl rfl dX5_lay_15 ?_
  obtain ⟨t3, ht3, hF⟩ := hm_bd hF
  refine hm_vv (As := []) S X mw_X2_empty hw_3_46 (c_X2_empty l g (a 5) (a 6) 30 (R 2) t3 ht3) (hm_mid [[(a 0, .inr (5, [.ref (a 1), .ref (a 3), .ref (a 5), .ref (a 7), .ref (a 9), .ref (a 11), .int (Z 0), .int (Z 1)]))], hm_row g (a 1) (a 2) 100 t1, hm_row g (a 3) (a 4) 101 t2] [hm_row g (a 7) (a 8) 30 (R 3), hm_row g (a 9) (a 10) 30 (R 4), hm_row g (a 11) (a 12) 30 (R 5), hm_wLe g aLe LeR LeZ, hm_wBr g aBr BrA]) (hm_mid [[(a 0, .inr (5, [.ref (a 1), .ref (a 3), .ref (a 5), .ref (a 7), .ref (a 9), .ref (a 11), .int (Z 0), .int (Z 1)]))], hm_row g (a 1) (a 2) 100 t1, hm_row g (a 3) (a 4) 101 t2] [hm_row g (a 7) (a 8) 30 (R 3), hm_row g (a 9) (a 10) 30 (R 4), hm_row g (a 11) (a 12) 30 (R 5), hm_wLe g aLe LeR LeZ, hm_wBr g aBr BrA] (b := hm_row g (a 5) (a 6) 30 t3)) rfl rfl rfl ⟨rfl, rfl, Nat.le_of_ble_eq_true rfl, Nat.le_of_ble_eq_true rfl⟩ rfl hl.1 rfl (Nat.le_of_ble_eq_true rfl) dX5_lay_18 ⟨Nat.zero_le _, Nat.zero_le _⟩ (fun H locs X => ?_)
  have X := X.to (ws' := ([[(a 0, .inr (5, [.ref (a 1), .ref (a 3), .ref (a 5), .ref (a 7), .ref (a 9), .ref (a 11), .int (Z 0), .int (Z 1)]))], hm_row g (a 1) (a 2) 100 t1, hm_row g (a 3) (a 4) 101 t2, hm_row g (a 5) (a 6) 30 t3, hm_row g (a 7) (a 8) 30 (R 3), hm_row g (a 9) (a 10) 30 (R 4), hm_row g (a 11) (a 12) 30 (R 5), hm_wLe g aLe LeR LeZ, hm_wBr g aBr BrA] : List va_W).flatten) rfl
  refine lv_aload_n hx hb dX5_lay_21 rfl (lv_at hl 0 rfl) ?_
  refine hm_get S X hf_X5_26 0 rfl rfl dX5_lay_22 ?_
  obtain ⟨t4, ht4, hF⟩ := hm_bd hF
  refine hm_vv (As := []) S X mw_X2_empty hw_3_46 (c_X2_empty l g (a 7) (a 8) 30 (R 3) t4 ht4) (hm_mid [[(a 0, .inr (5, [.ref (a 1), .ref (a 3), .ref (a 5), .ref (a 7), .ref (a 9), .ref (a 11), .int (Z 0), .int (Z 1)]))], hm_row g (a 1) (a 2) 100 t1, hm_row g (a 3) (a 4) 101 t2, hm_row g (a 5) (a 6) 30 t3] [hm_row g (a 9) (a 10) 30 (R 4), hm_row g (a 11) (a 12) 30 (R 5), hm_wLe g aLe LeR LeZ, hm_wBr g aBr BrA]) (hm_mid [[(a 0, .inr (5, [.ref (a 1), .ref (a 3), .ref (a 5), .ref (a 7), .ref (a 9), .ref (a 11), .int (Z 0), .int (Z 1)]))], hm_row g (a 1) (a 2) 100 t1, hm_row g (a 3) (a 4) 101 t2, hm_row g (a 5) (a 6) 30 t3] [hm_row g (a 9) (a 10) 30 (R 4), hm_row g (a 11) (a 12) 30 (R 5), hm_wLe g aLe LeR LeZ, hm_wBr g aBr BrA] (b := hm_row g (a 7) (a 8) 30 t4)) rfl rfl rfl ⟨rfl, rfl, Nat.le_of_ble_eq_true rfl, Nat.le_of_ble_eq_true rfl⟩ rfl hl.1 rfl (Nat.le_of_ble_eq_true rfl) dX5_lay_25 ⟨Nat.zero_le _, Nat.zero_le _⟩ (fun H locs X => ?_)
  have X := X.to (ws' := ([[(a 0, .inr (5, [.ref (a 1), .ref (a 3), .ref (a 5), .ref (a 7), .ref (a 9), .ref (a 11), .int (Z 0), .int (Z 1)]))], hm_row g (a 1) (a 2) 100 t1, hm_row g (a 3) (a 4) 101 t2, hm_row g (a 5) (a 6) 30 t3, hm_row g (a 7) (a 8) 30 t4, hm_row g (a 9) (a 10) 30 (R 4), hm_row g (a 11) (a 12) 30 (R 5), hm_wLe g aLe LeR LeZ, hm_wBr g aBr BrA] : List va_W).flatten) rfl
  refine lv_aload_n hx hb dX5_lay_28 rfl (lv_at hl 0 rfl) ?_
  refine hm_get S X hf_X5_29 0 rfl rfl dX5_lay_29 ?_
  obtain ⟨t5, ht5, hF⟩ := hm_bd hF
  refine hm_vv (As := []) S X mw_X2_empty hw_3_46 (c_X2_empty l g (a 9) (a 10) 30 (R 4) t5 ht5) (hm_mid [[(a 0, .inr (5, [.ref (a 1), .ref (a 3), .ref (a 5), .ref (a 7), .ref (a 9), .ref (a 11), .int (Z 0), .int (Z 1)]))], hm_row g (a 1) (a 2) 100 t1, hm_row g (a 3) (a 4) 101 t2, hm_row g (a 5) (a 6) 30 t3, hm_row g (a 7) (a 8) 30 t4] [hm_row g (a 11) (a 12) 30 (R 5), hm_wLe g aLe LeR LeZ, hm_wBr g aBr BrA]) (hm_mid [[(a 0, .inr (5, [.ref (a 1), .ref (a 3), .ref (a 5), .ref (a 7), .ref (a 9), .ref (a 11), .int (Z 0), .int (Z 1)]))], hm_row g (a 1) (a 2) 100 t1, hm_row g (a 3) (a 4) 101 t2, hm_row g (a 5) (a 6) 30 t3, hm_row g (a 7) (a 8) 30 t4] [hm_row g (a 11) (a 12) 30 (R 5), hm_wLe g aLe LeR LeZ, hm_wBr g aBr BrA] (b := hm_row g (a 9) (a 10) 30 t5)) rfl rfl rfl ⟨rfl, rfl, Nat.le_of_ble_eq_true rfl, Nat.le_of_ble_eq_true rfl⟩ rfl hl.1 rfl (Nat.le_of_ble_eq_true rfl) dX5_lay_32 ⟨Nat.zero_le _, Nat.zero_le _⟩ (fun H locs X => ?_)
  have X := X.to (ws' := ([[(a 0, .inr (5, [.ref (a 1), .ref (a 3), .ref (a 5), .ref (a 7), .ref (a 9), .ref (a 11), .int (Z 0), .int (Z 1)]))], hm_row g (a 1) (a 2) 100 t1, hm_row g (a 3) (a 4) 101 t2, hm_row g (a 5) (a 6) 30 t3, hm_row g (a 7) (a 8) 30 t4, hm_row g (a 9) (a 10) 30 t5, hm_row g (a 11) (a 12) 30 (R 5), hm_wLe g aLe LeR LeZ, hm_wBr g aBr BrA] : List va_W).flatten) rfl
  refine lv_aload_n hx hb dX5_lay_35 rfl (lv_at hl 0 rfl) ?_
  refine hm_get S X hf_X5_32 0 rfl rfl dX5_lay_36 ?_
  obtain ⟨t6, ht6, hF⟩ := hm_bd hF
  refine hm_vv (As := []) S X mw_X2_empty hw_3_46 (c_X2_empty l g (a 11) (a 12) 30 (R 5) t6 ht6) (hm_mid [[(a 0, .inr (5, [.ref (a 1), .ref (a 3), .ref (a 5), .ref (a 7), .ref (a 9), .ref (a 11), .int (Z 0), .int (Z 1)]))], hm_row g (a 1) (a 2) 100 t1, hm_row g (a 3) (a 4) 101 t2, hm_row g (a 5) (a 6) 30 t3, hm_row g (a 7) (a 8) 30 t4, hm_row g (a 9) (a 10) 30 t5] [hm_wLe g aLe LeR LeZ, hm_wBr g aBr BrA]) (hm_mid [[(a 0, .inr (5, [.ref (a 1), .ref (a 3), .ref (a 5), .ref (a 7), .ref (a 9), .ref (a 11), .int (Z 0), .int (Z 1)]))], hm_row g (a 1) (a 2) 100 t1, hm_row g (a 3) (a 4) 101 t2, hm_row g (a 5) (a 6) 30 t3, hm_row g (a 7) (a 8) 30 t4, hm_row g (a 9) (a 10) 30 t5] [hm_wLe g aLe LeR LeZ, hm_wBr g aBr BrA] (b := hm_row g (a 11) (a 12) 30 t6)) rfl rfl rfl ⟨rfl, rfl, Nat.le_of_ble_eq_true rfl, Nat.le_of_ble_eq_true rfl⟩ rfl hl.1 rfl (Nat.le_of_ble_eq_true rfl) dX5_lay_39 ⟨Nat.zero_le _, Nat.zero_le _⟩ (fun H locs X => ?_)
  have X := X.to (ws' := ([[(a 0, .inr (5, [.ref (a 1), .ref (a 3), .ref (a 5), .ref (a 7), .ref (a 9), .ref (a 11), .int (Z 0), .int (Z 1)]))], hm_row g (a 1) (a 2) 100 t1, hm_row g (a 3) (a 4) 101 t2, hm_row g (a 5) (a 6) 30 t3, hm_row g (a 7) (a 8) 30 t4, hm_row g (a 9) (a 10) 30 t5, hm_row g (a 11) (a 12) 30 t6, hm_wLe g aLe LeR LeZ, hm_wBr g aBr BrA] : List va_W).flatten) rfl
  refine lv_aload_n hx hb dX5_lay_42 rfl (lv_at hl 0 rfl) ?_
  refine lv_aload_n hx hb dX5_lay_43 rfl (lv_at hl 2 rfl) ?_
  obtain ⟨t7, ht7, hF⟩ := hm_bd hF
  refine hm_vi (As := []) S X mw_X0_hasPage hw_3_47 (c_X0_hasPage l g aBr BrA t7 ht7) (hm_mid [[(a 0, .inr (5, [.ref (a 1), .ref (a 3), .ref (a 5), .ref (a 7), .ref (a 9), .ref (a 11), .int (Z 0), .int (Z 1)]))], hm_row g (a 1) (a 2) 100 t1, hm_row g (a 3) (a 4) 101 t2, hm_row g (a 5) (a 6) 30 t3, hm_row g (a 7) (a 8) 30 t4, hm_row g (a 9) (a 10) 30 t5, hm_row g (a 11) (a 12) 30 t6, hm_wLe g aLe LeR LeZ] []) (hm_mid [[(a 0, .inr (5, [.ref (a 1), .ref (a 3), .ref (a 5), .ref (a 7), .ref (a 9), .ref (a 11), .int (Z 0), .int (Z 1)]))], hm_row g (a 1) (a 2) 100 t1, hm_row g (a 3) (a 4) 101 t2, hm_row g (a 5) (a 6) 30 t3, hm_row g (a 7) (a 8) 30 t4, hm_row g (a 9) (a 10) 30 t5, hm_row g (a 11) (a 12) 30 t6, hm_wLe g aLe LeR LeZ] [] (b := hm_wBr g aBr BrA)) rfl rfl rfl ⟨rfl, rfl, Nat.le_of_ble_eq_true rfl, Nat.le_of_ble_eq_true rfl⟩ rfl hl.1 rfl (Nat.le_of_ble_eq_true rfl) dX5_lay_44 ⟨Nat.zero_le _, Nat.zero_le _⟩ (fun H locs X => ?_)
  have X := X.to (ws' := ([[(a 0, .inr (5, [.ref (a 1), .ref (a 3), .ref (a 5), .ref (a 7), .ref (a 9), .ref (a 11), .int (Z 0), .int (Z 1)]))], hm_row g (a 1) (a 2) 100 t1, hm_row g (a 3) (a 4) 101 t2, hm_row g (a 5) (a 6) 30 t3, hm_row g (a 7) (a 8) 30 t4, hm_row g (a 9) (a 10) 30 t5, hm_row g (a 11) (a 12) 30 t6, hm_wLe g aLe LeR LeZ, hm_wBr g aBr BrA] : List va_W).flatten) rfl
  obtain ⟨t8, ht8, hF⟩ := hm_bd hF
  refine hm_put S X hf_X5_44 hg_X5_there 0 rfl (hm_nb (hm_bl_z ht8)) (hm_fb (hm_bl_z ht8)) (Nat.le_of_ble_eq_true rfl) dX5_lay_47 (fun H locs X => ?_)
  have X := X.to (ws' := ([[(a 0, .inr (5, [.ref (a 1), .ref (a 3), .ref (a 5), .ref (a 7), .ref (a 9), .ref (a 11), .int t7, .int (Z 1)]))], hm_row g (a 1) (a 2) 100 t1, hm_row g (a 3) (a 4) 101 t2, hm_row g (a 5) (a 6) 30 t3, hm_row g (a 7) (a 8) 30 t4, hm_row g (a 9) (a 10) 30 t5, hm_row g (a 11) (a 12) 30 t6, hm_wLe g aLe LeR LeZ, hm_wBr g aBr BrA] : List va_W).flatten) rfl
  refine lv_aload_n hx hb dX5_lay_50 rfl (lv_at hl 0 rfl) ?_
  refine lv_aload_n hx hb dX5_lay_51 rfl (lv_at hl 2 rfl) ?_
  obtain ⟨t9, ht9, hF⟩ := hm_bd hF
  refine hm_vi (As := []) S X mw_X0_cost hw_3_51 (c_X0_cost l g aBr BrA t9 ht9) (hm_mid [[(a 0, .inr (5, [.ref (a 1), .ref (a 3), .ref (a 5), .ref (a 7), .ref (a 9), .ref (a 11), .int t7, .int (Z 1)]))], hm_row g (a 1) (a 2) 100 t1, hm_row g (a 3) (a 4) 101 t2, hm_row g (a 5) (a 6) 30 t3, hm_row g (a 7) (a 8) 30 t4, hm_row g (a 9) (a 10) 30 t5, hm_row g (a 11) (a 12) 30 t6, hm_wLe g aLe LeR LeZ] []) (hm_mid [[(a 0, .inr (5, [.ref (a 1), .ref (a 3), .ref (a 5), .ref (a 7), .ref (a 9), .ref (a 11), .int t7, .int (Z 1)]))], hm_row g (a 1) (a 2) 100 t1, hm_row g (a 3) (a 4) 101 t2, hm_row g (a 5) (a 6) 30 t3, hm_row g (a 7) (a 8) 30 t4, hm_row g (a 9) (a 10) 30 t5, hm_row g (a 11) (a 12) 30 t6, hm_wLe g aLe LeR LeZ] [] (b := hm_wBr g aBr BrA)) rfl rfl rfl ⟨rfl, rfl, Nat.le_of_ble_eq_true rfl, Nat.le_of_ble_eq_true rfl⟩ rfl hl.1 rfl (Nat.le_of_ble_eq_true rfl) dX5_lay_52 ⟨Nat.zero_le _, Nat.zero_le _⟩ (fun H locs X => ?_)
  have X := X.to (ws' := ([[(a 0, .inr (5, [.ref (a 1), .ref (a 3), .ref (a 5), .ref (a 7), .ref (a 9), .ref (a 11), .int t7, .int (Z 1)]))], hm_row g (a 1) (a 2) 100 t1, hm_row g (a 3) (a 4) 101 t2, hm_row g (a 5) (a 6) 30 t3, hm_row g (a 7) (a 8) 30 t4, hm_row g (a 9) (a 10) 30 t5, hm_row g (a 11) (a 12) 30 t6, hm_wLe g aLe LeR LeZ, hm_wBr g aBr BrA] : List va_W).flatten) rfl
  refine hm_put S X hf_X5_52 hg_X5_cost 0 rfl rfl rfl (Nat.le_of_ble_eq_true rfl) dX5_lay_55 (fun H locs X => ?_)
  have X := X.to (ws' := ([[(a 0, .inr (5, [.ref (a 1), .ref (a 3), .ref (a 5), .ref (a 7), .ref (a 9), .ref (a 11), .int t7, .int t9]))], hm_row g (a 1) (a 2) 100 t1, hm_row g (a 3) (a 4) 101 t2, hm_row g (a 5) (a 6) 30 t3, hm_row g (a 7) (a 8) 30 t4, hm_row g (a 9) (a 10) 30 t5, hm_row g (a 11) (a 12) 30 t6, hm_wLe g aLe LeR LeZ, hm_wBr g aBr BrA] : List va_W).flatten) rfl
  refine lv_aload_n hx hb dX5_lay_58 rfl (lv_at hl 0 rfl) ?_
  refine hm_get S X hf_X5_44 0 rfl rfl dX5_lay_59 ?_
  refine lv_if_ne (tgt := 66) hx hb dX5_lay_62 (by decide) (fun c62 => ?_) (fun c62 => ?_)
  · have hF := hm_nf hF c62
    refine lv_aload_n hx hb dX5_lay_66 rfl (lv_at hl 0 rfl) ?_
    refine hm_get S X hf_X5_20 0 rfl rfl dX5_lay_67 ?_
    refine lv_iconst (v := 0) hx hb dX5_lay_70 (by decide) ?_
    obtain ⟨t10, ht10, hF⟩ := hm_bd hF
    refine hm_vi (As := [.int 0]) S X mw_X2_add hw_3_55 (c_X2_add l g (a 3) (a 4) 101 t2 0 t10 ht10) (hm_mid [[(a 0, .inr (5, [.ref (a 1), .ref (a 3), .ref (a 5), .ref (a 7), .ref (a 9), .ref (a 11), .int t7, .int t9]))], hm_row g (a 1) (a 2) 100 t1] [hm_row g (a 5) (a 6) 30 t3, hm_row g (a 7) (a 8) 30 t4, hm_row g (a 9) (a 10) 30 t5, hm_row g (a 11) (a 12) 30 t6, hm_wLe g aLe LeR LeZ, hm_wBr g aBr BrA]) (hm_mid [[(a 0, .inr (5, [.ref (a 1), .ref (a 3), .ref (a 5), .ref (a 7), .ref (a 9), .ref (a 11), .int t7, .int t9]))], hm_row g (a 1) (a 2) 100 t1] [hm_row g (a 5) (a 6) 30 t3, hm_row g (a 7) (a 8) 30 t4, hm_row g (a 9) (a 10) 30 t5, hm_row g (a 11) (a 12) 30 t6, hm_wLe g aLe LeR LeZ, hm_wBr g aBr BrA] (b := hm_row g (a 3) (a 4) 101 t10.2)) rfl rfl rfl ⟨rfl, rfl, Nat.le_of_ble_eq_true rfl, Nat.le_of_ble_eq_true rfl⟩ rfl hl.1 rfl (Nat.le_of_ble_eq_true rfl) dX5_lay_71 ⟨Nat.zero_le _, Nat.zero_le _⟩ (fun H locs X => ?_)
    have X := X.to (ws' := ([[(a 0, .inr (5, [.ref (a 1), .ref (a 3), .ref (a 5), .ref (a 7), .ref (a 9), .ref (a 11), .int t7, .int t9]))], hm_row g (a 1) (a 2) 100 t1, hm_row g (a 3) (a 4) 101 t10.2, hm_row g (a 5) (a 6) 30 t3, hm_row g (a 7) (a 8) 30 t4, hm_row g (a 9) (a 10) 30 t5, hm_row g (a 11) (a 12) 30 t6, hm_wLe g aLe LeR LeZ, hm_wBr g aBr BrA] : List va_W).flatten) rfl
    refine lv_pop hx hb dX5_lay_74 rfl ?_
    refine lv_iconst (v := (-1)) hx hb dX5_lay_75 (by decide) ?_
    refine lv_istore_n (lv' := [(3, .int (-1)), (0, .ref (a 0)), (1, .ref (aLe 0)), (2, .ref (aBr 0))]) hx hb dX5_lay_76 rfl hl (by decide) rfl (fun ls hl => ?_)
    refine lv_iconst (v := 0) hx hb dX5_lay_77 (by decide) ?_
    refine lv_istore (lv' := [(4, .int 0), (3, .int (-1)), (0, .ref (a 0)), (1, .ref (aLe 0)), (2, .ref (aBr 0))]) hx hb dX5_lay_78 hl (by decide) rfl (fun ls hl => ?_)
    exact hl80 hm_fu (-1) 0 t1 t10.2 t3 t4 t5 t6 t7 t9 hF _ _ X _ (lv_sub hl [2, 3, 4, 1, 0] rfl)
  · have hF := hm_if hF c62
    obtain rfl := Option.some.inj hF
    exact hm_rv S hr hlk X rfl dX5_lay_65
def f_X5_isThere (Z_0 : Int32)  : Option (Int32) :=
  (hm_bl Z_0).bind fun t1 =>
  some (Z_0)
abbrev rm_X5_isThere : Room := { frames := 0, cells := 0, slots := 0, locals := 0 }
set_option maxHeartbeats 4000000 in
set_option maxRecDepth 100000 in
theorem c_X5_isThere (l : Launch) (g : hm_G) (a : Nat → Nat) (R : Nat → hm_SR) (Z : Nat → Int32) (q : Int32) (hF : f_X5_isThere (Z 0) = some q) : hm_Mi l yX5_isThere (Cond.code yX5_isThere cX5_isThere 1 (some .boolean) :: hm_W) rm_X5_isThere g [.ref (a 0)] ([hm_wSh g a R Z] : List va_W).flatten ([hm_wSh g a R Z] : List va_W).flatten q := by
  refine hm_ofi [(0, .ref (a 0))] (by decide) (own := RX5) rfl (Nat.le_of_ble_eq_true rfl) rfl rfl ?_
  intro p e s m args below meth c AA S hr hlk X ls hl
  have hx := S.1
  have hb := S.2.1
  have hown := S.2.2.2.1
  have hts := S.2.2.2.2
  have X := X.to (ws' := ([[(a 0, .inr (5, [.ref (a 1), .ref (a 3), .ref (a 5), .ref (a 7), .ref (a 9), .ref (a 11), .int (Z 0), .int (Z 1)]))], hm_row g (a 1) (a 2) 100 (R 0), hm_row g (a 3) (a 4) 101 (R 1), hm_row g (a 5) (a 6) 30 (R 2), hm_row g (a 7) (a 8) 30 (R 3), hm_row g (a 9) (a 10) 30 (R 4), hm_row g (a 11) (a 12) 30 (R 5)] : List va_W).flatten) rfl
  unfold f_X5_isThere at hF
  refine lv_aload_n hx hb dX5_isThere_0 rfl (lv_at hl 0 rfl) ?_
  refine hm_get S X hf_X5_44 0 rfl rfl dX5_isThere_1 ?_
  obtain ⟨t1, ht1, hF⟩ := hm_bd hF
  obtain rfl := Option.some.inj hF
  exact hm_rz S hr hlk X rfl rfl (hm_bl_z ht1) dX5_isThere_4
def f_X5_cost (Z_1 : Int32)  : Option (Int32) :=
  some (Z_1)
abbrev rm_X5_cost : Room := { frames := 0, cells := 0, slots := 0, locals := 0 }
set_option maxHeartbeats 4000000 in
set_option maxRecDepth 100000 in
theorem c_X5_cost (l : Launch) (g : hm_G) (a : Nat → Nat) (R : Nat → hm_SR) (Z : Nat → Int32) (q : Int32) (hF : f_X5_cost (Z 1) = some q) : hm_Mi l yX5_cost (Cond.code yX5_cost cX5_cost 1 (some .int) :: hm_W) rm_X5_cost g [.ref (a 0)] ([hm_wSh g a R Z] : List va_W).flatten ([hm_wSh g a R Z] : List va_W).flatten q := by
  refine hm_ofi [(0, .ref (a 0))] (by decide) (own := RX5) rfl (Nat.le_of_ble_eq_true rfl) rfl rfl ?_
  intro p e s m args below meth c AA S hr hlk X ls hl
  have hx := S.1
  have hb := S.2.1
  have hown := S.2.2.2.1
  have hts := S.2.2.2.2
  have X := X.to (ws' := ([[(a 0, .inr (5, [.ref (a 1), .ref (a 3), .ref (a 5), .ref (a 7), .ref (a 9), .ref (a 11), .int (Z 0), .int (Z 1)]))], hm_row g (a 1) (a 2) 100 (R 0), hm_row g (a 3) (a 4) 101 (R 1), hm_row g (a 5) (a 6) 30 (R 2), hm_row g (a 7) (a 8) 30 (R 3), hm_row g (a 9) (a 10) 30 (R 4), hm_row g (a 11) (a 12) 30 (R 5)] : List va_W).flatten) rfl
  unfold f_X5_cost at hF
  refine lv_aload_n hx hb dX5_cost_0 rfl (lv_at hl 0 rfl) ?_
  refine hm_get S X hf_X5_52 0 rfl rfl dX5_cost_1 ?_
  obtain rfl := Option.some.inj hF
  exact hm_ri S hr hlk X rfl rfl dX5_cost_4
def f_X5_startOf (R_0 : hm_SR) (x0 : Int32)  : Option (Int32) :=
  if x0 ≤ 0 then (
  some ((-1)))
  else (
  (f_X2_get 100 R_0 (x0 - 1)).bind fun t1 =>
  some (t1))
abbrev rm_X5_startOf : Room := { frames := 1, cells := 0, slots := 0, locals := 21 }
set_option maxHeartbeats 4000000 in
set_option maxRecDepth 100000 in
theorem c_X5_startOf (l : Launch) (g : hm_G) (a : Nat → Nat) (R : Nat → hm_SR) (Z : Nat → Int32) (x0 : Int32) (q : Int32) (hF : f_X5_startOf (R 0) x0 = some q) : hm_Mi l yX5_startOf (Cond.code yX5_startOf cX5_startOf 2 (some .int) :: hm_W) rm_X5_startOf g [.ref (a 0), .int x0] ([hm_wSh g a R Z] : List va_W).flatten ([hm_wSh g a R Z] : List va_W).flatten q := by
  refine hm_ofi [(0, .ref (a 0)), (1, .int x0)] (by decide) (own := RX5) rfl (Nat.le_of_ble_eq_true rfl) rfl rfl ?_
  intro p e s m args below meth c AA S hr hlk X ls hl
  have hx := S.1
  have hb := S.2.1
  have hown := S.2.2.2.1
  have hts := S.2.2.2.2
  have X := X.to (ws' := ([[(a 0, .inr (5, [.ref (a 1), .ref (a 3), .ref (a 5), .ref (a 7), .ref (a 9), .ref (a 11), .int (Z 0), .int (Z 1)]))], hm_row g (a 1) (a 2) 100 (R 0), hm_row g (a 3) (a 4) 101 (R 1), hm_row g (a 5) (a 6) 30 (R 2), hm_row g (a 7) (a 8) 30 (R 3), hm_row g (a 9) (a 10) 30 (R 4), hm_row g (a 11) (a 12) 30 (R 5)] : List va_W).flatten) rfl
  unfold f_X5_startOf at hF
  refine lv_iload_n hx hb dX5_startOf_0 rfl (lv_at hl 1 rfl) ?_
  refine lv_if_le (tgt := 17) hx hb dX5_startOf_1 (by decide) (fun c1 => ?_) (fun c1 => ?_)
  · have hF := hm_if hF c1
    refine lv_iconst (v := (-1)) hx hb dX5_startOf_17 (by decide) ?_
    obtain rfl := Option.some.inj hF
    exact hm_ri S hr hlk X rfl rfl dX5_startOf_18
  · have hF := hm_nf hF c1
    refine lv_aload_n hx hb dX5_startOf_4 rfl (lv_at hl 0 rfl) ?_
    refine hm_get S X hf_X5_14 0 rfl rfl dX5_startOf_5 ?_
    refine lv_iload_n hx hb dX5_startOf_8 rfl (lv_at hl 1 rfl) ?_
    refine lv_iconst (v := 1) hx hb dX5_startOf_9 (by decide) ?_
    refine lv_isub hx hb dX5_startOf_10 ?_
    obtain ⟨t1, ht1, hF⟩ := hm_bd hF
    refine hm_vi (As := [.int (x0 - 1)]) S X mw_X2_get hw_3_105 (c_X2_get l g (a 1) (a 2) 100 (R 0) (x0 - 1) t1 ht1) (hm_mid [[(a 0, .inr (5, [.ref (a 1), .ref (a 3), .ref (a 5), .ref (a 7), .ref (a 9), .ref (a 11), .int (Z 0), .int (Z 1)]))]] [hm_row g (a 3) (a 4) 101 (R 1), hm_row g (a 5) (a 6) 30 (R 2), hm_row g (a 7) (a 8) 30 (R 3), hm_row g (a 9) (a 10) 30 (R 4), hm_row g (a 11) (a 12) 30 (R 5)]) (hm_mid [[(a 0, .inr (5, [.ref (a 1), .ref (a 3), .ref (a 5), .ref (a 7), .ref (a 9), .ref (a 11), .int (Z 0), .int (Z 1)]))]] [hm_row g (a 3) (a 4) 101 (R 1), hm_row g (a 5) (a 6) 30 (R 2), hm_row g (a 7) (a 8) 30 (R 3), hm_row g (a 9) (a 10) 30 (R 4), hm_row g (a 11) (a 12) 30 (R 5)] (b := hm_row g (a 1) (a 2) 100 (R 0))) rfl rfl rfl ⟨rfl, rfl, Nat.le_of_ble_eq_true rfl, Nat.le_of_ble_eq_true rfl⟩ rfl hl.1 rfl (Nat.le_of_ble_eq_true rfl) dX5_startOf_11 ⟨Nat.zero_le _, Nat.zero_le _⟩ (fun H locs X => ?_)
    have X := X.to (ws' := ([[(a 0, .inr (5, [.ref (a 1), .ref (a 3), .ref (a 5), .ref (a 7), .ref (a 9), .ref (a 11), .int (Z 0), .int (Z 1)]))], hm_row g (a 1) (a 2) 100 (R 0), hm_row g (a 3) (a 4) 101 (R 1), hm_row g (a 5) (a 6) 30 (R 2), hm_row g (a 7) (a 8) 30 (R 3), hm_row g (a 9) (a 10) 30 (R 4), hm_row g (a 11) (a 12) 30 (R 5)] : List va_W).flatten) rfl
    refine lv_goto (tgt := 18) hx hb dX5_startOf_14 (by decide) ?_
    obtain rfl := Option.some.inj hF
    exact hm_ri S hr hlk X rfl rfl dX5_startOf_18
def f_X5_endOf (R_0 : hm_SR) (x0 : Int32)  : Option (Int32) :=
  (f_X2_get 100 R_0 x0).bind fun t1 =>
  some (t1)
abbrev rm_X5_endOf : Room := { frames := 1, cells := 0, slots := 0, locals := 21 }
set_option maxHeartbeats 4000000 in
set_option maxRecDepth 100000 in
theorem c_X5_endOf (l : Launch) (g : hm_G) (a : Nat → Nat) (R : Nat → hm_SR) (Z : Nat → Int32) (x0 : Int32) (q : Int32) (hF : f_X5_endOf (R 0) x0 = some q) : hm_Mi l yX5_endOf (Cond.code yX5_endOf cX5_endOf 2 (some .int) :: hm_W) rm_X5_endOf g [.ref (a 0), .int x0] ([hm_wSh g a R Z] : List va_W).flatten ([hm_wSh g a R Z] : List va_W).flatten q := by
  refine hm_ofi [(0, .ref (a 0)), (1, .int x0)] (by decide) (own := RX5) rfl (Nat.le_of_ble_eq_true rfl) rfl rfl ?_
  intro p e s m args below meth c AA S hr hlk X ls hl
  have hx := S.1
  have hb := S.2.1
  have hown := S.2.2.2.1
  have hts := S.2.2.2.2
  have X := X.to (ws' := ([[(a 0, .inr (5, [.ref (a 1), .ref (a 3), .ref (a 5), .ref (a 7), .ref (a 9), .ref (a 11), .int (Z 0), .int (Z 1)]))], hm_row g (a 1) (a 2) 100 (R 0), hm_row g (a 3) (a 4) 101 (R 1), hm_row g (a 5) (a 6) 30 (R 2), hm_row g (a 7) (a 8) 30 (R 3), hm_row g (a 9) (a 10) 30 (R 4), hm_row g (a 11) (a 12) 30 (R 5)] : List va_W).flatten) rfl
  unfold f_X5_endOf at hF
  refine lv_aload_n hx hb dX5_endOf_0 rfl (lv_at hl 0 rfl) ?_
  refine hm_get S X hf_X5_14 0 rfl rfl dX5_endOf_1 ?_
  refine lv_iload_n hx hb dX5_endOf_4 rfl (lv_at hl 1 rfl) ?_
  obtain ⟨t1, ht1, hF⟩ := hm_bd hF
  refine hm_vi (As := [.int x0]) S X mw_X2_get hw_3_105 (c_X2_get l g (a 1) (a 2) 100 (R 0) x0 t1 ht1) (hm_mid [[(a 0, .inr (5, [.ref (a 1), .ref (a 3), .ref (a 5), .ref (a 7), .ref (a 9), .ref (a 11), .int (Z 0), .int (Z 1)]))]] [hm_row g (a 3) (a 4) 101 (R 1), hm_row g (a 5) (a 6) 30 (R 2), hm_row g (a 7) (a 8) 30 (R 3), hm_row g (a 9) (a 10) 30 (R 4), hm_row g (a 11) (a 12) 30 (R 5)]) (hm_mid [[(a 0, .inr (5, [.ref (a 1), .ref (a 3), .ref (a 5), .ref (a 7), .ref (a 9), .ref (a 11), .int (Z 0), .int (Z 1)]))]] [hm_row g (a 3) (a 4) 101 (R 1), hm_row g (a 5) (a 6) 30 (R 2), hm_row g (a 7) (a 8) 30 (R 3), hm_row g (a 9) (a 10) 30 (R 4), hm_row g (a 11) (a 12) 30 (R 5)] (b := hm_row g (a 1) (a 2) 100 (R 0))) rfl rfl rfl ⟨rfl, rfl, Nat.le_of_ble_eq_true rfl, Nat.le_of_ble_eq_true rfl⟩ rfl hl.1 rfl (Nat.le_of_ble_eq_true rfl) dX5_endOf_5 ⟨Nat.zero_le _, Nat.zero_le _⟩ (fun H locs X => ?_)
  have X := X.to (ws' := ([[(a 0, .inr (5, [.ref (a 1), .ref (a 3), .ref (a 5), .ref (a 7), .ref (a 9), .ref (a 11), .int (Z 0), .int (Z 1)]))], hm_row g (a 1) (a 2) 100 (R 0), hm_row g (a 3) (a 4) 101 (R 1), hm_row g (a 5) (a 6) 30 (R 2), hm_row g (a 7) (a 8) 30 (R 3), hm_row g (a 9) (a 10) 30 (R 4), hm_row g (a 11) (a 12) 30 (R 5)] : List va_W).flatten) rfl
  obtain rfl := Option.some.inj hF
  exact hm_ri S hr hlk X rfl rfl dX5_endOf_8
def f_X5_slashEnds_l36 (J4 : Int32 → Int32 → Option (Int32)) (s36_0 : Int32) (s36_1 : Int32) (v3 : Int32) : Option (Int32) :=
  J4 (s36_1 + s36_0) (v3 + 1)
def f_X5_slashEnds_l4 (R_0 : hm_SR) (LeR_2 : hm_SR) : Nat → Int32 → Int32 → Option (Int32)
  | 0, _, _ => none
  | k + 1, v2, v3 =>
  (f_X2_size R_0).bind fun t1 =>
  if t1 ≤ v3 then (
  some (v2))
  else (
  (f_X2_get 100 R_0 v3).bind fun t2 =>
  (f_X1_isSlashAt LeR_2 t2).bind fun t3 =>
  if t3 = 0 then (
  f_X5_slashEnds_l36 (fun zv2 zv3 => f_X5_slashEnds_l4 R_0 LeR_2 k zv2 zv3) 0 v2 v3)
  else (
  f_X5_slashEnds_l36 (fun zv2 zv3 => f_X5_slashEnds_l4 R_0 LeR_2 k zv2 zv3) 1 v2 v3))
theorem f_X5_slashEnds_l4_s (R_0 : hm_SR) (LeR_2 : hm_SR) (k : Nat) (v2 : Int32) (v3 : Int32) : f_X5_slashEnds_l4 R_0 LeR_2 (k + 1) v2 v3 =
  (f_X2_size R_0).bind fun t1 =>
  if t1 ≤ v3 then (
  some (v2))
  else (
  (f_X2_get 100 R_0 v3).bind fun t2 =>
  (f_X1_isSlashAt LeR_2 t2).bind fun t3 =>
  if t3 = 0 then (
  f_X5_slashEnds_l36 (fun zv2 zv3 => f_X5_slashEnds_l4 R_0 LeR_2 k zv2 zv3) 0 v2 v3)
  else (
  f_X5_slashEnds_l36 (fun zv2 zv3 => f_X5_slashEnds_l4 R_0 LeR_2 k zv2 zv3) 1 v2 v3)) := rfl
theorem f_X5_slashEnds_l4_z (R_0 : hm_SR) (LeR_2 : hm_SR) (v2 : Int32) (v3 : Int32) : f_X5_slashEnds_l4 R_0 LeR_2 0 v2 v3 = none := rfl
def f_X5_slashEnds (R_0 : hm_SR) (LeR_2 : hm_SR)  : Option (Int32) :=
  f_X5_slashEnds_l4 R_0 LeR_2 hm_fu 0 0
abbrev rm_X5_slashEnds : Room := { frames := 2, cells := 0, slots := 0, locals := 42 }
set_option maxHeartbeats 4000000 in
set_option maxRecDepth 100000 in
theorem c_X5_slashEnds (l : Launch) (g : hm_G) (a : Nat → Nat) (R : Nat → hm_SR) (Z : Nat → Int32) (aLe : Nat → Nat) (LeR : Nat → hm_SR) (LeZ : Nat → Int32) (q : Int32) (hF : f_X5_slashEnds (R 0) (LeR 2) = some q) : hm_Mi l yX5_slashEnds (Cond.code yX5_slashEnds cX5_slashEnds 4 (some .int) :: hm_W) rm_X5_slashEnds g [.ref (a 0), .ref (aLe 0)] ([hm_wSh g a R Z, hm_wLe g aLe LeR LeZ] : List va_W).flatten ([hm_wSh g a R Z, hm_wLe g aLe LeR LeZ] : List va_W).flatten q := by
  refine hm_ofi [(0, .ref (a 0)), (1, .ref (aLe 0))] (by decide) (own := RX5) rfl (Nat.le_of_ble_eq_true rfl) rfl rfl ?_
  intro p e s m args below meth c AA S hr hlk X ls hl
  have hx := S.1
  have hb := S.2.1
  have hown := S.2.2.2.1
  have hts := S.2.2.2.2
  have X := X.to (ws' := ([[(a 0, .inr (5, [.ref (a 1), .ref (a 3), .ref (a 5), .ref (a 7), .ref (a 9), .ref (a 11), .int (Z 0), .int (Z 1)]))], hm_row g (a 1) (a 2) 100 (R 0), hm_row g (a 3) (a 4) 101 (R 1), hm_row g (a 5) (a 6) 30 (R 2), hm_row g (a 7) (a 8) 30 (R 3), hm_row g (a 9) (a 10) 30 (R 4), hm_row g (a 11) (a 12) 30 (R 5), hm_wLe g aLe LeR LeZ] : List va_W).flatten) rfl
  have hl4 : ∀ (k4 : Nat) (v2 : Int32) (v3 : Int32), f_X5_slashEnds_l4 (R 0) (LeR 2) k4 v2 v3 = some q → ∀ (H : Heap) (locs : List Loc), hm_X g AA s H locs ([[(a 0, .inr (5, [.ref (a 1), .ref (a 3), .ref (a 5), .ref (a 7), .ref (a 9), .ref (a 11), .int (Z 0), .int (Z 1)]))], hm_row g (a 1) (a 2) 100 (R 0), hm_row g (a 3) (a 4) 101 (R 1), hm_row g (a 5) (a 6) 30 (R 2), hm_row g (a 7) (a 8) 30 (R 3), hm_row g (a 9) (a 10) 30 (R 4), hm_row g (a 11) (a 12) 30 (R 5), hm_wLe g aLe LeR LeZ] : List va_W).flatten → ∀ ls : Array Slot, lv_has ls 4 [(0, .ref (a 0)), (1, .ref (aLe 0)), (2, .int v2), (3, .int v3)] → W p l e rm_X5_slashEnds s m args below meth c H locs 0 0 (MQ below (hm_Qi g AA ([hm_wSh g a R Z, hm_wLe g aLe LeR LeZ] : List va_W).flatten q) args s 0 0 AA) (F0 m 4 ls []) := by
    intro k4
    induction k4 with
    | zero =>
      intro v2 v3 hF
      rw [f_X5_slashEnds_l4_z] at hF
      cases hF
    | succ k4 ih4 =>
      have hl36 : ∀ (s36_0 : Int32) (s36_1 : Int32) (v3 : Int32), f_X5_slashEnds_l36 (fun zv2 zv3 => f_X5_slashEnds_l4 (R 0) (LeR 2) k4 zv2 zv3) s36_0 s36_1 v3 = some q → ∀ (H : Heap) (locs : List Loc), hm_X g AA s H locs ([[(a 0, .inr (5, [.ref (a 1), .ref (a 3), .ref (a 5), .ref (a 7), .ref (a 9), .ref (a 11), .int (Z 0), .int (Z 1)]))], hm_row g (a 1) (a 2) 100 (R 0), hm_row g (a 3) (a 4) 101 (R 1), hm_row g (a 5) (a 6) 30 (R 2), hm_row g (a 7) (a 8) 30 (R 3), hm_row g (a 9) (a 10) 30 (R 4), hm_row g (a 11) (a 12) 30 (R 5), hm_wLe g aLe LeR LeZ] : List va_W).flatten → ∀ ls : Array Slot, lv_has ls 4 [(0, .ref (a 0)), (1, .ref (aLe 0)), (3, .int v3)] → W p l e rm_X5_slashEnds s m args below meth c H locs 0 0 (MQ below (hm_Qi g AA ([hm_wSh g a R Z, hm_wLe g aLe LeR LeZ] : List va_W).flatten q) args s 0 0 AA) (F0 m 36 ls [.int s36_0, .int s36_1]) := by
        intro s36_0 s36_1 v3 hF H locs X ls hl
        unfold f_X5_slashEnds_l36 at hF
        refine lv_iadd hx hb dX5_slashEnds_36 ?_
        refine lv_istore_n (lv' := [(2, .int (s36_1 + s36_0)), (0, .ref (a 0)), (1, .ref (aLe 0)), (3, .int v3)]) hx hb dX5_slashEnds_37 rfl hl (by decide) rfl (fun ls hl => ?_)
        refine lv_iinc (v := (v3 + 1)) (lv' := [(3, .int (v3 + 1)), (2, .int (s36_1 + s36_0)), (0, .ref (a 0)), (1, .ref (aLe 0))]) hx hb dX5_slashEnds_38 hl (k := 3) rfl rfl (by decide) rfl (fun ls hl => ?_)
        refine lv_goto (tgt := 4) hx hb dX5_slashEnds_41 (by decide) ?_
        exact ih4 (s36_1 + s36_0) (v3 + 1) hF _ _ X _ (lv_sub hl [2, 3, 1, 0] rfl)
      intro v2 v3 hF H locs X ls hl
      rw [f_X5_slashEnds_l4_s] at hF
      refine lv_iload_n hx hb dX5_slashEnds_4 rfl (lv_at hl 3 rfl) ?_
      refine lv_aload_n hx hb dX5_slashEnds_5 rfl (lv_at hl 0 rfl) ?_
      refine hm_get S X hf_X5_14 0 rfl rfl dX5_slashEnds_6 ?_
      obtain ⟨t1, ht1, hF⟩ := hm_bd hF
      refine hm_vi (As := []) S X mw_X2_size hw_3_96 (c_X2_size l g (a 1) (a 2) 100 (R 0) t1 ht1) (hm_mid [[(a 0, .inr (5, [.ref (a 1), .ref (a 3), .ref (a 5), .ref (a 7), .ref (a 9), .ref (a 11), .int (Z 0), .int (Z 1)]))]] [hm_row g (a 3) (a 4) 101 (R 1), hm_row g (a 5) (a 6) 30 (R 2), hm_row g (a 7) (a 8) 30 (R 3), hm_row g (a 9) (a 10) 30 (R 4), hm_row g (a 11) (a 12) 30 (R 5), hm_wLe g aLe LeR LeZ]) (hm_mid [[(a 0, .inr (5, [.ref (a 1), .ref (a 3), .ref (a 5), .ref (a 7), .ref (a 9), .ref (a 11), .int (Z 0), .int (Z 1)]))]] [hm_row g (a 3) (a 4) 101 (R 1), hm_row g (a 5) (a 6) 30 (R 2), hm_row g (a 7) (a 8) 30 (R 3), hm_row g (a 9) (a 10) 30 (R 4), hm_row g (a 11) (a 12) 30 (R 5), hm_wLe g aLe LeR LeZ] (b := hm_row g (a 1) (a 2) 100 (R 0))) rfl rfl rfl ⟨rfl, rfl, Nat.le_of_ble_eq_true rfl, Nat.le_of_ble_eq_true rfl⟩ rfl hl.1 rfl (Nat.le_of_ble_eq_true rfl) dX5_slashEnds_9 ⟨Nat.zero_le _, Nat.zero_le _⟩ (fun H locs X => ?_)
      have X := X.to (ws' := ([[(a 0, .inr (5, [.ref (a 1), .ref (a 3), .ref (a 5), .ref (a 7), .ref (a 9), .ref (a 11), .int (Z 0), .int (Z 1)]))], hm_row g (a 1) (a 2) 100 (R 0), hm_row g (a 3) (a 4) 101 (R 1), hm_row g (a 5) (a 6) 30 (R 2), hm_row g (a 7) (a 8) 30 (R 3), hm_row g (a 9) (a 10) 30 (R 4), hm_row g (a 11) (a 12) 30 (R 5), hm_wLe g aLe LeR LeZ] : List va_W).flatten) rfl
      refine lv_icmp_ge (tgt := 44) hx hb dX5_slashEnds_12 (by decide) (fun c12 => ?_) (fun c12 => ?_)
      · have hF := hm_if hF c12
        refine lv_iload_n hx hb dX5_slashEnds_44 rfl (lv_at hl 2 rfl) ?_
        obtain rfl := Option.some.inj hF
        exact hm_ri S hr hlk X rfl rfl dX5_slashEnds_45
      · have hF := hm_nf hF c12
        refine lv_iload_n hx hb dX5_slashEnds_15 rfl (lv_at hl 2 rfl) ?_
        refine lv_aload_n hx hb dX5_slashEnds_16 rfl (lv_at hl 1 rfl) ?_
        refine lv_aload_n hx hb dX5_slashEnds_17 rfl (lv_at hl 0 rfl) ?_
        refine hm_get S X hf_X5_14 0 rfl rfl dX5_slashEnds_18 ?_
        refine lv_iload_n hx hb dX5_slashEnds_21 rfl (lv_at hl 3 rfl) ?_
        obtain ⟨t2, ht2, hF⟩ := hm_bd hF
        refine hm_vi (As := [.int v3]) S X mw_X2_get hw_3_105 (c_X2_get l g (a 1) (a 2) 100 (R 0) v3 t2 ht2) (hm_mid [[(a 0, .inr (5, [.ref (a 1), .ref (a 3), .ref (a 5), .ref (a 7), .ref (a 9), .ref (a 11), .int (Z 0), .int (Z 1)]))]] [hm_row g (a 3) (a 4) 101 (R 1), hm_row g (a 5) (a 6) 30 (R 2), hm_row g (a 7) (a 8) 30 (R 3), hm_row g (a 9) (a 10) 30 (R 4), hm_row g (a 11) (a 12) 30 (R 5), hm_wLe g aLe LeR LeZ]) (hm_mid [[(a 0, .inr (5, [.ref (a 1), .ref (a 3), .ref (a 5), .ref (a 7), .ref (a 9), .ref (a 11), .int (Z 0), .int (Z 1)]))]] [hm_row g (a 3) (a 4) 101 (R 1), hm_row g (a 5) (a 6) 30 (R 2), hm_row g (a 7) (a 8) 30 (R 3), hm_row g (a 9) (a 10) 30 (R 4), hm_row g (a 11) (a 12) 30 (R 5), hm_wLe g aLe LeR LeZ] (b := hm_row g (a 1) (a 2) 100 (R 0))) rfl rfl rfl ⟨rfl, rfl, Nat.le_of_ble_eq_true rfl, Nat.le_of_ble_eq_true rfl⟩ rfl hl.1 rfl (Nat.le_of_ble_eq_true rfl) dX5_slashEnds_22 ⟨Nat.zero_le _, Nat.zero_le _⟩ (fun H locs X => ?_)
        have X := X.to (ws' := ([[(a 0, .inr (5, [.ref (a 1), .ref (a 3), .ref (a 5), .ref (a 7), .ref (a 9), .ref (a 11), .int (Z 0), .int (Z 1)]))], hm_row g (a 1) (a 2) 100 (R 0), hm_row g (a 3) (a 4) 101 (R 1), hm_row g (a 5) (a 6) 30 (R 2), hm_row g (a 7) (a 8) 30 (R 3), hm_row g (a 9) (a 10) 30 (R 4), hm_row g (a 11) (a 12) 30 (R 5), hm_wLe g aLe LeR LeZ] : List va_W).flatten) rfl
        obtain ⟨t3, ht3, hF⟩ := hm_bd hF
        refine hm_vi (As := [.int t2]) S X mw_X1_isSlashAt hw_3_79 (c_X1_isSlashAt l g aLe LeR LeZ t2 t3 ht3) (hm_mid [[(a 0, .inr (5, [.ref (a 1), .ref (a 3), .ref (a 5), .ref (a 7), .ref (a 9), .ref (a 11), .int (Z 0), .int (Z 1)]))], hm_row g (a 1) (a 2) 100 (R 0), hm_row g (a 3) (a 4) 101 (R 1), hm_row g (a 5) (a 6) 30 (R 2), hm_row g (a 7) (a 8) 30 (R 3), hm_row g (a 9) (a 10) 30 (R 4), hm_row g (a 11) (a 12) 30 (R 5)] []) (hm_mid [[(a 0, .inr (5, [.ref (a 1), .ref (a 3), .ref (a 5), .ref (a 7), .ref (a 9), .ref (a 11), .int (Z 0), .int (Z 1)]))], hm_row g (a 1) (a 2) 100 (R 0), hm_row g (a 3) (a 4) 101 (R 1), hm_row g (a 5) (a 6) 30 (R 2), hm_row g (a 7) (a 8) 30 (R 3), hm_row g (a 9) (a 10) 30 (R 4), hm_row g (a 11) (a 12) 30 (R 5)] [] (b := hm_wLe g aLe LeR LeZ)) rfl rfl rfl ⟨rfl, rfl, Nat.le_of_ble_eq_true rfl, Nat.le_of_ble_eq_true rfl⟩ rfl hl.1 rfl (Nat.le_of_ble_eq_true rfl) dX5_slashEnds_25 ⟨Nat.zero_le _, Nat.zero_le _⟩ (fun H locs X => ?_)
        have X := X.to (ws' := ([[(a 0, .inr (5, [.ref (a 1), .ref (a 3), .ref (a 5), .ref (a 7), .ref (a 9), .ref (a 11), .int (Z 0), .int (Z 1)]))], hm_row g (a 1) (a 2) 100 (R 0), hm_row g (a 3) (a 4) 101 (R 1), hm_row g (a 5) (a 6) 30 (R 2), hm_row g (a 7) (a 8) 30 (R 3), hm_row g (a 9) (a 10) 30 (R 4), hm_row g (a 11) (a 12) 30 (R 5), hm_wLe g aLe LeR LeZ] : List va_W).flatten) rfl
        refine lv_if_eq (tgt := 35) hx hb dX5_slashEnds_28 (by decide) (fun c28 => ?_) (fun c28 => ?_)
        · have hF := hm_if hF c28
          refine lv_iconst (v := 0) hx hb dX5_slashEnds_35 (by decide) ?_
          exact hl36 0 v2 v3 hF _ _ X _ (lv_sub hl [0, 1, 3] rfl)
        · have hF := hm_nf hF c28
          refine lv_iconst (v := 1) hx hb dX5_slashEnds_31 (by decide) ?_
          refine lv_goto (tgt := 36) hx hb dX5_slashEnds_32 (by decide) ?_
          exact hl36 1 v2 v3 hF _ _ X _ (lv_sub hl [0, 1, 3] rfl)
  unfold f_X5_slashEnds at hF
  refine lv_iconst (v := 0) hx hb dX5_slashEnds_0 (by decide) ?_
  refine lv_istore_n (lv' := [(2, .int 0), (0, .ref (a 0)), (1, .ref (aLe 0))]) hx hb dX5_slashEnds_1 rfl hl (by decide) rfl (fun ls hl => ?_)
  refine lv_iconst (v := 0) hx hb dX5_slashEnds_2 (by decide) ?_
  refine lv_istore_n (lv' := [(3, .int 0), (2, .int 0), (0, .ref (a 0)), (1, .ref (aLe 0))]) hx hb dX5_slashEnds_3 rfl hl (by decide) rfl (fun ls hl => ?_)
  exact hl4 hm_fu 0 0 hF _ _ X _ (lv_sub hl [2, 3, 1, 0] rfl)
def f_X5_rough_l4 (R_0 : hm_SR) (LeR_0 : hm_SR) (LeR_1 : hm_SR) (LeR_3 : hm_SR) (LeR_4 : hm_SR) (LeZ_1 : Int32) : Nat → Int32 → Int32 → Option (Int32)
  | 0, _, _ => none
  | k + 1, v2, v3 =>
  (f_X2_size R_0).bind fun t1 =>
  if t1 ≤ (v3 + 1) then (
  some (v2))
  else (
  (f_X5_startOf R_0 v3).bind fun t2 =>
  (f_X5_endOf R_0 v3).bind fun t3 =>
  (f_X1_left LeR_0 LeR_1 LeR_4 LeZ_1 t2 t3).bind fun t4 =>
  (f_X5_startOf R_0 v3).bind fun t5 =>
  (f_X5_endOf R_0 v3).bind fun t6 =>
  (f_X1_spread LeR_0 LeR_1 LeR_3 LeR_4 LeZ_1 t5 t6).bind fun t7 =>
  f_X5_rough_l4 R_0 LeR_0 LeR_1 LeR_3 LeR_4 LeZ_1 k (v2 + (t4 - t7)) (v3 + 1))
theorem f_X5_rough_l4_s (R_0 : hm_SR) (LeR_0 : hm_SR) (LeR_1 : hm_SR) (LeR_3 : hm_SR) (LeR_4 : hm_SR) (LeZ_1 : Int32) (k : Nat) (v2 : Int32) (v3 : Int32) : f_X5_rough_l4 R_0 LeR_0 LeR_1 LeR_3 LeR_4 LeZ_1 (k + 1) v2 v3 =
  (f_X2_size R_0).bind fun t1 =>
  if t1 ≤ (v3 + 1) then (
  some (v2))
  else (
  (f_X5_startOf R_0 v3).bind fun t2 =>
  (f_X5_endOf R_0 v3).bind fun t3 =>
  (f_X1_left LeR_0 LeR_1 LeR_4 LeZ_1 t2 t3).bind fun t4 =>
  (f_X5_startOf R_0 v3).bind fun t5 =>
  (f_X5_endOf R_0 v3).bind fun t6 =>
  (f_X1_spread LeR_0 LeR_1 LeR_3 LeR_4 LeZ_1 t5 t6).bind fun t7 =>
  f_X5_rough_l4 R_0 LeR_0 LeR_1 LeR_3 LeR_4 LeZ_1 k (v2 + (t4 - t7)) (v3 + 1)) := rfl
theorem f_X5_rough_l4_z (R_0 : hm_SR) (LeR_0 : hm_SR) (LeR_1 : hm_SR) (LeR_3 : hm_SR) (LeR_4 : hm_SR) (LeZ_1 : Int32) (v2 : Int32) (v3 : Int32) : f_X5_rough_l4 R_0 LeR_0 LeR_1 LeR_3 LeR_4 LeZ_1 0 v2 v3 = none := rfl
def f_X5_rough (R_0 : hm_SR) (LeR_0 : hm_SR) (LeR_1 : hm_SR) (LeR_3 : hm_SR) (LeR_4 : hm_SR) (LeZ_1 : Int32)  : Option (Int32) :=
  f_X5_rough_l4 R_0 LeR_0 LeR_1 LeR_3 LeR_4 LeZ_1 hm_fu 0 0
abbrev rm_X5_rough : Room := { frames := 3, cells := 0, slots := 0, locals := 66 }
set_option maxHeartbeats 4000000 in
set_option maxRecDepth 100000 in
theorem c_X5_rough (l : Launch) (g : hm_G) (a : Nat → Nat) (R : Nat → hm_SR) (Z : Nat → Int32) (aLe : Nat → Nat) (LeR : Nat → hm_SR) (LeZ : Nat → Int32) (q : Int32) (hF : f_X5_rough (R 0) (LeR 0) (LeR 1) (LeR 3) (LeR 4) (LeZ 1) = some q) : hm_Mi l yX5_rough (Cond.code yX5_rough cX5_rough 4 (some .int) :: hm_W) rm_X5_rough g [.ref (a 0), .ref (aLe 0)] ([hm_wSh g a R Z, hm_wLe g aLe LeR LeZ] : List va_W).flatten ([hm_wSh g a R Z, hm_wLe g aLe LeR LeZ] : List va_W).flatten q := by
  refine hm_ofi [(0, .ref (a 0)), (1, .ref (aLe 0))] (by decide) (own := RX5) rfl (Nat.le_of_ble_eq_true rfl) rfl rfl ?_
  intro p e s m args below meth c AA S hr hlk X ls hl
  have hx := S.1
  have hb := S.2.1
  have hown := S.2.2.2.1
  have hts := S.2.2.2.2
  have X := X.to (ws' := ([[(a 0, .inr (5, [.ref (a 1), .ref (a 3), .ref (a 5), .ref (a 7), .ref (a 9), .ref (a 11), .int (Z 0), .int (Z 1)]))], hm_row g (a 1) (a 2) 100 (R 0), hm_row g (a 3) (a 4) 101 (R 1), hm_row g (a 5) (a 6) 30 (R 2), hm_row g (a 7) (a 8) 30 (R 3), hm_row g (a 9) (a 10) 30 (R 4), hm_row g (a 11) (a 12) 30 (R 5), hm_wLe g aLe LeR LeZ] : List va_W).flatten) rfl
  have hl4 : ∀ (k4 : Nat) (v2 : Int32) (v3 : Int32), f_X5_rough_l4 (R 0) (LeR 0) (LeR 1) (LeR 3) (LeR 4) (LeZ 1) k4 v2 v3 = some q → ∀ (H : Heap) (locs : List Loc), hm_X g AA s H locs ([[(a 0, .inr (5, [.ref (a 1), .ref (a 3), .ref (a 5), .ref (a 7), .ref (a 9), .ref (a 11), .int (Z 0), .int (Z 1)]))], hm_row g (a 1) (a 2) 100 (R 0), hm_row g (a 3) (a 4) 101 (R 1), hm_row g (a 5) (a 6) 30 (R 2), hm_row g (a 7) (a 8) 30 (R 3), hm_row g (a 9) (a 10) 30 (R 4), hm_row g (a 11) (a 12) 30 (R 5), hm_wLe g aLe LeR LeZ] : List va_W).flatten → ∀ ls : Array Slot, lv_has ls 4 [(0, .ref (a 0)), (1, .ref (aLe 0)), (2, .int v2), (3, .int v3)] → W p l e rm_X5_rough s m args below meth c H locs 0 0 (MQ below (hm_Qi g AA ([hm_wSh g a R Z, hm_wLe g aLe LeR LeZ] : List va_W).flatten q) args s 0 0 AA) (F0 m 4 ls []) := by
    intro k4
    induction k4 with
    | zero =>
      intro v2 v3 hF
      rw [f_X5_rough_l4_z] at hF
      cases hF
    | succ k4 ih4 =>
      intro v2 v3 hF H locs X ls hl
      rw [f_X5_rough_l4_s] at hF
      refine lv_iload_n hx hb dX5_rough_4 rfl (lv_at hl 3 rfl) ?_
      refine lv_iconst (v := 1) hx hb dX5_rough_5 (by decide) ?_
      refine lv_iadd hx hb dX5_rough_6 ?_
      refine lv_aload_n hx hb dX5_rough_7 rfl (lv_at hl 0 rfl) ?_
      refine hm_get S X hf_X5_14 0 rfl rfl dX5_rough_8 ?_
      obtain ⟨t1, ht1, hF⟩ := hm_bd hF
      refine hm_vi (As := []) S X mw_X2_size hw_3_96 (c_X2_size l g (a 1) (a 2) 100 (R 0) t1 ht1) (hm_mid [[(a 0, .inr (5, [.ref (a 1), .ref (a 3), .ref (a 5), .ref (a 7), .ref (a 9), .ref (a 11), .int (Z 0), .int (Z 1)]))]] [hm_row g (a 3) (a 4) 101 (R 1), hm_row g (a 5) (a 6) 30 (R 2), hm_row g (a 7) (a 8) 30 (R 3), hm_row g (a 9) (a 10) 30 (R 4), hm_row g (a 11) (a 12) 30 (R 5), hm_wLe g aLe LeR LeZ]) (hm_mid [[(a 0, .inr (5, [.ref (a 1), .ref (a 3), .ref (a 5), .ref (a 7), .ref (a 9), .ref (a 11), .int (Z 0), .int (Z 1)]))]] [hm_row g (a 3) (a 4) 101 (R 1), hm_row g (a 5) (a 6) 30 (R 2), hm_row g (a 7) (a 8) 30 (R 3), hm_row g (a 9) (a 10) 30 (R 4), hm_row g (a 11) (a 12) 30 (R 5), hm_wLe g aLe LeR LeZ] (b := hm_row g (a 1) (a 2) 100 (R 0))) rfl rfl rfl ⟨rfl, rfl, Nat.le_of_ble_eq_true rfl, Nat.le_of_ble_eq_true rfl⟩ rfl hl.1 rfl (Nat.le_of_ble_eq_true rfl) dX5_rough_11 ⟨Nat.zero_le _, Nat.zero_le _⟩ (fun H locs X => ?_)
      have X := X.to (ws' := ([[(a 0, .inr (5, [.ref (a 1), .ref (a 3), .ref (a 5), .ref (a 7), .ref (a 9), .ref (a 11), .int (Z 0), .int (Z 1)]))], hm_row g (a 1) (a 2) 100 (R 0), hm_row g (a 3) (a 4) 101 (R 1), hm_row g (a 5) (a 6) 30 (R 2), hm_row g (a 7) (a 8) 30 (R 3), hm_row g (a 9) (a 10) 30 (R 4), hm_row g (a 11) (a 12) 30 (R 5), hm_wLe g aLe LeR LeZ] : List va_W).flatten) rfl
      refine lv_icmp_ge (tgt := 55) hx hb dX5_rough_14 (by decide) (fun c14 => ?_) (fun c14 => ?_)
      · have hF := hm_if hF c14
        refine lv_iload_n hx hb dX5_rough_55 rfl (lv_at hl 2 rfl) ?_
        obtain rfl := Option.some.inj hF
        exact hm_ri S hr hlk X rfl rfl dX5_rough_56
      · have hF := hm_nf hF c14
        refine lv_iload_n hx hb dX5_rough_17 rfl (lv_at hl 2 rfl) ?_
        refine lv_aload_n hx hb dX5_rough_18 rfl (lv_at hl 1 rfl) ?_
        refine lv_aload_n hx hb dX5_rough_19 rfl (lv_at hl 0 rfl) ?_
        refine lv_iload_n hx hb dX5_rough_20 rfl (lv_at hl 3 rfl) ?_
        obtain ⟨t2, ht2, hF⟩ := hm_bd hF
        refine hm_vi (As := [.int v3]) S X mw_X5_startOf hw_3_137 (c_X5_startOf l g a R Z v3 t2 ht2) (hm_cq (n := 8) [0, 1, 2, 3, 4, 5, 6] [7] rfl (by decide +kernel) rfl rfl) (hm_cq (bs := [[(a 0, .inr (5, [.ref (a 1), .ref (a 3), .ref (a 5), .ref (a 7), .ref (a 9), .ref (a 11), .int (Z 0), .int (Z 1)]))], hm_row g (a 1) (a 2) 100 (R 0), hm_row g (a 3) (a 4) 101 (R 1), hm_row g (a 5) (a 6) 30 (R 2), hm_row g (a 7) (a 8) 30 (R 3), hm_row g (a 9) (a 10) 30 (R 4), hm_row g (a 11) (a 12) 30 (R 5), hm_wLe g aLe LeR LeZ]) (n := 8) [0, 1, 2, 3, 4, 5, 6] [7] rfl (by decide +kernel) rfl rfl) rfl rfl rfl ⟨rfl, rfl, Nat.le_of_ble_eq_true rfl, Nat.le_of_ble_eq_true rfl⟩ rfl hl.1 rfl (Nat.le_of_ble_eq_true rfl) dX5_rough_21 ⟨Nat.zero_le _, Nat.zero_le _⟩ (fun H locs X => ?_)
        have X := X.to (ws' := ([[(a 0, .inr (5, [.ref (a 1), .ref (a 3), .ref (a 5), .ref (a 7), .ref (a 9), .ref (a 11), .int (Z 0), .int (Z 1)]))], hm_row g (a 1) (a 2) 100 (R 0), hm_row g (a 3) (a 4) 101 (R 1), hm_row g (a 5) (a 6) 30 (R 2), hm_row g (a 7) (a 8) 30 (R 3), hm_row g (a 9) (a 10) 30 (R 4), hm_row g (a 11) (a 12) 30 (R 5), hm_wLe g aLe LeR LeZ] : List va_W).flatten) rfl
        refine lv_aload_n hx hb dX5_rough_24 rfl (lv_at hl 0 rfl) ?_
        refine lv_iload_n hx hb dX5_rough_25 rfl (lv_at hl 3 rfl) ?_
        obtain ⟨t3, ht3, hF⟩ := hm_bd hF
        refine hm_vi (As := [.int v3]) S X mw_X5_endOf hw_3_141 (c_X5_endOf l g a R Z v3 t3 ht3) (hm_cq (n := 8) [0, 1, 2, 3, 4, 5, 6] [7] rfl (by decide +kernel) rfl rfl) (hm_cq (bs := [[(a 0, .inr (5, [.ref (a 1), .ref (a 3), .ref (a 5), .ref (a 7), .ref (a 9), .ref (a 11), .int (Z 0), .int (Z 1)]))], hm_row g (a 1) (a 2) 100 (R 0), hm_row g (a 3) (a 4) 101 (R 1), hm_row g (a 5) (a 6) 30 (R 2), hm_row g (a 7) (a 8) 30 (R 3), hm_row g (a 9) (a 10) 30 (R 4), hm_row g (a 11) (a 12) 30 (R 5), hm_wLe g aLe LeR LeZ]) (n := 8) [0, 1, 2, 3, 4, 5, 6] [7] rfl (by decide +kernel) rfl rfl) rfl rfl rfl ⟨rfl, rfl, Nat.le_of_ble_eq_true rfl, Nat.le_of_ble_eq_true rfl⟩ rfl hl.1 rfl (Nat.le_of_ble_eq_true rfl) dX5_rough_26 ⟨Nat.zero_le _, Nat.zero_le _⟩ (fun H locs X => ?_)
        have X := X.to (ws' := ([[(a 0, .inr (5, [.ref (a 1), .ref (a 3), .ref (a 5), .ref (a 7), .ref (a 9), .ref (a 11), .int (Z 0), .int (Z 1)]))], hm_row g (a 1) (a 2) 100 (R 0), hm_row g (a 3) (a 4) 101 (R 1), hm_row g (a 5) (a 6) 30 (R 2), hm_row g (a 7) (a 8) 30 (R 3), hm_row g (a 9) (a 10) 30 (R 4), hm_row g (a 11) (a 12) 30 (R 5), hm_wLe g aLe LeR LeZ] : List va_W).flatten) rfl
        obtain ⟨t4, ht4, hF⟩ := hm_bd hF
        refine hm_vi (As := [.int t2, .int t3]) S X mw_X1_left hw_3_145 (c_X1_left l g aLe LeR LeZ t2 t3 t4 ht4) (hm_mid [[(a 0, .inr (5, [.ref (a 1), .ref (a 3), .ref (a 5), .ref (a 7), .ref (a 9), .ref (a 11), .int (Z 0), .int (Z 1)]))], hm_row g (a 1) (a 2) 100 (R 0), hm_row g (a 3) (a 4) 101 (R 1), hm_row g (a 5) (a 6) 30 (R 2), hm_row g (a 7) (a 8) 30 (R 3), hm_row g (a 9) (a 10) 30 (R 4), hm_row g (a 11) (a 12) 30 (R 5)] []) (hm_mid [[(a 0, .inr (5, [.ref (a 1), .ref (a 3), .ref (a 5), .ref (a 7), .ref (a 9), .ref (a 11), .int (Z 0), .int (Z 1)]))], hm_row g (a 1) (a 2) 100 (R 0), hm_row g (a 3) (a 4) 101 (R 1), hm_row g (a 5) (a 6) 30 (R 2), hm_row g (a 7) (a 8) 30 (R 3), hm_row g (a 9) (a 10) 30 (R 4), hm_row g (a 11) (a 12) 30 (R 5)] [] (b := hm_wLe g aLe LeR LeZ)) rfl rfl rfl ⟨rfl, rfl, Nat.le_of_ble_eq_true rfl, Nat.le_of_ble_eq_true rfl⟩ rfl hl.1 rfl (Nat.le_of_ble_eq_true rfl) dX5_rough_29 ⟨Nat.zero_le _, Nat.zero_le _⟩ (fun H locs X => ?_)
        have X := X.to (ws' := ([[(a 0, .inr (5, [.ref (a 1), .ref (a 3), .ref (a 5), .ref (a 7), .ref (a 9), .ref (a 11), .int (Z 0), .int (Z 1)]))], hm_row g (a 1) (a 2) 100 (R 0), hm_row g (a 3) (a 4) 101 (R 1), hm_row g (a 5) (a 6) 30 (R 2), hm_row g (a 7) (a 8) 30 (R 3), hm_row g (a 9) (a 10) 30 (R 4), hm_row g (a 11) (a 12) 30 (R 5), hm_wLe g aLe LeR LeZ] : List va_W).flatten) rfl
        refine lv_aload_n hx hb dX5_rough_32 rfl (lv_at hl 1 rfl) ?_
        refine lv_aload_n hx hb dX5_rough_33 rfl (lv_at hl 0 rfl) ?_
        refine lv_iload_n hx hb dX5_rough_34 rfl (lv_at hl 3 rfl) ?_
        obtain ⟨t5, ht5, hF⟩ := hm_bd hF
        refine hm_vi (As := [.int v3]) S X mw_X5_startOf hw_3_137 (c_X5_startOf l g a R Z v3 t5 ht5) (hm_cq (n := 8) [0, 1, 2, 3, 4, 5, 6] [7] rfl (by decide +kernel) rfl rfl) (hm_cq (bs := [[(a 0, .inr (5, [.ref (a 1), .ref (a 3), .ref (a 5), .ref (a 7), .ref (a 9), .ref (a 11), .int (Z 0), .int (Z 1)]))], hm_row g (a 1) (a 2) 100 (R 0), hm_row g (a 3) (a 4) 101 (R 1), hm_row g (a 5) (a 6) 30 (R 2), hm_row g (a 7) (a 8) 30 (R 3), hm_row g (a 9) (a 10) 30 (R 4), hm_row g (a 11) (a 12) 30 (R 5), hm_wLe g aLe LeR LeZ]) (n := 8) [0, 1, 2, 3, 4, 5, 6] [7] rfl (by decide +kernel) rfl rfl) rfl rfl rfl ⟨rfl, rfl, Nat.le_of_ble_eq_true rfl, Nat.le_of_ble_eq_true rfl⟩ rfl hl.1 rfl (Nat.le_of_ble_eq_true rfl) dX5_rough_35 ⟨Nat.zero_le _, Nat.zero_le _⟩ (fun H locs X => ?_)
        have X := X.to (ws' := ([[(a 0, .inr (5, [.ref (a 1), .ref (a 3), .ref (a 5), .ref (a 7), .ref (a 9), .ref (a 11), .int (Z 0), .int (Z 1)]))], hm_row g (a 1) (a 2) 100 (R 0), hm_row g (a 3) (a 4) 101 (R 1), hm_row g (a 5) (a 6) 30 (R 2), hm_row g (a 7) (a 8) 30 (R 3), hm_row g (a 9) (a 10) 30 (R 4), hm_row g (a 11) (a 12) 30 (R 5), hm_wLe g aLe LeR LeZ] : List va_W).flatten) rfl
        refine lv_aload_n hx hb dX5_rough_38 rfl (lv_at hl 0 rfl) ?_
        refine lv_iload_n hx hb dX5_rough_39 rfl (lv_at hl 3 rfl) ?_
        obtain ⟨t6, ht6, hF⟩ := hm_bd hF
        refine hm_vi (As := [.int v3]) S X mw_X5_endOf hw_3_141 (c_X5_endOf l g a R Z v3 t6 ht6) (hm_cq (n := 8) [0, 1, 2, 3, 4, 5, 6] [7] rfl (by decide +kernel) rfl rfl) (hm_cq (bs := [[(a 0, .inr (5, [.ref (a 1), .ref (a 3), .ref (a 5), .ref (a 7), .ref (a 9), .ref (a 11), .int (Z 0), .int (Z 1)]))], hm_row g (a 1) (a 2) 100 (R 0), hm_row g (a 3) (a 4) 101 (R 1), hm_row g (a 5) (a 6) 30 (R 2), hm_row g (a 7) (a 8) 30 (R 3), hm_row g (a 9) (a 10) 30 (R 4), hm_row g (a 11) (a 12) 30 (R 5), hm_wLe g aLe LeR LeZ]) (n := 8) [0, 1, 2, 3, 4, 5, 6] [7] rfl (by decide +kernel) rfl rfl) rfl rfl rfl ⟨rfl, rfl, Nat.le_of_ble_eq_true rfl, Nat.le_of_ble_eq_true rfl⟩ rfl hl.1 rfl (Nat.le_of_ble_eq_true rfl) dX5_rough_40 ⟨Nat.zero_le _, Nat.zero_le _⟩ (fun H locs X => ?_)
        have X := X.to (ws' := ([[(a 0, .inr (5, [.ref (a 1), .ref (a 3), .ref (a 5), .ref (a 7), .ref (a 9), .ref (a 11), .int (Z 0), .int (Z 1)]))], hm_row g (a 1) (a 2) 100 (R 0), hm_row g (a 3) (a 4) 101 (R 1), hm_row g (a 5) (a 6) 30 (R 2), hm_row g (a 7) (a 8) 30 (R 3), hm_row g (a 9) (a 10) 30 (R 4), hm_row g (a 11) (a 12) 30 (R 5), hm_wLe g aLe LeR LeZ] : List va_W).flatten) rfl
        obtain ⟨t7, ht7, hF⟩ := hm_bd hF
        refine hm_vi (As := [.int t5, .int t6]) S X mw_X1_spread hw_3_72 (c_X1_spread l g aLe LeR LeZ t5 t6 t7 ht7) (hm_mid [[(a 0, .inr (5, [.ref (a 1), .ref (a 3), .ref (a 5), .ref (a 7), .ref (a 9), .ref (a 11), .int (Z 0), .int (Z 1)]))], hm_row g (a 1) (a 2) 100 (R 0), hm_row g (a 3) (a 4) 101 (R 1), hm_row g (a 5) (a 6) 30 (R 2), hm_row g (a 7) (a 8) 30 (R 3), hm_row g (a 9) (a 10) 30 (R 4), hm_row g (a 11) (a 12) 30 (R 5)] []) (hm_mid [[(a 0, .inr (5, [.ref (a 1), .ref (a 3), .ref (a 5), .ref (a 7), .ref (a 9), .ref (a 11), .int (Z 0), .int (Z 1)]))], hm_row g (a 1) (a 2) 100 (R 0), hm_row g (a 3) (a 4) 101 (R 1), hm_row g (a 5) (a 6) 30 (R 2), hm_row g (a 7) (a 8) 30 (R 3), hm_row g (a 9) (a 10) 30 (R 4), hm_row g (a 11) (a 12) 30 (R 5)] [] (b := hm_wLe g aLe LeR LeZ)) rfl rfl rfl ⟨rfl, rfl, Nat.le_of_ble_eq_true rfl, Nat.le_of_ble_eq_true rfl⟩ rfl hl.1 rfl (Nat.le_of_ble_eq_true rfl) dX5_rough_43 ⟨Nat.zero_le _, Nat.zero_le _⟩ (fun H locs X => ?_)
        have X := X.to (ws' := ([[(a 0, .inr (5, [.ref (a 1), .ref (a 3), .ref (a 5), .ref (a 7), .ref (a 9), .ref (a 11), .int (Z 0), .int (Z 1)]))], hm_row g (a 1) (a 2) 100 (R 0), hm_row g (a 3) (a 4) 101 (R 1), hm_row g (a 5) (a 6) 30 (R 2), hm_row g (a 7) (a 8) 30 (R 3), hm_row g (a 9) (a 10) 30 (R 4), hm_row g (a 11) (a 12) 30 (R 5), hm_wLe g aLe LeR LeZ] : List va_W).flatten) rfl
        refine lv_isub hx hb dX5_rough_46 ?_
        refine lv_iadd hx hb dX5_rough_47 ?_
        refine lv_istore_n (lv' := [(2, .int (v2 + (t4 - t7))), (0, .ref (a 0)), (1, .ref (aLe 0)), (3, .int v3)]) hx hb dX5_rough_48 rfl hl (by decide) rfl (fun ls hl => ?_)
        refine lv_iinc (v := (v3 + 1)) (lv' := [(3, .int (v3 + 1)), (2, .int (v2 + (t4 - t7))), (0, .ref (a 0)), (1, .ref (aLe 0))]) hx hb dX5_rough_49 hl (k := 3) rfl rfl (by decide) rfl (fun ls hl => ?_)
        refine lv_goto (tgt := 4) hx hb dX5_rough_52 (by decide) ?_
        exact ih4 (v2 + (t4 - t7)) (v3 + 1) hF _ _ X _ (lv_sub hl [2, 3, 1, 0] rfl)
  unfold f_X5_rough at hF
  refine lv_iconst (v := 0) hx hb dX5_rough_0 (by decide) ?_
  refine lv_istore_n (lv' := [(2, .int 0), (0, .ref (a 0)), (1, .ref (aLe 0))]) hx hb dX5_rough_1 rfl hl (by decide) rfl (fun ls hl => ?_)
  refine lv_iconst (v := 0) hx hb dX5_rough_2 (by decide) ?_
  refine lv_istore_n (lv' := [(3, .int 0), (2, .int 0), (0, .ref (a 0)), (1, .ref (aLe 0))]) hx hb dX5_rough_3 rfl hl (by decide) rfl (fun ls hl => ?_)
  exact hl4 hm_fu 0 0 hF _ _ X _ (lv_sub hl [2, 3, 1, 0] rfl)
def f_X5_springs_l4 (R_5 : hm_SR) : Nat → Int32 → Int32 → Option (Int32)
  | 0, _, _ => none
  | k + 1, v1, v2 =>
  (f_X2_size R_5).bind fun t1 =>
  if t1 ≤ v2 then (
  some (v1))
  else (
  (f_X2_get 30 R_5 v2).bind fun t2 =>
  f_X5_springs_l4 R_5 k (v1 + t2) (v2 + 1))
theorem f_X5_springs_l4_s (R_5 : hm_SR) (k : Nat) (v1 : Int32) (v2 : Int32) : f_X5_springs_l4 R_5 (k + 1) v1 v2 =
  (f_X2_size R_5).bind fun t1 =>
  if t1 ≤ v2 then (
  some (v1))
  else (
  (f_X2_get 30 R_5 v2).bind fun t2 =>
  f_X5_springs_l4 R_5 k (v1 + t2) (v2 + 1)) := rfl
theorem f_X5_springs_l4_z (R_5 : hm_SR) (v1 : Int32) (v2 : Int32) : f_X5_springs_l4 R_5 0 v1 v2 = none := rfl
def f_X5_springs (R_5 : hm_SR)  : Option (Int32) :=
  f_X5_springs_l4 R_5 hm_fu 0 0
abbrev rm_X5_springs : Room := { frames := 1, cells := 0, slots := 0, locals := 21 }
set_option maxHeartbeats 4000000 in
set_option maxRecDepth 100000 in
theorem c_X5_springs (l : Launch) (g : hm_G) (a : Nat → Nat) (R : Nat → hm_SR) (Z : Nat → Int32) (q : Int32) (hF : f_X5_springs (R 5) = some q) : hm_Mi l yX5_springs (Cond.code yX5_springs cX5_springs 3 (some .int) :: hm_W) rm_X5_springs g [.ref (a 0)] ([hm_wSh g a R Z] : List va_W).flatten ([hm_wSh g a R Z] : List va_W).flatten q := by
  refine hm_ofi [(0, .ref (a 0))] (by decide) (own := RX5) rfl (Nat.le_of_ble_eq_true rfl) rfl rfl ?_
  intro p e s m args below meth c AA S hr hlk X ls hl
  have hx := S.1
  have hb := S.2.1
  have hown := S.2.2.2.1
  have hts := S.2.2.2.2
  have X := X.to (ws' := ([[(a 0, .inr (5, [.ref (a 1), .ref (a 3), .ref (a 5), .ref (a 7), .ref (a 9), .ref (a 11), .int (Z 0), .int (Z 1)]))], hm_row g (a 1) (a 2) 100 (R 0), hm_row g (a 3) (a 4) 101 (R 1), hm_row g (a 5) (a 6) 30 (R 2), hm_row g (a 7) (a 8) 30 (R 3), hm_row g (a 9) (a 10) 30 (R 4), hm_row g (a 11) (a 12) 30 (R 5)] : List va_W).flatten) rfl
  have hl4 : ∀ (k4 : Nat) (v1 : Int32) (v2 : Int32), f_X5_springs_l4 (R 5) k4 v1 v2 = some q → ∀ (H : Heap) (locs : List Loc), hm_X g AA s H locs ([[(a 0, .inr (5, [.ref (a 1), .ref (a 3), .ref (a 5), .ref (a 7), .ref (a 9), .ref (a 11), .int (Z 0), .int (Z 1)]))], hm_row g (a 1) (a 2) 100 (R 0), hm_row g (a 3) (a 4) 101 (R 1), hm_row g (a 5) (a 6) 30 (R 2), hm_row g (a 7) (a 8) 30 (R 3), hm_row g (a 9) (a 10) 30 (R 4), hm_row g (a 11) (a 12) 30 (R 5)] : List va_W).flatten → ∀ ls : Array Slot, lv_has ls 3 [(0, .ref (a 0)), (1, .int v1), (2, .int v2)] → W p l e rm_X5_springs s m args below meth c H locs 0 0 (MQ below (hm_Qi g AA ([hm_wSh g a R Z] : List va_W).flatten q) args s 0 0 AA) (F0 m 4 ls []) := by
    intro k4
    induction k4 with
    | zero =>
      intro v1 v2 hF
      rw [f_X5_springs_l4_z] at hF
      cases hF
    | succ k4 ih4 =>
      intro v1 v2 hF H locs X ls hl
      rw [f_X5_springs_l4_s] at hF
      refine lv_iload_n hx hb dX5_springs_4 rfl (lv_at hl 2 rfl) ?_
      refine lv_aload_n hx hb dX5_springs_5 rfl (lv_at hl 0 rfl) ?_
      refine hm_get S X hf_X5_32 0 rfl rfl dX5_springs_6 ?_
      obtain ⟨t1, ht1, hF⟩ := hm_bd hF
      refine hm_vi (As := []) S X mw_X2_size hw_3_96 (c_X2_size l g (a 11) (a 12) 30 (R 5) t1 ht1) (hm_mid [[(a 0, .inr (5, [.ref (a 1), .ref (a 3), .ref (a 5), .ref (a 7), .ref (a 9), .ref (a 11), .int (Z 0), .int (Z 1)]))], hm_row g (a 1) (a 2) 100 (R 0), hm_row g (a 3) (a 4) 101 (R 1), hm_row g (a 5) (a 6) 30 (R 2), hm_row g (a 7) (a 8) 30 (R 3), hm_row g (a 9) (a 10) 30 (R 4)] []) (hm_mid [[(a 0, .inr (5, [.ref (a 1), .ref (a 3), .ref (a 5), .ref (a 7), .ref (a 9), .ref (a 11), .int (Z 0), .int (Z 1)]))], hm_row g (a 1) (a 2) 100 (R 0), hm_row g (a 3) (a 4) 101 (R 1), hm_row g (a 5) (a 6) 30 (R 2), hm_row g (a 7) (a 8) 30 (R 3), hm_row g (a 9) (a 10) 30 (R 4)] [] (b := hm_row g (a 11) (a 12) 30 (R 5))) rfl rfl rfl ⟨rfl, rfl, Nat.le_of_ble_eq_true rfl, Nat.le_of_ble_eq_true rfl⟩ rfl hl.1 rfl (Nat.le_of_ble_eq_true rfl) dX5_springs_9 ⟨Nat.zero_le _, Nat.zero_le _⟩ (fun H locs X => ?_)
      have X := X.to (ws' := ([[(a 0, .inr (5, [.ref (a 1), .ref (a 3), .ref (a 5), .ref (a 7), .ref (a 9), .ref (a 11), .int (Z 0), .int (Z 1)]))], hm_row g (a 1) (a 2) 100 (R 0), hm_row g (a 3) (a 4) 101 (R 1), hm_row g (a 5) (a 6) 30 (R 2), hm_row g (a 7) (a 8) 30 (R 3), hm_row g (a 9) (a 10) 30 (R 4), hm_row g (a 11) (a 12) 30 (R 5)] : List va_W).flatten) rfl
      refine lv_icmp_ge (tgt := 32) hx hb dX5_springs_12 (by decide) (fun c12 => ?_) (fun c12 => ?_)
      · have hF := hm_if hF c12
        refine lv_iload_n hx hb dX5_springs_32 rfl (lv_at hl 1 rfl) ?_
        obtain rfl := Option.some.inj hF
        exact hm_ri S hr hlk X rfl rfl dX5_springs_33
      · have hF := hm_nf hF c12
        refine lv_iload_n hx hb dX5_springs_15 rfl (lv_at hl 1 rfl) ?_
        refine lv_aload_n hx hb dX5_springs_16 rfl (lv_at hl 0 rfl) ?_
        refine hm_get S X hf_X5_32 0 rfl rfl dX5_springs_17 ?_
        refine lv_iload_n hx hb dX5_springs_20 rfl (lv_at hl 2 rfl) ?_
        obtain ⟨t2, ht2, hF⟩ := hm_bd hF
        refine hm_vi (As := [.int v2]) S X mw_X2_get hw_3_105 (c_X2_get l g (a 11) (a 12) 30 (R 5) v2 t2 ht2) (hm_mid [[(a 0, .inr (5, [.ref (a 1), .ref (a 3), .ref (a 5), .ref (a 7), .ref (a 9), .ref (a 11), .int (Z 0), .int (Z 1)]))], hm_row g (a 1) (a 2) 100 (R 0), hm_row g (a 3) (a 4) 101 (R 1), hm_row g (a 5) (a 6) 30 (R 2), hm_row g (a 7) (a 8) 30 (R 3), hm_row g (a 9) (a 10) 30 (R 4)] []) (hm_mid [[(a 0, .inr (5, [.ref (a 1), .ref (a 3), .ref (a 5), .ref (a 7), .ref (a 9), .ref (a 11), .int (Z 0), .int (Z 1)]))], hm_row g (a 1) (a 2) 100 (R 0), hm_row g (a 3) (a 4) 101 (R 1), hm_row g (a 5) (a 6) 30 (R 2), hm_row g (a 7) (a 8) 30 (R 3), hm_row g (a 9) (a 10) 30 (R 4)] [] (b := hm_row g (a 11) (a 12) 30 (R 5))) rfl rfl rfl ⟨rfl, rfl, Nat.le_of_ble_eq_true rfl, Nat.le_of_ble_eq_true rfl⟩ rfl hl.1 rfl (Nat.le_of_ble_eq_true rfl) dX5_springs_21 ⟨Nat.zero_le _, Nat.zero_le _⟩ (fun H locs X => ?_)
        have X := X.to (ws' := ([[(a 0, .inr (5, [.ref (a 1), .ref (a 3), .ref (a 5), .ref (a 7), .ref (a 9), .ref (a 11), .int (Z 0), .int (Z 1)]))], hm_row g (a 1) (a 2) 100 (R 0), hm_row g (a 3) (a 4) 101 (R 1), hm_row g (a 5) (a 6) 30 (R 2), hm_row g (a 7) (a 8) 30 (R 3), hm_row g (a 9) (a 10) 30 (R 4), hm_row g (a 11) (a 12) 30 (R 5)] : List va_W).flatten) rfl
        refine lv_iadd hx hb dX5_springs_24 ?_
        refine lv_istore_n (lv' := [(1, .int (v1 + t2)), (0, .ref (a 0)), (2, .int v2)]) hx hb dX5_springs_25 rfl hl (by decide) rfl (fun ls hl => ?_)
        refine lv_iinc (v := (v2 + 1)) (lv' := [(2, .int (v2 + 1)), (1, .int (v1 + t2)), (0, .ref (a 0))]) hx hb dX5_springs_26 hl (k := 2) rfl rfl (by decide) rfl (fun ls hl => ?_)
        refine lv_goto (tgt := 4) hx hb dX5_springs_29 (by decide) ?_
        exact ih4 (v1 + t2) (v2 + 1) hF _ _ X _ (lv_sub hl [2, 1, 0] rfl)
  unfold f_X5_springs at hF
  refine lv_iconst (v := 0) hx hb dX5_springs_0 (by decide) ?_
  refine lv_istore_n (lv' := [(1, .int 0), (0, .ref (a 0))]) hx hb dX5_springs_1 rfl hl (by decide) rfl (fun ls hl => ?_)
  refine lv_iconst (v := 0) hx hb dX5_springs_2 (by decide) ?_
  refine lv_istore_n (lv' := [(2, .int 0), (1, .int 0), (0, .ref (a 0))]) hx hb dX5_springs_3 rfl hl (by decide) rfl (fun ls hl => ?_)
  exact hl4 hm_fu 0 0 hF _ _ X _ (lv_sub hl [2, 1, 0] rfl)
def f_X5_longest_l4 (R_4 : hm_SR) : Nat → Int32 → Int32 → Option (Int32)
  | 0, _, _ => none
  | k + 1, v1, v2 =>
  (f_X2_size R_4).bind fun t1 =>
  if t1 ≤ v2 then (
  some (v1))
  else (
  (f_X2_get 30 R_4 v2).bind fun t2 =>
  f_X5_longest_l4 R_4 k (if v1 < t2 then t2 else v1) (v2 + 1))
theorem f_X5_longest_l4_s (R_4 : hm_SR) (k : Nat) (v1 : Int32) (v2 : Int32) : f_X5_longest_l4 R_4 (k + 1) v1 v2 =
  (f_X2_size R_4).bind fun t1 =>
  if t1 ≤ v2 then (
  some (v1))
  else (
  (f_X2_get 30 R_4 v2).bind fun t2 =>
  f_X5_longest_l4 R_4 k (if v1 < t2 then t2 else v1) (v2 + 1)) := rfl
theorem f_X5_longest_l4_z (R_4 : hm_SR) (v1 : Int32) (v2 : Int32) : f_X5_longest_l4 R_4 0 v1 v2 = none := rfl
def f_X5_longest (R_4 : hm_SR)  : Option (Int32) :=
  f_X5_longest_l4 R_4 hm_fu 0 0
abbrev rm_X5_longest : Room := { frames := 1, cells := 0, slots := 0, locals := 21 }
set_option maxHeartbeats 4000000 in
set_option maxRecDepth 100000 in
theorem c_X5_longest (l : Launch) (g : hm_G) (a : Nat → Nat) (R : Nat → hm_SR) (Z : Nat → Int32) (q : Int32) (hF : f_X5_longest (R 4) = some q) : hm_Mi l yX5_longest (Cond.code yX5_longest cX5_longest 3 (some .int) :: hm_W) rm_X5_longest g [.ref (a 0)] ([hm_wSh g a R Z] : List va_W).flatten ([hm_wSh g a R Z] : List va_W).flatten q := by
  refine hm_ofi [(0, .ref (a 0))] (by decide) (own := RX5) rfl (Nat.le_of_ble_eq_true rfl) rfl rfl ?_
  intro p e s m args below meth c AA S hr hlk X ls hl
  have hx := S.1
  have hb := S.2.1
  have hown := S.2.2.2.1
  have hts := S.2.2.2.2
  have X := X.to (ws' := ([[(a 0, .inr (5, [.ref (a 1), .ref (a 3), .ref (a 5), .ref (a 7), .ref (a 9), .ref (a 11), .int (Z 0), .int (Z 1)]))], hm_row g (a 1) (a 2) 100 (R 0), hm_row g (a 3) (a 4) 101 (R 1), hm_row g (a 5) (a 6) 30 (R 2), hm_row g (a 7) (a 8) 30 (R 3), hm_row g (a 9) (a 10) 30 (R 4), hm_row g (a 11) (a 12) 30 (R 5)] : List va_W).flatten) rfl
  have hl4 : ∀ (k4 : Nat) (v1 : Int32) (v2 : Int32), f_X5_longest_l4 (R 4) k4 v1 v2 = some q → ∀ (H : Heap) (locs : List Loc), hm_X g AA s H locs ([[(a 0, .inr (5, [.ref (a 1), .ref (a 3), .ref (a 5), .ref (a 7), .ref (a 9), .ref (a 11), .int (Z 0), .int (Z 1)]))], hm_row g (a 1) (a 2) 100 (R 0), hm_row g (a 3) (a 4) 101 (R 1), hm_row g (a 5) (a 6) 30 (R 2), hm_row g (a 7) (a 8) 30 (R 3), hm_row g (a 9) (a 10) 30 (R 4), hm_row g (a 11) (a 12) 30 (R 5)] : List va_W).flatten → ∀ ls : Array Slot, lv_has ls 3 [(0, .ref (a 0)), (1, .int v1), (2, .int v2)] → W p l e rm_X5_longest s m args below meth c H locs 0 0 (MQ below (hm_Qi g AA ([hm_wSh g a R Z] : List va_W).flatten q) args s 0 0 AA) (F0 m 4 ls []) := by
    intro k4
    induction k4 with
    | zero =>
      intro v1 v2 hF
      rw [f_X5_longest_l4_z] at hF
      cases hF
    | succ k4 ih4 =>
      intro v1 v2 hF H locs X ls hl
      rw [f_X5_longest_l4_s] at hF
      refine lv_iload_n hx hb dX5_longest_4 rfl (lv_at hl 2 rfl) ?_
      refine lv_aload_n hx hb dX5_longest_5 rfl (lv_at hl 0 rfl) ?_
      refine hm_get S X hf_X5_29 0 rfl rfl dX5_longest_6 ?_
      obtain ⟨t1, ht1, hF⟩ := hm_bd hF
      refine hm_vi (As := []) S X mw_X2_size hw_3_96 (c_X2_size l g (a 9) (a 10) 30 (R 4) t1 ht1) (hm_mid [[(a 0, .inr (5, [.ref (a 1), .ref (a 3), .ref (a 5), .ref (a 7), .ref (a 9), .ref (a 11), .int (Z 0), .int (Z 1)]))], hm_row g (a 1) (a 2) 100 (R 0), hm_row g (a 3) (a 4) 101 (R 1), hm_row g (a 5) (a 6) 30 (R 2), hm_row g (a 7) (a 8) 30 (R 3)] [hm_row g (a 11) (a 12) 30 (R 5)]) (hm_mid [[(a 0, .inr (5, [.ref (a 1), .ref (a 3), .ref (a 5), .ref (a 7), .ref (a 9), .ref (a 11), .int (Z 0), .int (Z 1)]))], hm_row g (a 1) (a 2) 100 (R 0), hm_row g (a 3) (a 4) 101 (R 1), hm_row g (a 5) (a 6) 30 (R 2), hm_row g (a 7) (a 8) 30 (R 3)] [hm_row g (a 11) (a 12) 30 (R 5)] (b := hm_row g (a 9) (a 10) 30 (R 4))) rfl rfl rfl ⟨rfl, rfl, Nat.le_of_ble_eq_true rfl, Nat.le_of_ble_eq_true rfl⟩ rfl hl.1 rfl (Nat.le_of_ble_eq_true rfl) dX5_longest_9 ⟨Nat.zero_le _, Nat.zero_le _⟩ (fun H locs X => ?_)
      have X := X.to (ws' := ([[(a 0, .inr (5, [.ref (a 1), .ref (a 3), .ref (a 5), .ref (a 7), .ref (a 9), .ref (a 11), .int (Z 0), .int (Z 1)]))], hm_row g (a 1) (a 2) 100 (R 0), hm_row g (a 3) (a 4) 101 (R 1), hm_row g (a 5) (a 6) 30 (R 2), hm_row g (a 7) (a 8) 30 (R 3), hm_row g (a 9) (a 10) 30 (R 4), hm_row g (a 11) (a 12) 30 (R 5)] : List va_W).flatten) rfl
      refine lv_icmp_ge (tgt := 34) hx hb dX5_longest_12 (by decide) (fun c12 => ?_) (fun c12 => ?_)
      · have hF := hm_if hF c12
        refine lv_iload_n hx hb dX5_longest_34 rfl (lv_at hl 1 rfl) ?_
        obtain rfl := Option.some.inj hF
        exact hm_ri S hr hlk X rfl rfl dX5_longest_35
      · have hF := hm_nf hF c12
        refine lv_iload_n hx hb dX5_longest_15 rfl (lv_at hl 1 rfl) ?_
        refine lv_aload_n hx hb dX5_longest_16 rfl (lv_at hl 0 rfl) ?_
        refine hm_get S X hf_X5_29 0 rfl rfl dX5_longest_17 ?_
        refine lv_iload_n hx hb dX5_longest_20 rfl (lv_at hl 2 rfl) ?_
        obtain ⟨t2, ht2, hF⟩ := hm_bd hF
        refine hm_vi (As := [.int v2]) S X mw_X2_get hw_3_105 (c_X2_get l g (a 9) (a 10) 30 (R 4) v2 t2 ht2) (hm_mid [[(a 0, .inr (5, [.ref (a 1), .ref (a 3), .ref (a 5), .ref (a 7), .ref (a 9), .ref (a 11), .int (Z 0), .int (Z 1)]))], hm_row g (a 1) (a 2) 100 (R 0), hm_row g (a 3) (a 4) 101 (R 1), hm_row g (a 5) (a 6) 30 (R 2), hm_row g (a 7) (a 8) 30 (R 3)] [hm_row g (a 11) (a 12) 30 (R 5)]) (hm_mid [[(a 0, .inr (5, [.ref (a 1), .ref (a 3), .ref (a 5), .ref (a 7), .ref (a 9), .ref (a 11), .int (Z 0), .int (Z 1)]))], hm_row g (a 1) (a 2) 100 (R 0), hm_row g (a 3) (a 4) 101 (R 1), hm_row g (a 5) (a 6) 30 (R 2), hm_row g (a 7) (a 8) 30 (R 3)] [hm_row g (a 11) (a 12) 30 (R 5)] (b := hm_row g (a 9) (a 10) 30 (R 4))) rfl rfl rfl ⟨rfl, rfl, Nat.le_of_ble_eq_true rfl, Nat.le_of_ble_eq_true rfl⟩ rfl hl.1 rfl (Nat.le_of_ble_eq_true rfl) dX5_longest_21 ⟨Nat.zero_le _, Nat.zero_le _⟩ (fun H locs X => ?_)
        have X := X.to (ws' := ([[(a 0, .inr (5, [.ref (a 1), .ref (a 3), .ref (a 5), .ref (a 7), .ref (a 9), .ref (a 11), .int (Z 0), .int (Z 1)]))], hm_row g (a 1) (a 2) 100 (R 0), hm_row g (a 3) (a 4) 101 (R 1), hm_row g (a 5) (a 6) 30 (R 2), hm_row g (a 7) (a 8) 30 (R 3), hm_row g (a 9) (a 10) 30 (R 4), hm_row g (a 11) (a 12) 30 (R 5)] : List va_W).flatten) rfl
        refine hm_mmax S hl.1 hw_3_114 (Nat.le_of_ble_eq_true rfl) (Nat.le_of_ble_eq_true rfl) (Nat.zero_le _) (Nat.zero_le _) dX5_longest_24 ?_
        refine lv_istore_n (lv' := [(1, .int (if v1 < t2 then t2 else v1)), (0, .ref (a 0)), (2, .int v2)]) hx hb dX5_longest_27 rfl hl (by decide) rfl (fun ls hl => ?_)
        refine lv_iinc (v := (v2 + 1)) (lv' := [(2, .int (v2 + 1)), (1, .int (if v1 < t2 then t2 else v1)), (0, .ref (a 0))]) hx hb dX5_longest_28 hl (k := 2) rfl rfl (by decide) rfl (fun ls hl => ?_)
        refine lv_goto (tgt := 4) hx hb dX5_longest_31 (by decide) ?_
        exact ih4 (if v1 < t2 then t2 else v1) (v2 + 1) hF _ _ X _ (lv_sub hl [2, 1, 0] rfl)
  unfold f_X5_longest at hF
  refine lv_iconst (v := 0) hx hb dX5_longest_0 (by decide) ?_
  refine lv_istore_n (lv' := [(1, .int 0), (0, .ref (a 0))]) hx hb dX5_longest_1 rfl hl (by decide) rfl (fun ls hl => ?_)
  refine lv_iconst (v := 0) hx hb dX5_longest_2 (by decide) ?_
  refine lv_istore_n (lv' := [(2, .int 0), (1, .int 0), (0, .ref (a 0))]) hx hb dX5_longest_3 rfl hl (by decide) rfl (fun ls hl => ?_)
  exact hl4 hm_fu 0 0 hF _ _ X _ (lv_sub hl [2, 1, 0] rfl)
def f_X5_blankCount (R_1 : hm_SR) (x0 : Int32)  : Option (Int32) :=
  (f_X2_get 101 R_1 (x0 + 1)).bind fun t1 =>
  (f_X2_get 101 R_1 x0).bind fun t2 =>
  some ((t1 - t2))
abbrev rm_X5_blankCount : Room := { frames := 1, cells := 0, slots := 0, locals := 21 }
set_option maxHeartbeats 4000000 in
set_option maxRecDepth 100000 in
theorem c_X5_blankCount (l : Launch) (g : hm_G) (a : Nat → Nat) (R : Nat → hm_SR) (Z : Nat → Int32) (x0 : Int32) (q : Int32) (hF : f_X5_blankCount (R 1) x0 = some q) : hm_Mi l yX5_blankCount (Cond.code yX5_blankCount cX5_blankCount 2 (some .int) :: hm_W) rm_X5_blankCount g [.ref (a 0), .int x0] ([hm_wSh g a R Z] : List va_W).flatten ([hm_wSh g a R Z] : List va_W).flatten q := by
  refine hm_ofi [(0, .ref (a 0)), (1, .int x0)] (by decide) (own := RX5) rfl (Nat.le_of_ble_eq_true rfl) rfl rfl ?_
  intro p e s m args below meth c AA S hr hlk X ls hl
  have hx := S.1
  have hb := S.2.1
  have hown := S.2.2.2.1
  have hts := S.2.2.2.2
  have X := X.to (ws' := ([[(a 0, .inr (5, [.ref (a 1), .ref (a 3), .ref (a 5), .ref (a 7), .ref (a 9), .ref (a 11), .int (Z 0), .int (Z 1)]))], hm_row g (a 1) (a 2) 100 (R 0), hm_row g (a 3) (a 4) 101 (R 1), hm_row g (a 5) (a 6) 30 (R 2), hm_row g (a 7) (a 8) 30 (R 3), hm_row g (a 9) (a 10) 30 (R 4), hm_row g (a 11) (a 12) 30 (R 5)] : List va_W).flatten) rfl
  unfold f_X5_blankCount at hF
  refine lv_aload_n hx hb dX5_blankCount_0 rfl (lv_at hl 0 rfl) ?_
  refine hm_get S X hf_X5_20 0 rfl rfl dX5_blankCount_1 ?_
  refine lv_iload_n hx hb dX5_blankCount_4 rfl (lv_at hl 1 rfl) ?_
  refine lv_iconst (v := 1) hx hb dX5_blankCount_5 (by decide) ?_
  refine lv_iadd hx hb dX5_blankCount_6 ?_
  obtain ⟨t1, ht1, hF⟩ := hm_bd hF
  refine hm_vi (As := [.int (x0 + 1)]) S X mw_X2_get hw_3_105 (c_X2_get l g (a 3) (a 4) 101 (R 1) (x0 + 1) t1 ht1) (hm_mid [[(a 0, .inr (5, [.ref (a 1), .ref (a 3), .ref (a 5), .ref (a 7), .ref (a 9), .ref (a 11), .int (Z 0), .int (Z 1)]))], hm_row g (a 1) (a 2) 100 (R 0)] [hm_row g (a 5) (a 6) 30 (R 2), hm_row g (a 7) (a 8) 30 (R 3), hm_row g (a 9) (a 10) 30 (R 4), hm_row g (a 11) (a 12) 30 (R 5)]) (hm_mid [[(a 0, .inr (5, [.ref (a 1), .ref (a 3), .ref (a 5), .ref (a 7), .ref (a 9), .ref (a 11), .int (Z 0), .int (Z 1)]))], hm_row g (a 1) (a 2) 100 (R 0)] [hm_row g (a 5) (a 6) 30 (R 2), hm_row g (a 7) (a 8) 30 (R 3), hm_row g (a 9) (a 10) 30 (R 4), hm_row g (a 11) (a 12) 30 (R 5)] (b := hm_row g (a 3) (a 4) 101 (R 1))) rfl rfl rfl ⟨rfl, rfl, Nat.le_of_ble_eq_true rfl, Nat.le_of_ble_eq_true rfl⟩ rfl hl.1 rfl (Nat.le_of_ble_eq_true rfl) dX5_blankCount_7 ⟨Nat.zero_le _, Nat.zero_le _⟩ (fun H locs X => ?_)
  have X := X.to (ws' := ([[(a 0, .inr (5, [.ref (a 1), .ref (a 3), .ref (a 5), .ref (a 7), .ref (a 9), .ref (a 11), .int (Z 0), .int (Z 1)]))], hm_row g (a 1) (a 2) 100 (R 0), hm_row g (a 3) (a 4) 101 (R 1), hm_row g (a 5) (a 6) 30 (R 2), hm_row g (a 7) (a 8) 30 (R 3), hm_row g (a 9) (a 10) 30 (R 4), hm_row g (a 11) (a 12) 30 (R 5)] : List va_W).flatten) rfl
  refine lv_aload_n hx hb dX5_blankCount_10 rfl (lv_at hl 0 rfl) ?_
  refine hm_get S X hf_X5_20 0 rfl rfl dX5_blankCount_11 ?_
  refine lv_iload_n hx hb dX5_blankCount_14 rfl (lv_at hl 1 rfl) ?_
  obtain ⟨t2, ht2, hF⟩ := hm_bd hF
  refine hm_vi (As := [.int x0]) S X mw_X2_get hw_3_105 (c_X2_get l g (a 3) (a 4) 101 (R 1) x0 t2 ht2) (hm_mid [[(a 0, .inr (5, [.ref (a 1), .ref (a 3), .ref (a 5), .ref (a 7), .ref (a 9), .ref (a 11), .int (Z 0), .int (Z 1)]))], hm_row g (a 1) (a 2) 100 (R 0)] [hm_row g (a 5) (a 6) 30 (R 2), hm_row g (a 7) (a 8) 30 (R 3), hm_row g (a 9) (a 10) 30 (R 4), hm_row g (a 11) (a 12) 30 (R 5)]) (hm_mid [[(a 0, .inr (5, [.ref (a 1), .ref (a 3), .ref (a 5), .ref (a 7), .ref (a 9), .ref (a 11), .int (Z 0), .int (Z 1)]))], hm_row g (a 1) (a 2) 100 (R 0)] [hm_row g (a 5) (a 6) 30 (R 2), hm_row g (a 7) (a 8) 30 (R 3), hm_row g (a 9) (a 10) 30 (R 4), hm_row g (a 11) (a 12) 30 (R 5)] (b := hm_row g (a 3) (a 4) 101 (R 1))) rfl rfl rfl ⟨rfl, rfl, Nat.le_of_ble_eq_true rfl, Nat.le_of_ble_eq_true rfl⟩ rfl hl.1 rfl (Nat.le_of_ble_eq_true rfl) dX5_blankCount_15 ⟨Nat.zero_le _, Nat.zero_le _⟩ (fun H locs X => ?_)
  have X := X.to (ws' := ([[(a 0, .inr (5, [.ref (a 1), .ref (a 3), .ref (a 5), .ref (a 7), .ref (a 9), .ref (a 11), .int (Z 0), .int (Z 1)]))], hm_row g (a 1) (a 2) 100 (R 0), hm_row g (a 3) (a 4) 101 (R 1), hm_row g (a 5) (a 6) 30 (R 2), hm_row g (a 7) (a 8) 30 (R 3), hm_row g (a 9) (a 10) 30 (R 4), hm_row g (a 11) (a 12) 30 (R 5)] : List va_W).flatten) rfl
  refine lv_isub hx hb dX5_blankCount_18 ?_
  obtain rfl := Option.some.inj hF
  exact hm_ri S hr hlk X rfl rfl dX5_blankCount_19
def f_X5_blankOf (R_1 : hm_SR) (R_2 : hm_SR) (R_3 : hm_SR) (R_4 : hm_SR) (R_5 : hm_SR) (x0 : Int32) (x1 : Int32) (x2 : Int32)  : Option (Int32) :=
  (f_X2_get 101 R_1 x0).bind fun t1 =>
  if x2 = 0 then (
  (f_X2_get 30 R_2 (t1 + x1)).bind fun t2 =>
  some (t2))
  else (
  if x2 = 1 then (
  (f_X2_get 30 R_3 (t1 + x1)).bind fun t3 =>
  some (t3))
  else (
  if x2 = 2 then (
  (f_X2_get 30 R_4 (t1 + x1)).bind fun t4 =>
  some (t4))
  else (
  (f_X2_get 30 R_5 (t1 + x1)).bind fun t5 =>
  some (t5))))
abbrev rm_X5_blankOf : Room := { frames := 1, cells := 0, slots := 0, locals := 21 }
set_option maxHeartbeats 4000000 in
set_option maxRecDepth 100000 in
theorem c_X5_blankOf (l : Launch) (g : hm_G) (a : Nat → Nat) (R : Nat → hm_SR) (Z : Nat → Int32) (x0 : Int32) (x1 : Int32) (x2 : Int32) (q : Int32) (hF : f_X5_blankOf (R 1) (R 2) (R 3) (R 4) (R 5) x0 x1 x2 = some q) : hm_Mi l yX5_blankOf (Cond.code yX5_blankOf cX5_blankOf 5 (some .int) :: hm_W) rm_X5_blankOf g [.ref (a 0), .int x0, .int x1, .int x2] ([hm_wSh g a R Z] : List va_W).flatten ([hm_wSh g a R Z] : List va_W).flatten q := by
  refine hm_ofi [(0, .ref (a 0)), (1, .int x0), (2, .int x1), (3, .int x2)] (by decide) (own := RX5) rfl (Nat.le_of_ble_eq_true rfl) rfl rfl ?_
  intro p e s m args below meth c AA S hr hlk X ls hl
  have hx := S.1
  have hb := S.2.1
  have hown := S.2.2.2.1
  have hts := S.2.2.2.2
  have X := X.to (ws' := ([[(a 0, .inr (5, [.ref (a 1), .ref (a 3), .ref (a 5), .ref (a 7), .ref (a 9), .ref (a 11), .int (Z 0), .int (Z 1)]))], hm_row g (a 1) (a 2) 100 (R 0), hm_row g (a 3) (a 4) 101 (R 1), hm_row g (a 5) (a 6) 30 (R 2), hm_row g (a 7) (a 8) 30 (R 3), hm_row g (a 9) (a 10) 30 (R 4), hm_row g (a 11) (a 12) 30 (R 5)] : List va_W).flatten) rfl
  unfold f_X5_blankOf at hF
  refine lv_aload_n hx hb dX5_blankOf_0 rfl (lv_at hl 0 rfl) ?_
  refine hm_get S X hf_X5_20 0 rfl rfl dX5_blankOf_1 ?_
  refine lv_iload_n hx hb dX5_blankOf_4 rfl (lv_at hl 1 rfl) ?_
  obtain ⟨t1, ht1, hF⟩ := hm_bd hF
  refine hm_vi (As := [.int x0]) S X mw_X2_get hw_3_105 (c_X2_get l g (a 3) (a 4) 101 (R 1) x0 t1 ht1) (hm_mid [[(a 0, .inr (5, [.ref (a 1), .ref (a 3), .ref (a 5), .ref (a 7), .ref (a 9), .ref (a 11), .int (Z 0), .int (Z 1)]))], hm_row g (a 1) (a 2) 100 (R 0)] [hm_row g (a 5) (a 6) 30 (R 2), hm_row g (a 7) (a 8) 30 (R 3), hm_row g (a 9) (a 10) 30 (R 4), hm_row g (a 11) (a 12) 30 (R 5)]) (hm_mid [[(a 0, .inr (5, [.ref (a 1), .ref (a 3), .ref (a 5), .ref (a 7), .ref (a 9), .ref (a 11), .int (Z 0), .int (Z 1)]))], hm_row g (a 1) (a 2) 100 (R 0)] [hm_row g (a 5) (a 6) 30 (R 2), hm_row g (a 7) (a 8) 30 (R 3), hm_row g (a 9) (a 10) 30 (R 4), hm_row g (a 11) (a 12) 30 (R 5)] (b := hm_row g (a 3) (a 4) 101 (R 1))) rfl rfl rfl ⟨rfl, rfl, Nat.le_of_ble_eq_true rfl, Nat.le_of_ble_eq_true rfl⟩ rfl hl.1 rfl (Nat.le_of_ble_eq_true rfl) dX5_blankOf_5 ⟨Nat.zero_le _, Nat.zero_le _⟩ (fun H locs X => ?_)
  have X := X.to (ws' := ([[(a 0, .inr (5, [.ref (a 1), .ref (a 3), .ref (a 5), .ref (a 7), .ref (a 9), .ref (a 11), .int (Z 0), .int (Z 1)]))], hm_row g (a 1) (a 2) 100 (R 0), hm_row g (a 3) (a 4) 101 (R 1), hm_row g (a 5) (a 6) 30 (R 2), hm_row g (a 7) (a 8) 30 (R 3), hm_row g (a 9) (a 10) 30 (R 4), hm_row g (a 11) (a 12) 30 (R 5)] : List va_W).flatten) rfl
  refine lv_iload_n hx hb dX5_blankOf_8 rfl (lv_at hl 2 rfl) ?_
  refine lv_iadd hx hb dX5_blankOf_9 ?_
  refine lv_istore (lv' := [(4, .int (t1 + x1)), (0, .ref (a 0)), (1, .int x0), (2, .int x1), (3, .int x2)]) hx hb dX5_blankOf_10 hl (by decide) rfl (fun ls hl => ?_)
  refine lv_iload_n hx hb dX5_blankOf_12 rfl (lv_at hl 4 rfl) ?_
  by_cases c13_0 : x2 = 0
  · have hF := hm_if hF c13_0
    refine hm_tabIn (off := 27) (tgt := 40) (k := 0) hx hb dX5_blankOf_13 c13_0 (by decide) (by decide) (by decide) rfl (by decide) ?_
    refine lv_aload_n hx hb dX5_blankOf_40 rfl (lv_at hl 1 rfl) ?_
    refine hm_get S X hf_X5_23 0 rfl rfl dX5_blankOf_41 ?_
    refine lv_iload hx hb dX5_blankOf_44 (lv_at hl 0 rfl) ?_
    obtain ⟨t2, ht2, hF⟩ := hm_bd hF
    refine hm_vi (As := [.int (t1 + x1)]) S X mw_X2_get hw_3_105 (c_X2_get l g (a 5) (a 6) 30 (R 2) (t1 + x1) t2 ht2) (hm_mid [[(a 0, .inr (5, [.ref (a 1), .ref (a 3), .ref (a 5), .ref (a 7), .ref (a 9), .ref (a 11), .int (Z 0), .int (Z 1)]))], hm_row g (a 1) (a 2) 100 (R 0), hm_row g (a 3) (a 4) 101 (R 1)] [hm_row g (a 7) (a 8) 30 (R 3), hm_row g (a 9) (a 10) 30 (R 4), hm_row g (a 11) (a 12) 30 (R 5)]) (hm_mid [[(a 0, .inr (5, [.ref (a 1), .ref (a 3), .ref (a 5), .ref (a 7), .ref (a 9), .ref (a 11), .int (Z 0), .int (Z 1)]))], hm_row g (a 1) (a 2) 100 (R 0), hm_row g (a 3) (a 4) 101 (R 1)] [hm_row g (a 7) (a 8) 30 (R 3), hm_row g (a 9) (a 10) 30 (R 4), hm_row g (a 11) (a 12) 30 (R 5)] (b := hm_row g (a 5) (a 6) 30 (R 2))) rfl rfl rfl ⟨rfl, rfl, Nat.le_of_ble_eq_true rfl, Nat.le_of_ble_eq_true rfl⟩ rfl hl.1 rfl (Nat.le_of_ble_eq_true rfl) dX5_blankOf_46 ⟨Nat.zero_le _, Nat.zero_le _⟩ (fun H locs X => ?_)
    have X := X.to (ws' := ([[(a 0, .inr (5, [.ref (a 1), .ref (a 3), .ref (a 5), .ref (a 7), .ref (a 9), .ref (a 11), .int (Z 0), .int (Z 1)]))], hm_row g (a 1) (a 2) 100 (R 0), hm_row g (a 3) (a 4) 101 (R 1), hm_row g (a 5) (a 6) 30 (R 2), hm_row g (a 7) (a 8) 30 (R 3), hm_row g (a 9) (a 10) 30 (R 4), hm_row g (a 11) (a 12) 30 (R 5)] : List va_W).flatten) rfl
    obtain rfl := Option.some.inj hF
    exact hm_ri S hr hlk X rfl rfl dX5_blankOf_49
  · have hF := hm_nf hF c13_0
    by_cases c13_1 : x2 = 1
    · have hF := hm_if hF c13_1
      refine hm_tabIn (off := 37) (tgt := 50) (k := 1) hx hb dX5_blankOf_13 c13_1 (by decide) (by decide) (by decide) rfl (by decide) ?_
      refine lv_aload_n hx hb dX5_blankOf_50 rfl (lv_at hl 1 rfl) ?_
      refine hm_get S X hf_X5_26 0 rfl rfl dX5_blankOf_51 ?_
      refine lv_iload hx hb dX5_blankOf_54 (lv_at hl 0 rfl) ?_
      obtain ⟨t3, ht3, hF⟩ := hm_bd hF
      refine hm_vi (As := [.int (t1 + x1)]) S X mw_X2_get hw_3_105 (c_X2_get l g (a 7) (a 8) 30 (R 3) (t1 + x1) t3 ht3) (hm_mid [[(a 0, .inr (5, [.ref (a 1), .ref (a 3), .ref (a 5), .ref (a 7), .ref (a 9), .ref (a 11), .int (Z 0), .int (Z 1)]))], hm_row g (a 1) (a 2) 100 (R 0), hm_row g (a 3) (a 4) 101 (R 1), hm_row g (a 5) (a 6) 30 (R 2)] [hm_row g (a 9) (a 10) 30 (R 4), hm_row g (a 11) (a 12) 30 (R 5)]) (hm_mid [[(a 0, .inr (5, [.ref (a 1), .ref (a 3), .ref (a 5), .ref (a 7), .ref (a 9), .ref (a 11), .int (Z 0), .int (Z 1)]))], hm_row g (a 1) (a 2) 100 (R 0), hm_row g (a 3) (a 4) 101 (R 1), hm_row g (a 5) (a 6) 30 (R 2)] [hm_row g (a 9) (a 10) 30 (R 4), hm_row g (a 11) (a 12) 30 (R 5)] (b := hm_row g (a 7) (a 8) 30 (R 3))) rfl rfl rfl ⟨rfl, rfl, Nat.le_of_ble_eq_true rfl, Nat.le_of_ble_eq_true rfl⟩ rfl hl.1 rfl (Nat.le_of_ble_eq_true rfl) dX5_blankOf_56 ⟨Nat.zero_le _, Nat.zero_le _⟩ (fun H locs X => ?_)
      have X := X.to (ws' := ([[(a 0, .inr (5, [.ref (a 1), .ref (a 3), .ref (a 5), .ref (a 7), .ref (a 9), .ref (a 11), .int (Z 0), .int (Z 1)]))], hm_row g (a 1) (a 2) 100 (R 0), hm_row g (a 3) (a 4) 101 (R 1), hm_row g (a 5) (a 6) 30 (R 2), hm_row g (a 7) (a 8) 30 (R 3), hm_row g (a 9) (a 10) 30 (R 4), hm_row g (a 11) (a 12) 30 (R 5)] : List va_W).flatten) rfl
      obtain rfl := Option.some.inj hF
      exact hm_ri S hr hlk X rfl rfl dX5_blankOf_59
    · have hF := hm_nf hF c13_1
      by_cases c13_2 : x2 = 2
      · have hF := hm_if hF c13_2
        refine hm_tabIn (off := 47) (tgt := 60) (k := 2) hx hb dX5_blankOf_13 c13_2 (by decide) (by decide) (by decide) rfl (by decide) ?_
        refine lv_aload_n hx hb dX5_blankOf_60 rfl (lv_at hl 1 rfl) ?_
        refine hm_get S X hf_X5_29 0 rfl rfl dX5_blankOf_61 ?_
        refine lv_iload hx hb dX5_blankOf_64 (lv_at hl 0 rfl) ?_
        obtain ⟨t4, ht4, hF⟩ := hm_bd hF
        refine hm_vi (As := [.int (t1 + x1)]) S X mw_X2_get hw_3_105 (c_X2_get l g (a 9) (a 10) 30 (R 4) (t1 + x1) t4 ht4) (hm_mid [[(a 0, .inr (5, [.ref (a 1), .ref (a 3), .ref (a 5), .ref (a 7), .ref (a 9), .ref (a 11), .int (Z 0), .int (Z 1)]))], hm_row g (a 1) (a 2) 100 (R 0), hm_row g (a 3) (a 4) 101 (R 1), hm_row g (a 5) (a 6) 30 (R 2), hm_row g (a 7) (a 8) 30 (R 3)] [hm_row g (a 11) (a 12) 30 (R 5)]) (hm_mid [[(a 0, .inr (5, [.ref (a 1), .ref (a 3), .ref (a 5), .ref (a 7), .ref (a 9), .ref (a 11), .int (Z 0), .int (Z 1)]))], hm_row g (a 1) (a 2) 100 (R 0), hm_row g (a 3) (a 4) 101 (R 1), hm_row g (a 5) (a 6) 30 (R 2), hm_row g (a 7) (a 8) 30 (R 3)] [hm_row g (a 11) (a 12) 30 (R 5)] (b := hm_row g (a 9) (a 10) 30 (R 4))) rfl rfl rfl ⟨rfl, rfl, Nat.le_of_ble_eq_true rfl, Nat.le_of_ble_eq_true rfl⟩ rfl hl.1 rfl (Nat.le_of_ble_eq_true rfl) dX5_blankOf_66 ⟨Nat.zero_le _, Nat.zero_le _⟩ (fun H locs X => ?_)
        have X := X.to (ws' := ([[(a 0, .inr (5, [.ref (a 1), .ref (a 3), .ref (a 5), .ref (a 7), .ref (a 9), .ref (a 11), .int (Z 0), .int (Z 1)]))], hm_row g (a 1) (a 2) 100 (R 0), hm_row g (a 3) (a 4) 101 (R 1), hm_row g (a 5) (a 6) 30 (R 2), hm_row g (a 7) (a 8) 30 (R 3), hm_row g (a 9) (a 10) 30 (R 4), hm_row g (a 11) (a 12) 30 (R 5)] : List va_W).flatten) rfl
        obtain rfl := Option.some.inj hF
        exact hm_ri S hr hlk X rfl rfl dX5_blankOf_69
      · have hF := hm_nf hF c13_2
        refine lv_tableOut (tgt := 70) hx hb dX5_blankOf_13 (hm_out 0 2 [0, 1, 2] (by decide) (List.forall_mem_cons.mpr ⟨c13_0, List.forall_mem_cons.mpr ⟨c13_1, List.forall_mem_cons.mpr ⟨c13_2, fun _ h => absurd h List.not_mem_nil⟩⟩⟩)) (by decide) ?_
        refine lv_aload_n hx hb dX5_blankOf_70 rfl (lv_at hl 1 rfl) ?_
        refine hm_get S X hf_X5_32 0 rfl rfl dX5_blankOf_71 ?_
        refine lv_iload hx hb dX5_blankOf_74 (lv_at hl 0 rfl) ?_
        obtain ⟨t5, ht5, hF⟩ := hm_bd hF
        refine hm_vi (As := [.int (t1 + x1)]) S X mw_X2_get hw_3_105 (c_X2_get l g (a 11) (a 12) 30 (R 5) (t1 + x1) t5 ht5) (hm_mid [[(a 0, .inr (5, [.ref (a 1), .ref (a 3), .ref (a 5), .ref (a 7), .ref (a 9), .ref (a 11), .int (Z 0), .int (Z 1)]))], hm_row g (a 1) (a 2) 100 (R 0), hm_row g (a 3) (a 4) 101 (R 1), hm_row g (a 5) (a 6) 30 (R 2), hm_row g (a 7) (a 8) 30 (R 3), hm_row g (a 9) (a 10) 30 (R 4)] []) (hm_mid [[(a 0, .inr (5, [.ref (a 1), .ref (a 3), .ref (a 5), .ref (a 7), .ref (a 9), .ref (a 11), .int (Z 0), .int (Z 1)]))], hm_row g (a 1) (a 2) 100 (R 0), hm_row g (a 3) (a 4) 101 (R 1), hm_row g (a 5) (a 6) 30 (R 2), hm_row g (a 7) (a 8) 30 (R 3), hm_row g (a 9) (a 10) 30 (R 4)] [] (b := hm_row g (a 11) (a 12) 30 (R 5))) rfl rfl rfl ⟨rfl, rfl, Nat.le_of_ble_eq_true rfl, Nat.le_of_ble_eq_true rfl⟩ rfl hl.1 rfl (Nat.le_of_ble_eq_true rfl) dX5_blankOf_76 ⟨Nat.zero_le _, Nat.zero_le _⟩ (fun H locs X => ?_)
        have X := X.to (ws' := ([[(a 0, .inr (5, [.ref (a 1), .ref (a 3), .ref (a 5), .ref (a 7), .ref (a 9), .ref (a 11), .int (Z 0), .int (Z 1)]))], hm_row g (a 1) (a 2) 100 (R 0), hm_row g (a 3) (a 4) 101 (R 1), hm_row g (a 5) (a 6) 30 (R 2), hm_row g (a 7) (a 8) 30 (R 3), hm_row g (a 9) (a 10) 30 (R 4), hm_row g (a 11) (a 12) 30 (R 5)] : List va_W).flatten) rfl
        obtain rfl := Option.some.inj hF
        exact hm_ri S hr hlk X rfl rfl dX5_blankOf_79
