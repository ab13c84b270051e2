def f_X1_places (R_0 : hm_SR)  : Option (Int32) :=
  (f_X2_size R_0).bind fun t1 =>
  some (t1)
abbrev rm_X1_places : Room := { frames := 1, cells := 0, slots := 0, locals := 20 }
set_option maxHeartbeats 4000000 in
set_option maxRecDepth 100000 in
theorem c_X1_places (l : Launch) (g : hm_G) (a : Nat → Nat) (R : Nat → hm_SR) (Z : Nat → Int32) (q : Int32) (hF : f_X1_places (R 0) = some q) : hm_Mi l yX1_places (Cond.code yX1_places cX1_places 1 (some .int) :: hm_W) rm_X1_places g [.ref (a 0)] ([hm_wLe g a R Z] : List va_W).flatten ([hm_wLe g a R Z] : List va_W).flatten q := by
  refine hm_ofi [(0, .ref (a 0))] (by decide) (own := RX1) rfl (Nat.le_of_ble_eq_true rfl) rfl rfl ?_
  intro p e s m args below meth c AA S hr hlk X ls hl
  have hx := S.1
  have hb := S.2.1
  have hown := S.2.2.2.1
  have hts := S.2.2.2.2
  have X := X.to (ws' := ([[(a 0, .inr (1, [.ref (a 1), .ref (a 3), .ref (a 5), .ref (a 7), .ref (a 9), .int (Z 0), .int (Z 1), .int (Z 2), .int (Z 3)]))], hm_row g (a 1) (a 2) 100 (R 0), hm_row g (a 3) (a 4) 100 (R 1), hm_row g (a 5) (a 6) 100 (R 2), hm_row g (a 7) (a 8) 100 (R 3), hm_row g (a 9) (a 10) 101 (R 4)] : List va_W).flatten) rfl
  unfold f_X1_places at hF
  refine lv_aload_n hx hb dX1_places_0 rfl (lv_at hl 0 rfl) ?_
  refine hm_get S X hf_X1_14 0 rfl rfl dX1_places_1 ?_
  obtain ⟨t1, ht1, hF⟩ := hm_bd hF
  refine hm_vi (As := []) S X mw_X2_size hw_3_20 (c_X2_size l g (a 1) (a 2) 100 (R 0) t1 ht1) (hm_mid [[(a 0, .inr (1, [.ref (a 1), .ref (a 3), .ref (a 5), .ref (a 7), .ref (a 9), .int (Z 0), .int (Z 1), .int (Z 2), .int (Z 3)]))]] [hm_row g (a 3) (a 4) 100 (R 1), hm_row g (a 5) (a 6) 100 (R 2), hm_row g (a 7) (a 8) 100 (R 3), hm_row g (a 9) (a 10) 101 (R 4)]) (hm_mid [[(a 0, .inr (1, [.ref (a 1), .ref (a 3), .ref (a 5), .ref (a 7), .ref (a 9), .int (Z 0), .int (Z 1), .int (Z 2), .int (Z 3)]))]] [hm_row g (a 3) (a 4) 100 (R 1), hm_row g (a 5) (a 6) 100 (R 2), hm_row g (a 7) (a 8) 100 (R 3), hm_row g (a 9) (a 10) 101 (R 4)] (b := hm_row g (a 1) (a 2) 100 (R 0))) rfl rfl rfl ⟨rfl, rfl, Nat.le_of_ble_eq_true rfl, Nat.le_of_ble_eq_true rfl⟩ rfl hl.1 rfl (Nat.le_of_ble_eq_true rfl) dX1_places_4 ⟨Nat.zero_le _, Nat.zero_le _⟩ (fun H locs X => ?_)
  have X := X.to (ws' := ([[(a 0, .inr (1, [.ref (a 1), .ref (a 3), .ref (a 5), .ref (a 7), .ref (a 9), .int (Z 0), .int (Z 1), .int (Z 2), .int (Z 3)]))], hm_row g (a 1) (a 2) 100 (R 0), hm_row g (a 3) (a 4) 100 (R 1), hm_row g (a 5) (a 6) 100 (R 2), hm_row g (a 7) (a 8) 100 (R 3), hm_row g (a 9) (a 10) 101 (R 4)] : List va_W).flatten) rfl
  obtain rfl := Option.some.inj hF
  exact hm_ri S hr hlk X rfl rfl dX1_places_7
def f_X1_beginBehind (R_4 : hm_SR) (x0 : Int32)  : Option (Int32) :=
  (f_X2_get 101 R_4 (x0 + 1)).bind fun t1 =>
  some (t1)
abbrev rm_X1_beginBehind : Room := { frames := 1, cells := 0, slots := 0, locals := 21 }
set_option maxHeartbeats 4000000 in
set_option maxRecDepth 100000 in
theorem c_X1_beginBehind (l : Launch) (g : hm_G) (a : Nat → Nat) (R : Nat → hm_SR) (Z : Nat → Int32) (x0 : Int32) (q : Int32) (hF : f_X1_beginBehind (R 4) x0 = some q) : hm_Mi l yX1_beginBehind (Cond.code yX1_beginBehind cX1_beginBehind 2 (some .int) :: hm_W) rm_X1_beginBehind g [.ref (a 0), .int x0] ([hm_wLe g a R Z] : List va_W).flatten ([hm_wLe g a R Z] : List va_W).flatten q := by
  refine hm_ofi [(0, .ref (a 0)), (1, .int x0)] (by decide) (own := RX1) rfl (Nat.le_of_ble_eq_true rfl) rfl rfl ?_
  intro p e s m args below meth c AA S hr hlk X ls hl
  have hx := S.1
  have hb := S.2.1
  have hown := S.2.2.2.1
  have hts := S.2.2.2.2
  have X := X.to (ws' := ([[(a 0, .inr (1, [.ref (a 1), .ref (a 3), .ref (a 5), .ref (a 7), .ref (a 9), .int (Z 0), .int (Z 1), .int (Z 2), .int (Z 3)]))], hm_row g (a 1) (a 2) 100 (R 0), hm_row g (a 3) (a 4) 100 (R 1), hm_row g (a 5) (a 6) 100 (R 2), hm_row g (a 7) (a 8) 100 (R 3), hm_row g (a 9) (a 10) 101 (R 4)] : List va_W).flatten) rfl
  unfold f_X1_beginBehind at hF
  refine lv_aload_n hx hb dX1_beginBehind_0 rfl (lv_at hl 0 rfl) ?_
  refine hm_get S X hf_X1_29 0 rfl rfl dX1_beginBehind_1 ?_
  refine lv_iload_n hx hb dX1_beginBehind_4 rfl (lv_at hl 1 rfl) ?_
  refine lv_iconst (v := 1) hx hb dX1_beginBehind_5 (by decide) ?_
  refine lv_iadd hx hb dX1_beginBehind_6 ?_
  obtain ⟨t1, ht1, hF⟩ := hm_bd hF
  refine hm_vi (As := [.int (x0 + 1)]) S X mw_X2_get hw_3_33 (c_X2_get l g (a 9) (a 10) 101 (R 4) (x0 + 1) t1 ht1) (hm_mid [[(a 0, .inr (1, [.ref (a 1), .ref (a 3), .ref (a 5), .ref (a 7), .ref (a 9), .int (Z 0), .int (Z 1), .int (Z 2), .int (Z 3)]))], hm_row g (a 1) (a 2) 100 (R 0), hm_row g (a 3) (a 4) 100 (R 1), hm_row g (a 5) (a 6) 100 (R 2), hm_row g (a 7) (a 8) 100 (R 3)] []) (hm_mid [[(a 0, .inr (1, [.ref (a 1), .ref (a 3), .ref (a 5), .ref (a 7), .ref (a 9), .int (Z 0), .int (Z 1), .int (Z 2), .int (Z 3)]))], hm_row g (a 1) (a 2) 100 (R 0), hm_row g (a 3) (a 4) 100 (R 1), hm_row g (a 5) (a 6) 100 (R 2), hm_row g (a 7) (a 8) 100 (R 3)] [] (b := hm_row g (a 9) (a 10) 101 (R 4))) rfl rfl rfl ⟨rfl, rfl, Nat.le_of_ble_eq_true rfl, Nat.le_of_ble_eq_true rfl⟩ rfl hl.1 rfl (Nat.le_of_ble_eq_true rfl) dX1_beginBehind_7 ⟨Nat.zero_le _, Nat.zero_le _⟩ (fun H locs X => ?_)
  have X := X.to (ws' := ([[(a 0, .inr (1, [.ref (a 1), .ref (a 3), .ref (a 5), .ref (a 7), .ref (a 9), .int (Z 0), .int (Z 1), .int (Z 2), .int (Z 3)]))], hm_row g (a 1) (a 2) 100 (R 0), hm_row g (a 3) (a 4) 100 (R 1), hm_row g (a 5) (a 6) 100 (R 2), hm_row g (a 7) (a 8) 100 (R 3), hm_row g (a 9) (a 10) 101 (R 4)] : List va_W).flatten) rfl
  obtain rfl := Option.some.inj hF
  exact hm_ri S hr hlk X rfl rfl dX1_beginBehind_10
def f_X1_leftBy (R_0 : hm_SR) (R_1 : hm_SR) (R_4 : hm_SR) (x0 : Int32) (x1 : Int32) (x2 : Int32)  : Option (Int32) :=
  (f_X2_get 100 R_1 x2).bind fun t1 =>
  (f_X2_get 100 R_0 x2).bind fun t2 =>
  (f_X2_get 101 R_4 (x1 + 1)).bind fun t3 =>
  some ((((x0 + t1) - t2) + t3))
abbrev rm_X1_leftBy : Room := { frames := 1, cells := 0, slots := 0, locals := 21 }
set_option maxHeartbeats 4000000 in
set_option maxRecDepth 100000 in
theorem c_X1_leftBy (l : Launch) (g : hm_G) (a : Nat → Nat) (R : Nat → hm_SR) (Z : Nat → Int32) (x0 : Int32) (x1 : Int32) (x2 : Int32) (q : Int32) (hF : f_X1_leftBy (R 0) (R 1) (R 4) x0 x1 x2 = some q) : hm_Mi l yX1_leftBy (Cond.code yX1_leftBy cX1_leftBy 4 (some .int) :: hm_W) rm_X1_leftBy g [.ref (a 0), .int x0, .int x1, .int x2] ([hm_wLe g a R Z] : List va_W).flatten ([hm_wLe g a R Z] : List va_W).flatten q := by
  refine hm_ofi [(0, .ref (a 0)), (1, .int x0), (2, .int x1), (3, .int x2)] (by decide) (own := RX1) rfl (Nat.le_of_ble_eq_true rfl) rfl rfl ?_
  intro p e s m args below meth c AA S hr hlk X ls hl
  have hx := S.1
  have hb := S.2.1
  have hown := S.2.2.2.1
  have hts := S.2.2.2.2
  have X := X.to (ws' := ([[(a 0, .inr (1, [.ref (a 1), .ref (a 3), .ref (a 5), .ref (a 7), .ref (a 9), .int (Z 0), .int (Z 1), .int (Z 2), .int (Z 3)]))], hm_row g (a 1) (a 2) 100 (R 0), hm_row g (a 3) (a 4) 100 (R 1), hm_row g (a 5) (a 6) 100 (R 2), hm_row g (a 7) (a 8) 100 (R 3), hm_row g (a 9) (a 10) 101 (R 4)] : List va_W).flatten) rfl
  unfold f_X1_leftBy at hF
  refine lv_iload_n hx hb dX1_leftBy_0 rfl (lv_at hl 1 rfl) ?_
  refine lv_aload_n hx hb dX1_leftBy_1 rfl (lv_at hl 0 rfl) ?_
  refine hm_get S X hf_X1_20 0 rfl rfl dX1_leftBy_2 ?_
  refine lv_iload_n hx hb dX1_leftBy_5 rfl (lv_at hl 3 rfl) ?_
  obtain ⟨t1, ht1, hF⟩ := hm_bd hF
  refine hm_vi (As := [.int x2]) S X mw_X2_get hw_3_33 (c_X2_get l g (a 3) (a 4) 100 (R 1) x2 t1 ht1) (hm_mid [[(a 0, .inr (1, [.ref (a 1), .ref (a 3), .ref (a 5), .ref (a 7), .ref (a 9), .int (Z 0), .int (Z 1), .int (Z 2), .int (Z 3)]))], hm_row g (a 1) (a 2) 100 (R 0)] [hm_row g (a 5) (a 6) 100 (R 2), hm_row g (a 7) (a 8) 100 (R 3), hm_row g (a 9) (a 10) 101 (R 4)]) (hm_mid [[(a 0, .inr (1, [.ref (a 1), .ref (a 3), .ref (a 5), .ref (a 7), .ref (a 9), .int (Z 0), .int (Z 1), .int (Z 2), .int (Z 3)]))], hm_row g (a 1) (a 2) 100 (R 0)] [hm_row g (a 5) (a 6) 100 (R 2), hm_row g (a 7) (a 8) 100 (R 3), hm_row g (a 9) (a 10) 101 (R 4)] (b := hm_row g (a 3) (a 4) 100 (R 1))) rfl rfl rfl ⟨rfl, rfl, Nat.le_of_ble_eq_true rfl, Nat.le_of_ble_eq_true rfl⟩ rfl hl.1 rfl (Nat.le_of_ble_eq_true rfl) dX1_leftBy_6 ⟨Nat.zero_le _, Nat.zero_le _⟩ (fun H locs X => ?_)
  have X := X.to (ws' := ([[(a 0, .inr (1, [.ref (a 1), .ref (a 3), .ref (a 5), .ref (a 7), .ref (a 9), .int (Z 0), .int (Z 1), .int (Z 2), .int (Z 3)]))], hm_row g (a 1) (a 2) 100 (R 0), hm_row g (a 3) (a 4) 100 (R 1), hm_row g (a 5) (a 6) 100 (R 2), hm_row g (a 7) (a 8) 100 (R 3), hm_row g (a 9) (a 10) 101 (R 4)] : List va_W).flatten) rfl
  refine lv_iadd hx hb dX1_leftBy_9 ?_
  refine lv_aload_n hx hb dX1_leftBy_10 rfl (lv_at hl 0 rfl) ?_
  refine hm_get S X hf_X1_14 0 rfl rfl dX1_leftBy_11 ?_
  refine lv_iload_n hx hb dX1_leftBy_14 rfl (lv_at hl 3 rfl) ?_
  obtain ⟨t2, ht2, hF⟩ := hm_bd hF
  refine hm_vi (As := [.int x2]) S X mw_X2_get hw_3_33 (c_X2_get l g (a 1) (a 2) 100 (R 0) x2 t2 ht2) (hm_mid [[(a 0, .inr (1, [.ref (a 1), .ref (a 3), .ref (a 5), .ref (a 7), .ref (a 9), .int (Z 0), .int (Z 1), .int (Z 2), .int (Z 3)]))]] [hm_row g (a 3) (a 4) 100 (R 1), hm_row g (a 5) (a 6) 100 (R 2), hm_row g (a 7) (a 8) 100 (R 3), hm_row g (a 9) (a 10) 101 (R 4)]) (hm_mid [[(a 0, .inr (1, [.ref (a 1), .ref (a 3), .ref (a 5), .ref (a 7), .ref (a 9), .int (Z 0), .int (Z 1), .int (Z 2), .int (Z 3)]))]] [hm_row g (a 3) (a 4) 100 (R 1), hm_row g (a 5) (a 6) 100 (R 2), hm_row g (a 7) (a 8) 100 (R 3), hm_row g (a 9) (a 10) 101 (R 4)] (b := hm_row g (a 1) (a 2) 100 (R 0))) rfl rfl rfl ⟨rfl, rfl, Nat.le_of_ble_eq_true rfl, Nat.le_of_ble_eq_true rfl⟩ rfl hl.1 rfl (Nat.le_of_ble_eq_true rfl) dX1_leftBy_15 ⟨Nat.zero_le _, Nat.zero_le _⟩ (fun H locs X => ?_)
  have X := X.to (ws' := ([[(a 0, .inr (1, [.ref (a 1), .ref (a 3), .ref (a 5), .ref (a 7), .ref (a 9), .int (Z 0), .int (Z 1), .int (Z 2), .int (Z 3)]))], hm_row g (a 1) (a 2) 100 (R 0), hm_row g (a 3) (a 4) 100 (R 1), hm_row g (a 5) (a 6) 100 (R 2), hm_row g (a 7) (a 8) 100 (R 3), hm_row g (a 9) (a 10) 101 (R 4)] : List va_W).flatten) rfl
  refine lv_isub hx hb dX1_leftBy_18 ?_
  refine lv_aload_n hx hb dX1_leftBy_19 rfl (lv_at hl 0 rfl) ?_
  refine hm_get S X hf_X1_29 0 rfl rfl dX1_leftBy_20 ?_
  refine lv_iload_n hx hb dX1_leftBy_23 rfl (lv_at hl 2 rfl) ?_
  refine lv_iconst (v := 1) hx hb dX1_leftBy_24 (by decide) ?_
  refine lv_iadd hx hb dX1_leftBy_25 ?_
  obtain ⟨t3, ht3, hF⟩ := hm_bd hF
  refine hm_vi (As := [.int (x1 + 1)]) S X mw_X2_get hw_3_33 (c_X2_get l g (a 9) (a 10) 101 (R 4) (x1 + 1) t3 ht3) (hm_mid [[(a 0, .inr (1, [.ref (a 1), .ref (a 3), .ref (a 5), .ref (a 7), .ref (a 9), .int (Z 0), .int (Z 1), .int (Z 2), .int (Z 3)]))], hm_row g (a 1) (a 2) 100 (R 0), hm_row g (a 3) (a 4) 100 (R 1), hm_row g (a 5) (a 6) 100 (R 2), hm_row g (a 7) (a 8) 100 (R 3)] []) (hm_mid [[(a 0, .inr (1, [.ref (a 1), .ref (a 3), .ref (a 5), .ref (a 7), .ref (a 9), .int (Z 0), .int (Z 1), .int (Z 2), .int (Z 3)]))], hm_row g (a 1) (a 2) 100 (R 0), hm_row g (a 3) (a 4) 100 (R 1), hm_row g (a 5) (a 6) 100 (R 2), hm_row g (a 7) (a 8) 100 (R 3)] [] (b := hm_row g (a 9) (a 10) 101 (R 4))) rfl rfl rfl ⟨rfl, rfl, Nat.le_of_ble_eq_true rfl, Nat.le_of_ble_eq_true rfl⟩ rfl hl.1 rfl (Nat.le_of_ble_eq_true rfl) dX1_leftBy_26 ⟨Nat.zero_le _, Nat.zero_le _⟩ (fun H locs X => ?_)
  have X := X.to (ws' := ([[(a 0, .inr (1, [.ref (a 1), .ref (a 3), .ref (a 5), .ref (a 7), .ref (a 9), .int (Z 0), .int (Z 1), .int (Z 2), .int (Z 3)]))], hm_row g (a 1) (a 2) 100 (R 0), hm_row g (a 3) (a 4) 100 (R 1), hm_row g (a 5) (a 6) 100 (R 2), hm_row g (a 7) (a 8) 100 (R 3), hm_row g (a 9) (a 10) 101 (R 4)] : List va_W).flatten) rfl
  refine lv_iadd hx hb dX1_leftBy_29 ?_
  obtain rfl := Option.some.inj hF
  exact hm_ri S hr hlk X rfl rfl dX1_leftBy_30
def f_X1_costBy (R_0 : hm_SR) (R_2 : hm_SR) (Z_2 : Int32) (Z_3 : Int32) (x0 : Int32) (x1 : Int32) (x2 : Int32)  : Option (Int32) :=
  (f_X2_size R_0).bind fun t1 =>
  if x2 = (t1 - 1) then (
  some (0))
  else (
  (f_X2_get 100 R_2 x2).bind fun t2 =>
  if t2 = 1 then (
  if x1 < 0 then (
  some (((x0 * x0) + (Z_2 + 0))))
  else (
  (f_X2_get 100 R_2 x1).bind fun t3 =>
  if t3 = 1 then (
  some (((x0 * x0) + (Z_2 + Z_3))))
  else (
  some (((x0 * x0) + (Z_2 + 0))))))
  else (
  some ((x0 * x0))))
abbrev rm_X1_costBy : Room := { frames := 1, cells := 0, slots := 0, locals := 21 }
set_option maxHeartbeats 4000000 in
set_option maxRecDepth 100000 in
theorem c_X1_costBy (l : Launch) (g : hm_G) (a : Nat → Nat) (R : Nat → hm_SR) (Z : Nat → Int32) (x0 : Int32) (x1 : Int32) (x2 : Int32) (q : Int32) (hF : f_X1_costBy (R 0) (R 2) (Z 2) (Z 3) x0 x1 x2 = some q) : hm_Mi l yX1_costBy (Cond.code yX1_costBy cX1_costBy 5 (some .int) :: hm_W) rm_X1_costBy g [.ref (a 0), .int x0, .int x1, .int x2] ([hm_wLe g a R Z] : List va_W).flatten ([hm_wLe g a R Z] : List va_W).flatten q := by
  refine hm_ofi [(0, .ref (a 0)), (1, .int x0), (2, .int x1), (3, .int x2)] (by decide) (own := RX1) rfl (Nat.le_of_ble_eq_true rfl) rfl rfl ?_
  intro p e s m args below meth c AA S hr hlk X ls hl
  have hx := S.1
  have hb := S.2.1
  have hown := S.2.2.2.1
  have hts := S.2.2.2.2
  have X := X.to (ws' := ([[(a 0, .inr (1, [.ref (a 1), .ref (a 3), .ref (a 5), .ref (a 7), .ref (a 9), .int (Z 0), .int (Z 1), .int (Z 2), .int (Z 3)]))], hm_row g (a 1) (a 2) 100 (R 0), hm_row g (a 3) (a 4) 100 (R 1), hm_row g (a 5) (a 6) 100 (R 2), hm_row g (a 7) (a 8) 100 (R 3), hm_row g (a 9) (a 10) 101 (R 4)] : List va_W).flatten) rfl
  unfold f_X1_costBy at hF
  refine lv_iload_n hx hb dX1_costBy_0 rfl (lv_at hl 3 rfl) ?_
  refine lv_aload_n hx hb dX1_costBy_1 rfl (lv_at hl 0 rfl) ?_
  refine hm_get S X hf_X1_14 0 rfl rfl dX1_costBy_2 ?_
  obtain ⟨t1, ht1, hF⟩ := hm_bd hF
  refine hm_vi (As := []) S X mw_X2_size hw_3_20 (c_X2_size l g (a 1) (a 2) 100 (R 0) t1 ht1) (hm_mid [[(a 0, .inr (1, [.ref (a 1), .ref (a 3), .ref (a 5), .ref (a 7), .ref (a 9), .int (Z 0), .int (Z 1), .int (Z 2), .int (Z 3)]))]] [hm_row g (a 3) (a 4) 100 (R 1), hm_row g (a 5) (a 6) 100 (R 2), hm_row g (a 7) (a 8) 100 (R 3), hm_row g (a 9) (a 10) 101 (R 4)]) (hm_mid [[(a 0, .inr (1, [.ref (a 1), .ref (a 3), .ref (a 5), .ref (a 7), .ref (a 9), .int (Z 0), .int (Z 1), .int (Z 2), .int (Z 3)]))]] [hm_row g (a 3) (a 4) 100 (R 1), hm_row g (a 5) (a 6) 100 (R 2), hm_row g (a 7) (a 8) 100 (R 3), hm_row g (a 9) (a 10) 101 (R 4)] (b := hm_row g (a 1) (a 2) 100 (R 0))) rfl rfl rfl ⟨rfl, rfl, Nat.le_of_ble_eq_true rfl, Nat.le_of_ble_eq_true rfl⟩ rfl hl.1 rfl (Nat.le_of_ble_eq_true rfl) dX1_costBy_5 ⟨Nat.zero_le _, Nat.zero_le _⟩ (fun H locs X => ?_)
  have X := X.to (ws' := ([[(a 0, .inr (1, [.ref (a 1), .ref (a 3), .ref (a 5), .ref (a 7), .ref (a 9), .int (Z 0), .int (Z 1), .int (Z 2), .int (Z 3)]))], hm_row g (a 1) (a 2) 100 (R 0), hm_row g (a 3) (a 4) 100 (R 1), hm_row g (a 5) (a 6) 100 (R 2), hm_row g (a 7) (a 8) 100 (R 3), hm_row g (a 9) (a 10) 101 (R 4)] : List va_W).flatten) rfl
  refine lv_iconst (v := 1) hx hb dX1_costBy_8 (by decide) ?_
  refine lv_isub hx hb dX1_costBy_9 ?_
  refine lv_icmp_ne (tgt := 15) hx hb dX1_costBy_10 (by decide) (fun c10 => ?_) (fun c10 => ?_)
  · have hF := hm_nf hF c10
    refine lv_iload_n hx hb dX1_costBy_15 rfl (lv_at hl 1 rfl) ?_
    refine lv_iload_n hx hb dX1_costBy_16 rfl (lv_at hl 1 rfl) ?_
    refine lv_imul hx hb dX1_costBy_17 ?_
    refine lv_istore (lv' := [(4, .int (x0 * x0)), (0, .ref (a 0)), (1, .int x0), (2, .int x1), (3, .int x2)]) hx hb dX1_costBy_18 hl (by decide) rfl (fun ls hl => ?_)
    refine lv_aload_n hx hb dX1_costBy_20 rfl (lv_at hl 1 rfl) ?_
    refine hm_get S X hf_X1_23 0 rfl rfl dX1_costBy_21 ?_
    refine lv_iload_n hx hb dX1_costBy_24 rfl (lv_at hl 4 rfl) ?_
    obtain ⟨t2, ht2, hF⟩ := hm_bd hF
    refine hm_vi (As := [.int x2]) S X mw_X2_get hw_3_33 (c_X2_get l g (a 5) (a 6) 100 (R 2) x2 t2 ht2) (hm_mid [[(a 0, .inr (1, [.ref (a 1), .ref (a 3), .ref (a 5), .ref (a 7), .ref (a 9), .int (Z 0), .int (Z 1), .int (Z 2), .int (Z 3)]))], hm_row g (a 1) (a 2) 100 (R 0), hm_row g (a 3) (a 4) 100 (R 1)] [hm_row g (a 7) (a 8) 100 (R 3), hm_row g (a 9) (a 10) 101 (R 4)]) (hm_mid [[(a 0, .inr (1, [.ref (a 1), .ref (a 3), .ref (a 5), .ref (a 7), .ref (a 9), .int (Z 0), .int (Z 1), .int (Z 2), .int (Z 3)]))], hm_row g (a 1) (a 2) 100 (R 0), hm_row g (a 3) (a 4) 100 (R 1)] [hm_row g (a 7) (a 8) 100 (R 3), hm_row g (a 9) (a 10) 101 (R 4)] (b := hm_row g (a 5) (a 6) 100 (R 2))) rfl rfl rfl ⟨rfl, rfl, Nat.le_of_ble_eq_true rfl, Nat.le_of_ble_eq_true rfl⟩ rfl hl.1 rfl (Nat.le_of_ble_eq_true rfl) dX1_costBy_25 ⟨Nat.zero_le _, Nat.zero_le _⟩ (fun H locs X => ?_)
    have X := X.to (ws' := ([[(a 0, .inr (1, [.ref (a 1), .ref (a 3), .ref (a 5), .ref (a 7), .ref (a 9), .int (Z 0), .int (Z 1), .int (Z 2), .int (Z 3)]))], hm_row g (a 1) (a 2) 100 (R 0), hm_row g (a 3) (a 4) 100 (R 1), hm_row g (a 5) (a 6) 100 (R 2), hm_row g (a 7) (a 8) 100 (R 3), hm_row g (a 9) (a 10) 101 (R 4)] : List va_W).flatten) rfl
    refine lv_iconst (v := 1) hx hb dX1_costBy_28 (by decide) ?_
    refine lv_icmp_ne (tgt := 66) hx hb dX1_costBy_29 (by decide) (fun c29 => ?_) (fun c29 => ?_)
    · have hF := hm_nf hF c29
      refine lv_iload hx hb dX1_costBy_66 (lv_at hl 0 rfl) ?_
      obtain rfl := Option.some.inj hF
      exact hm_ri S hr hlk X rfl rfl dX1_costBy_68
    · have hF := hm_if hF c29
      refine lv_iload hx hb dX1_costBy_32 (lv_at hl 0 rfl) ?_
      refine lv_aload_n hx hb dX1_costBy_34 rfl (lv_at hl 1 rfl) ?_
      refine hm_get S X hf_X1_45 0 rfl rfl dX1_costBy_35 ?_
      refine lv_iload_n hx hb dX1_costBy_38 rfl (lv_at hl 3 rfl) ?_
      refine lv_if_lt (tgt := 61) hx hb dX1_costBy_39 (by decide) (fun c39 => ?_) (fun c39 => ?_)
      · have hF := hm_if hF c39
        refine lv_iconst (v := 0) hx hb dX1_costBy_61 (by decide) ?_
        refine lv_iadd hx hb dX1_costBy_62 ?_
        refine lv_iadd hx hb dX1_costBy_63 ?_
        refine lv_istore (lv' := [(4, .int ((x0 * x0) + ((Z 2) + 0))), (0, .ref (a 0)), (1, .int x0), (2, .int x1), (3, .int x2)]) hx hb dX1_costBy_64 hl (by decide) rfl (fun ls hl => ?_)
        refine lv_iload hx hb dX1_costBy_66 (lv_at hl 0 rfl) ?_
        obtain rfl := Option.some.inj hF
        exact hm_ri S hr hlk X rfl rfl dX1_costBy_68
      · have hF := hm_nf hF c39
        refine lv_aload_n hx hb dX1_costBy_42 rfl (lv_at hl 1 rfl) ?_
        refine hm_get S X hf_X1_23 0 rfl rfl dX1_costBy_43 ?_
        refine lv_iload_n hx hb dX1_costBy_46 rfl (lv_at hl 3 rfl) ?_
        obtain ⟨t3, ht3, hF⟩ := hm_bd hF
        refine hm_vi (As := [.int x1]) S X mw_X2_get hw_3_33 (c_X2_get l g (a 5) (a 6) 100 (R 2) x1 t3 ht3) (hm_mid [[(a 0, .inr (1, [.ref (a 1), .ref (a 3), .ref (a 5), .ref (a 7), .ref (a 9), .int (Z 0), .int (Z 1), .int (Z 2), .int (Z 3)]))], hm_row g (a 1) (a 2) 100 (R 0), hm_row g (a 3) (a 4) 100 (R 1)] [hm_row g (a 7) (a 8) 100 (R 3), hm_row g (a 9) (a 10) 101 (R 4)]) (hm_mid [[(a 0, .inr (1, [.ref (a 1), .ref (a 3), .ref (a 5), .ref (a 7), .ref (a 9), .int (Z 0), .int (Z 1), .int (Z 2), .int (Z 3)]))], hm_row g (a 1) (a 2) 100 (R 0), hm_row g (a 3) (a 4) 100 (R 1)] [hm_row g (a 7) (a 8) 100 (R 3), hm_row g (a 9) (a 10) 101 (R 4)] (b := hm_row g (a 5) (a 6) 100 (R 2))) rfl rfl rfl ⟨rfl, rfl, Nat.le_of_ble_eq_true rfl, Nat.le_of_ble_eq_true rfl⟩ rfl hl.1 rfl (Nat.le_of_ble_eq_true rfl) dX1_costBy_47 ⟨Nat.zero_le _, Nat.zero_le _⟩ (fun H locs X => ?_)
        have X := X.to (ws' := ([[(a 0, .inr (1, [.ref (a 1), .ref (a 3), .ref (a 5), .ref (a 7), .ref (a 9), .int (Z 0), .int (Z 1), .int (Z 2), .int (Z 3)]))], hm_row g (a 1) (a 2) 100 (R 0), hm_row g (a 3) (a 4) 100 (R 1), hm_row g (a 5) (a 6) 100 (R 2), hm_row g (a 7) (a 8) 100 (R 3), hm_row g (a 9) (a 10) 101 (R 4)] : List va_W).flatten) rfl
        refine lv_iconst (v := 1) hx hb dX1_costBy_50 (by decide) ?_
        refine lv_icmp_ne (tgt := 61) hx hb dX1_costBy_51 (by decide) (fun c51 => ?_) (fun c51 => ?_)
        · have hF := hm_nf hF c51
          refine lv_iconst (v := 0) hx hb dX1_costBy_61 (by decide) ?_
          refine lv_iadd hx hb dX1_costBy_62 ?_
          refine lv_iadd hx hb dX1_costBy_63 ?_
          refine lv_istore (lv' := [(4, .int ((x0 * x0) + ((Z 2) + 0))), (0, .ref (a 0)), (1, .int x0), (2, .int x1), (3, .int x2)]) hx hb dX1_costBy_64 hl (by decide) rfl (fun ls hl => ?_)
          refine lv_iload hx hb dX1_costBy_66 (lv_at hl 0 rfl) ?_
          obtain rfl := Option.some.inj hF
          exact hm_ri S hr hlk X rfl rfl dX1_costBy_68
        · have hF := hm_if hF c51
          refine lv_aload_n hx hb dX1_costBy_54 rfl (lv_at hl 1 rfl) ?_
          refine hm_get S X hf_X1_48 0 rfl rfl dX1_costBy_55 ?_
          refine lv_goto (tgt := 62) hx hb dX1_costBy_58 (by decide) ?_
          refine lv_iadd hx hb dX1_costBy_62 ?_
          refine lv_iadd hx hb dX1_costBy_63 ?_
          refine lv_istore (lv' := [(4, .int ((x0 * x0) + ((Z 2) + (Z 3)))), (0, .ref (a 0)), (1, .int x0), (2, .int x1), (3, .int x2)]) hx hb dX1_costBy_64 hl (by decide) rfl (fun ls hl => ?_)
          refine lv_iload hx hb dX1_costBy_66 (lv_at hl 0 rfl) ?_
          obtain rfl := Option.some.inj hF
          exact hm_ri S hr hlk X rfl rfl dX1_costBy_68
  · have hF := hm_if hF c10
    refine lv_iconst (v := 0) hx hb dX1_costBy_13 (by decide) ?_
    obtain rfl := Option.some.inj hF
    exact hm_ri S hr hlk X rfl rfl dX1_costBy_14
def f_X1_addPlace (R_0 : hm_SR) (R_1 : hm_SR) (R_2 : hm_SR) (R_3 : hm_SR) (R_4 : hm_SR) (x0 : Int32) (x1 : Int32) (x2 : Int32) (x3 : Int32) (x4 : Int32)  : Option (hm_SR × hm_SR × hm_SR × hm_SR × hm_SR) :=
  (f_X2_add 100 R_3 x0).bind fun t1 =>
  (f_X2_add 100 R_2 x1).bind fun t2 =>
  (f_X2_add 100 R_0 x2).bind fun t3 =>
  (f_X2_add 100 R_1 x3).bind fun t4 =>
  (f_X2_add 101 R_4 x4).bind fun t5 =>
  some (t3.2, t4.2, t2.2, t1.2, t5.2)
abbrev rm_X1_addPlace : Room := { frames := 1, cells := 0, slots := 0, locals := 21 }
set_option maxHeartbeats 4000000 in
set_option maxRecDepth 100000 in
theorem c_X1_addPlace (l : Launch) (g : hm_G) (a : Nat → Nat) (R : Nat → hm_SR) (Z : Nat → Int32) (x0 : Int32) (x1 : Int32) (x2 : Int32) (x3 : Int32) (x4 : Int32) (q : hm_SR × hm_SR × hm_SR × hm_SR × hm_SR) (hF : f_X1_addPlace (R 0) (R 1) (R 2) (R 3) (R 4) x0 x1 x2 x3 x4 = some q) : hm_Mv l yX1_addPlace (Cond.code yX1_addPlace cX1_addPlace 6 none :: hm_W) rm_X1_addPlace g [.ref (a 0), .int x0, .int x1, .int x2, .int x3, .int x4] ([hm_wLe g a R Z] : List va_W).flatten ([hm_wLe g a (hm_up (hm_up (hm_up (hm_up (hm_up R 0 q.1) 1 q.2.1) 2 q.2.2.1) 3 q.2.2.2.1) 4 q.2.2.2.2) Z] : List va_W).flatten := by
  refine hm_ofv [(0, .ref (a 0)), (1, .int x0), (2, .int x1), (3, .int x2), (4, .int x3), (5, .int x4)] (by decide) (own := RX1) rfl (Nat.le_of_ble_eq_true rfl) rfl rfl ?_
  intro p e s m args below meth c AA S hr hlk X ls hl
  have hx := S.1
  have hb := S.2.1
  have hown := S.2.2.2.1
  have hts := S.2.2.2.2
  have X := X.to (ws' := ([[(a 0, .inr (1, [.ref (a 1), .ref (a 3), .ref (a 5), .ref (a 7), .ref (a 9), .int (Z 0), .int (Z 1), .int (Z 2), .int (Z 3)]))], hm_row g (a 1) (a 2) 100 (R 0), hm_row g (a 3) (a 4) 100 (R 1), hm_row g (a 5) (a 6) 100 (R 2), hm_row g (a 7) (a 8) 100 (R 3), hm_row g (a 9) (a 10) 101 (R 4)] : List va_W).flatten) rfl
  unfold f_X1_addPlace at hF
  refine lv_aload_n hx hb dX1_addPlace_0 rfl (lv_at hl 0 rfl) ?_
  refine hm_get S X hf_X1_26 0 rfl rfl dX1_addPlace_1 ?_
  refine lv_iload_n hx hb dX1_addPlace_4 rfl (lv_at hl 1 rfl) ?_
  obtain ⟨t1, ht1, hF⟩ := hm_bd hF
  refine hm_vi (As := [.int x0]) S X mw_X2_add hw_2_230 (c_X2_add l g (a 7) (a 8) 100 (R 3) x0 t1 ht1) (hm_mid [[(a 0, .inr (1, [.ref (a 1), .ref (a 3), .ref (a 5), .ref (a 7), .ref (a 9), .int (Z 0), .int (Z 1), .int (Z 2), .int (Z 3)]))], hm_row g (a 1) (a 2) 100 (R 0), hm_row g (a 3) (a 4) 100 (R 1), hm_row g (a 5) (a 6) 100 (R 2)] [hm_row g (a 9) (a 10) 101 (R 4)]) (hm_mid [[(a 0, .inr (1, [.ref (a 1), .ref (a 3), .ref (a 5), .ref (a 7), .ref (a 9), .int (Z 0), .int (Z 1), .int (Z 2), .int (Z 3)]))], hm_row g (a 1) (a 2) 100 (R 0), hm_row g (a 3) (a 4) 100 (R 1), hm_row g (a 5) (a 6) 100 (R 2)] [hm_row g (a 9) (a 10) 101 (R 4)] (b := hm_row g (a 7) (a 8) 100 t1.2)) rfl rfl rfl ⟨rfl, rfl, Nat.le_of_ble_eq_true rfl, Nat.le_of_ble_eq_true rfl⟩ rfl hl.1 rfl (Nat.le_of_ble_eq_true rfl) dX1_addPlace_5 ⟨Nat.zero_le _, Nat.zero_le _⟩ (fun H locs X => ?_)
  have X := X.to (ws' := ([[(a 0, .inr (1, [.ref (a 1), .ref (a 3), .ref (a 5), .ref (a 7), .ref (a 9), .int (Z 0), .int (Z 1), .int (Z 2), .int (Z 3)]))], hm_row g (a 1) (a 2) 100 (R 0), hm_row g (a 3) (a 4) 100 (R 1), hm_row g (a 5) (a 6) 100 (R 2), hm_row g (a 7) (a 8) 100 t1.2, hm_row g (a 9) (a 10) 101 (R 4)] : List va_W).flatten) rfl
  refine lv_pop hx hb dX1_addPlace_8 rfl ?_
  refine lv_aload_n hx hb dX1_addPlace_9 rfl (lv_at hl 0 rfl) ?_
  refine hm_get S X hf_X1_23 0 rfl rfl dX1_addPlace_10 ?_
  refine lv_iload_n hx hb dX1_addPlace_13 rfl (lv_at hl 2 rfl) ?_
  obtain ⟨t2, ht2, hF⟩ := hm_bd hF
  refine hm_vi (As := [.int x1]) S X mw_X2_add hw_2_230 (c_X2_add l g (a 5) (a 6) 100 (R 2) x1 t2 ht2) (hm_mid [[(a 0, .inr (1, [.ref (a 1), .ref (a 3), .ref (a 5), .ref (a 7), .ref (a 9), .int (Z 0), .int (Z 1), .int (Z 2), .int (Z 3)]))], hm_row g (a 1) (a 2) 100 (R 0), hm_row g (a 3) (a 4) 100 (R 1)] [hm_row g (a 7) (a 8) 100 t1.2, hm_row g (a 9) (a 10) 101 (R 4)]) (hm_mid [[(a 0, .inr (1, [.ref (a 1), .ref (a 3), .ref (a 5), .ref (a 7), .ref (a 9), .int (Z 0), .int (Z 1), .int (Z 2), .int (Z 3)]))], hm_row g (a 1) (a 2) 100 (R 0), hm_row g (a 3) (a 4) 100 (R 1)] [hm_row g (a 7) (a 8) 100 t1.2, hm_row g (a 9) (a 10) 101 (R 4)] (b := hm_row g (a 5) (a 6) 100 t2.2)) rfl rfl rfl ⟨rfl, rfl, Nat.le_of_ble_eq_true rfl, Nat.le_of_ble_eq_true rfl⟩ rfl hl.1 rfl (Nat.le_of_ble_eq_true rfl) dX1_addPlace_14 ⟨Nat.zero_le _, Nat.zero_le _⟩ (fun H locs X => ?_)
  have X := X.to (ws' := ([[(a 0, .inr (1, [.ref (a 1), .ref (a 3), .ref (a 5), .ref (a 7), .ref (a 9), .int (Z 0), .int (Z 1), .int (Z 2), .int (Z 3)]))], hm_row g (a 1) (a 2) 100 (R 0), hm_row g (a 3) (a 4) 100 (R 1), hm_row g (a 5) (a 6) 100 t2.2, hm_row g (a 7) (a 8) 100 t1.2, hm_row g (a 9) (a 10) 101 (R 4)] : List va_W).flatten) rfl
  refine lv_pop hx hb dX1_addPlace_17 rfl ?_
  refine lv_aload_n hx hb dX1_addPlace_18 rfl (lv_at hl 0 rfl) ?_
  refine hm_get S X hf_X1_14 0 rfl rfl dX1_addPlace_19 ?_
  refine lv_iload_n hx hb dX1_addPlace_22 rfl (lv_at hl 3 rfl) ?_
  obtain ⟨t3, ht3, hF⟩ := hm_bd hF
  refine hm_vi (As := [.int x2]) S X mw_X2_add hw_2_230 (c_X2_add l g (a 1) (a 2) 100 (R 0) x2 t3 ht3) (hm_mid [[(a 0, .inr (1, [.ref (a 1), .ref (a 3), .ref (a 5), .ref (a 7), .ref (a 9), .int (Z 0), .int (Z 1), .int (Z 2), .int (Z 3)]))]] [hm_row g (a 3) (a 4) 100 (R 1), hm_row g (a 5) (a 6) 100 t2.2, hm_row g (a 7) (a 8) 100 t1.2, hm_row g (a 9) (a 10) 101 (R 4)]) (hm_mid [[(a 0, .inr (1, [.ref (a 1), .ref (a 3), .ref (a 5), .ref (a 7), .ref (a 9), .int (Z 0), .int (Z 1), .int (Z 2), .int (Z 3)]))]] [hm_row g (a 3) (a 4) 100 (R 1), hm_row g (a 5) (a 6) 100 t2.2, hm_row g (a 7) (a 8) 100 t1.2, hm_row g (a 9) (a 10) 101 (R 4)] (b := hm_row g (a 1) (a 2) 100 t3.2)) rfl rfl rfl ⟨rfl, rfl, Nat.le_of_ble_eq_true rfl, Nat.le_of_ble_eq_true rfl⟩ rfl hl.1 rfl (Nat.le_of_ble_eq_true rfl) dX1_addPlace_23 ⟨Nat.zero_le _, Nat.zero_le _⟩ (fun H locs X => ?_)
  have X := X.to (ws' := ([[(a 0, .inr (1, [.ref (a 1), .ref (a 3), .ref (a 5), .ref (a 7), .ref (a 9), .int (Z 0), .int (Z 1), .int (Z 2), .int (Z 3)]))], hm_row g (a 1) (a 2) 100 t3.2, hm_row g (a 3) (a 4) 100 (R 1), hm_row g (a 5) (a 6) 100 t2.2, hm_row g (a 7) (a 8) 100 t1.2, hm_row g (a 9) (a 10) 101 (R 4)] : List va_W).flatten) rfl
  refine lv_pop hx hb dX1_addPlace_26 rfl ?_
  refine lv_aload_n hx hb dX1_addPlace_27 rfl (lv_at hl 0 rfl) ?_
  refine hm_get S X hf_X1_20 0 rfl rfl dX1_addPlace_28 ?_
  refine lv_iload hx hb dX1_addPlace_31 (lv_at hl 4 rfl) ?_
  obtain ⟨t4, ht4, hF⟩ := hm_bd hF
  refine hm_vi (As := [.int x3]) S X mw_X2_add hw_2_230 (c_X2_add l g (a 3) (a 4) 100 (R 1) x3 t4 ht4) (hm_mid [[(a 0, .inr (1, [.ref (a 1), .ref (a 3), .ref (a 5), .ref (a 7), .ref (a 9), .int (Z 0), .int (Z 1), .int (Z 2), .int (Z 3)]))], hm_row g (a 1) (a 2) 100 t3.2] [hm_row g (a 5) (a 6) 100 t2.2, hm_row g (a 7) (a 8) 100 t1.2, hm_row g (a 9) (a 10) 101 (R 4)]) (hm_mid [[(a 0, .inr (1, [.ref (a 1), .ref (a 3), .ref (a 5), .ref (a 7), .ref (a 9), .int (Z 0), .int (Z 1), .int (Z 2), .int (Z 3)]))], hm_row g (a 1) (a 2) 100 t3.2] [hm_row g (a 5) (a 6) 100 t2.2, hm_row g (a 7) (a 8) 100 t1.2, hm_row g (a 9) (a 10) 101 (R 4)] (b := hm_row g (a 3) (a 4) 100 t4.2)) rfl rfl rfl ⟨rfl, rfl, Nat.le_of_ble_eq_true rfl, Nat.le_of_ble_eq_true rfl⟩ rfl hl.1 rfl (Nat.le_of_ble_eq_true rfl) dX1_addPlace_33 ⟨Nat.zero_le _, Nat.zero_le _⟩ (fun H locs X => ?_)
  have X := X.to (ws' := ([[(a 0, .inr (1, [.ref (a 1), .ref (a 3), .ref (a 5), .ref (a 7), .ref (a 9), .int (Z 0), .int (Z 1), .int (Z 2), .int (Z 3)]))], hm_row g (a 1) (a 2) 100 t3.2, hm_row g (a 3) (a 4) 100 t4.2, hm_row g (a 5) (a 6) 100 t2.2, hm_row g (a 7) (a 8) 100 t1.2, hm_row g (a 9) (a 10) 101 (R 4)] : List va_W).flatten) rfl
  refine lv_pop hx hb dX1_addPlace_36 rfl ?_
  refine lv_aload_n hx hb dX1_addPlace_37 rfl (lv_at hl 0 rfl) ?_
  refine hm_get S X hf_X1_29 0 rfl rfl dX1_addPlace_38 ?_
  refine lv_iload hx hb dX1_addPlace_41 (lv_at hl 5 rfl) ?_
  obtain ⟨t5, ht5, hF⟩ := hm_bd hF
  refine hm_vi (As := [.int x4]) S X mw_X2_add hw_2_230 (c_X2_add l g (a 9) (a 10) 101 (R 4) x4 t5 ht5) (hm_mid [[(a 0, .inr (1, [.ref (a 1), .ref (a 3), .ref (a 5), .ref (a 7), .ref (a 9), .int (Z 0), .int (Z 1), .int (Z 2), .int (Z 3)]))], hm_row g (a 1) (a 2) 100 t3.2, hm_row g (a 3) (a 4) 100 t4.2, hm_row g (a 5) (a 6) 100 t2.2, hm_row g (a 7) (a 8) 100 t1.2] []) (hm_mid [[(a 0, .inr (1, [.ref (a 1), .ref (a 3), .ref (a 5), .ref (a 7), .ref (a 9), .int (Z 0), .int (Z 1), .int (Z 2), .int (Z 3)]))], hm_row g (a 1) (a 2) 100 t3.2, hm_row g (a 3) (a 4) 100 t4.2, hm_row g (a 5) (a 6) 100 t2.2, hm_row g (a 7) (a 8) 100 t1.2] [] (b := hm_row g (a 9) (a 10) 101 t5.2)) rfl rfl rfl ⟨rfl, rfl, Nat.le_of_ble_eq_true rfl, Nat.le_of_ble_eq_true rfl⟩ rfl hl.1 rfl (Nat.le_of_ble_eq_true rfl) dX1_addPlace_43 ⟨Nat.zero_le _, Nat.zero_le _⟩ (fun H locs X => ?_)
  have X := X.to (ws' := ([[(a 0, .inr (1, [.ref (a 1), .ref (a 3), .ref (a 5), .ref (a 7), .ref (a 9), .int (Z 0), .int (Z 1), .int (Z 2), .int (Z 3)]))], hm_row g (a 1) (a 2) 100 t3.2, hm_row g (a 3) (a 4) 100 t4.2, hm_row g (a 5) (a 6) 100 t2.2, hm_row g (a 7) (a 8) 100 t1.2, hm_row g (a 9) (a 10) 101 t5.2] : List va_W).flatten) rfl
  refine lv_pop hx hb dX1_addPlace_46 rfl ?_
  obtain rfl := Option.some.inj hF
  exact hm_rv S hr hlk X rfl dX1_addPlace_47
def f_X1_takeWord_l76 (Z_0 : Int32) (SeA_0 : Nat → Int32) (x0 : Int32) (v5 : Int32) (v6 : Int32) (wR_0 : hm_SR) (wR_1 : hm_SR) (wR_2 : hm_SR) (wR_3 : hm_SR) (wR_4 : hm_SR) : Option (Int32 × hm_SR × hm_SR × hm_SR × hm_SR × hm_SR) :=
  (f_X4_hungOf SeA_0 v6).bind fun t2 =>
  (f_X1_addPlace wR_0 wR_1 wR_2 wR_3 wR_4 x0 0 v5 t2 (v5 + Z_0)).bind fun t3 =>
  some ((v5 + Z_0), t3.1, t3.2.1, t3.2.2.1, t3.2.2.2.1, t3.2.2.2.2)
def f_X1_takeWord_l70 (J10 : Int32 → Int32 → Int32 → hm_SR → hm_SR → hm_SR → hm_SR → hm_SR → Option (Int32 × hm_SR × hm_SR × hm_SR × hm_SR × hm_SR)) (v5 : Int32) (v6 : Int32) (v7 : Int32) (wR_0 : hm_SR) (wR_1 : hm_SR) (wR_2 : hm_SR) (wR_3 : hm_SR) (wR_4 : hm_SR) : Option (Int32 × hm_SR × hm_SR × hm_SR × hm_SR × hm_SR) :=
  J10 v5 v6 (v7 + 1) wR_0 wR_1 wR_2 wR_3 wR_4
def f_X1_takeWord_l10 (Z_0 : Int32) (ScR_0 : hm_SR) (ScR_1 : hm_SR) (SeA_0 : Nat → Int32) (x0 : Int32) : Nat → Int32 → Int32 → Int32 → hm_SR → hm_SR → hm_SR → hm_SR → hm_SR → Option (Int32 × hm_SR × hm_SR × hm_SR × hm_SR × hm_SR)
  | 0, _, _, _, _, _, _, _, _ => none
  | k + 1, v5, v6, v7, wR_0, wR_1, wR_2, wR_3, wR_4 =>
  (f_X3_signCount ScR_1 x0).bind fun t1 =>
  if t1 ≤ v7 then (
  f_X1_takeWord_l76 Z_0 SeA_0 x0 v5 v6 wR_0 wR_1 wR_2 wR_3 wR_4)
  else (
  (f_X3_signOf ScR_0 ScR_1 x0 v7).bind fun t4 =>
  (f_X4_widthOf SeA_0 t4).bind fun t5 =>
  if t4 = 47 then (
  (f_X4_widthOf SeA_0 45).bind fun t6 =>
  (f_X4_hungOf SeA_0 45).bind fun t7 =>
  (f_X1_addPlace wR_0 wR_1 wR_2 wR_3 wR_4 x0 1 ((v5 + t5) + t6) t7 (v5 + t5)).bind fun t8 =>
  f_X1_takeWord_l70 (fun zv5 zv6 zv7 zwR_0 zwR_1 zwR_2 zwR_3 zwR_4 => f_X1_takeWord_l10 Z_0 ScR_0 ScR_1 SeA_0 x0 k zv5 zv6 zv7 zwR_0 zwR_1 zwR_2 zwR_3 zwR_4) (v5 + t5) t4 v7 t8.1 t8.2.1 t8.2.2.1 t8.2.2.2.1 t8.2.2.2.2)
  else (
  f_X1_takeWord_l70 (fun zv5 zv6 zv7 zwR_0 zwR_1 zwR_2 zwR_3 zwR_4 => f_X1_takeWord_l10 Z_0 ScR_0 ScR_1 SeA_0 x0 k zv5 zv6 zv7 zwR_0 zwR_1 zwR_2 zwR_3 zwR_4) (v5 + t5) t4 v7 wR_0 wR_1 wR_2 wR_3 wR_4))
theorem f_X1_takeWord_l10_s (Z_0 : Int32) (ScR_0 : hm_SR) (ScR_1 : hm_SR) (SeA_0 : Nat → Int32) (x0 : Int32) (k : Nat) (v5 : Int32) (v6 : Int32) (v7 : Int32) (wR_0 : hm_SR) (wR_1 : hm_SR) (wR_2 : hm_SR) (wR_3 : hm_SR) (wR_4 : hm_SR) : f_X1_takeWord_l10 Z_0 ScR_0 ScR_1 SeA_0 x0 (k + 1) v5 v6 v7 wR_0 wR_1 wR_2 wR_3 wR_4 =
  (f_X3_signCount ScR_1 x0).bind fun t1 =>
  if t1 ≤ v7 then (
  f_X1_takeWord_l76 Z_0 SeA_0 x0 v5 v6 wR_0 wR_1 wR_2 wR_3 wR_4)
  else (
  (f_X3_signOf ScR_0 ScR_1 x0 v7).bind fun t4 =>
  (f_X4_widthOf SeA_0 t4).bind fun t5 =>
  if t4 = 47 then (
  (f_X4_widthOf SeA_0 45).bind fun t6 =>
  (f_X4_hungOf SeA_0 45).bind fun t7 =>
  (f_X1_addPlace wR_0 wR_1 wR_2 wR_3 wR_4 x0 1 ((v5 + t5) + t6) t7 (v5 + t5)).bind fun t8 =>
  f_X1_takeWord_l70 (fun zv5 zv6 zv7 zwR_0 zwR_1 zwR_2 zwR_3 zwR_4 => f_X1_takeWord_l10 Z_0 ScR_0 ScR_1 SeA_0 x0 k zv5 zv6 zv7 zwR_0 zwR_1 zwR_2 zwR_3 zwR_4) (v5 + t5) t4 v7 t8.1 t8.2.1 t8.2.2.1 t8.2.2.2.1 t8.2.2.2.2)
  else (
  f_X1_takeWord_l70 (fun zv5 zv6 zv7 zwR_0 zwR_1 zwR_2 zwR_3 zwR_4 => f_X1_takeWord_l10 Z_0 ScR_0 ScR_1 SeA_0 x0 k zv5 zv6 zv7 zwR_0 zwR_1 zwR_2 zwR_3 zwR_4) (v5 + t5) t4 v7 wR_0 wR_1 wR_2 wR_3 wR_4)) := rfl
theorem f_X1_takeWord_l10_z (Z_0 : Int32) (ScR_0 : hm_SR) (ScR_1 : hm_SR) (SeA_0 : Nat → Int32) (x0 : Int32) (v5 : Int32) (v6 : Int32) (v7 : Int32) (wR_0 : hm_SR) (wR_1 : hm_SR) (wR_2 : hm_SR) (wR_3 : hm_SR) (wR_4 : hm_SR) : f_X1_takeWord_l10 Z_0 ScR_0 ScR_1 SeA_0 x0 0 v5 v6 v7 wR_0 wR_1 wR_2 wR_3 wR_4 = none := rfl
def f_X1_takeWord (R_0 : hm_SR) (R_1 : hm_SR) (R_2 : hm_SR) (R_3 : hm_SR) (R_4 : hm_SR) (Z_0 : Int32) (ScR_0 : hm_SR) (ScR_1 : hm_SR) (SeA_0 : Nat → Int32) (x0 : Int32) (x1 : Int32)  : Option (Int32 × hm_SR × hm_SR × hm_SR × hm_SR × hm_SR) :=
  f_X1_takeWord_l10 Z_0 ScR_0 ScR_1 SeA_0 x0 hm_fu x1 0 0 R_0 R_1 R_2 R_3 R_4
abbrev rm_X1_takeWord : Room := { frames := 3, cells := 0, slots := 0, locals := 64 }
set_option maxHeartbeats 4000000 in
set_option maxRecDepth 100000 in
theorem c_X1_takeWord (l : Launch) (g : hm_G) (a : Nat → Nat) (R : Nat → hm_SR) (Z : Nat → Int32) (aSc : Nat → Nat) (ScR : Nat → hm_SR) (aSe : Nat → Nat) (SeR : Nat → hm_SR) (SeA : Nat → Nat → Int32) (x0 : Int32) (x1 : Int32) (q : Int32 × hm_SR × hm_SR × hm_SR × hm_SR × hm_SR) (hF : f_X1_takeWord (R 0) (R 1) (R 2) (R 3) (R 4) (Z 0) (ScR 0) (ScR 1) (SeA 0) x0 x1 = some q) : hm_Mi l yX1_takeWord (Cond.code yX1_takeWord cX1_takeWord 8 (some .int) :: hm_W) rm_X1_takeWord g [.ref (a 0), .ref (aSc 0), .ref (aSe 0), .int x0, .int x1] ([hm_wLe g a R Z, hm_wSc g aSc ScR, hm_wSe g aSe SeR SeA] : List va_W).flatten ([hm_wLe g a (hm_up (hm_up (hm_up (hm_up (hm_up R 0 q.2.1) 1 q.2.2.1) 2 q.2.2.2.1) 3 q.2.2.2.2.1) 4 q.2.2.2.2.2) Z, hm_wSc g aSc ScR, hm_wSe g aSe SeR SeA] : List va_W).flatten q.1 := by
  refine hm_ofi [(0, .ref (a 0)), (1, .ref (aSc 0)), (2, .ref (aSe 0)), (3, .int x0), (4, .int x1)] (by decide) (own := RX1) rfl (Nat.le_of_ble_eq_true rfl) rfl rfl ?_
  intro p e s m args below meth c AA S hr hlk X ls hl
  have hx := S.1
  have hb := S.2.1
  have hown := S.2.2.2.1
  have hts := S.2.2.2.2
  have X := X.to (ws' := ([[(a 0, .inr (1, [.ref (a 1), .ref (a 3), .ref (a 5), .ref (a 7), .ref (a 9), .int (Z 0), .int (Z 1), .int (Z 2), .int (Z 3)]))], hm_row g (a 1) (a 2) 100 (R 0), hm_row g (a 3) (a 4) 100 (R 1), hm_row g (a 5) (a 6) 100 (R 2), hm_row g (a 7) (a 8) 100 (R 3), hm_row g (a 9) (a 10) 101 (R 4), hm_wSc g aSc ScR, hm_wSe g aSe SeR SeA] : List va_W).flatten) rfl
  have hl76 : ∀ (v5 : Int32) (v6 : Int32) (wR_0 : hm_SR) (wR_1 : hm_SR) (wR_2 : hm_SR) (wR_3 : hm_SR) (wR_4 : hm_SR), f_X1_takeWord_l76 (Z 0) (SeA 0) x0 v5 v6 wR_0 wR_1 wR_2 wR_3 wR_4 = some q → ∀ (H : Heap) (locs : List Loc), hm_X g AA s H locs ([[(a 0, .inr (1, [.ref (a 1), .ref (a 3), .ref (a 5), .ref (a 7), .ref (a 9), .int (Z 0), .int (Z 1), .int (Z 2), .int (Z 3)]))], hm_row g (a 1) (a 2) 100 wR_0, hm_row g (a 3) (a 4) 100 wR_1, hm_row g (a 5) (a 6) 100 wR_2, hm_row g (a 7) (a 8) 100 wR_3, hm_row g (a 9) (a 10) 101 wR_4, hm_wSc g aSc ScR, hm_wSe g aSe SeR SeA] : List va_W).flatten → ∀ ls : Array Slot, lv_has ls 8 [(0, .ref (a 0)), (2, .ref (aSe 0)), (3, .int x0), (5, .int v5), (6, .int v6)] → W p l e rm_X1_takeWord s m args below meth c H locs 0 0 (MQ below (hm_Qi g AA ([hm_wLe g a (hm_up (hm_up (hm_up (hm_up (hm_up R 0 q.2.1) 1 q.2.2.1) 2 q.2.2.2.1) 3 q.2.2.2.2.1) 4 q.2.2.2.2.2) Z, hm_wSc g aSc ScR, hm_wSe g aSe SeR SeA] : List va_W).flatten q.1) args s 0 0 AA) (F0 m 76 ls []) := by
    intro v5 v6 wR_0 wR_1 wR_2 wR_3 wR_4 hF H locs X ls hl
    unfold f_X1_takeWord_l76 at hF
    refine lv_aload_n hx hb dX1_takeWord_76 rfl (lv_at hl 0 rfl) ?_
    refine lv_iload_n hx hb dX1_takeWord_77 rfl (lv_at hl 2 rfl) ?_
    refine lv_iconst (v := 0) hx hb dX1_takeWord_78 (by decide) ?_
    refine lv_iload hx hb dX1_takeWord_79 (lv_at hl 3 rfl) ?_
    refine lv_aload_n hx hb dX1_takeWord_81 rfl (lv_at hl 1 rfl) ?_
    refine lv_iload hx hb dX1_takeWord_82 (lv_at hl 4 rfl) ?_
    obtain ⟨t2, ht2, hF⟩ := hm_bd hF
    refine hm_vi (As := [.int v6]) S X mw_X4_hungOf hw_3_3 (c_X4_hungOf l g aSe SeR SeA v6 t2 ht2) (hm_mid [[(a 0, .inr (1, [.ref (a 1), .ref (a 3), .ref (a 5), .ref (a 7), .ref (a 9), .int (Z 0), .int (Z 1), .int (Z 2), .int (Z 3)]))], hm_row g (a 1) (a 2) 100 wR_0, hm_row g (a 3) (a 4) 100 wR_1, hm_row g (a 5) (a 6) 100 wR_2, hm_row g (a 7) (a 8) 100 wR_3, hm_row g (a 9) (a 10) 101 wR_4, hm_wSc g aSc ScR] []) (hm_mid [[(a 0, .inr (1, [.ref (a 1), .ref (a 3), .ref (a 5), .ref (a 7), .ref (a 9), .int (Z 0), .int (Z 1), .int (Z 2), .int (Z 3)]))], hm_row g (a 1) (a 2) 100 wR_0, hm_row g (a 3) (a 4) 100 wR_1, hm_row g (a 5) (a 6) 100 wR_2, hm_row g (a 7) (a 8) 100 wR_3, hm_row g (a 9) (a 10) 101 wR_4, hm_wSc g aSc ScR] [] (b := hm_wSe g aSe SeR SeA)) rfl rfl rfl ⟨rfl, rfl, Nat.le_of_ble_eq_true rfl, Nat.le_of_ble_eq_true rfl⟩ rfl hl.1 rfl (Nat.le_of_ble_eq_true rfl) dX1_takeWord_84 ⟨Nat.zero_le _, Nat.zero_le _⟩ (fun H locs X => ?_)
    have X := X.to (ws' := ([[(a 0, .inr (1, [.ref (a 1), .ref (a 3), .ref (a 5), .ref (a 7), .ref (a 9), .int (Z 0), .int (Z 1), .int (Z 2), .int (Z 3)]))], hm_row g (a 1) (a 2) 100 wR_0, hm_row g (a 3) (a 4) 100 wR_1, hm_row g (a 5) (a 6) 100 wR_2, hm_row g (a 7) (a 8) 100 wR_3, hm_row g (a 9) (a 10) 101 wR_4, hm_wSc g aSc ScR, hm_wSe g aSe SeR SeA] : List va_W).flatten) rfl
    refine lv_iload hx hb dX1_takeWord_87 (lv_at hl 3 rfl) ?_
    refine lv_aload_n hx hb dX1_takeWord_89 rfl (lv_at hl 0 rfl) ?_
    refine hm_get S X hf_X1_38 0 rfl rfl dX1_takeWord_90 ?_
    refine lv_iadd hx hb dX1_takeWord_93 ?_
    obtain ⟨t3, ht3, hF⟩ := hm_bd hF
    refine hm_vv (As := [.int x0, .int 0, .int v5, .int t2, .int (v5 + (Z 0))]) S X mw_X1_addPlace hw_3_8 (c_X1_addPlace l g a (hm_up (hm_up (hm_up (hm_up (hm_up R 0 wR_0) 1 wR_1) 2 wR_2) 3 wR_3) 4 wR_4) Z x0 0 v5 t2 (v5 + (Z 0)) t3 ht3) (hm_cq (n := 8) [0, 1, 2, 3, 4, 5] [6, 7] rfl (by decide +kernel) rfl rfl) (hm_cq (bs := [[(a 0, .inr (1, [.ref (a 1), .ref (a 3), .ref (a 5), .ref (a 7), .ref (a 9), .int (Z 0), .int (Z 1), .int (Z 2), .int (Z 3)]))], hm_row g (a 1) (a 2) 100 t3.1, hm_row g (a 3) (a 4) 100 t3.2.1, hm_row g (a 5) (a 6) 100 t3.2.2.1, hm_row g (a 7) (a 8) 100 t3.2.2.2.1, hm_row g (a 9) (a 10) 101 t3.2.2.2.2, hm_wSc g aSc ScR, hm_wSe g aSe SeR SeA]) (n := 8) [0, 1, 2, 3, 4, 5] [6, 7] rfl (by decide +kernel) rfl rfl) rfl rfl rfl ⟨rfl, rfl, Nat.le_of_ble_eq_true rfl, Nat.le_of_ble_eq_true rfl⟩ rfl hl.1 rfl (Nat.le_of_ble_eq_true rfl) dX1_takeWord_94 ⟨Nat.zero_le _, Nat.zero_le _⟩ (fun H locs X => ?_)
    have X := X.to (ws' := ([[(a 0, .inr (1, [.ref (a 1), .ref (a 3), .ref (a 5), .ref (a 7), .ref (a 9), .int (Z 0), .int (Z 1), .int (Z 2), .int (Z 3)]))], hm_row g (a 1) (a 2) 100 t3.1, hm_row g (a 3) (a 4) 100 t3.2.1, hm_row g (a 5) (a 6) 100 t3.2.2.1, hm_row g (a 7) (a 8) 100 t3.2.2.2.1, hm_row g (a 9) (a 10) 101 t3.2.2.2.2, hm_wSc g aSc ScR, hm_wSe g aSe SeR SeA] : List va_W).flatten) rfl
    refine lv_iload hx hb dX1_takeWord_97 (lv_at hl 3 rfl) ?_
    refine lv_aload_n hx hb dX1_takeWord_99 rfl (lv_at hl 0 rfl) ?_
    refine hm_get S X hf_X1_38 0 rfl rfl dX1_takeWord_100 ?_
    refine lv_iadd hx hb dX1_takeWord_103 ?_
    obtain rfl := Option.some.inj hF
    exact hm_ri S hr hlk X rfl rfl dX1_takeWord_104
  have hl10 : ∀ (k10 : Nat) (v5 : Int32) (v6 : Int32) (v7 : Int32) (wR_0 : hm_SR) (wR_1 : hm_SR) (wR_2 : hm_SR) (wR_3 : hm_SR) (wR_4 : hm_SR), f_X1_takeWord_l10 (Z 0) (ScR 0) (ScR 1) (SeA 0) x0 k10 v5 v6 v7 wR_0 wR_1 wR_2 wR_3 wR_4 = some q → ∀ (H : Heap) (locs : List Loc), hm_X g AA s H locs ([[(a 0, .inr (1, [.ref (a 1), .ref (a 3), .ref (a 5), .ref (a 7), .ref (a 9), .int (Z 0), .int (Z 1), .int (Z 2), .int (Z 3)]))], hm_row g (a 1) (a 2) 100 wR_0, hm_row g (a 3) (a 4) 100 wR_1, hm_row g (a 5) (a 6) 100 wR_2, hm_row g (a 7) (a 8) 100 wR_3, hm_row g (a 9) (a 10) 101 wR_4, hm_wSc g aSc ScR, hm_wSe g aSe SeR SeA] : List va_W).flatten → ∀ ls : Array Slot, lv_has ls 8 [(0, .ref (a 0)), (1, .ref (aSc 0)), (2, .ref (aSe 0)), (3, .int x0), (5, .int v5), (6, .int v6), (7, .int v7)] → W p l e rm_X1_takeWord s m args below meth c H locs 0 0 (MQ below (hm_Qi g AA ([hm_wLe g a (hm_up (hm_up (hm_up (hm_up (hm_up R 0 q.2.1) 1 q.2.2.1) 2 q.2.2.2.1) 3 q.2.2.2.2.1) 4 q.2.2.2.2.2) Z, hm_wSc g aSc ScR, hm_wSe g aSe SeR SeA] : List va_W).flatten q.1) args s 0 0 AA) (F0 m 10 ls []) := by
    intro k10
    induction k10 with
    | zero =>
      intro v5 v6 v7 wR_0 wR_1 wR_2 wR_3 wR_4 hF
      rw [f_X1_takeWord_l10_z] at hF
      cases hF
    | succ k10 ih10 =>
      have hl70 : ∀ (v5 : Int32) (v6 : Int32) (v7 : Int32) (wR_0 : hm_SR) (wR_1 : hm_SR) (wR_2 : hm_SR) (wR_3 : hm_SR) (wR_4 : hm_SR), f_X1_takeWord_l70 (fun zv5 zv6 zv7 zwR_0 zwR_1 zwR_2 zwR_3 zwR_4 => f_X1_takeWord_l10 (Z 0) (ScR 0) (ScR 1) (SeA 0) x0 k10 zv5 zv6 zv7 zwR_0 zwR_1 zwR_2 zwR_3 zwR_4) v5 v6 v7 wR_0 wR_1 wR_2 wR_3 wR_4 = some q → ∀ (H : Heap) (locs : List Loc), hm_X g AA s H locs ([[(a 0, .inr (1, [.ref (a 1), .ref (a 3), .ref (a 5), .ref (a 7), .ref (a 9), .int (Z 0), .int (Z 1), .int (Z 2), .int (Z 3)]))], hm_row g (a 1) (a 2) 100 wR_0, hm_row g (a 3) (a 4) 100 wR_1, hm_row g (a 5) (a 6) 100 wR_2, hm_row g (a 7) (a 8) 100 wR_3, hm_row g (a 9) (a 10) 101 wR_4, hm_wSc g aSc ScR, hm_wSe g aSe SeR SeA] : List va_W).flatten → ∀ ls : Array Slot, lv_has ls 8 [(0, .ref (a 0)), (1, .ref (aSc 0)), (2, .ref (aSe 0)), (3, .int x0), (5, .int v5), (6, .int v6), (7, .int v7)] → W p l e rm_X1_takeWord s m args below meth c H locs 0 0 (MQ below (hm_Qi g AA ([hm_wLe g a (hm_up (hm_up (hm_up (hm_up (hm_up R 0 q.2.1) 1 q.2.2.1) 2 q.2.2.2.1) 3 q.2.2.2.2.1) 4 q.2.2.2.2.2) Z, hm_wSc g aSc ScR, hm_wSe g aSe SeR SeA] : List va_W).flatten q.1) args s 0 0 AA) (F0 m 70 ls []) := by
        intro v5 v6 v7 wR_0 wR_1 wR_2 wR_3 wR_4 hF H locs X ls hl
        unfold f_X1_takeWord_l70 at hF
        refine lv_iinc (v := (v7 + 1)) (lv' := [(7, .int (v7 + 1)), (0, .ref (a 0)), (1, .ref (aSc 0)), (2, .ref (aSe 0)), (3, .int x0), (5, .int v5), (6, .int v6)]) hx hb dX1_takeWord_70 hl (k := 6) rfl rfl (by decide) rfl (fun ls hl => ?_)
        refine lv_goto (tgt := 10) hx hb dX1_takeWord_73 (by decide) ?_
        exact ih10 v5 v6 (v7 + 1) wR_0 wR_1 wR_2 wR_3 wR_4 hF _ _ X _ (lv_sub hl [1, 2, 3, 4, 5, 6, 0] rfl)
      intro v5 v6 v7 wR_0 wR_1 wR_2 wR_3 wR_4 hF H locs X ls hl
      rw [f_X1_takeWord_l10_s] at hF
      refine lv_iload hx hb dX1_takeWord_10 (lv_at hl 6 rfl) ?_
      refine lv_aload_n hx hb dX1_takeWord_12 rfl (lv_at hl 1 rfl) ?_
      refine lv_iload_n hx hb dX1_takeWord_13 rfl (lv_at hl 3 rfl) ?_
      obtain ⟨t1, ht1, hF⟩ := hm_bd hF
      refine hm_vi (As := [.int x0]) S X mw_X3_signCount hw_2_236 (c_X3_signCount l g aSc ScR x0 t1 ht1) (hm_mid [[(a 0, .inr (1, [.ref (a 1), .ref (a 3), .ref (a 5), .ref (a 7), .ref (a 9), .int (Z 0), .int (Z 1), .int (Z 2), .int (Z 3)]))], hm_row g (a 1) (a 2) 100 wR_0, hm_row g (a 3) (a 4) 100 wR_1, hm_row g (a 5) (a 6) 100 wR_2, hm_row g (a 7) (a 8) 100 wR_3, hm_row g (a 9) (a 10) 101 wR_4] [hm_wSe g aSe SeR SeA]) (hm_mid [[(a 0, .inr (1, [.ref (a 1), .ref (a 3), .ref (a 5), .ref (a 7), .ref (a 9), .int (Z 0), .int (Z 1), .int (Z 2), .int (Z 3)]))], hm_row g (a 1) (a 2) 100 wR_0, hm_row g (a 3) (a 4) 100 wR_1, hm_row g (a 5) (a 6) 100 wR_2, hm_row g (a 7) (a 8) 100 wR_3, hm_row g (a 9) (a 10) 101 wR_4] [hm_wSe g aSe SeR SeA] (b := hm_wSc g aSc ScR)) rfl rfl rfl ⟨rfl, rfl, Nat.le_of_ble_eq_true rfl, Nat.le_of_ble_eq_true rfl⟩ rfl hl.1 rfl (Nat.le_of_ble_eq_true rfl) dX1_takeWord_14 ⟨Nat.zero_le _, Nat.zero_le _⟩ (fun H locs X => ?_)
      have X := X.to (ws' := ([[(a 0, .inr (1, [.ref (a 1), .ref (a 3), .ref (a 5), .ref (a 7), .ref (a 9), .int (Z 0), .int (Z 1), .int (Z 2), .int (Z 3)]))], hm_row g (a 1) (a 2) 100 wR_0, hm_row g (a 3) (a 4) 100 wR_1, hm_row g (a 5) (a 6) 100 wR_2, hm_row g (a 7) (a 8) 100 wR_3, hm_row g (a 9) (a 10) 101 wR_4, hm_wSc g aSc ScR, hm_wSe g aSe SeR SeA] : List va_W).flatten) rfl
      refine lv_icmp_ge (tgt := 76) hx hb dX1_takeWord_17 (by decide) (fun c17 => ?_) (fun c17 => ?_)
      · have hF := hm_if hF c17
        exact hl76 v5 v6 wR_0 wR_1 wR_2 wR_3 wR_4 hF _ _ X _ (lv_sub hl [0, 2, 3, 4, 5] rfl)
      · have hF := hm_nf hF c17
        refine lv_aload_n hx hb dX1_takeWord_20 rfl (lv_at hl 1 rfl) ?_
        refine lv_iload_n hx hb dX1_takeWord_21 rfl (lv_at hl 3 rfl) ?_
        refine lv_iload hx hb dX1_takeWord_22 (lv_at hl 6 rfl) ?_
        obtain ⟨t4, ht4, hF⟩ := hm_bd hF
        refine hm_vi (As := [.int x0, .int v7]) S X mw_X3_signOf hw_2_237 (c_X3_signOf l g aSc ScR x0 v7 t4 ht4) (hm_mid [[(a 0, .inr (1, [.ref (a 1), .ref (a 3), .ref (a 5), .ref (a 7), .ref (a 9), .int (Z 0), .int (Z 1), .int (Z 2), .int (Z 3)]))], hm_row g (a 1) (a 2) 100 wR_0, hm_row g (a 3) (a 4) 100 wR_1, hm_row g (a 5) (a 6) 100 wR_2, hm_row g (a 7) (a 8) 100 wR_3, hm_row g (a 9) (a 10) 101 wR_4] [hm_wSe g aSe SeR SeA]) (hm_mid [[(a 0, .inr (1, [.ref (a 1), .ref (a 3), .ref (a 5), .ref (a 7), .ref (a 9), .int (Z 0), .int (Z 1), .int (Z 2), .int (Z 3)]))], hm_row g (a 1) (a 2) 100 wR_0, hm_row g (a 3) (a 4) 100 wR_1, hm_row g (a 5) (a 6) 100 wR_2, hm_row g (a 7) (a 8) 100 wR_3, hm_row g (a 9) (a 10) 101 wR_4] [hm_wSe g aSe SeR SeA] (b := hm_wSc g aSc ScR)) rfl rfl rfl ⟨rfl, rfl, Nat.le_of_ble_eq_true rfl, Nat.le_of_ble_eq_true rfl⟩ rfl hl.1 rfl (Nat.le_of_ble_eq_true rfl) dX1_takeWord_24 ⟨Nat.zero_le _, Nat.zero_le _⟩ (fun H locs X => ?_)
        have X := X.to (ws' := ([[(a 0, .inr (1, [.ref (a 1), .ref (a 3), .ref (a 5), .ref (a 7), .ref (a 9), .int (Z 0), .int (Z 1), .int (Z 2), .int (Z 3)]))], hm_row g (a 1) (a 2) 100 wR_0, hm_row g (a 3) (a 4) 100 wR_1, hm_row g (a 5) (a 6) 100 wR_2, hm_row g (a 7) (a 8) 100 wR_3, hm_row g (a 9) (a 10) 101 wR_4, hm_wSc g aSc ScR, hm_wSe g aSe SeR SeA] : List va_W).flatten) rfl
        refine lv_istore (lv' := [(6, .int t4), (0, .ref (a 0)), (1, .ref (aSc 0)), (2, .ref (aSe 0)), (3, .int x0), (5, .int v5), (7, .int v7)]) hx hb dX1_takeWord_27 hl (by decide) rfl (fun ls hl => ?_)
        refine lv_iload hx hb dX1_takeWord_29 (lv_at hl 5 rfl) ?_
        refine lv_aload_n hx hb dX1_takeWord_31 rfl (lv_at hl 3 rfl) ?_
        refine lv_iload hx hb dX1_takeWord_32 (lv_at hl 0 rfl) ?_
        obtain ⟨t5, ht5, hF⟩ := hm_bd hF
        refine hm_vi (As := [.int t4]) S X mw_X4_widthOf hw_2_238 (c_X4_widthOf l g aSe SeR SeA t4 t5 ht5) (hm_mid [[(a 0, .inr (1, [.ref (a 1), .ref (a 3), .ref (a 5), .ref (a 7), .ref (a 9), .int (Z 0), .int (Z 1), .int (Z 2), .int (Z 3)]))], hm_row g (a 1) (a 2) 100 wR_0, hm_row g (a 3) (a 4) 100 wR_1, hm_row g (a 5) (a 6) 100 wR_2, hm_row g (a 7) (a 8) 100 wR_3, hm_row g (a 9) (a 10) 101 wR_4, hm_wSc g aSc ScR] []) (hm_mid [[(a 0, .inr (1, [.ref (a 1), .ref (a 3), .ref (a 5), .ref (a 7), .ref (a 9), .int (Z 0), .int (Z 1), .int (Z 2), .int (Z 3)]))], hm_row g (a 1) (a 2) 100 wR_0, hm_row g (a 3) (a 4) 100 wR_1, hm_row g (a 5) (a 6) 100 wR_2, hm_row g (a 7) (a 8) 100 wR_3, hm_row g (a 9) (a 10) 101 wR_4, hm_wSc g aSc ScR] [] (b := hm_wSe g aSe SeR SeA)) rfl rfl rfl ⟨rfl, rfl, Nat.le_of_ble_eq_true rfl, Nat.le_of_ble_eq_true rfl⟩ rfl hl.1 rfl (Nat.le_of_ble_eq_true rfl) dX1_takeWord_34 ⟨Nat.zero_le _, Nat.zero_le _⟩ (fun H locs X => ?_)
        have X := X.to (ws' := ([[(a 0, .inr (1, [.ref (a 1), .ref (a 3), .ref (a 5), .ref (a 7), .ref (a 9), .int (Z 0), .int (Z 1), .int (Z 2), .int (Z 3)]))], hm_row g (a 1) (a 2) 100 wR_0, hm_row g (a 3) (a 4) 100 wR_1, hm_row g (a 5) (a 6) 100 wR_2, hm_row g (a 7) (a 8) 100 wR_3, hm_row g (a 9) (a 10) 101 wR_4, hm_wSc g aSc ScR, hm_wSe g aSe SeR SeA] : List va_W).flatten) rfl
        refine lv_iadd hx hb dX1_takeWord_37 ?_
        refine lv_istore (lv' := [(5, .int (v5 + t5)), (6, .int t4), (0, .ref (a 0)), (1, .ref (aSc 0)), (2, .ref (aSe 0)), (3, .int x0), (7, .int v7)]) hx hb dX1_takeWord_38 hl (by decide) rfl (fun ls hl => ?_)
        refine lv_iload hx hb dX1_takeWord_40 (lv_at hl 1 rfl) ?_
        refine lv_bipush (v := 47) hx hb dX1_takeWord_42 (by decide) ?_
        refine lv_icmp_ne (tgt := 70) hx hb dX1_takeWord_44 (by decide) (fun c44 => ?_) (fun c44 => ?_)
        · have hF := hm_nf hF c44
          exact hl70 (v5 + t5) t4 v7 wR_0 wR_1 wR_2 wR_3 wR_4 hF _ _ X _ (lv_sub hl [2, 3, 4, 5, 0, 1, 6] rfl)
        · have hF := hm_if hF c44
          refine lv_aload_n hx hb dX1_takeWord_47 rfl (lv_at hl 2 rfl) ?_
          refine lv_iload_n hx hb dX1_takeWord_48 rfl (lv_at hl 5 rfl) ?_
          refine lv_iconst (v := 1) hx hb dX1_takeWord_49 (by decide) ?_
          refine lv_iload hx hb dX1_takeWord_50 (lv_at hl 0 rfl) ?_
          refine lv_aload_n hx hb dX1_takeWord_52 rfl (lv_at hl 4 rfl) ?_
          refine lv_bipush (v := 45) hx hb dX1_takeWord_53 (by decide) ?_
          obtain ⟨t6, ht6, hF⟩ := hm_bd hF
          refine hm_vi (As := [.int 45]) S X mw_X4_widthOf hw_2_238 (c_X4_widthOf l g aSe SeR SeA 45 t6 ht6) (hm_mid [[(a 0, .inr (1, [.ref (a 1), .ref (a 3), .ref (a 5), .ref (a 7), .ref (a 9), .int (Z 0), .int (Z 1), .int (Z 2), .int (Z 3)]))], hm_row g (a 1) (a 2) 100 wR_0, hm_row g (a 3) (a 4) 100 wR_1, hm_row g (a 5) (a 6) 100 wR_2, hm_row g (a 7) (a 8) 100 wR_3, hm_row g (a 9) (a 10) 101 wR_4, hm_wSc g aSc ScR] []) (hm_mid [[(a 0, .inr (1, [.ref (a 1), .ref (a 3), .ref (a 5), .ref (a 7), .ref (a 9), .int (Z 0), .int (Z 1), .int (Z 2), .int (Z 3)]))], hm_row g (a 1) (a 2) 100 wR_0, hm_row g (a 3) (a 4) 100 wR_1, hm_row g (a 5) (a 6) 100 wR_2, hm_row g (a 7) (a 8) 100 wR_3, hm_row g (a 9) (a 10) 101 wR_4, hm_wSc g aSc ScR] [] (b := hm_wSe g aSe SeR SeA)) rfl rfl rfl ⟨rfl, rfl, Nat.le_of_ble_eq_true rfl, Nat.le_of_ble_eq_true rfl⟩ rfl hl.1 rfl (Nat.le_of_ble_eq_true rfl) dX1_takeWord_55 ⟨Nat.zero_le _, Nat.zero_le _⟩ (fun H locs X => ?_)
          have X := X.to (ws' := ([[(a 0, .inr (1, [.ref (a 1), .ref (a 3), .ref (a 5), .ref (a 7), .ref (a 9), .int (Z 0), .int (Z 1), .int (Z 2), .int (Z 3)]))], hm_row g (a 1) (a 2) 100 wR_0, hm_row g (a 3) (a 4) 100 wR_1, hm_row g (a 5) (a 6) 100 wR_2, hm_row g (a 7) (a 8) 100 wR_3, hm_row g (a 9) (a 10) 101 wR_4, hm_wSc g aSc ScR, hm_wSe g aSe SeR SeA] : List va_W).flatten) rfl
          refine lv_iadd hx hb dX1_takeWord_58 ?_
          refine lv_aload_n hx hb dX1_takeWord_59 rfl (lv_at hl 4 rfl) ?_
          refine lv_bipush (v := 45) hx hb dX1_takeWord_60 (by decide) ?_
          obtain ⟨t7, ht7, hF⟩ := hm_bd hF
          refine hm_vi (As := [.int 45]) S X mw_X4_hungOf hw_3_3 (c_X4_hungOf l g aSe SeR SeA 45 t7 ht7) (hm_mid [[(a 0, .inr (1, [.ref (a 1), .ref (a 3), .ref (a 5), .ref (a 7), .ref (a 9), .int (Z 0), .int (Z 1), .int (Z 2), .int (Z 3)]))], hm_row g (a 1) (a 2) 100 wR_0, hm_row g (a 3) (a 4) 100 wR_1, hm_row g (a 5) (a 6) 100 wR_2, hm_row g (a 7) (a 8) 100 wR_3, hm_row g (a 9) (a 10) 101 wR_4, hm_wSc g aSc ScR] []) (hm_mid [[(a 0, .inr (1, [.ref (a 1), .ref (a 3), .ref (a 5), .ref (a 7), .ref (a 9), .int (Z 0), .int (Z 1), .int (Z 2), .int (Z 3)]))], hm_row g (a 1) (a 2) 100 wR_0, hm_row g (a 3) (a 4) 100 wR_1, hm_row g (a 5) (a 6) 100 wR_2, hm_row g (a 7) (a 8) 100 wR_3, hm_row g (a 9) (a 10) 101 wR_4, hm_wSc g aSc ScR] [] (b := hm_wSe g aSe SeR SeA)) rfl rfl rfl ⟨rfl, rfl, Nat.le_of_ble_eq_true rfl, Nat.le_of_ble_eq_true rfl⟩ rfl hl.1 rfl (Nat.le_of_ble_eq_true rfl) dX1_takeWord_62 ⟨Nat.zero_le _, Nat.zero_le _⟩ (fun H locs X => ?_)
          have X := X.to (ws' := ([[(a 0, .inr (1, [.ref (a 1), .ref (a 3), .ref (a 5), .ref (a 7), .ref (a 9), .int (Z 0), .int (Z 1), .int (Z 2), .int (Z 3)]))], hm_row g (a 1) (a 2) 100 wR_0, hm_row g (a 3) (a 4) 100 wR_1, hm_row g (a 5) (a 6) 100 wR_2, hm_row g (a 7) (a 8) 100 wR_3, hm_row g (a 9) (a 10) 101 wR_4, hm_wSc g aSc ScR, hm_wSe g aSe SeR SeA] : List va_W).flatten) rfl
          refine lv_iload hx hb dX1_takeWord_65 (lv_at hl 0 rfl) ?_
          obtain ⟨t8, ht8, hF⟩ := hm_bd hF
          refine hm_vv (As := [.int x0, .int 1, .int ((v5 + t5) + t6), .int t7, .int (v5 + t5)]) S X mw_X1_addPlace hw_3_8 (c_X1_addPlace l g a (hm_up (hm_up (hm_up (hm_up (hm_up R 0 wR_0) 1 wR_1) 2 wR_2) 3 wR_3) 4 wR_4) Z x0 1 ((v5 + t5) + t6) t7 (v5 + t5) t8 ht8) (hm_cq (n := 8) [0, 1, 2, 3, 4, 5] [6, 7] rfl (by decide +kernel) rfl rfl) (hm_cq (bs := [[(a 0, .inr (1, [.ref (a 1), .ref (a 3), .ref (a 5), .ref (a 7), .ref (a 9), .int (Z 0), .int (Z 1), .int (Z 2), .int (Z 3)]))], hm_row g (a 1) (a 2) 100 t8.1, hm_row g (a 3) (a 4) 100 t8.2.1, hm_row g (a 5) (a 6) 100 t8.2.2.1, hm_row g (a 7) (a 8) 100 t8.2.2.2.1, hm_row g (a 9) (a 10) 101 t8.2.2.2.2, hm_wSc g aSc ScR, hm_wSe g aSe SeR SeA]) (n := 8) [0, 1, 2, 3, 4, 5] [6, 7] rfl (by decide +kernel) rfl rfl) rfl rfl rfl ⟨rfl, rfl, Nat.le_of_ble_eq_true rfl, Nat.le_of_ble_eq_true rfl⟩ rfl hl.1 rfl (Nat.le_of_ble_eq_true rfl) dX1_takeWord_67 ⟨Nat.zero_le _, Nat.zero_le _⟩ (fun H locs X => ?_)
          have X := X.to (ws' := ([[(a 0, .inr (1, [.ref (a 1), .ref (a 3), .ref (a 5), .ref (a 7), .ref (a 9), .int (Z 0), .int (Z 1), .int (Z 2), .int (Z 3)]))], hm_row g (a 1) (a 2) 100 t8.1, hm_row g (a 3) (a 4) 100 t8.2.1, hm_row g (a 5) (a 6) 100 t8.2.2.1, hm_row g (a 7) (a 8) 100 t8.2.2.2.1, hm_row g (a 9) (a 10) 101 t8.2.2.2.2, hm_wSc g aSc ScR, hm_wSe g aSe SeR SeA] : List va_W).flatten) rfl
          exact hl70 (v5 + t5) t4 v7 t8.1 t8.2.1 t8.2.2.1 t8.2.2.2.1 t8.2.2.2.2 hF _ _ X _ (lv_sub hl [2, 3, 4, 5, 0, 1, 6] rfl)
  unfold f_X1_takeWord at hF
  refine lv_iload hx hb dX1_takeWord_0 (lv_at hl 4 rfl) ?_
  refine lv_istore (lv' := [(5, .int x1), (0, .ref (a 0)), (1, .ref (aSc 0)), (2, .ref (aSe 0)), (3, .int x0), (4, .int x1)]) hx hb dX1_takeWord_2 hl (by decide) rfl (fun ls hl => ?_)
  refine lv_iconst (v := 0) hx hb dX1_takeWord_4 (by decide) ?_
  refine lv_istore (lv' := [(6, .int 0), (5, .int x1), (0, .ref (a 0)), (1, .ref (aSc 0)), (2, .ref (aSe 0)), (3, .int x0), (4, .int x1)]) hx hb dX1_takeWord_5 hl (by decide) rfl (fun ls hl => ?_)
  refine lv_iconst (v := 0) hx hb dX1_takeWord_7 (by decide) ?_
  refine lv_istore (lv' := [(7, .int 0), (6, .int 0), (5, .int x1), (0, .ref (a 0)), (1, .ref (aSc 0)), (2, .ref (aSe 0)), (3, .int x0), (4, .int x1)]) hx hb dX1_takeWord_8 hl (by decide) rfl (fun ls hl => ?_)
  exact hl10 hm_fu x1 0 0 (R 0) (R 1) (R 2) (R 3) (R 4) hF _ _ X _ (lv_sub hl [3, 4, 5, 6, 2, 1, 0] rfl)
def f_X1_take_l89 (ScR_0 : hm_SR) (ScR_1 : hm_SR) (SeA_0 : Nat → Int32) : Nat → Int32 → Int32 → hm_SR → hm_SR → hm_SR → hm_SR → hm_SR → Int32 → Int32 → Int32 → Int32 → Option (hm_SR × hm_SR × hm_SR × hm_SR × hm_SR × Int32 × Int32 × Int32 × Int32)
  | 0, _, _, _, _, _, _, _, _, _, _, _ => none
  | k + 1, v3, v4, wR_0, wR_1, wR_2, wR_3, wR_4, wZ_0, wZ_1, wZ_2, wZ_3 =>
  (f_X3_wordCount ScR_1).bind fun t11 =>
  if t11 ≤ v4 then (
  some (wR_0, wR_1, wR_2, wR_3, wR_4, wZ_0, wZ_1, wZ_2, wZ_3))
  else (
  (f_X1_takeWord wR_0 wR_1 wR_2 wR_3 wR_4 wZ_0 ScR_0 ScR_1 SeA_0 v4 v3).bind fun t12 =>
  f_X1_take_l89 ScR_0 ScR_1 SeA_0 k t12.1 (v4 + 1) t12.2.1 t12.2.2.1 t12.2.2.2.1 t12.2.2.2.2.1 t12.2.2.2.2.2 wZ_0 wZ_1 wZ_2 wZ_3)
theorem f_X1_take_l89_s (ScR_0 : hm_SR) (ScR_1 : hm_SR) (SeA_0 : Nat → Int32) (k : Nat) (v3 : Int32) (v4 : Int32) (wR_0 : hm_SR) (wR_1 : hm_SR) (wR_2 : hm_SR) (wR_3 : hm_SR) (wR_4 : hm_SR) (wZ_0 : Int32) (wZ_1 : Int32) (wZ_2 : Int32) (wZ_3 : Int32) : f_X1_take_l89 ScR_0 ScR_1 SeA_0 (k + 1) v3 v4 wR_0 wR_1 wR_2 wR_3 wR_4 wZ_0 wZ_1 wZ_2 wZ_3 =
  (f_X3_wordCount ScR_1).bind fun t11 =>
  if t11 ≤ v4 then (
  some (wR_0, wR_1, wR_2, wR_3, wR_4, wZ_0, wZ_1, wZ_2, wZ_3))
  else (
  (f_X1_takeWord wR_0 wR_1 wR_2 wR_3 wR_4 wZ_0 ScR_0 ScR_1 SeA_0 v4 v3).bind fun t12 =>
  f_X1_take_l89 ScR_0 ScR_1 SeA_0 k t12.1 (v4 + 1) t12.2.1 t12.2.2.1 t12.2.2.2.1 t12.2.2.2.2.1 t12.2.2.2.2.2 wZ_0 wZ_1 wZ_2 wZ_3) := rfl
theorem f_X1_take_l89_z (ScR_0 : hm_SR) (ScR_1 : hm_SR) (SeA_0 : Nat → Int32) (v3 : Int32) (v4 : Int32) (wR_0 : hm_SR) (wR_1 : hm_SR) (wR_2 : hm_SR) (wR_3 : hm_SR) (wR_4 : hm_SR) (wZ_0 : Int32) (wZ_1 : Int32) (wZ_2 : Int32) (wZ_3 : Int32) : f_X1_take_l89 ScR_0 ScR_1 SeA_0 0 v3 v4 wR_0 wR_1 wR_2 wR_3 wR_4 wZ_0 wZ_1 wZ_2 wZ_3 = none := rfl
def f_X1_take (R_0 : hm_SR) (R_1 : hm_SR) (R_2 : hm_SR) (R_3 : hm_SR) (R_4 : hm_SR) (ScR_0 : hm_SR) (ScR_1 : hm_SR) (SeA_0 : Nat → Int32)  : Option (hm_SR × hm_SR × hm_SR × hm_SR × hm_SR × Int32 × Int32 × Int32 × Int32) :=
  (f_X4_get SeA_0 34).bind fun t1 =>
  (f_X4_get SeA_0 35).bind fun t2 =>
  (f_X4_get SeA_0 36).bind fun t3 =>
  (f_X4_get SeA_0 37).bind fun t4 =>
  (f_X2_empty R_0).bind fun t5 =>
  (f_X2_empty R_1).bind fun t6 =>
  (f_X2_empty R_2).bind fun t7 =>
  (f_X2_empty R_3).bind fun t8 =>
  (f_X2_empty R_4).bind fun t9 =>
  (f_X2_add 101 t9 0).bind fun t10 =>
  f_X1_take_l89 ScR_0 ScR_1 SeA_0 hm_fu 0 0 t5 t6 t7 t8 t10.2 t1 t2 t3 t4
abbrev rm_X1_take : Room := { frames := 4, cells := 0, slots := 0, locals := 91 }
set_option maxHeartbeats 4000000 in
set_option maxRecDepth 100000 in
theorem c_X1_take (l : Launch) (g : hm_G) (a : Nat → Nat) (R : Nat → hm_SR) (Z : Nat → Int32) (aSc : Nat → Nat) (ScR : Nat → hm_SR) (aSe : Nat → Nat) (SeR : Nat → hm_SR) (SeA : Nat → Nat → Int32) (q : hm_SR × hm_SR × hm_SR × hm_SR × hm_SR × Int32 × Int32 × Int32 × Int32) (hF : f_X1_take (R 0) (R 1) (R 2) (R 3) (R 4) (ScR 0) (ScR 1) (SeA 0) = some q) : hm_Mv l yX1_take (Cond.code yX1_take cX1_take 5 none :: hm_W) rm_X1_take g [.ref (a 0), .ref (aSc 0), .ref (aSe 0)] ([hm_wLe g a R Z, hm_wSc g aSc ScR, hm_wSe g aSe SeR SeA] : List va_W).flatten ([hm_wLe g a (hm_up (hm_up (hm_up (hm_up (hm_up R 0 q.1) 1 q.2.1) 2 q.2.2.1) 3 q.2.2.2.1) 4 q.2.2.2.2.1) (hm_up (hm_up (hm_up (hm_up Z 0 q.2.2.2.2.2.1) 1 q.2.2.2.2.2.2.1) 2 q.2.2.2.2.2.2.2.1) 3 q.2.2.2.2.2.2.2.2), hm_wSc g aSc ScR, hm_wSe g aSe SeR SeA] : List va_W).flatten := by
  refine hm_ofv [(0, .ref (a 0)), (1, .ref (aSc 0)), (2, .ref (aSe 0))] (by decide) (own := RX1) rfl (Nat.le_of_ble_eq_true rfl) rfl rfl ?_
  intro p e s m args below meth c AA S hr hlk X ls hl
  have hx := S.1
  have hb := S.2.1
  have hown := S.2.2.2.1
  have hts := S.2.2.2.2
  have X := X.to (ws' := ([[(a 0, .inr (1, [.ref (a 1), .ref (a 3), .ref (a 5), .ref (a 7), .ref (a 9), .int (Z 0), .int (Z 1), .int (Z 2), .int (Z 3)]))], hm_row g (a 1) (a 2) 100 (R 0), hm_row g (a 3) (a 4) 100 (R 1), hm_row g (a 5) (a 6) 100 (R 2), hm_row g (a 7) (a 8) 100 (R 3), hm_row g (a 9) (a 10) 101 (R 4), hm_wSc g aSc ScR, hm_wSe g aSe SeR SeA] : List va_W).flatten) rfl
  have hl89 : ∀ (k89 : Nat) (v3 : Int32) (v4 : Int32) (wR_0 : hm_SR) (wR_1 : hm_SR) (wR_2 : hm_SR) (wR_3 : hm_SR) (wR_4 : hm_SR) (wZ_0 : Int32) (wZ_1 : Int32) (wZ_2 : Int32) (wZ_3 : Int32), f_X1_take_l89 (ScR 0) (ScR 1) (SeA 0) k89 v3 v4 wR_0 wR_1 wR_2 wR_3 wR_4 wZ_0 wZ_1 wZ_2 wZ_3 = some q → ∀ (H : Heap) (locs : List Loc), hm_X g AA s H locs ([[(a 0, .inr (1, [.ref (a 1), .ref (a 3), .ref (a 5), .ref (a 7), .ref (a 9), .int wZ_0, .int wZ_1, .int wZ_2, .int wZ_3]))], hm_row g (a 1) (a 2) 100 wR_0, hm_row g (a 3) (a 4) 100 wR_1, hm_row g (a 5) (a 6) 100 wR_2, hm_row g (a 7) (a 8) 100 wR_3, hm_row g (a 9) (a 10) 101 wR_4, hm_wSc g aSc ScR, hm_wSe g aSe SeR SeA] : List va_W).flatten → ∀ ls : Array Slot, lv_has ls 5 [(0, .ref (a 0)), (1, .ref (aSc 0)), (2, .ref (aSe 0)), (3, .int v3), (4, .int v4)] → W p l e rm_X1_take s m args below meth c H locs 0 0 (MQ below (hm_Qv g AA ([hm_wLe g a (hm_up (hm_up (hm_up (hm_up (hm_up R 0 q.1) 1 q.2.1) 2 q.2.2.1) 3 q.2.2.2.1) 4 q.2.2.2.2.1) (hm_up (hm_up (hm_up (hm_up Z 0 q.2.2.2.2.2.1) 1 q.2.2.2.2.2.2.1) 2 q.2.2.2.2.2.2.2.1) 3 q.2.2.2.2.2.2.2.2), hm_wSc g aSc ScR, hm_wSe g aSe SeR SeA] : List va_W).flatten) args s 0 0 AA) (F0 m 89 ls []) := by
    intro k89
    induction k89 with
    | zero =>
      intro v3 v4 wR_0 wR_1 wR_2 wR_3 wR_4 wZ_0 wZ_1 wZ_2 wZ_3 hF
      rw [f_X1_take_l89_z] at hF
      cases hF
    | succ k89 ih89 =>
      intro v3 v4 wR_0 wR_1 wR_2 wR_3 wR_4 wZ_0 wZ_1 wZ_2 wZ_3 hF H locs X ls hl
      rw [f_X1_take_l89_s] at hF
      refine lv_iload hx hb dX1_take_89 (lv_at hl 4 rfl) ?_
      refine lv_aload_n hx hb dX1_take_91 rfl (lv_at hl 1 rfl) ?_
      obtain ⟨t11, ht11, hF⟩ := hm_bd hF
      refine hm_vi (As := []) S X mw_X3_wordCount hw_2_231 (c_X3_wordCount l g aSc ScR t11 ht11) (hm_mid [[(a 0, .inr (1, [.ref (a 1), .ref (a 3), .ref (a 5), .ref (a 7), .ref (a 9), .int wZ_0, .int wZ_1, .int wZ_2, .int wZ_3]))], hm_row g (a 1) (a 2) 100 wR_0, hm_row g (a 3) (a 4) 100 wR_1, hm_row g (a 5) (a 6) 100 wR_2, hm_row g (a 7) (a 8) 100 wR_3, hm_row g (a 9) (a 10) 101 wR_4] [hm_wSe g aSe SeR SeA]) (hm_mid [[(a 0, .inr (1, [.ref (a 1), .ref (a 3), .ref (a 5), .ref (a 7), .ref (a 9), .int wZ_0, .int wZ_1, .int wZ_2, .int wZ_3]))], hm_row g (a 1) (a 2) 100 wR_0, hm_row g (a 3) (a 4) 100 wR_1, hm_row g (a 5) (a 6) 100 wR_2, hm_row g (a 7) (a 8) 100 wR_3, hm_row g (a 9) (a 10) 101 wR_4] [hm_wSe g aSe SeR SeA] (b := hm_wSc g aSc ScR)) rfl rfl rfl ⟨rfl, rfl, Nat.le_of_ble_eq_true rfl, Nat.le_of_ble_eq_true rfl⟩ rfl hl.1 rfl (Nat.le_of_ble_eq_true rfl) dX1_take_92 ⟨Nat.zero_le _, Nat.zero_le _⟩ (fun H locs X => ?_)
      have X := X.to (ws' := ([[(a 0, .inr (1, [.ref (a 1), .ref (a 3), .ref (a 5), .ref (a 7), .ref (a 9), .int wZ_0, .int wZ_1, .int wZ_2, .int wZ_3]))], hm_row g (a 1) (a 2) 100 wR_0, hm_row g (a 3) (a 4) 100 wR_1, hm_row g (a 5) (a 6) 100 wR_2, hm_row g (a 7) (a 8) 100 wR_3, hm_row g (a 9) (a 10) 101 wR_4, hm_wSc g aSc ScR, hm_wSe g aSe SeR SeA] : List va_W).flatten) rfl
      refine lv_icmp_ge (tgt := 114) hx hb dX1_take_95 (by decide) (fun c95 => ?_) (fun c95 => ?_)
      · have hF := hm_if hF c95
        obtain rfl := Option.some.inj hF
        exact hm_rv S hr hlk X rfl dX1_take_114
      · have hF := hm_nf hF c95
        refine lv_aload_n hx hb dX1_take_98 rfl (lv_at hl 0 rfl) ?_
        refine lv_aload_n hx hb dX1_take_99 rfl (lv_at hl 1 rfl) ?_
        refine lv_aload_n hx hb dX1_take_100 rfl (lv_at hl 2 rfl) ?_
        refine lv_iload hx hb dX1_take_101 (lv_at hl 4 rfl) ?_
        refine lv_iload_n hx hb dX1_take_103 rfl (lv_at hl 3 rfl) ?_
        obtain ⟨t12, ht12, hF⟩ := hm_bd hF
        refine hm_vi (As := [.ref (aSc 0), .ref (aSe 0), .int v4, .int v3]) S X mw_X1_takeWord hw_2_232 (c_X1_takeWord l g a (hm_up (hm_up (hm_up (hm_up (hm_up R 0 wR_0) 1 wR_1) 2 wR_2) 3 wR_3) 4 wR_4) (hm_up (hm_up (hm_up (hm_up Z 0 wZ_0) 1 wZ_1) 2 wZ_2) 3 wZ_3) aSc ScR aSe SeR SeA v4 v3 t12 ht12) (hm_cq (n := 8) [0, 1, 2, 3, 4, 5, 6, 7] [] rfl (by decide +kernel) rfl rfl) (hm_cq (bs := [[(a 0, .inr (1, [.ref (a 1), .ref (a 3), .ref (a 5), .ref (a 7), .ref (a 9), .int wZ_0, .int wZ_1, .int wZ_2, .int wZ_3]))], hm_row g (a 1) (a 2) 100 t12.2.1, hm_row g (a 3) (a 4) 100 t12.2.2.1, hm_row g (a 5) (a 6) 100 t12.2.2.2.1, hm_row g (a 7) (a 8) 100 t12.2.2.2.2.1, hm_row g (a 9) (a 10) 101 t12.2.2.2.2.2, hm_wSc g aSc ScR, hm_wSe g aSe SeR SeA]) (n := 8) [0, 1, 2, 3, 4, 5, 6, 7] [] rfl (by decide +kernel) rfl rfl) rfl rfl rfl ⟨rfl, rfl, Nat.le_of_ble_eq_true rfl, Nat.le_of_ble_eq_true rfl⟩ rfl hl.1 rfl (Nat.le_of_ble_eq_true rfl) dX1_take_104 ⟨Nat.zero_le _, Nat.zero_le _⟩ (fun H locs X => ?_)
        have X := X.to (ws' := ([[(a 0, .inr (1, [.ref (a 1), .ref (a 3), .ref (a 5), .ref (a 7), .ref (a 9), .int wZ_0, .int wZ_1, .int wZ_2, .int wZ_3]))], hm_row g (a 1) (a 2) 100 t12.2.1, hm_row g (a 3) (a 4) 100 t12.2.2.1, hm_row g (a 5) (a 6) 100 t12.2.2.2.1, hm_row g (a 7) (a 8) 100 t12.2.2.2.2.1, hm_row g (a 9) (a 10) 101 t12.2.2.2.2.2, hm_wSc g aSc ScR, hm_wSe g aSe SeR SeA] : List va_W).flatten) rfl
        refine lv_istore_n (lv' := [(3, .int t12.1), (0, .ref (a 0)), (1, .ref (aSc 0)), (2, .ref (aSe 0)), (4, .int v4)]) hx hb dX1_take_107 rfl hl (by decide) rfl (fun ls hl => ?_)
        refine lv_iinc (v := (v4 + 1)) (lv' := [(4, .int (v4 + 1)), (3, .int t12.1), (0, .ref (a 0)), (1, .ref (aSc 0)), (2, .ref (aSe 0))]) hx hb dX1_take_108 hl (k := 4) rfl rfl (by decide) rfl (fun ls hl => ?_)
        refine lv_goto (tgt := 89) hx hb dX1_take_111 (by decide) ?_
        exact ih89 t12.1 (v4 + 1) t12.2.1 t12.2.2.1 t12.2.2.2.1 t12.2.2.2.2.1 t12.2.2.2.2.2 wZ_0 wZ_1 wZ_2 wZ_3 hF _ _ X _ (lv_sub hl [2, 3, 4, 1, 0] rfl)
  unfold f_X1_take at hF
  refine lv_aload_n hx hb dX1_take_0 rfl (lv_at hl 0 rfl) ?_
  refine lv_aload_n hx hb dX1_take_1 rfl (lv_at hl 2 rfl) ?_
  refine lv_bipush (v := 34) hx hb dX1_take_2 (by decide) ?_
  obtain ⟨t1, ht1, hF⟩ := hm_bd hF
  refine hm_vi (As := [.int 34]) S X mw_X4_get hw_2_228 (c_X4_get l g aSe SeR SeA 34 t1 ht1) (hm_mid [[(a 0, .inr (1, [.ref (a 1), .ref (a 3), .ref (a 5), .ref (a 7), .ref (a 9), .int (Z 0), .int (Z 1), .int (Z 2), .int (Z 3)]))], hm_row g (a 1) (a 2) 100 (R 0), hm_row g (a 3) (a 4) 100 (R 1), hm_row g (a 5) (a 6) 100 (R 2), hm_row g (a 7) (a 8) 100 (R 3), hm_row g (a 9) (a 10) 101 (R 4), hm_wSc g aSc ScR] []) (hm_mid [[(a 0, .inr (1, [.ref (a 1), .ref (a 3), .ref (a 5), .ref (a 7), .ref (a 9), .int (Z 0), .int (Z 1), .int (Z 2), .int (Z 3)]))], hm_row g (a 1) (a 2) 100 (R 0), hm_row g (a 3) (a 4) 100 (R 1), hm_row g (a 5) (a 6) 100 (R 2), hm_row g (a 7) (a 8) 100 (R 3), hm_row g (a 9) (a 10) 101 (R 4), hm_wSc g aSc ScR] [] (b := hm_wSe g aSe SeR SeA)) rfl rfl rfl ⟨rfl, rfl, Nat.le_of_ble_eq_true rfl, Nat.le_of_ble_eq_true rfl⟩ rfl hl.1 rfl (Nat.le_of_ble_eq_true rfl) dX1_take_4 ⟨Nat.zero_le _, Nat.zero_le _⟩ (fun H locs X => ?_)
  have X := X.to (ws' := ([[(a 0, .inr (1, [.ref (a 1), .ref (a 3), .ref (a 5), .ref (a 7), .ref (a 9), .int (Z 0), .int (Z 1), .int (Z 2), .int (Z 3)]))], hm_row g (a 1) (a 2) 100 (R 0), hm_row g (a 3) (a 4) 100 (R 1), hm_row g (a 5) (a 6) 100 (R 2), hm_row g (a 7) (a 8) 100 (R 3), hm_row g (a 9) (a 10) 101 (R 4), hm_wSc g aSc ScR, hm_wSe g aSe SeR SeA] : List va_W).flatten) rfl
  refine hm_put S X hf_X1_38 hg_X1_gap 0 rfl rfl rfl (Nat.le_of_ble_eq_true rfl) dX1_take_7 (fun H locs X => ?_)
  have X := X.to (ws' := ([[(a 0, .inr (1, [.ref (a 1), .ref (a 3), .ref (a 5), .ref (a 7), .ref (a 9), .int t1, .int (Z 1), .int (Z 2), .int (Z 3)]))], hm_row g (a 1) (a 2) 100 (R 0), hm_row g (a 3) (a 4) 100 (R 1), hm_row g (a 5) (a 6) 100 (R 2), hm_row g (a 7) (a 8) 100 (R 3), hm_row g (a 9) (a 10) 101 (R 4), hm_wSc g aSc ScR, hm_wSe g aSe SeR SeA] : List va_W).flatten) rfl
  refine lv_aload_n hx hb dX1_take_10 rfl (lv_at hl 0 rfl) ?_
  refine lv_aload_n hx hb dX1_take_11 rfl (lv_at hl 2 rfl) ?_
  refine lv_bipush (v := 35) hx hb dX1_take_12 (by decide) ?_
  obtain ⟨t2, ht2, hF⟩ := hm_bd hF
  refine hm_vi (As := [.int 35]) S X mw_X4_get hw_2_228 (c_X4_get l g aSe SeR SeA 35 t2 ht2) (hm_mid [[(a 0, .inr (1, [.ref (a 1), .ref (a 3), .ref (a 5), .ref (a 7), .ref (a 9), .int t1, .int (Z 1), .int (Z 2), .int (Z 3)]))], hm_row g (a 1) (a 2) 100 (R 0), hm_row g (a 3) (a 4) 100 (R 1), hm_row g (a 5) (a 6) 100 (R 2), hm_row g (a 7) (a 8) 100 (R 3), hm_row g (a 9) (a 10) 101 (R 4), hm_wSc g aSc ScR] []) (hm_mid [[(a 0, .inr (1, [.ref (a 1), .ref (a 3), .ref (a 5), .ref (a 7), .ref (a 9), .int t1, .int (Z 1), .int (Z 2), .int (Z 3)]))], hm_row g (a 1) (a 2) 100 (R 0), hm_row g (a 3) (a 4) 100 (R 1), hm_row g (a 5) (a 6) 100 (R 2), hm_row g (a 7) (a 8) 100 (R 3), hm_row g (a 9) (a 10) 101 (R 4), hm_wSc g aSc ScR] [] (b := hm_wSe g aSe SeR SeA)) rfl rfl rfl ⟨rfl, rfl, Nat.le_of_ble_eq_true rfl, Nat.le_of_ble_eq_true rfl⟩ rfl hl.1 rfl (Nat.le_of_ble_eq_true rfl) dX1_take_14 ⟨Nat.zero_le _, Nat.zero_le _⟩ (fun H locs X => ?_)
  have X := X.to (ws' := ([[(a 0, .inr (1, [.ref (a 1), .ref (a 3), .ref (a 5), .ref (a 7), .ref (a 9), .int t1, .int (Z 1), .int (Z 2), .int (Z 3)]))], hm_row g (a 1) (a 2) 100 (R 0), hm_row g (a 3) (a 4) 100 (R 1), hm_row g (a 5) (a 6) 100 (R 2), hm_row g (a 7) (a 8) 100 (R 3), hm_row g (a 9) (a 10) 101 (R 4), hm_wSc g aSc ScR, hm_wSe g aSe SeR SeA] : List va_W).flatten) rfl
  refine hm_put S X hf_X1_42 hg_X1_measure 0 rfl rfl rfl (Nat.le_of_ble_eq_true rfl) dX1_take_17 (fun H locs X => ?_)
  have X := X.to (ws' := ([[(a 0, .inr (1, [.ref (a 1), .ref (a 3), .ref (a 5), .ref (a 7), .ref (a 9), .int t1, .int t2, .int (Z 2), .int (Z 3)]))], hm_row g (a 1) (a 2) 100 (R 0), hm_row g (a 3) (a 4) 100 (R 1), hm_row g (a 5) (a 6) 100 (R 2), hm_row g (a 7) (a 8) 100 (R 3), hm_row g (a 9) (a 10) 101 (R 4), hm_wSc g aSc ScR, hm_wSe g aSe SeR SeA] : List va_W).flatten) rfl
  refine lv_aload_n hx hb dX1_take_20 rfl (lv_at hl 0 rfl) ?_
  refine lv_aload_n hx hb dX1_take_21 rfl (lv_at hl 2 rfl) ?_
  refine lv_bipush (v := 36) hx hb dX1_take_22 (by decide) ?_
  obtain ⟨t3, ht3, hF⟩ := hm_bd hF
  refine hm_vi (As := [.int 36]) S X mw_X4_get hw_2_228 (c_X4_get l g aSe SeR SeA 36 t3 ht3) (hm_mid [[(a 0, .inr (1, [.ref (a 1), .ref (a 3), .ref (a 5), .ref (a 7), .ref (a 9), .int t1, .int t2, .int (Z 2), .int (Z 3)]))], hm_row g (a 1) (a 2) 100 (R 0), hm_row g (a 3) (a 4) 100 (R 1), hm_row g (a 5) (a 6) 100 (R 2), hm_row g (a 7) (a 8) 100 (R 3), hm_row g (a 9) (a 10) 101 (R 4), hm_wSc g aSc ScR] []) (hm_mid [[(a 0, .inr (1, [.ref (a 1), .ref (a 3), .ref (a 5), .ref (a 7), .ref (a 9), .int t1, .int t2, .int (Z 2), .int (Z 3)]))], hm_row g (a 1) (a 2) 100 (R 0), hm_row g (a 3) (a 4) 100 (R 1), hm_row g (a 5) (a 6) 100 (R 2), hm_row g (a 7) (a 8) 100 (R 3), hm_row g (a 9) (a 10) 101 (R 4), hm_wSc g aSc ScR] [] (b := hm_wSe g aSe SeR SeA)) rfl rfl rfl ⟨rfl, rfl, Nat.le_of_ble_eq_true rfl, Nat.le_of_ble_eq_true rfl⟩ rfl hl.1 rfl (Nat.le_of_ble_eq_true rfl) dX1_take_24 ⟨Nat.zero_le _, Nat.zero_le _⟩ (fun H locs X => ?_)
  have X := X.to (ws' := ([[(a 0, .inr (1, [.ref (a 1), .ref (a 3), .ref (a 5), .ref (a 7), .ref (a 9), .int t1, .int t2, .int (Z 2), .int (Z 3)]))], hm_row g (a 1) (a 2) 100 (R 0), hm_row g (a 3) (a 4) 100 (R 1), hm_row g (a 5) (a 6) 100 (R 2), hm_row g (a 7) (a 8) 100 (R 3), hm_row g (a 9) (a 10) 101 (R 4), hm_wSc g aSc ScR, hm_wSe g aSe SeR SeA] : List va_W).flatten) rfl
  refine hm_put S X hf_X1_45 hg_X1_parted 0 rfl rfl rfl (Nat.le_of_ble_eq_true rfl) dX1_take_27 (fun H locs X => ?_)
  have X := X.to (ws' := ([[(a 0, .inr (1, [.ref (a 1), .ref (a 3), .ref (a 5), .ref (a 7), .ref (a 9), .int t1, .int t2, .int t3, .int (Z 3)]))], hm_row g (a 1) (a 2) 100 (R 0), hm_row g (a 3) (a 4) 100 (R 1), hm_row g (a 5) (a 6) 100 (R 2), hm_row g (a 7) (a 8) 100 (R 3), hm_row g (a 9) (a 10) 101 (R 4), hm_wSc g aSc ScR, hm_wSe g aSe SeR SeA] : List va_W).flatten) rfl
  refine lv_aload_n hx hb dX1_take_30 rfl (lv_at hl 0 rfl) ?_
  refine lv_aload_n hx hb dX1_take_31 rfl (lv_at hl 2 rfl) ?_
  refine lv_bipush (v := 37) hx hb dX1_take_32 (by decide) ?_
  obtain ⟨t4, ht4, hF⟩ := hm_bd hF
  refine hm_vi (As := [.int 37]) S X mw_X4_get hw_2_228 (c_X4_get l g aSe SeR SeA 37 t4 ht4) (hm_mid [[(a 0, .inr (1, [.ref (a 1), .ref (a 3), .ref (a 5), .ref (a 7), .ref (a 9), .int t1, .int t2, .int t3, .int (Z 3)]))], hm_row g (a 1) (a 2) 100 (R 0), hm_row g (a 3) (a 4) 100 (R 1), hm_row g (a 5) (a 6) 100 (R 2), hm_row g (a 7) (a 8) 100 (R 3), hm_row g (a 9) (a 10) 101 (R 4), hm_wSc g aSc ScR] []) (hm_mid [[(a 0, .inr (1, [.ref (a 1), .ref (a 3), .ref (a 5), .ref (a 7), .ref (a 9), .int t1, .int t2, .int t3, .int (Z 3)]))], hm_row g (a 1) (a 2) 100 (R 0), hm_row g (a 3) (a 4) 100 (R 1), hm_row g (a 5) (a 6) 100 (R 2), hm_row g (a 7) (a 8) 100 (R 3), hm_row g (a 9) (a 10) 101 (R 4), hm_wSc g aSc ScR] [] (b := hm_wSe g aSe SeR SeA)) rfl rfl rfl ⟨rfl, rfl, Nat.le_of_ble_eq_true rfl, Nat.le_of_ble_eq_true rfl⟩ rfl hl.1 rfl (Nat.le_of_ble_eq_true rfl) dX1_take_34 ⟨Nat.zero_le _, Nat.zero_le _⟩ (fun H locs X => ?_)
  have X := X.to (ws' := ([[(a 0, .inr (1, [.ref (a 1), .ref (a 3), .ref (a 5), .ref (a 7), .ref (a 9), .int t1, .int t2, .int t3, .int (Z 3)]))], hm_row g (a 1) (a 2) 100 (R 0), hm_row g (a 3) (a 4) 100 (R 1), hm_row g (a 5) (a 6) 100 (R 2), hm_row g (a 7) (a 8) 100 (R 3), hm_row g (a 9) (a 10) 101 (R 4), hm_wSc g aSc ScR, hm_wSe g aSe SeR SeA] : List va_W).flatten) rfl
  refine hm_put S X hf_X1_48 hg_X1_again 0 rfl rfl rfl (Nat.le_of_ble_eq_true rfl) dX1_take_37 (fun H locs X => ?_)
  have X := X.to (ws' := ([[(a 0, .inr (1, [.ref (a 1), .ref (a 3), .ref (a 5), .ref (a 7), .ref (a 9), .int t1, .int t2, .int t3, .int t4]))], hm_row g (a 1) (a 2) 100 (R 0), hm_row g (a 3) (a 4) 100 (R 1), hm_row g (a 5) (a 6) 100 (R 2), hm_row g (a 7) (a 8) 100 (R 3), hm_row g (a 9) (a 10) 101 (R 4), hm_wSc g aSc ScR, hm_wSe g aSe SeR SeA] : List va_W).flatten) rfl
  refine lv_aload_n hx hb dX1_take_40 rfl (lv_at hl 0 rfl) ?_
  refine hm_get S X hf_X1_14 0 rfl rfl dX1_take_41 ?_
  obtain ⟨t5, ht5, hF⟩ := hm_bd hF
  refine hm_vv (As := []) S X mw_X2_empty hw_2_229 (c_X2_empty l g (a 1) (a 2) 100 (R 0) t5 ht5) (hm_mid [[(a 0, .inr (1, [.ref (a 1), .ref (a 3), .ref (a 5), .ref (a 7), .ref (a 9), .int t1, .int t2, .int t3, .int t4]))]] [hm_row g (a 3) (a 4) 100 (R 1), hm_row g (a 5) (a 6) 100 (R 2), hm_row g (a 7) (a 8) 100 (R 3), hm_row g (a 9) (a 10) 101 (R 4), hm_wSc g aSc ScR, hm_wSe g aSe SeR SeA]) (hm_mid [[(a 0, .inr (1, [.ref (a 1), .ref (a 3), .ref (a 5), .ref (a 7), .ref (a 9), .int t1, .int t2, .int t3, .int t4]))]] [hm_row g (a 3) (a 4) 100 (R 1), hm_row g (a 5) (a 6) 100 (R 2), hm_row g (a 7) (a 8) 100 (R 3), hm_row g (a 9) (a 10) 101 (R 4), hm_wSc g aSc ScR, hm_wSe g aSe SeR SeA] (b := hm_row g (a 1) (a 2) 100 t5)) rfl rfl rfl ⟨rfl, rfl, Nat.le_of_ble_eq_true rfl, Nat.le_of_ble_eq_true rfl⟩ rfl hl.1 rfl (Nat.le_of_ble_eq_true rfl) dX1_take_44 ⟨Nat.zero_le _, Nat.zero_le _⟩ (fun H locs X => ?_)
  have X := X.to (ws' := ([[(a 0, .inr (1, [.ref (a 1), .ref (a 3), .ref (a 5), .ref (a 7), .ref (a 9), .int t1, .int t2, .int t3, .int t4]))], hm_row g (a 1) (a 2) 100 t5, hm_row g (a 3) (a 4) 100 (R 1), hm_row g (a 5) (a 6) 100 (R 2), hm_row g (a 7) (a 8) 100 (R 3), hm_row g (a 9) (a 10) 101 (R 4), hm_wSc g aSc ScR, hm_wSe g aSe SeR SeA] : List va_W).flatten) rfl
  refine lv_aload_n hx hb dX1_take_47 rfl (lv_at hl 0 rfl) ?_
  refine hm_get S X hf_X1_20 0 rfl rfl dX1_take_48 ?_
  obtain ⟨t6, ht6, hF⟩ := hm_bd hF
  refine hm_vv (As := []) S X mw_X2_empty hw_2_229 (c_X2_empty l g (a 3) (a 4) 100 (R 1) t6 ht6) (hm_mid [[(a 0, .inr (1, [.ref (a 1), .ref (a 3), .ref (a 5), .ref (a 7), .ref (a 9), .int t1, .int t2, .int t3, .int t4]))], hm_row g (a 1) (a 2) 100 t5] [hm_row g (a 5) (a 6) 100 (R 2), hm_row g (a 7) (a 8) 100 (R 3), hm_row g (a 9) (a 10) 101 (R 4), hm_wSc g aSc ScR, hm_wSe g aSe SeR SeA]) (hm_mid [[(a 0, .inr (1, [.ref (a 1), .ref (a 3), .ref (a 5), .ref (a 7), .ref (a 9), .int t1, .int t2, .int t3, .int t4]))], hm_row g (a 1) (a 2) 100 t5] [hm_row g (a 5) (a 6) 100 (R 2), hm_row g (a 7) (a 8) 100 (R 3), hm_row g (a 9) (a 10) 101 (R 4), hm_wSc g aSc ScR, hm_wSe g aSe SeR SeA] (b := hm_row g (a 3) (a 4) 100 t6)) rfl rfl rfl ⟨rfl, rfl, Nat.le_of_ble_eq_true rfl, Nat.le_of_ble_eq_true rfl⟩ rfl hl.1 rfl (Nat.le_of_ble_eq_true rfl) dX1_take_51 ⟨Nat.zero_le _, Nat.zero_le _⟩ (fun H locs X => ?_)
  have X := X.to (ws' := ([[(a 0, .inr (1, [.ref (a 1), .ref (a 3), .ref (a 5), .ref (a 7), .ref (a 9), .int t1, .int t2, .int t3, .int t4]))], hm_row g (a 1) (a 2) 100 t5, hm_row g (a 3) (a 4) 100 t6, hm_row g (a 5) (a 6) 100 (R 2), hm_row g (a 7) (a 8) 100 (R 3), hm_row g (a 9) (a 10) 101 (R 4), hm_wSc g aSc ScR, hm_wSe g aSe SeR SeA] : List va_W).flatten) rfl
  refine lv_aload_n hx hb dX1_take_54 rfl (lv_at hl 0 rfl) ?_
  refine hm_get S X hf_X1_23 0 rfl rfl dX1_take_55 ?_
  obtain ⟨t7, ht7, hF⟩ := hm_bd hF
  refine hm_vv (As := []) S X mw_X2_empty hw_2_229 (c_X2_empty l g (a 5) (a 6) 100 (R 2) t7 ht7) (hm_mid [[(a 0, .inr (1, [.ref (a 1), .ref (a 3), .ref (a 5), .ref (a 7), .ref (a 9), .int t1, .int t2, .int t3, .int t4]))], hm_row g (a 1) (a 2) 100 t5, hm_row g (a 3) (a 4) 100 t6] [hm_row g (a 7) (a 8) 100 (R 3), hm_row g (a 9) (a 10) 101 (R 4), hm_wSc g aSc ScR, hm_wSe g aSe SeR SeA]) (hm_mid [[(a 0, .inr (1, [.ref (a 1), .ref (a 3), .ref (a 5), .ref (a 7), .ref (a 9), .int t1, .int t2, .int t3, .int t4]))], hm_row g (a 1) (a 2) 100 t5, hm_row g (a 3) (a 4) 100 t6] [hm_row g (a 7) (a 8) 100 (R 3), hm_row g (a 9) (a 10) 101 (R 4), hm_wSc g aSc ScR, hm_wSe g aSe SeR SeA] (b := hm_row g (a 5) (a 6) 100 t7)) rfl rfl rfl ⟨rfl, rfl, Nat.le_of_ble_eq_true rfl, Nat.le_of_ble_eq_true rfl⟩ rfl hl.1 rfl (Nat.le_of_ble_eq_true rfl) dX1_take_58 ⟨Nat.zero_le _, Nat.zero_le _⟩ (fun H locs X => ?_)
  have X := X.to (ws' := ([[(a 0, .inr (1, [.ref (a 1), .ref (a 3), .ref (a 5), .ref (a 7), .ref (a 9), .int t1, .int t2, .int t3, .int t4]))], hm_row g (a 1) (a 2) 100 t5, hm_row g (a 3) (a 4) 100 t6, hm_row g (a 5) (a 6) 100 t7, hm_row g (a 7) (a 8) 100 (R 3), hm_row g (a 9) (a 10) 101 (R 4), hm_wSc g aSc ScR, hm_wSe g aSe SeR SeA] : List va_W).flatten) rfl
  refine lv_aload_n hx hb dX1_take_61 rfl (lv_at hl 0 rfl) ?_
  refine hm_get S X hf_X1_26 0 rfl rfl dX1_take_62 ?_
  obtain ⟨t8, ht8, hF⟩ := hm_bd hF
  refine hm_vv (As := []) S X mw_X2_empty hw_2_229 (c_X2_empty l g (a 7) (a 8) 100 (R 3) t8 ht8) (hm_mid [[(a 0, .inr (1, [.ref (a 1), .ref (a 3), .ref (a 5), .ref (a 7), .ref (a 9), .int t1, .int t2, .int t3, .int t4]))], hm_row g (a 1) (a 2) 100 t5, hm_row g (a 3) (a 4) 100 t6, hm_row g (a 5) (a 6) 100 t7] [hm_row g (a 9) (a 10) 101 (R 4), hm_wSc g aSc ScR, hm_wSe g aSe SeR SeA]) (hm_mid [[(a 0, .inr (1, [.ref (a 1), .ref (a 3), .ref (a 5), .ref (a 7), .ref (a 9), .int t1, .int t2, .int t3, .int t4]))], hm_row g (a 1) (a 2) 100 t5, hm_row g (a 3) (a 4) 100 t6, hm_row g (a 5) (a 6) 100 t7] [hm_row g (a 9) (a 10) 101 (R 4), hm_wSc g aSc ScR, hm_wSe g aSe SeR SeA] (b := hm_row g (a 7) (a 8) 100 t8)) rfl rfl rfl ⟨rfl, rfl, Nat.le_of_ble_eq_true rfl, Nat.le_of_ble_eq_true rfl⟩ rfl hl.1 rfl (Nat.le_of_ble_eq_true rfl) dX1_take_65 ⟨Nat.zero_le _, Nat.zero_le _⟩ (fun H locs X => ?_)
  have X := X.to (ws' := ([[(a 0, .inr (1, [.ref (a 1), .ref (a 3), .ref (a 5), .ref (a 7), .ref (a 9), .int t1, .int t2, .int t3, .int t4]))], hm_row g (a 1) (a 2) 100 t5, hm_row g (a 3) (a 4) 100 t6, hm_row g (a 5) (a 6) 100 t7, hm_row g (a 7) (a 8) 100 t8, hm_row g (a 9) (a 10) 101 (R 4), hm_wSc g aSc ScR, hm_wSe g aSe SeR SeA] : List va_W).flatten) rfl
  refine lv_aload_n hx hb dX1_take_68 rfl (lv_at hl 0 rfl) ?_
  refine hm_get S X hf_X1_29 0 rfl rfl dX1_take_69 ?_
  obtain ⟨t9, ht9, hF⟩ := hm_bd hF
  refine hm_vv (As := []) S X mw_X2_empty hw_2_229 (c_X2_empty l g (a 9) (a 10) 101 (R 4) t9 ht9) (hm_mid [[(a 0, .inr (1, [.ref (a 1), .ref (a 3), .ref (a 5), .ref (a 7), .ref (a 9), .int t1, .int t2, .int t3, .int t4]))], hm_row g (a 1) (a 2) 100 t5, hm_row g (a 3) (a 4) 100 t6, hm_row g (a 5) (a 6) 100 t7, hm_row g (a 7) (a 8) 100 t8] [hm_wSc g aSc ScR, hm_wSe g aSe SeR SeA]) (hm_mid [[(a 0, .inr (1, [.ref (a 1), .ref (a 3), .ref (a 5), .ref (a 7), .ref (a 9), .int t1, .int t2, .int t3, .int t4]))], hm_row g (a 1) (a 2) 100 t5, hm_row g (a 3) (a 4) 100 t6, hm_row g (a 5) (a 6) 100 t7, hm_row g (a 7) (a 8) 100 t8] [hm_wSc g aSc ScR, hm_wSe g aSe SeR SeA] (b := hm_row g (a 9) (a 10) 101 t9)) rfl rfl rfl ⟨rfl, rfl, Nat.le_of_ble_eq_true rfl, Nat.le_of_ble_eq_true rfl⟩ rfl hl.1 rfl (Nat.le_of_ble_eq_true rfl) dX1_take_72 ⟨Nat.zero_le _, Nat.zero_le _⟩ (fun H locs X => ?_)
  have X := X.to (ws' := ([[(a 0, .inr (1, [.ref (a 1), .ref (a 3), .ref (a 5), .ref (a 7), .ref (a 9), .int t1, .int t2, .int t3, .int t4]))], hm_row g (a 1) (a 2) 100 t5, hm_row g (a 3) (a 4) 100 t6, hm_row g (a 5) (a 6) 100 t7, hm_row g (a 7) (a 8) 100 t8, hm_row g (a 9) (a 10) 101 t9, hm_wSc g aSc ScR, hm_wSe g aSe SeR SeA] : List va_W).flatten) rfl
  refine lv_aload_n hx hb dX1_take_75 rfl (lv_at hl 0 rfl) ?_
  refine hm_get S X hf_X1_29 0 rfl rfl dX1_take_76 ?_
  refine lv_iconst (v := 0) hx hb dX1_take_79 (by decide) ?_
  obtain ⟨t10, ht10, hF⟩ := hm_bd hF
  refine hm_vi (As := [.int 0]) S X mw_X2_add hw_2_230 (c_X2_add l g (a 9) (a 10) 101 t9 0 t10 ht10) (hm_mid [[(a 0, .inr (1, [.ref (a 1), .ref (a 3), .ref (a 5), .ref (a 7), .ref (a 9), .int t1, .int t2, .int t3, .int t4]))], hm_row g (a 1) (a 2) 100 t5, hm_row g (a 3) (a 4) 100 t6, hm_row g (a 5) (a 6) 100 t7, hm_row g (a 7) (a 8) 100 t8] [hm_wSc g aSc ScR, hm_wSe g aSe SeR SeA]) (hm_mid [[(a 0, .inr (1, [.ref (a 1), .ref (a 3), .ref (a 5), .ref (a 7), .ref (a 9), .int t1, .int t2, .int t3, .int t4]))], hm_row g (a 1) (a 2) 100 t5, hm_row g (a 3) (a 4) 100 t6, hm_row g (a 5) (a 6) 100 t7, hm_row g (a 7) (a 8) 100 t8] [hm_wSc g aSc ScR, hm_wSe g aSe SeR SeA] (b := hm_row g (a 9) (a 10) 101 t10.2)) rfl rfl rfl ⟨rfl, rfl, Nat.le_of_ble_eq_true rfl, Nat.le_of_ble_eq_true rfl⟩ rfl hl.1 rfl (Nat.le_of_ble_eq_true rfl) dX1_take_80 ⟨Nat.zero_le _, Nat.zero_le _⟩ (fun H locs X => ?_)
  have X := X.to (ws' := ([[(a 0, .inr (1, [.ref (a 1), .ref (a 3), .ref (a 5), .ref (a 7), .ref (a 9), .int t1, .int t2, .int t3, .int t4]))], hm_row g (a 1) (a 2) 100 t5, hm_row g (a 3) (a 4) 100 t6, hm_row g (a 5) (a 6) 100 t7, hm_row g (a 7) (a 8) 100 t8, hm_row g (a 9) (a 10) 101 t10.2, hm_wSc g aSc ScR, hm_wSe g aSe SeR SeA] : List va_W).flatten) rfl
  refine lv_pop hx hb dX1_take_83 rfl ?_
  refine lv_iconst (v := 0) hx hb dX1_take_84 (by decide) ?_
  refine lv_istore_n (lv' := [(3, .int 0), (0, .ref (a 0)), (1, .ref (aSc 0)), (2, .ref (aSe 0))]) hx hb dX1_take_85 rfl hl (by decide) rfl (fun ls hl => ?_)
  refine lv_iconst (v := 0) hx hb dX1_take_86 (by decide) ?_
  refine lv_istore (lv' := [(4, .int 0), (3, .int 0), (0, .ref (a 0)), (1, .ref (aSc 0)), (2, .ref (aSe 0))]) hx hb dX1_take_87 hl (by decide) rfl (fun ls hl => ?_)
  exact hl89 hm_fu 0 0 t5 t6 t7 t8 t10.2 t1 t2 t3 t4 hF _ _ X _ (lv_sub hl [2, 3, 4, 1, 0] rfl)
def f_X1_gap (Z_0 : Int32)  : Option (Int32) :=
  some (Z_0)
abbrev rm_X1_gap : Room := { frames := 0, cells := 0, slots := 0, locals := 0 }
set_option maxHeartbeats 4000000 in
set_option maxRecDepth 100000 in
theorem c_X1_gap (l : Launch) (g : hm_G) (a : Nat → Nat) (R : Nat → hm_SR) (Z : Nat → Int32) (q : Int32) (hF : f_X1_gap (Z 0) = some q) : hm_Mi l yX1_gap (Cond.code yX1_gap cX1_gap 1 (some .int) :: hm_W) rm_X1_gap g [.ref (a 0)] ([hm_wLe g a R Z] : List va_W).flatten ([hm_wLe g a R Z] : List va_W).flatten q := by
  refine hm_ofi [(0, .ref (a 0))] (by decide) (own := RX1) rfl (Nat.le_of_ble_eq_true rfl) rfl rfl ?_
  intro p e s m args below meth c AA S hr hlk X ls hl
  have hx := S.1
  have hb := S.2.1
  have hown := S.2.2.2.1
  have hts := S.2.2.2.2
  have X := X.to (ws' := ([[(a 0, .inr (1, [.ref (a 1), .ref (a 3), .ref (a 5), .ref (a 7), .ref (a 9), .int (Z 0), .int (Z 1), .int (Z 2), .int (Z 3)]))], hm_row g (a 1) (a 2) 100 (R 0), hm_row g (a 3) (a 4) 100 (R 1), hm_row g (a 5) (a 6) 100 (R 2), hm_row g (a 7) (a 8) 100 (R 3), hm_row g (a 9) (a 10) 101 (R 4)] : List va_W).flatten) rfl
  unfold f_X1_gap at hF
  refine lv_aload_n hx hb dX1_gap_0 rfl (lv_at hl 0 rfl) ?_
  refine hm_get S X hf_X1_38 0 rfl rfl dX1_gap_1 ?_
  obtain rfl := Option.some.inj hF
  exact hm_ri S hr hlk X rfl rfl dX1_gap_4
def f_X1_isSlashAt (R_2 : hm_SR) (x0 : Int32)  : Option (Int32) :=
  (f_X2_get 100 R_2 x0).bind fun t1 =>
  if t1 = 1 then (
  some (1))
  else (
  some (0))
abbrev rm_X1_isSlashAt : Room := { frames := 1, cells := 0, slots := 0, locals := 21 }
set_option maxHeartbeats 4000000 in
set_option maxRecDepth 100000 in
theorem c_X1_isSlashAt (l : Launch) (g : hm_G) (a : Nat → Nat) (R : Nat → hm_SR) (Z : Nat → Int32) (x0 : Int32) (q : Int32) (hF : f_X1_isSlashAt (R 2) x0 = some q) : hm_Mi l yX1_isSlashAt (Cond.code yX1_isSlashAt cX1_isSlashAt 2 (some .boolean) :: hm_W) rm_X1_isSlashAt g [.ref (a 0), .int x0] ([hm_wLe g a R Z] : List va_W).flatten ([hm_wLe g a R Z] : List va_W).flatten q := by
  refine hm_ofi [(0, .ref (a 0)), (1, .int x0)] (by decide) (own := RX1) rfl (Nat.le_of_ble_eq_true rfl) rfl rfl ?_
  intro p e s m args below meth c AA S hr hlk X ls hl
  have hx := S.1
  have hb := S.2.1
  have hown := S.2.2.2.1
  have hts := S.2.2.2.2
  have X := X.to (ws' := ([[(a 0, .inr (1, [.ref (a 1), .ref (a 3), .ref (a 5), .ref (a 7), .ref (a 9), .int (Z 0), .int (Z 1), .int (Z 2), .int (Z 3)]))], hm_row g (a 1) (a 2) 100 (R 0), hm_row g (a 3) (a 4) 100 (R 1), hm_row g (a 5) (a 6) 100 (R 2), hm_row g (a 7) (a 8) 100 (R 3), hm_row g (a 9) (a 10) 101 (R 4)] : List va_W).flatten) rfl
  unfold f_X1_isSlashAt at hF
  refine lv_aload_n hx hb dX1_isSlashAt_0 rfl (lv_at hl 0 rfl) ?_
  refine hm_get S X hf_X1_23 0 rfl rfl dX1_isSlashAt_1 ?_
  refine lv_iload_n hx hb dX1_isSlashAt_4 rfl (lv_at hl 1 rfl) ?_
  obtain ⟨t1, ht1, hF⟩ := hm_bd hF
  refine hm_vi (As := [.int x0]) S X mw_X2_get hw_3_33 (c_X2_get l g (a 5) (a 6) 100 (R 2) x0 t1 ht1) (hm_mid [[(a 0, .inr (1, [.ref (a 1), .ref (a 3), .ref (a 5), .ref (a 7), .ref (a 9), .int (Z 0), .int (Z 1), .int (Z 2), .int (Z 3)]))], hm_row g (a 1) (a 2) 100 (R 0), hm_row g (a 3) (a 4) 100 (R 1)] [hm_row g (a 7) (a 8) 100 (R 3), hm_row g (a 9) (a 10) 101 (R 4)]) (hm_mid [[(a 0, .inr (1, [.ref (a 1), .ref (a 3), .ref (a 5), .ref (a 7), .ref (a 9), .int (Z 0), .int (Z 1), .int (Z 2), .int (Z 3)]))], hm_row g (a 1) (a 2) 100 (R 0), hm_row g (a 3) (a 4) 100 (R 1)] [hm_row g (a 7) (a 8) 100 (R 3), hm_row g (a 9) (a 10) 101 (R 4)] (b := hm_row g (a 5) (a 6) 100 (R 2))) rfl rfl rfl ⟨rfl, rfl, Nat.le_of_ble_eq_true rfl, Nat.le_of_ble_eq_true rfl⟩ rfl hl.1 rfl (Nat.le_of_ble_eq_true rfl) dX1_isSlashAt_5 ⟨Nat.zero_le _, Nat.zero_le _⟩ (fun H locs X => ?_)
  have X := X.to (ws' := ([[(a 0, .inr (1, [.ref (a 1), .ref (a 3), .ref (a 5), .ref (a 7), .ref (a 9), .int (Z 0), .int (Z 1), .int (Z 2), .int (Z 3)]))], hm_row g (a 1) (a 2) 100 (R 0), hm_row g (a 3) (a 4) 100 (R 1), hm_row g (a 5) (a 6) 100 (R 2), hm_row g (a 7) (a 8) 100 (R 3), hm_row g (a 9) (a 10) 101 (R 4)] : List va_W).flatten) rfl
  refine lv_iconst (v := 1) hx hb dX1_isSlashAt_8 (by decide) ?_
  refine lv_icmp_ne (tgt := 16) hx hb dX1_isSlashAt_9 (by decide) (fun c9 => ?_) (fun c9 => ?_)
  · have hF := hm_nf hF c9
    refine lv_iconst (v := 0) hx hb dX1_isSlashAt_16 (by decide) ?_
    obtain rfl := Option.some.inj hF
    exact hm_rz S hr hlk X rfl rfl (Or.inl rfl) dX1_isSlashAt_17
  · have hF := hm_if hF c9
    refine lv_iconst (v := 1) hx hb dX1_isSlashAt_12 (by decide) ?_
    refine lv_goto (tgt := 17) hx hb dX1_isSlashAt_13 (by decide) ?_
    obtain rfl := Option.some.inj hF
    exact hm_rz S hr hlk X rfl rfl (Or.inr rfl) dX1_isSlashAt_17
def f_X1_hungAt (R_1 : hm_SR) (x0 : Int32)  : Option (Int32) :=
  (f_X2_get 100 R_1 x0).bind fun t1 =>
  some (t1)
abbrev rm_X1_hungAt : Room := { frames := 1, cells := 0, slots := 0, locals := 21 }
set_option maxHeartbeats 4000000 in
set_option maxRecDepth 100000 in
theorem c_X1_hungAt (l : Launch) (g : hm_G) (a : Nat → Nat) (R : Nat → hm_SR) (Z : Nat → Int32) (x0 : Int32) (q : Int32) (hF : f_X1_hungAt (R 1) x0 = some q) : hm_Mi l yX1_hungAt (Cond.code yX1_hungAt cX1_hungAt 2 (some .int) :: hm_W) rm_X1_hungAt g [.ref (a 0), .int x0] ([hm_wLe g a R Z] : List va_W).flatten ([hm_wLe g a R Z] : List va_W).flatten q := by
  refine hm_ofi [(0, .ref (a 0)), (1, .int x0)] (by decide) (own := RX1) rfl (Nat.le_of_ble_eq_true rfl) rfl rfl ?_
  intro p e s m args below meth c AA S hr hlk X ls hl
  have hx := S.1
  have hb := S.2.1
  have hown := S.2.2.2.1
  have hts := S.2.2.2.2
  have X := X.to (ws' := ([[(a 0, .inr (1, [.ref (a 1), .ref (a 3), .ref (a 5), .ref (a 7), .ref (a 9), .int (Z 0), .int (Z 1), .int (Z 2), .int (Z 3)]))], hm_row g (a 1) (a 2) 100 (R 0), hm_row g (a 3) (a 4) 100 (R 1), hm_row g (a 5) (a 6) 100 (R 2), hm_row g (a 7) (a 8) 100 (R 3), hm_row g (a 9) (a 10) 101 (R 4)] : List va_W).flatten) rfl
  unfold f_X1_hungAt at hF
  refine lv_aload_n hx hb dX1_hungAt_0 rfl (lv_at hl 0 rfl) ?_
  refine hm_get S X hf_X1_20 0 rfl rfl dX1_hungAt_1 ?_
  refine lv_iload_n hx hb dX1_hungAt_4 rfl (lv_at hl 1 rfl) ?_
  obtain ⟨t1, ht1, hF⟩ := hm_bd hF
  refine hm_vi (As := [.int x0]) S X mw_X2_get hw_3_33 (c_X2_get l g (a 3) (a 4) 100 (R 1) x0 t1 ht1) (hm_mid [[(a 0, .inr (1, [.ref (a 1), .ref (a 3), .ref (a 5), .ref (a 7), .ref (a 9), .int (Z 0), .int (Z 1), .int (Z 2), .int (Z 3)]))], hm_row g (a 1) (a 2) 100 (R 0)] [hm_row g (a 5) (a 6) 100 (R 2), hm_row g (a 7) (a 8) 100 (R 3), hm_row g (a 9) (a 10) 101 (R 4)]) (hm_mid [[(a 0, .inr (1, [.ref (a 1), .ref (a 3), .ref (a 5), .ref (a 7), .ref (a 9), .int (Z 0), .int (Z 1), .int (Z 2), .int (Z 3)]))], hm_row g (a 1) (a 2) 100 (R 0)] [hm_row g (a 5) (a 6) 100 (R 2), hm_row g (a 7) (a 8) 100 (R 3), hm_row g (a 9) (a 10) 101 (R 4)] (b := hm_row g (a 3) (a 4) 100 (R 1))) rfl rfl rfl ⟨rfl, rfl, Nat.le_of_ble_eq_true rfl, Nat.le_of_ble_eq_true rfl⟩ rfl hl.1 rfl (Nat.le_of_ble_eq_true rfl) dX1_hungAt_5 ⟨Nat.zero_le _, Nat.zero_le _⟩ (fun H locs X => ?_)
  have X := X.to (ws' := ([[(a 0, .inr (1, [.ref (a 1), .ref (a 3), .ref (a 5), .ref (a 7), .ref (a 9), .int (Z 0), .int (Z 1), .int (Z 2), .int (Z 3)]))], hm_row g (a 1) (a 2) 100 (R 0), hm_row g (a 3) (a 4) 100 (R 1), hm_row g (a 5) (a 6) 100 (R 2), hm_row g (a 7) (a 8) 100 (R 3), hm_row g (a 9) (a 10) 101 (R 4)] : List va_W).flatten) rfl
  obtain rfl := Option.some.inj hF
  exact hm_ri S hr hlk X rfl rfl dX1_hungAt_8
def f_X1_natural (R_0 : hm_SR) (R_4 : hm_SR) (x0 : Int32) (x1 : Int32)  : Option (Int32) :=
  (f_X2_get 100 R_0 x1).bind fun t1 =>
  (f_X2_get 101 R_4 (x0 + 1)).bind fun t2 =>
  some ((t1 - t2))
abbrev rm_X1_natural : Room := { frames := 1, cells := 0, slots := 0, locals := 21 }
set_option maxHeartbeats 4000000 in
set_option maxRecDepth 100000 in
theorem c_X1_natural (l : Launch) (g : hm_G) (a : Nat → Nat) (R : Nat → hm_SR) (Z : Nat → Int32) (x0 : Int32) (x1 : Int32) (q : Int32) (hF : f_X1_natural (R 0) (R 4) x0 x1 = some q) : hm_Mi l yX1_natural (Cond.code yX1_natural cX1_natural 3 (some .int) :: hm_W) rm_X1_natural g [.ref (a 0), .int x0, .int x1] ([hm_wLe g a R Z] : List va_W).flatten ([hm_wLe g a R Z] : List va_W).flatten q := by
  refine hm_ofi [(0, .ref (a 0)), (1, .int x0), (2, .int x1)] (by decide) (own := RX1) rfl (Nat.le_of_ble_eq_true rfl) rfl rfl ?_
  intro p e s m args below meth c AA S hr hlk X ls hl
  have hx := S.1
  have hb := S.2.1
  have hown := S.2.2.2.1
  have hts := S.2.2.2.2
  have X := X.to (ws' := ([[(a 0, .inr (1, [.ref (a 1), .ref (a 3), .ref (a 5), .ref (a 7), .ref (a 9), .int (Z 0), .int (Z 1), .int (Z 2), .int (Z 3)]))], hm_row g (a 1) (a 2) 100 (R 0), hm_row g (a 3) (a 4) 100 (R 1), hm_row g (a 5) (a 6) 100 (R 2), hm_row g (a 7) (a 8) 100 (R 3), hm_row g (a 9) (a 10) 101 (R 4)] : List va_W).flatten) rfl
  unfold f_X1_natural at hF
  refine lv_aload_n hx hb dX1_natural_0 rfl (lv_at hl 0 rfl) ?_
  refine hm_get S X hf_X1_14 0 rfl rfl dX1_natural_1 ?_
  refine lv_iload_n hx hb dX1_natural_4 rfl (lv_at hl 2 rfl) ?_
  obtain ⟨t1, ht1, hF⟩ := hm_bd hF
  refine hm_vi (As := [.int x1]) S X mw_X2_get hw_3_33 (c_X2_get l g (a 1) (a 2) 100 (R 0) x1 t1 ht1) (hm_mid [[(a 0, .inr (1, [.ref (a 1), .ref (a 3), .ref (a 5), .ref (a 7), .ref (a 9), .int (Z 0), .int (Z 1), .int (Z 2), .int (Z 3)]))]] [hm_row g (a 3) (a 4) 100 (R 1), hm_row g (a 5) (a 6) 100 (R 2), hm_row g (a 7) (a 8) 100 (R 3), hm_row g (a 9) (a 10) 101 (R 4)]) (hm_mid [[(a 0, .inr (1, [.ref (a 1), .ref (a 3), .ref (a 5), .ref (a 7), .ref (a 9), .int (Z 0), .int (Z 1), .int (Z 2), .int (Z 3)]))]] [hm_row g (a 3) (a 4) 100 (R 1), hm_row g (a 5) (a 6) 100 (R 2), hm_row g (a 7) (a 8) 100 (R 3), hm_row g (a 9) (a 10) 101 (R 4)] (b := hm_row g (a 1) (a 2) 100 (R 0))) rfl rfl rfl ⟨rfl, rfl, Nat.le_of_ble_eq_true rfl, Nat.le_of_ble_eq_true rfl⟩ rfl hl.1 rfl (Nat.le_of_ble_eq_true rfl) dX1_natural_5 ⟨Nat.zero_le _, Nat.zero_le _⟩ (fun H locs X => ?_)
  have X := X.to (ws' := ([[(a 0, .inr (1, [.ref (a 1), .ref (a 3), .ref (a 5), .ref (a 7), .ref (a 9), .int (Z 0), .int (Z 1), .int (Z 2), .int (Z 3)]))], hm_row g (a 1) (a 2) 100 (R 0), hm_row g (a 3) (a 4) 100 (R 1), hm_row g (a 5) (a 6) 100 (R 2), hm_row g (a 7) (a 8) 100 (R 3), hm_row g (a 9) (a 10) 101 (R 4)] : List va_W).flatten) rfl
  refine lv_aload_n hx hb dX1_natural_8 rfl (lv_at hl 0 rfl) ?_
  refine hm_get S X hf_X1_29 0 rfl rfl dX1_natural_9 ?_
  refine lv_iload_n hx hb dX1_natural_12 rfl (lv_at hl 1 rfl) ?_
  refine lv_iconst (v := 1) hx hb dX1_natural_13 (by decide) ?_
  refine lv_iadd hx hb dX1_natural_14 ?_
  obtain ⟨t2, ht2, hF⟩ := hm_bd hF
  refine hm_vi (As := [.int (x0 + 1)]) S X mw_X2_get hw_3_33 (c_X2_get l g (a 9) (a 10) 101 (R 4) (x0 + 1) t2 ht2) (hm_mid [[(a 0, .inr (1, [.ref (a 1), .ref (a 3), .ref (a 5), .ref (a 7), .ref (a 9), .int (Z 0), .int (Z 1), .int (Z 2), .int (Z 3)]))], hm_row g (a 1) (a 2) 100 (R 0), hm_row g (a 3) (a 4) 100 (R 1), hm_row g (a 5) (a 6) 100 (R 2), hm_row g (a 7) (a 8) 100 (R 3)] []) (hm_mid [[(a 0, .inr (1, [.ref (a 1), .ref (a 3), .ref (a 5), .ref (a 7), .ref (a 9), .int (Z 0), .int (Z 1), .int (Z 2), .int (Z 3)]))], hm_row g (a 1) (a 2) 100 (R 0), hm_row g (a 3) (a 4) 100 (R 1), hm_row g (a 5) (a 6) 100 (R 2), hm_row g (a 7) (a 8) 100 (R 3)] [] (b := hm_row g (a 9) (a 10) 101 (R 4))) rfl rfl rfl ⟨rfl, rfl, Nat.le_of_ble_eq_true rfl, Nat.le_of_ble_eq_true rfl⟩ rfl hl.1 rfl (Nat.le_of_ble_eq_true rfl) dX1_natural_15 ⟨Nat.zero_le _, Nat.zero_le _⟩ (fun H locs X => ?_)
  have X := X.to (ws' := ([[(a 0, .inr (1, [.ref (a 1), .ref (a 3), .ref (a 5), .ref (a 7), .ref (a 9), .int (Z 0), .int (Z 1), .int (Z 2), .int (Z 3)]))], hm_row g (a 1) (a 2) 100 (R 0), hm_row g (a 3) (a 4) 100 (R 1), hm_row g (a 5) (a 6) 100 (R 2), hm_row g (a 7) (a 8) 100 (R 3), hm_row g (a 9) (a 10) 101 (R 4)] : List va_W).flatten) rfl
  refine lv_isub hx hb dX1_natural_18 ?_
  obtain rfl := Option.some.inj hF
  exact hm_ri S hr hlk X rfl rfl dX1_natural_19
def f_X1_left (R_0 : hm_SR) (R_1 : hm_SR) (R_4 : hm_SR) (Z_1 : Int32) (x0 : Int32) (x1 : Int32)  : Option (Int32) :=
  (f_X1_leftBy R_0 R_1 R_4 Z_1 x0 x1).bind fun t1 =>
  some (t1)
abbrev rm_X1_left : Room := { frames := 2, cells := 0, slots := 0, locals := 44 }
set_option maxHeartbeats 4000000 in
set_option maxRecDepth 100000 in
theorem c_X1_left (l : Launch) (g : hm_G) (a : Nat → Nat) (R : Nat → hm_SR) (Z : Nat → Int32) (x0 : Int32) (x1 : Int32) (q : Int32) (hF : f_X1_left (R 0) (R 1) (R 4) (Z 1) x0 x1 = some q) : hm_Mi l yX1_left (Cond.code yX1_left cX1_left 3 (some .int) :: hm_W) rm_X1_left g [.ref (a 0), .int x0, .int x1] ([hm_wLe g a R Z] : List va_W).flatten ([hm_wLe g a R Z] : List va_W).flatten q := by
  refine hm_ofi [(0, .ref (a 0)), (1, .int x0), (2, .int x1)] (by decide) (own := RX1) rfl (Nat.le_of_ble_eq_true rfl) rfl rfl ?_
  intro p e s m args below meth c AA S hr hlk X ls hl
  have hx := S.1
  have hb := S.2.1
  have hown := S.2.2.2.1
  have hts := S.2.2.2.2
  have X := X.to (ws' := ([[(a 0, .inr (1, [.ref (a 1), .ref (a 3), .ref (a 5), .ref (a 7), .ref (a 9), .int (Z 0), .int (Z 1), .int (Z 2), .int (Z 3)]))], hm_row g (a 1) (a 2) 100 (R 0), hm_row g (a 3) (a 4) 100 (R 1), hm_row g (a 5) (a 6) 100 (R 2), hm_row g (a 7) (a 8) 100 (R 3), hm_row g (a 9) (a 10) 101 (R 4)] : List va_W).flatten) rfl
  unfold f_X1_left at hF
  refine lv_aload_n hx hb dX1_left_0 rfl (lv_at hl 0 rfl) ?_
  refine lv_aload_n hx hb dX1_left_1 rfl (lv_at hl 0 rfl) ?_
  refine hm_get S X hf_X1_42 0 rfl rfl dX1_left_2 ?_
  refine lv_iload_n hx hb dX1_left_5 rfl (lv_at hl 1 rfl) ?_
  refine lv_iload_n hx hb dX1_left_6 rfl (lv_at hl 2 rfl) ?_
  obtain ⟨t1, ht1, hF⟩ := hm_bd hF
  refine hm_vi (As := [.int (Z 1), .int x0, .int x1]) S X mw_X1_leftBy hw_3_78 (c_X1_leftBy l g a R Z (Z 1) x0 x1 t1 ht1) (hm_cq (n := 6) [0, 1, 2, 3, 4, 5] [] rfl (by decide +kernel) rfl rfl) (hm_cq (bs := [[(a 0, .inr (1, [.ref (a 1), .ref (a 3), .ref (a 5), .ref (a 7), .ref (a 9), .int (Z 0), .int (Z 1), .int (Z 2), .int (Z 3)]))], hm_row g (a 1) (a 2) 100 (R 0), hm_row g (a 3) (a 4) 100 (R 1), hm_row g (a 5) (a 6) 100 (R 2), hm_row g (a 7) (a 8) 100 (R 3), hm_row g (a 9) (a 10) 101 (R 4)]) (n := 6) [0, 1, 2, 3, 4, 5] [] rfl (by decide +kernel) rfl rfl) rfl rfl rfl ⟨rfl, rfl, Nat.le_of_ble_eq_true rfl, Nat.le_of_ble_eq_true rfl⟩ rfl hl.1 rfl (Nat.le_of_ble_eq_true rfl) dX1_left_7 ⟨Nat.zero_le _, Nat.zero_le _⟩ (fun H locs X => ?_)
  have X := X.to (ws' := ([[(a 0, .inr (1, [.ref (a 1), .ref (a 3), .ref (a 5), .ref (a 7), .ref (a 9), .int (Z 0), .int (Z 1), .int (Z 2), .int (Z 3)]))], hm_row g (a 1) (a 2) 100 (R 0), hm_row g (a 3) (a 4) 100 (R 1), hm_row g (a 5) (a 6) 100 (R 2), hm_row g (a 7) (a 8) 100 (R 3), hm_row g (a 9) (a 10) 101 (R 4)] : List va_W).flatten) rfl
  obtain rfl := Option.some.inj hF
  exact hm_ri S hr hlk X rfl rfl dX1_left_10
def f_X1_cost (R_0 : hm_SR) (R_1 : hm_SR) (R_2 : hm_SR) (R_4 : hm_SR) (Z_1 : Int32) (Z_2 : Int32) (Z_3 : Int32) (x0 : Int32) (x1 : Int32)  : Option (Int32) :=
  (f_X1_left R_0 R_1 R_4 Z_1 x0 x1).bind fun t1 =>
  (f_X1_costBy R_0 R_2 Z_2 Z_3 t1 x0 x1).bind fun t2 =>
  some (t2)
abbrev rm_X1_cost : Room := { frames := 3, cells := 0, slots := 0, locals := 66 }
set_option maxHeartbeats 4000000 in
set_option maxRecDepth 100000 in
theorem c_X1_cost (l : Launch) (g : hm_G) (a : Nat → Nat) (R : Nat → hm_SR) (Z : Nat → Int32) (x0 : Int32) (x1 : Int32) (q : Int32) (hF : f_X1_cost (R 0) (R 1) (R 2) (R 4) (Z 1) (Z 2) (Z 3) x0 x1 = some q) : hm_Mi l yX1_cost (Cond.code yX1_cost cX1_cost 3 (some .int) :: hm_W) rm_X1_cost g [.ref (a 0), .int x0, .int x1] ([hm_wLe g a R Z] : List va_W).flatten ([hm_wLe g a R Z] : List va_W).flatten q := by
  refine hm_ofi [(0, .ref (a 0)), (1, .int x0), (2, .int x1)] (by decide) (own := RX1) rfl (Nat.le_of_ble_eq_true rfl) rfl rfl ?_
  intro p e s m args below meth c AA S hr hlk X ls hl
  have hx := S.1
  have hb := S.2.1
  have hown := S.2.2.2.1
  have hts := S.2.2.2.2
  have X := X.to (ws' := ([[(a 0, .inr (1, [.ref (a 1), .ref (a 3), .ref (a 5), .ref (a 7), .ref (a 9), .int (Z 0), .int (Z 1), .int (Z 2), .int (Z 3)]))], hm_row g (a 1) (a 2) 100 (R 0), hm_row g (a 3) (a 4) 100 (R 1), hm_row g (a 5) (a 6) 100 (R 2), hm_row g (a 7) (a 8) 100 (R 3), hm_row g (a 9) (a 10) 101 (R 4)] : List va_W).flatten) rfl
  unfold f_X1_cost at hF
  refine lv_aload_n hx hb dX1_cost_0 rfl (lv_at hl 0 rfl) ?_
  refine lv_aload_n hx hb dX1_cost_1 rfl (lv_at hl 0 rfl) ?_
  refine lv_iload_n hx hb dX1_cost_2 rfl (lv_at hl 1 rfl) ?_
  refine lv_iload_n hx hb dX1_cost_3 rfl (lv_at hl 2 rfl) ?_
  obtain ⟨t1, ht1, hF⟩ := hm_bd hF
  refine hm_vi (As := [.int x0, .int x1]) S X mw_X1_left hw_3_173 (c_X1_left l g a R Z x0 x1 t1 ht1) (hm_cq (n := 6) [0, 1, 2, 3, 4, 5] [] rfl (by decide +kernel) rfl rfl) (hm_cq (bs := [[(a 0, .inr (1, [.ref (a 1), .ref (a 3), .ref (a 5), .ref (a 7), .ref (a 9), .int (Z 0), .int (Z 1), .int (Z 2), .int (Z 3)]))], hm_row g (a 1) (a 2) 100 (R 0), hm_row g (a 3) (a 4) 100 (R 1), hm_row g (a 5) (a 6) 100 (R 2), hm_row g (a 7) (a 8) 100 (R 3), hm_row g (a 9) (a 10) 101 (R 4)]) (n := 6) [0, 1, 2, 3, 4, 5] [] rfl (by decide +kernel) rfl rfl) rfl rfl rfl ⟨rfl, rfl, Nat.le_of_ble_eq_true rfl, Nat.le_of_ble_eq_true rfl⟩ rfl hl.1 rfl (Nat.le_of_ble_eq_true rfl) dX1_cost_4 ⟨Nat.zero_le _, Nat.zero_le _⟩ (fun H locs X => ?_)
  have X := X.to (ws' := ([[(a 0, .inr (1, [.ref (a 1), .ref (a 3), .ref (a 5), .ref (a 7), .ref (a 9), .int (Z 0), .int (Z 1), .int (Z 2), .int (Z 3)]))], hm_row g (a 1) (a 2) 100 (R 0), hm_row g (a 3) (a 4) 100 (R 1), hm_row g (a 5) (a 6) 100 (R 2), hm_row g (a 7) (a 8) 100 (R 3), hm_row g (a 9) (a 10) 101 (R 4)] : List va_W).flatten) rfl
  refine lv_iload_n hx hb dX1_cost_7 rfl (lv_at hl 1 rfl) ?_
  refine lv_iload_n hx hb dX1_cost_8 rfl (lv_at hl 2 rfl) ?_
  obtain ⟨t2, ht2, hF⟩ := hm_bd hF
  refine hm_vi (As := [.int t1, .int x0, .int x1]) S X mw_X1_costBy hw_3_174 (c_X1_costBy l g a R Z t1 x0 x1 t2 ht2) (hm_cq (n := 6) [0, 1, 2, 3, 4, 5] [] rfl (by decide +kernel) rfl rfl) (hm_cq (bs := [[(a 0, .inr (1, [.ref (a 1), .ref (a 3), .ref (a 5), .ref (a 7), .ref (a 9), .int (Z 0), .int (Z 1), .int (Z 2), .int (Z 3)]))], hm_row g (a 1) (a 2) 100 (R 0), hm_row g (a 3) (a 4) 100 (R 1), hm_row g (a 5) (a 6) 100 (R 2), hm_row g (a 7) (a 8) 100 (R 3), hm_row g (a 9) (a 10) 101 (R 4)]) (n := 6) [0, 1, 2, 3, 4, 5] [] rfl (by decide +kernel) rfl rfl) rfl rfl rfl ⟨rfl, rfl, Nat.le_of_ble_eq_true rfl, Nat.le_of_ble_eq_true rfl⟩ rfl hl.1 rfl (Nat.le_of_ble_eq_true rfl) dX1_cost_9 ⟨Nat.zero_le _, Nat.zero_le _⟩ (fun H locs X => ?_)
  have X := X.to (ws' := ([[(a 0, .inr (1, [.ref (a 1), .ref (a 3), .ref (a 5), .ref (a 7), .ref (a 9), .int (Z 0), .int (Z 1), .int (Z 2), .int (Z 3)]))], hm_row g (a 1) (a 2) 100 (R 0), hm_row g (a 3) (a 4) 100 (R 1), hm_row g (a 5) (a 6) 100 (R 2), hm_row g (a 7) (a 8) 100 (R 3), hm_row g (a 9) (a 10) 101 (R 4)] : List va_W).flatten) rfl
  obtain rfl := Option.some.inj hF
  exact hm_ri S hr hlk X rfl rfl dX1_cost_12
def f_X1_blanks (R_3 : hm_SR) (x0 : Int32) (x1 : Int32)  : Option (Int32) :=
  (f_X2_get 100 R_3 x1).bind fun t1 =>
  (f_X2_get 100 R_3 (x0 + 1)).bind fun t2 =>
  some ((t1 - t2))
abbrev rm_X1_blanks : Room := { frames := 1, cells := 0, slots := 0, locals := 21 }
set_option maxHeartbeats 4000000 in
set_option maxRecDepth 100000 in
theorem c_X1_blanks (l : Launch) (g : hm_G) (a : Nat → Nat) (R : Nat → hm_SR) (Z : Nat → Int32) (x0 : Int32) (x1 : Int32) (q : Int32) (hF : f_X1_blanks (R 3) x0 x1 = some q) : hm_Mi l yX1_blanks (Cond.code yX1_blanks cX1_blanks 3 (some .int) :: hm_W) rm_X1_blanks g [.ref (a 0), .int x0, .int x1] ([hm_wLe g a R Z] : List va_W).flatten ([hm_wLe g a R Z] : List va_W).flatten q := by
  refine hm_ofi [(0, .ref (a 0)), (1, .int x0), (2, .int x1)] (by decide) (own := RX1) rfl (Nat.le_of_ble_eq_true rfl) rfl rfl ?_
  intro p e s m args below meth c AA S hr hlk X ls hl
  have hx := S.1
  have hb := S.2.1
  have hown := S.2.2.2.1
  have hts := S.2.2.2.2
  have X := X.to (ws' := ([[(a 0, .inr (1, [.ref (a 1), .ref (a 3), .ref (a 5), .ref (a 7), .ref (a 9), .int (Z 0), .int (Z 1), .int (Z 2), .int (Z 3)]))], hm_row g (a 1) (a 2) 100 (R 0), hm_row g (a 3) (a 4) 100 (R 1), hm_row g (a 5) (a 6) 100 (R 2), hm_row g (a 7) (a 8) 100 (R 3), hm_row g (a 9) (a 10) 101 (R 4)] : List va_W).flatten) rfl
  unfold f_X1_blanks at hF
  refine lv_aload_n hx hb dX1_blanks_0 rfl (lv_at hl 0 rfl) ?_
  refine hm_get S X hf_X1_26 0 rfl rfl dX1_blanks_1 ?_
  refine lv_iload_n hx hb dX1_blanks_4 rfl (lv_at hl 2 rfl) ?_
  obtain ⟨t1, ht1, hF⟩ := hm_bd hF
  refine hm_vi (As := [.int x1]) S X mw_X2_get hw_3_33 (c_X2_get l g (a 7) (a 8) 100 (R 3) x1 t1 ht1) (hm_mid [[(a 0, .inr (1, [.ref (a 1), .ref (a 3), .ref (a 5), .ref (a 7), .ref (a 9), .int (Z 0), .int (Z 1), .int (Z 2), .int (Z 3)]))], hm_row g (a 1) (a 2) 100 (R 0), hm_row g (a 3) (a 4) 100 (R 1), hm_row g (a 5) (a 6) 100 (R 2)] [hm_row g (a 9) (a 10) 101 (R 4)]) (hm_mid [[(a 0, .inr (1, [.ref (a 1), .ref (a 3), .ref (a 5), .ref (a 7), .ref (a 9), .int (Z 0), .int (Z 1), .int (Z 2), .int (Z 3)]))], hm_row g (a 1) (a 2) 100 (R 0), hm_row g (a 3) (a 4) 100 (R 1), hm_row g (a 5) (a 6) 100 (R 2)] [hm_row g (a 9) (a 10) 101 (R 4)] (b := hm_row g (a 7) (a 8) 100 (R 3))) rfl rfl rfl ⟨rfl, rfl, Nat.le_of_ble_eq_true rfl, Nat.le_of_ble_eq_true rfl⟩ rfl hl.1 rfl (Nat.le_of_ble_eq_true rfl) dX1_blanks_5 ⟨Nat.zero_le _, Nat.zero_le _⟩ (fun H locs X => ?_)
  have X := X.to (ws' := ([[(a 0, .inr (1, [.ref (a 1), .ref (a 3), .ref (a 5), .ref (a 7), .ref (a 9), .int (Z 0), .int (Z 1), .int (Z 2), .int (Z 3)]))], hm_row g (a 1) (a 2) 100 (R 0), hm_row g (a 3) (a 4) 100 (R 1), hm_row g (a 5) (a 6) 100 (R 2), hm_row g (a 7) (a 8) 100 (R 3), hm_row g (a 9) (a 10) 101 (R 4)] : List va_W).flatten) rfl
  refine lv_aload_n hx hb dX1_blanks_8 rfl (lv_at hl 0 rfl) ?_
  refine hm_get S X hf_X1_26 0 rfl rfl dX1_blanks_9 ?_
  refine lv_iload_n hx hb dX1_blanks_12 rfl (lv_at hl 1 rfl) ?_
  refine lv_iconst (v := 1) hx hb dX1_blanks_13 (by decide) ?_
  refine lv_iadd hx hb dX1_blanks_14 ?_
  obtain ⟨t2, ht2, hF⟩ := hm_bd hF
  refine hm_vi (As := [.int (x0 + 1)]) S X mw_X2_get hw_3_33 (c_X2_get l g (a 7) (a 8) 100 (R 3) (x0 + 1) t2 ht2) (hm_mid [[(a 0, .inr (1, [.ref (a 1), .ref (a 3), .ref (a 5), .ref (a 7), .ref (a 9), .int (Z 0), .int (Z 1), .int (Z 2), .int (Z 3)]))], hm_row g (a 1) (a 2) 100 (R 0), hm_row g (a 3) (a 4) 100 (R 1), hm_row g (a 5) (a 6) 100 (R 2)] [hm_row g (a 9) (a 10) 101 (R 4)]) (hm_mid [[(a 0, .inr (1, [.ref (a 1), .ref (a 3), .ref (a 5), .ref (a 7), .ref (a 9), .int (Z 0), .int (Z 1), .int (Z 2), .int (Z 3)]))], hm_row g (a 1) (a 2) 100 (R 0), hm_row g (a 3) (a 4) 100 (R 1), hm_row g (a 5) (a 6) 100 (R 2)] [hm_row g (a 9) (a 10) 101 (R 4)] (b := hm_row g (a 7) (a 8) 100 (R 3))) rfl rfl rfl ⟨rfl, rfl, Nat.le_of_ble_eq_true rfl, Nat.le_of_ble_eq_true rfl⟩ rfl hl.1 rfl (Nat.le_of_ble_eq_true rfl) dX1_blanks_15 ⟨Nat.zero_le _, Nat.zero_le _⟩ (fun H locs X => ?_)
  have X := X.to (ws' := ([[(a 0, .inr (1, [.ref (a 1), .ref (a 3), .ref (a 5), .ref (a 7), .ref (a 9), .int (Z 0), .int (Z 1), .int (Z 2), .int (Z 3)]))], hm_row g (a 1) (a 2) 100 (R 0), hm_row g (a 3) (a 4) 100 (R 1), hm_row g (a 5) (a 6) 100 (R 2), hm_row g (a 7) (a 8) 100 (R 3), hm_row g (a 9) (a 10) 101 (R 4)] : List va_W).flatten) rfl
  refine lv_isub hx hb dX1_blanks_18 ?_
  obtain rfl := Option.some.inj hF
  exact hm_ri S hr hlk X rfl rfl dX1_blanks_19
def f_X1_spread_l19   : Option (Int32) :=
  some (0)
def f_X1_spread (R_0 : hm_SR) (R_1 : hm_SR) (R_3 : hm_SR) (R_4 : hm_SR) (Z_1 : Int32) (x0 : Int32) (x1 : Int32)  : Option (Int32) :=
  (f_X1_places R_0).bind fun t1 =>
  if x1 = (t1 - 1) then (
  f_X1_spread_l19)
  else (
  (f_X1_blanks R_3 x0 x1).bind fun t2 =>
  if t2 = 0 then (
  f_X1_spread_l19)
  else (
  (f_X1_leftBy R_0 R_1 R_4 Z_1 x0 x1).bind fun t3 =>
  some (t3)))
abbrev rm_X1_spread : Room := { frames := 2, cells := 0, slots := 0, locals := 44 }
set_option maxHeartbeats 4000000 in
set_option maxRecDepth 100000 in
theorem c_X1_spread (l : Launch) (g : hm_G) (a : Nat → Nat) (R : Nat → hm_SR) (Z : Nat → Int32) (x0 : Int32) (x1 : Int32) (q : Int32) (hF : f_X1_spread (R 0) (R 1) (R 3) (R 4) (Z 1) x0 x1 = some q) : hm_Mi l yX1_spread (Cond.code yX1_spread cX1_spread 3 (some .int) :: hm_W) rm_X1_spread g [.ref (a 0), .int x0, .int x1] ([hm_wLe g a R Z] : List va_W).flatten ([hm_wLe g a R Z] : List va_W).flatten q := by
  refine hm_ofi [(0, .ref (a 0)), (1, .int x0), (2, .int x1)] (by decide) (own := RX1) rfl (Nat.le_of_ble_eq_true rfl) rfl rfl ?_
  intro p e s m args below meth c AA S hr hlk X ls hl
  have hx := S.1
  have hb := S.2.1
  have hown := S.2.2.2.1
  have hts := S.2.2.2.2
  have X := X.to (ws' := ([[(a 0, .inr (1, [.ref (a 1), .ref (a 3), .ref (a 5), .ref (a 7), .ref (a 9), .int (Z 0), .int (Z 1), .int (Z 2), .int (Z 3)]))], hm_row g (a 1) (a 2) 100 (R 0), hm_row g (a 3) (a 4) 100 (R 1), hm_row g (a 5) (a 6) 100 (R 2), hm_row g (a 7) (a 8) 100 (R 3), hm_row g (a 9) (a 10) 101 (R 4)] : List va_W).flatten) rfl
  have hl19 : f_X1_spread_l19 = some q → ∀ (H : Heap) (locs : List Loc), hm_X g AA s H locs ([[(a 0, .inr (1, [.ref (a 1), .ref (a 3), .ref (a 5), .ref (a 7), .ref (a 9), .int (Z 0), .int (Z 1), .int (Z 2), .int (Z 3)]))], hm_row g (a 1) (a 2) 100 (R 0), hm_row g (a 3) (a 4) 100 (R 1), hm_row g (a 5) (a 6) 100 (R 2), hm_row g (a 7) (a 8) 100 (R 3), hm_row g (a 9) (a 10) 101 (R 4)] : List va_W).flatten → ∀ ls : Array Slot, lv_has ls 3 [] → W p l e rm_X1_spread s m args below meth c H locs 0 0 (MQ below (hm_Qi g AA ([hm_wLe g a R Z] : List va_W).flatten q) args s 0 0 AA) (F0 m 19 ls []) := by
    intro hF H locs X ls hl
    unfold f_X1_spread_l19 at hF
    refine lv_iconst (v := 0) hx hb dX1_spread_19 (by decide) ?_
    refine lv_goto (tgt := 33) hx hb dX1_spread_20 (by decide) ?_
    obtain rfl := Option.some.inj hF
    exact hm_ri S hr hlk X rfl rfl dX1_spread_33
  unfold f_X1_spread at hF
  refine lv_iload_n hx hb dX1_spread_0 rfl (lv_at hl 2 rfl) ?_
  refine lv_aload_n hx hb dX1_spread_1 rfl (lv_at hl 0 rfl) ?_
  obtain ⟨t1, ht1, hF⟩ := hm_bd hF
  refine hm_vi (As := []) S X mw_X1_places hw_3_76 (c_X1_places l g a R Z t1 ht1) (hm_cq (n := 6) [0, 1, 2, 3, 4, 5] [] rfl (by decide +kernel) rfl rfl) (hm_cq (bs := [[(a 0, .inr (1, [.ref (a 1), .ref (a 3), .ref (a 5), .ref (a 7), .ref (a 9), .int (Z 0), .int (Z 1), .int (Z 2), .int (Z 3)]))], hm_row g (a 1) (a 2) 100 (R 0), hm_row g (a 3) (a 4) 100 (R 1), hm_row g (a 5) (a 6) 100 (R 2), hm_row g (a 7) (a 8) 100 (R 3), hm_row g (a 9) (a 10) 101 (R 4)]) (n := 6) [0, 1, 2, 3, 4, 5] [] rfl (by decide +kernel) rfl rfl) rfl rfl rfl ⟨rfl, rfl, Nat.le_of_ble_eq_true rfl, Nat.le_of_ble_eq_true rfl⟩ rfl hl.1 rfl (Nat.le_of_ble_eq_true rfl) dX1_spread_2 ⟨Nat.zero_le _, Nat.zero_le _⟩ (fun H locs X => ?_)
  have X := X.to (ws' := ([[(a 0, .inr (1, [.ref (a 1), .ref (a 3), .ref (a 5), .ref (a 7), .ref (a 9), .int (Z 0), .int (Z 1), .int (Z 2), .int (Z 3)]))], hm_row g (a 1) (a 2) 100 (R 0), hm_row g (a 3) (a 4) 100 (R 1), hm_row g (a 5) (a 6) 100 (R 2), hm_row g (a 7) (a 8) 100 (R 3), hm_row g (a 9) (a 10) 101 (R 4)] : List va_W).flatten) rfl
  refine lv_iconst (v := 1) hx hb dX1_spread_5 (by decide) ?_
  refine lv_isub hx hb dX1_spread_6 ?_
  refine lv_icmp_eq (tgt := 19) hx hb dX1_spread_7 (by decide) (fun c7 => ?_) (fun c7 => ?_)
  · have hF := hm_if hF c7
    exact hl19  hF _ _ X _ (lv_sub hl [] rfl)
  · have hF := hm_nf hF c7
    refine lv_aload_n hx hb dX1_spread_10 rfl (lv_at hl 0 rfl) ?_
    refine lv_iload_n hx hb dX1_spread_11 rfl (lv_at hl 1 rfl) ?_
    refine lv_iload_n hx hb dX1_spread_12 rfl (lv_at hl 2 rfl) ?_
    obtain ⟨t2, ht2, hF⟩ := hm_bd hF
    refine hm_vi (As := [.int x0, .int x1]) S X mw_X1_blanks hw_3_77 (c_X1_blanks l g a R Z x0 x1 t2 ht2) (hm_cq (n := 6) [0, 1, 2, 3, 4, 5] [] rfl (by decide +kernel) rfl rfl) (hm_cq (bs := [[(a 0, .inr (1, [.ref (a 1), .ref (a 3), .ref (a 5), .ref (a 7), .ref (a 9), .int (Z 0), .int (Z 1), .int (Z 2), .int (Z 3)]))], hm_row g (a 1) (a 2) 100 (R 0), hm_row g (a 3) (a 4) 100 (R 1), hm_row g (a 5) (a 6) 100 (R 2), hm_row g (a 7) (a 8) 100 (R 3), hm_row g (a 9) (a 10) 101 (R 4)]) (n := 6) [0, 1, 2, 3, 4, 5] [] rfl (by decide +kernel) rfl rfl) rfl rfl rfl ⟨rfl, rfl, Nat.le_of_ble_eq_true rfl, Nat.le_of_ble_eq_true rfl⟩ rfl hl.1 rfl (Nat.le_of_ble_eq_true rfl) dX1_spread_13 ⟨Nat.zero_le _, Nat.zero_le _⟩ (fun H locs X => ?_)
    have X := X.to (ws' := ([[(a 0, .inr (1, [.ref (a 1), .ref (a 3), .ref (a 5), .ref (a 7), .ref (a 9), .int (Z 0), .int (Z 1), .int (Z 2), .int (Z 3)]))], hm_row g (a 1) (a 2) 100 (R 0), hm_row g (a 3) (a 4) 100 (R 1), hm_row g (a 5) (a 6) 100 (R 2), hm_row g (a 7) (a 8) 100 (R 3), hm_row g (a 9) (a 10) 101 (R 4)] : List va_W).flatten) rfl
    refine lv_if_ne (tgt := 23) hx hb dX1_spread_16 (by decide) (fun c16 => ?_) (fun c16 => ?_)
    · have hF := hm_nf hF c16
      refine lv_aload_n hx hb dX1_spread_23 rfl (lv_at hl 0 rfl) ?_
      refine lv_aload_n hx hb dX1_spread_24 rfl (lv_at hl 0 rfl) ?_
      refine hm_get S X hf_X1_42 0 rfl rfl dX1_spread_25 ?_
      refine lv_iload_n hx hb dX1_spread_28 rfl (lv_at hl 1 rfl) ?_
      refine lv_iload_n hx hb dX1_spread_29 rfl (lv_at hl 2 rfl) ?_
      obtain ⟨t3, ht3, hF⟩ := hm_bd hF
      refine hm_vi (As := [.int (Z 1), .int x0, .int x1]) S X mw_X1_leftBy hw_3_78 (c_X1_leftBy l g a R Z (Z 1) x0 x1 t3 ht3) (hm_cq (n := 6) [0, 1, 2, 3, 4, 5] [] rfl (by decide +kernel) rfl rfl) (hm_cq (bs := [[(a 0, .inr (1, [.ref (a 1), .ref (a 3), .ref (a 5), .ref (a 7), .ref (a 9), .int (Z 0), .int (Z 1), .int (Z 2), .int (Z 3)]))], hm_row g (a 1) (a 2) 100 (R 0), hm_row g (a 3) (a 4) 100 (R 1), hm_row g (a 5) (a 6) 100 (R 2), hm_row g (a 7) (a 8) 100 (R 3), hm_row g (a 9) (a 10) 101 (R 4)]) (n := 6) [0, 1, 2, 3, 4, 5] [] rfl (by decide +kernel) rfl rfl) rfl rfl rfl ⟨rfl, rfl, Nat.le_of_ble_eq_true rfl, Nat.le_of_ble_eq_true rfl⟩ rfl hl.1 rfl (Nat.le_of_ble_eq_true rfl) dX1_spread_30 ⟨Nat.zero_le _, Nat.zero_le _⟩ (fun H locs X => ?_)
      have X := X.to (ws' := ([[(a 0, .inr (1, [.ref (a 1), .ref (a 3), .ref (a 5), .ref (a 7), .ref (a 9), .int (Z 0), .int (Z 1), .int (Z 2), .int (Z 3)]))], hm_row g (a 1) (a 2) 100 (R 0), hm_row g (a 3) (a 4) 100 (R 1), hm_row g (a 5) (a 6) 100 (R 2), hm_row g (a 7) (a 8) 100 (R 3), hm_row g (a 9) (a 10) 101 (R 4)] : List va_W).flatten) rfl
      obtain rfl := Option.some.inj hF
      exact hm_ri S hr hlk X rfl rfl dX1_spread_33
    · have hF := hm_if hF c16
      exact hl19  hF _ _ X _ (lv_sub hl [] rfl)
