def f_X3_wordCount (R_1 : hm_SR)  : Option (Int32) :=
  (f_X2_size R_1).bind fun t1 =>
  some (t1)
abbrev rm_X3_wordCount : Room := { frames := 1, cells := 0, slots := 0, locals := 20 }
set_option maxHeartbeats 4000000 in
set_option maxRecDepth 100000 in
theorem c_X3_wordCount (l : Launch) (g : hm_G) (a : Nat → Nat) (R : Nat → hm_SR) (q : Int32) (hF : f_X3_wordCount (R 1) = some q) : hm_Mi l yX3_wordCount (Cond.code yX3_wordCount cX3_wordCount 1 (some .int) :: hm_W) rm_X3_wordCount g [.ref (a 0)] ([hm_wSc g a R] : List va_W).flatten ([hm_wSc g a R] : List va_W).flatten q := by
  refine hm_ofi [(0, .ref (a 0))] (by decide) (own := RX3) rfl (Nat.le_of_ble_eq_true rfl) rfl rfl ?_
  intro p e s m args below meth c AA S hr hlk X ls hl
  have hx := S.1
  have hb := S.2.1
  have hown := S.2.2.2.1
  have hts := S.2.2.2.2
  have X := X.to (ws' := ([[(a 0, .inr (3, [.ref (a 1), .ref (a 3), .ref (a 5), .ref (a 7), .ref (a 9), .ref (a 11), .ref (a 13), .ref (a 15), .ref (a 17), .ref (a 19)]))], hm_row g (a 1) (a 2) 200 (R 0), hm_row g (a 3) (a 4) 30 (R 1), hm_row g (a 5) (a 6) 200 (R 2), hm_row g (a 7) (a 8) 30 (R 3), hm_row g (a 9) (a 10) 30 (R 4), hm_row g (a 11) (a 12) 30 (R 5), hm_row g (a 13) (a 14) 30 (R 6), hm_row g (a 15) (a 16) 100 (R 7), hm_row g (a 17) (a 18) 100 (R 8), hm_row g (a 19) (a 20) 100 (R 9)] : List va_W).flatten) rfl
  unfold f_X3_wordCount at hF
  refine lv_aload_n hx hb dX3_wordCount_0 rfl (lv_at hl 0 rfl) ?_
  refine hm_get S X hf_X3_20 0 rfl rfl dX3_wordCount_1 ?_
  obtain ⟨t1, ht1, hF⟩ := hm_bd hF
  refine hm_vi (As := []) S X mw_X2_size hw_2_70 (c_X2_size l g (a 3) (a 4) 30 (R 1) t1 ht1) (hm_mid [[(a 0, .inr (3, [.ref (a 1), .ref (a 3), .ref (a 5), .ref (a 7), .ref (a 9), .ref (a 11), .ref (a 13), .ref (a 15), .ref (a 17), .ref (a 19)]))], hm_row g (a 1) (a 2) 200 (R 0)] [hm_row g (a 5) (a 6) 200 (R 2), hm_row g (a 7) (a 8) 30 (R 3), hm_row g (a 9) (a 10) 30 (R 4), hm_row g (a 11) (a 12) 30 (R 5), hm_row g (a 13) (a 14) 30 (R 6), hm_row g (a 15) (a 16) 100 (R 7), hm_row g (a 17) (a 18) 100 (R 8), hm_row g (a 19) (a 20) 100 (R 9)]) (hm_mid [[(a 0, .inr (3, [.ref (a 1), .ref (a 3), .ref (a 5), .ref (a 7), .ref (a 9), .ref (a 11), .ref (a 13), .ref (a 15), .ref (a 17), .ref (a 19)]))], hm_row g (a 1) (a 2) 200 (R 0)] [hm_row g (a 5) (a 6) 200 (R 2), hm_row g (a 7) (a 8) 30 (R 3), hm_row g (a 9) (a 10) 30 (R 4), hm_row g (a 11) (a 12) 30 (R 5), hm_row g (a 13) (a 14) 30 (R 6), hm_row g (a 15) (a 16) 100 (R 7), hm_row g (a 17) (a 18) 100 (R 8), hm_row g (a 19) (a 20) 100 (R 9)] (b := hm_row g (a 3) (a 4) 30 (R 1))) rfl rfl rfl ⟨rfl, rfl, Nat.le_of_ble_eq_true rfl, Nat.le_of_ble_eq_true rfl⟩ rfl hl.1 rfl (Nat.le_of_ble_eq_true rfl) dX3_wordCount_4 ⟨Nat.zero_le _, Nat.zero_le _⟩ (fun H locs X => ?_)
  have X := X.to (ws' := ([[(a 0, .inr (3, [.ref (a 1), .ref (a 3), .ref (a 5), .ref (a 7), .ref (a 9), .ref (a 11), .ref (a 13), .ref (a 15), .ref (a 17), .ref (a 19)]))], hm_row g (a 1) (a 2) 200 (R 0), hm_row g (a 3) (a 4) 30 (R 1), hm_row g (a 5) (a 6) 200 (R 2), hm_row g (a 7) (a 8) 30 (R 3), hm_row g (a 9) (a 10) 30 (R 4), hm_row g (a 11) (a 12) 30 (R 5), hm_row g (a 13) (a 14) 30 (R 6), hm_row g (a 15) (a 16) 100 (R 7), hm_row g (a 17) (a 18) 100 (R 8), hm_row g (a 19) (a 20) 100 (R 9)] : List va_W).flatten) rfl
  obtain rfl := Option.some.inj hF
  exact hm_ri S hr hlk X rfl rfl dX3_wordCount_7
def f_X3_startOf (n1 : Nat) (r1 : hm_SR) (x0 : Int32)  : Option (Int32) :=
  if x0 ≤ 0 then (
  some (0))
  else (
  (f_X2_get n1 r1 (x0 - 1)).bind fun t1 =>
  some (t1))
abbrev rm_X3_startOf : Room := { frames := 1, cells := 0, slots := 0, locals := 21 }
set_option maxHeartbeats 4000000 in
set_option maxRecDepth 100000 in
theorem c_X3_startOf (l : Launch) (g : hm_G) (h1 b1 n1 : Nat) (r1 : hm_SR) (x0 : Int32) (q : Int32) (hF : f_X3_startOf n1 r1 x0 = some q) : hm_Mi l yX3_startOf (Cond.code yX3_startOf cX3_startOf 2 (some .int) :: hm_W) rm_X3_startOf g [.ref h1, .int x0] ([hm_row g h1 b1 n1 r1] : List va_W).flatten ([hm_row g h1 b1 n1 r1] : List va_W).flatten q := by
  refine hm_ofi [(0, .ref h1), (1, .int x0)] (by decide) (own := RX3) rfl (Nat.le_of_ble_eq_true rfl) rfl rfl ?_
  intro p e s m args below meth c AA S hr hlk X ls hl
  have hx := S.1
  have hb := S.2.1
  have hown := S.2.2.2.1
  have hts := S.2.2.2.2
  unfold f_X3_startOf at hF
  refine lv_iload_n hx hb dX3_startOf_0 rfl (lv_at hl 1 rfl) ?_
  refine lv_if_le (tgt := 14) hx hb dX3_startOf_1 (by decide) (fun c1 => ?_) (fun c1 => ?_)
  · have hF := hm_if hF c1
    refine lv_iconst (v := 0) hx hb dX3_startOf_14 (by decide) ?_
    obtain rfl := Option.some.inj hF
    exact hm_ri S hr hlk X rfl rfl dX3_startOf_15
  · have hF := hm_nf hF c1
    refine lv_aload_n hx hb dX3_startOf_4 rfl (lv_at hl 0 rfl) ?_
    refine lv_iload_n hx hb dX3_startOf_5 rfl (lv_at hl 1 rfl) ?_
    refine lv_iconst (v := 1) hx hb dX3_startOf_6 (by decide) ?_
    refine lv_isub hx hb dX3_startOf_7 ?_
    obtain ⟨t1, ht1, hF⟩ := hm_bd hF
    refine hm_vi (As := [.int (x0 - 1)]) S X mw_X2_get hw_2_71 (c_X2_get l g h1 b1 n1 r1 (x0 - 1) t1 ht1) (hm_mid [] []) (hm_mid [] [] (b := hm_row g h1 b1 n1 r1)) rfl rfl rfl ⟨rfl, rfl, Nat.le_of_ble_eq_true rfl, Nat.le_of_ble_eq_true rfl⟩ rfl hl.1 rfl (Nat.le_of_ble_eq_true rfl) dX3_startOf_8 ⟨Nat.zero_le _, Nat.zero_le _⟩ (fun H locs X => ?_)
    have X := X.to (ws' := ([hm_row g h1 b1 n1 r1] : List va_W).flatten) rfl
    refine lv_goto (tgt := 15) hx hb dX3_startOf_11 (by decide) ?_
    obtain rfl := Option.some.inj hF
    exact hm_ri S hr hlk X rfl rfl dX3_startOf_15
def f_X3_signCount (R_1 : hm_SR) (x0 : Int32)  : Option (Int32) :=
  (f_X2_get 30 R_1 x0).bind fun t1 =>
  (f_X3_startOf 30 R_1 x0).bind fun t2 =>
  some ((t1 - t2))
abbrev rm_X3_signCount : Room := { frames := 2, cells := 0, slots := 0, locals := 42 }
set_option maxHeartbeats 4000000 in
set_option maxRecDepth 100000 in
theorem c_X3_signCount (l : Launch) (g : hm_G) (a : Nat → Nat) (R : Nat → hm_SR) (x0 : Int32) (q : Int32) (hF : f_X3_signCount (R 1) x0 = some q) : hm_Mi l yX3_signCount (Cond.code yX3_signCount cX3_signCount 2 (some .int) :: hm_W) rm_X3_signCount g [.ref (a 0), .int x0] ([hm_wSc g a R] : List va_W).flatten ([hm_wSc g a R] : List va_W).flatten q := by
  refine hm_ofi [(0, .ref (a 0)), (1, .int x0)] (by decide) (own := RX3) rfl (Nat.le_of_ble_eq_true rfl) rfl rfl ?_
  intro p e s m args below meth c AA S hr hlk X ls hl
  have hx := S.1
  have hb := S.2.1
  have hown := S.2.2.2.1
  have hts := S.2.2.2.2
  have X := X.to (ws' := ([[(a 0, .inr (3, [.ref (a 1), .ref (a 3), .ref (a 5), .ref (a 7), .ref (a 9), .ref (a 11), .ref (a 13), .ref (a 15), .ref (a 17), .ref (a 19)]))], hm_row g (a 1) (a 2) 200 (R 0), hm_row g (a 3) (a 4) 30 (R 1), hm_row g (a 5) (a 6) 200 (R 2), hm_row g (a 7) (a 8) 30 (R 3), hm_row g (a 9) (a 10) 30 (R 4), hm_row g (a 11) (a 12) 30 (R 5), hm_row g (a 13) (a 14) 30 (R 6), hm_row g (a 15) (a 16) 100 (R 7), hm_row g (a 17) (a 18) 100 (R 8), hm_row g (a 19) (a 20) 100 (R 9)] : List va_W).flatten) rfl
  unfold f_X3_signCount at hF
  refine lv_aload_n hx hb dX3_signCount_0 rfl (lv_at hl 0 rfl) ?_
  refine hm_get S X hf_X3_20 0 rfl rfl dX3_signCount_1 ?_
  refine lv_iload_n hx hb dX3_signCount_4 rfl (lv_at hl 1 rfl) ?_
  obtain ⟨t1, ht1, hF⟩ := hm_bd hF
  refine hm_vi (As := [.int x0]) S X mw_X2_get hw_2_71 (c_X2_get l g (a 3) (a 4) 30 (R 1) x0 t1 ht1) (hm_mid [[(a 0, .inr (3, [.ref (a 1), .ref (a 3), .ref (a 5), .ref (a 7), .ref (a 9), .ref (a 11), .ref (a 13), .ref (a 15), .ref (a 17), .ref (a 19)]))], hm_row g (a 1) (a 2) 200 (R 0)] [hm_row g (a 5) (a 6) 200 (R 2), hm_row g (a 7) (a 8) 30 (R 3), hm_row g (a 9) (a 10) 30 (R 4), hm_row g (a 11) (a 12) 30 (R 5), hm_row g (a 13) (a 14) 30 (R 6), hm_row g (a 15) (a 16) 100 (R 7), hm_row g (a 17) (a 18) 100 (R 8), hm_row g (a 19) (a 20) 100 (R 9)]) (hm_mid [[(a 0, .inr (3, [.ref (a 1), .ref (a 3), .ref (a 5), .ref (a 7), .ref (a 9), .ref (a 11), .ref (a 13), .ref (a 15), .ref (a 17), .ref (a 19)]))], hm_row g (a 1) (a 2) 200 (R 0)] [hm_row g (a 5) (a 6) 200 (R 2), hm_row g (a 7) (a 8) 30 (R 3), hm_row g (a 9) (a 10) 30 (R 4), hm_row g (a 11) (a 12) 30 (R 5), hm_row g (a 13) (a 14) 30 (R 6), hm_row g (a 15) (a 16) 100 (R 7), hm_row g (a 17) (a 18) 100 (R 8), hm_row g (a 19) (a 20) 100 (R 9)] (b := hm_row g (a 3) (a 4) 30 (R 1))) rfl rfl rfl ⟨rfl, rfl, Nat.le_of_ble_eq_true rfl, Nat.le_of_ble_eq_true rfl⟩ rfl hl.1 rfl (Nat.le_of_ble_eq_true rfl) dX3_signCount_5 ⟨Nat.zero_le _, Nat.zero_le _⟩ (fun H locs X => ?_)
  have X := X.to (ws' := ([[(a 0, .inr (3, [.ref (a 1), .ref (a 3), .ref (a 5), .ref (a 7), .ref (a 9), .ref (a 11), .ref (a 13), .ref (a 15), .ref (a 17), .ref (a 19)]))], hm_row g (a 1) (a 2) 200 (R 0), hm_row g (a 3) (a 4) 30 (R 1), hm_row g (a 5) (a 6) 200 (R 2), hm_row g (a 7) (a 8) 30 (R 3), hm_row g (a 9) (a 10) 30 (R 4), hm_row g (a 11) (a 12) 30 (R 5), hm_row g (a 13) (a 14) 30 (R 6), hm_row g (a 15) (a 16) 100 (R 7), hm_row g (a 17) (a 18) 100 (R 8), hm_row g (a 19) (a 20) 100 (R 9)] : List va_W).flatten) rfl
  refine lv_aload_n hx hb dX3_signCount_8 rfl (lv_at hl 0 rfl) ?_
  refine hm_get S X hf_X3_20 0 rfl rfl dX3_signCount_9 ?_
  refine lv_iload_n hx hb dX3_signCount_12 rfl (lv_at hl 1 rfl) ?_
  obtain ⟨t2, ht2, hF⟩ := hm_bd hF
  refine hm_si S X mw_X3_startOf hw_2_81 (c_X3_startOf l g (a 3) (a 4) 30 (R 1) x0 t2 ht2) (hm_mid [[(a 0, .inr (3, [.ref (a 1), .ref (a 3), .ref (a 5), .ref (a 7), .ref (a 9), .ref (a 11), .ref (a 13), .ref (a 15), .ref (a 17), .ref (a 19)]))], hm_row g (a 1) (a 2) 200 (R 0)] [hm_row g (a 5) (a 6) 200 (R 2), hm_row g (a 7) (a 8) 30 (R 3), hm_row g (a 9) (a 10) 30 (R 4), hm_row g (a 11) (a 12) 30 (R 5), hm_row g (a 13) (a 14) 30 (R 6), hm_row g (a 15) (a 16) 100 (R 7), hm_row g (a 17) (a 18) 100 (R 8), hm_row g (a 19) (a 20) 100 (R 9)]) (hm_mid [[(a 0, .inr (3, [.ref (a 1), .ref (a 3), .ref (a 5), .ref (a 7), .ref (a 9), .ref (a 11), .ref (a 13), .ref (a 15), .ref (a 17), .ref (a 19)]))], hm_row g (a 1) (a 2) 200 (R 0)] [hm_row g (a 5) (a 6) 200 (R 2), hm_row g (a 7) (a 8) 30 (R 3), hm_row g (a 9) (a 10) 30 (R 4), hm_row g (a 11) (a 12) 30 (R 5), hm_row g (a 13) (a 14) 30 (R 6), hm_row g (a 15) (a 16) 100 (R 7), hm_row g (a 17) (a 18) 100 (R 8), hm_row g (a 19) (a 20) 100 (R 9)] (b := hm_row g (a 3) (a 4) 30 (R 1))) ⟨rfl, rfl, Nat.le_of_ble_eq_true rfl, Nat.le_of_ble_eq_true rfl⟩ rfl hl.1 rfl (Nat.le_of_ble_eq_true rfl) dX3_signCount_13 ⟨Nat.zero_le _, Nat.zero_le _⟩ (fun H locs X => ?_)
  have X := X.to (ws' := ([[(a 0, .inr (3, [.ref (a 1), .ref (a 3), .ref (a 5), .ref (a 7), .ref (a 9), .ref (a 11), .ref (a 13), .ref (a 15), .ref (a 17), .ref (a 19)]))], hm_row g (a 1) (a 2) 200 (R 0), hm_row g (a 3) (a 4) 30 (R 1), hm_row g (a 5) (a 6) 200 (R 2), hm_row g (a 7) (a 8) 30 (R 3), hm_row g (a 9) (a 10) 30 (R 4), hm_row g (a 11) (a 12) 30 (R 5), hm_row g (a 13) (a 14) 30 (R 6), hm_row g (a 15) (a 16) 100 (R 7), hm_row g (a 17) (a 18) 100 (R 8), hm_row g (a 19) (a 20) 100 (R 9)] : List va_W).flatten) rfl
  refine lv_isub hx hb dX3_signCount_16 ?_
  obtain rfl := Option.some.inj hF
  exact hm_ri S hr hlk X rfl rfl dX3_signCount_17
def f_X3_signOf (R_0 : hm_SR) (R_1 : hm_SR) (x0 : Int32) (x1 : Int32)  : Option (Int32) :=
  (f_X3_startOf 30 R_1 x0).bind fun t1 =>
  (f_X2_get 200 R_0 (t1 + x1)).bind fun t2 =>
  some (t2)
abbrev rm_X3_signOf : Room := { frames := 2, cells := 0, slots := 0, locals := 42 }
set_option maxHeartbeats 4000000 in
set_option maxRecDepth 100000 in
theorem c_X3_signOf (l : Launch) (g : hm_G) (a : Nat → Nat) (R : Nat → hm_SR) (x0 : Int32) (x1 : Int32) (q : Int32) (hF : f_X3_signOf (R 0) (R 1) x0 x1 = some q) : hm_Mi l yX3_signOf (Cond.code yX3_signOf cX3_signOf 3 (some .int) :: hm_W) rm_X3_signOf g [.ref (a 0), .int x0, .int x1] ([hm_wSc g a R] : List va_W).flatten ([hm_wSc g a R] : List va_W).flatten q := by
  refine hm_ofi [(0, .ref (a 0)), (1, .int x0), (2, .int x1)] (by decide) (own := RX3) rfl (Nat.le_of_ble_eq_true rfl) rfl rfl ?_
  intro p e s m args below meth c AA S hr hlk X ls hl
  have hx := S.1
  have hb := S.2.1
  have hown := S.2.2.2.1
  have hts := S.2.2.2.2
  have X := X.to (ws' := ([[(a 0, .inr (3, [.ref (a 1), .ref (a 3), .ref (a 5), .ref (a 7), .ref (a 9), .ref (a 11), .ref (a 13), .ref (a 15), .ref (a 17), .ref (a 19)]))], hm_row g (a 1) (a 2) 200 (R 0), hm_row g (a 3) (a 4) 30 (R 1), hm_row g (a 5) (a 6) 200 (R 2), hm_row g (a 7) (a 8) 30 (R 3), hm_row g (a 9) (a 10) 30 (R 4), hm_row g (a 11) (a 12) 30 (R 5), hm_row g (a 13) (a 14) 30 (R 6), hm_row g (a 15) (a 16) 100 (R 7), hm_row g (a 17) (a 18) 100 (R 8), hm_row g (a 19) (a 20) 100 (R 9)] : List va_W).flatten) rfl
  unfold f_X3_signOf at hF
  refine lv_aload_n hx hb dX3_signOf_0 rfl (lv_at hl 0 rfl) ?_
  refine hm_get S X hf_X3_14 0 rfl rfl dX3_signOf_1 ?_
  refine lv_aload_n hx hb dX3_signOf_4 rfl (lv_at hl 0 rfl) ?_
  refine hm_get S X hf_X3_20 0 rfl rfl dX3_signOf_5 ?_
  refine lv_iload_n hx hb dX3_signOf_8 rfl (lv_at hl 1 rfl) ?_
  obtain ⟨t1, ht1, hF⟩ := hm_bd hF
  refine hm_si S X mw_X3_startOf hw_2_81 (c_X3_startOf l g (a 3) (a 4) 30 (R 1) x0 t1 ht1) (hm_mid [[(a 0, .inr (3, [.ref (a 1), .ref (a 3), .ref (a 5), .ref (a 7), .ref (a 9), .ref (a 11), .ref (a 13), .ref (a 15), .ref (a 17), .ref (a 19)]))], hm_row g (a 1) (a 2) 200 (R 0)] [hm_row g (a 5) (a 6) 200 (R 2), hm_row g (a 7) (a 8) 30 (R 3), hm_row g (a 9) (a 10) 30 (R 4), hm_row g (a 11) (a 12) 30 (R 5), hm_row g (a 13) (a 14) 30 (R 6), hm_row g (a 15) (a 16) 100 (R 7), hm_row g (a 17) (a 18) 100 (R 8), hm_row g (a 19) (a 20) 100 (R 9)]) (hm_mid [[(a 0, .inr (3, [.ref (a 1), .ref (a 3), .ref (a 5), .ref (a 7), .ref (a 9), .ref (a 11), .ref (a 13), .ref (a 15), .ref (a 17), .ref (a 19)]))], hm_row g (a 1) (a 2) 200 (R 0)] [hm_row g (a 5) (a 6) 200 (R 2), hm_row g (a 7) (a 8) 30 (R 3), hm_row g (a 9) (a 10) 30 (R 4), hm_row g (a 11) (a 12) 30 (R 5), hm_row g (a 13) (a 14) 30 (R 6), hm_row g (a 15) (a 16) 100 (R 7), hm_row g (a 17) (a 18) 100 (R 8), hm_row g (a 19) (a 20) 100 (R 9)] (b := hm_row g (a 3) (a 4) 30 (R 1))) ⟨rfl, rfl, Nat.le_of_ble_eq_true rfl, Nat.le_of_ble_eq_true rfl⟩ rfl hl.1 rfl (Nat.le_of_ble_eq_true rfl) dX3_signOf_9 ⟨Nat.zero_le _, Nat.zero_le _⟩ (fun H locs X => ?_)
  have X := X.to (ws' := ([[(a 0, .inr (3, [.ref (a 1), .ref (a 3), .ref (a 5), .ref (a 7), .ref (a 9), .ref (a 11), .ref (a 13), .ref (a 15), .ref (a 17), .ref (a 19)]))], hm_row g (a 1) (a 2) 200 (R 0), hm_row g (a 3) (a 4) 30 (R 1), hm_row g (a 5) (a 6) 200 (R 2), hm_row g (a 7) (a 8) 30 (R 3), hm_row g (a 9) (a 10) 30 (R 4), hm_row g (a 11) (a 12) 30 (R 5), hm_row g (a 13) (a 14) 30 (R 6), hm_row g (a 15) (a 16) 100 (R 7), hm_row g (a 17) (a 18) 100 (R 8), hm_row g (a 19) (a 20) 100 (R 9)] : List va_W).flatten) rfl
  refine lv_iload_n hx hb dX3_signOf_12 rfl (lv_at hl 2 rfl) ?_
  refine lv_iadd hx hb dX3_signOf_13 ?_
  obtain ⟨t2, ht2, hF⟩ := hm_bd hF
  refine hm_vi (As := [.int (t1 + x1)]) S X mw_X2_get hw_2_71 (c_X2_get l g (a 1) (a 2) 200 (R 0) (t1 + x1) t2 ht2) (hm_mid [[(a 0, .inr (3, [.ref (a 1), .ref (a 3), .ref (a 5), .ref (a 7), .ref (a 9), .ref (a 11), .ref (a 13), .ref (a 15), .ref (a 17), .ref (a 19)]))]] [hm_row g (a 3) (a 4) 30 (R 1), hm_row g (a 5) (a 6) 200 (R 2), hm_row g (a 7) (a 8) 30 (R 3), hm_row g (a 9) (a 10) 30 (R 4), hm_row g (a 11) (a 12) 30 (R 5), hm_row g (a 13) (a 14) 30 (R 6), hm_row g (a 15) (a 16) 100 (R 7), hm_row g (a 17) (a 18) 100 (R 8), hm_row g (a 19) (a 20) 100 (R 9)]) (hm_mid [[(a 0, .inr (3, [.ref (a 1), .ref (a 3), .ref (a 5), .ref (a 7), .ref (a 9), .ref (a 11), .ref (a 13), .ref (a 15), .ref (a 17), .ref (a 19)]))]] [hm_row g (a 3) (a 4) 30 (R 1), hm_row g (a 5) (a 6) 200 (R 2), hm_row g (a 7) (a 8) 30 (R 3), hm_row g (a 9) (a 10) 30 (R 4), hm_row g (a 11) (a 12) 30 (R 5), hm_row g (a 13) (a 14) 30 (R 6), hm_row g (a 15) (a 16) 100 (R 7), hm_row g (a 17) (a 18) 100 (R 8), hm_row g (a 19) (a 20) 100 (R 9)] (b := hm_row g (a 1) (a 2) 200 (R 0))) rfl rfl rfl ⟨rfl, rfl, Nat.le_of_ble_eq_true rfl, Nat.le_of_ble_eq_true rfl⟩ rfl hl.1 rfl (Nat.le_of_ble_eq_true rfl) dX3_signOf_14 ⟨Nat.zero_le _, Nat.zero_le _⟩ (fun H locs X => ?_)
  have X := X.to (ws' := ([[(a 0, .inr (3, [.ref (a 1), .ref (a 3), .ref (a 5), .ref (a 7), .ref (a 9), .ref (a 11), .ref (a 13), .ref (a 15), .ref (a 17), .ref (a 19)]))], hm_row g (a 1) (a 2) 200 (R 0), hm_row g (a 3) (a 4) 30 (R 1), hm_row g (a 5) (a 6) 200 (R 2), hm_row g (a 7) (a 8) 30 (R 3), hm_row g (a 9) (a 10) 30 (R 4), hm_row g (a 11) (a 12) 30 (R 5), hm_row g (a 13) (a 14) 30 (R 6), hm_row g (a 15) (a 16) 100 (R 7), hm_row g (a 17) (a 18) 100 (R 8), hm_row g (a 19) (a 20) 100 (R 9)] : List va_W).flatten) rfl
  obtain rfl := Option.some.inj hF
  exact hm_ri S hr hlk X rfl rfl dX3_signOf_17
def f_X3_forgetAll (R_0 : hm_SR) (R_1 : hm_SR) (R_2 : hm_SR) (R_3 : hm_SR) (R_4 : hm_SR) (R_5 : hm_SR) (R_6 : hm_SR) (R_7 : hm_SR) (R_8 : hm_SR) (R_9 : hm_SR)  : Option (hm_SR × hm_SR × hm_SR × hm_SR × hm_SR × hm_SR × hm_SR × hm_SR × hm_SR × hm_SR) :=
  (f_X2_empty R_0).bind fun t1 =>
  (f_X2_empty R_1).bind fun t2 =>
  (f_X2_empty R_2).bind fun t3 =>
  (f_X2_empty R_3).bind fun t4 =>
  (f_X2_empty R_4).bind fun t5 =>
  (f_X2_empty R_5).bind fun t6 =>
  (f_X2_empty R_6).bind fun t7 =>
  (f_X2_empty R_7).bind fun t8 =>
  (f_X2_empty R_8).bind fun t9 =>
  (f_X2_empty R_9).bind fun t10 =>
  some (t1, t2, t3, t4, t5, t6, t7, t8, t9, t10)
abbrev rm_X3_forgetAll : Room := { frames := 1, cells := 0, slots := 0, locals := 20 }
set_option maxHeartbeats 4000000 in
set_option maxRecDepth 100000 in
theorem c_X3_forgetAll (l : Launch) (g : hm_G) (a : Nat → Nat) (R : Nat → hm_SR) (q : hm_SR × hm_SR × hm_SR × hm_SR × hm_SR × hm_SR × hm_SR × hm_SR × hm_SR × hm_SR) (hF : f_X3_forgetAll (R 0) (R 1) (R 2) (R 3) (R 4) (R 5) (R 6) (R 7) (R 8) (R 9) = some q) : hm_Mv l yX3_forgetAll (Cond.code yX3_forgetAll cX3_forgetAll 1 none :: hm_W) rm_X3_forgetAll g [.ref (a 0)] ([hm_wSc g a R] : List va_W).flatten ([hm_wSc g a (hm_up (hm_up (hm_up (hm_up (hm_up (hm_up (hm_up (hm_up (hm_up (hm_up R 0 q.1) 1 q.2.1) 2 q.2.2.1) 3 q.2.2.2.1) 4 q.2.2.2.2.1) 5 q.2.2.2.2.2.1) 6 q.2.2.2.2.2.2.1) 7 q.2.2.2.2.2.2.2.1) 8 q.2.2.2.2.2.2.2.2.1) 9 q.2.2.2.2.2.2.2.2.2)] : List va_W).flatten := by
  refine hm_ofv [(0, .ref (a 0))] (by decide) (own := RX3) rfl (Nat.le_of_ble_eq_true rfl) rfl rfl ?_
  intro p e s m args below meth c AA S hr hlk X ls hl
  have hx := S.1
  have hb := S.2.1
  have hown := S.2.2.2.1
  have hts := S.2.2.2.2
  have X := X.to (ws' := ([[(a 0, .inr (3, [.ref (a 1), .ref (a 3), .ref (a 5), .ref (a 7), .ref (a 9), .ref (a 11), .ref (a 13), .ref (a 15), .ref (a 17), .ref (a 19)]))], hm_row g (a 1) (a 2) 200 (R 0), hm_row g (a 3) (a 4) 30 (R 1), hm_row g (a 5) (a 6) 200 (R 2), hm_row g (a 7) (a 8) 30 (R 3), hm_row g (a 9) (a 10) 30 (R 4), hm_row g (a 11) (a 12) 30 (R 5), hm_row g (a 13) (a 14) 30 (R 6), hm_row g (a 15) (a 16) 100 (R 7), hm_row g (a 17) (a 18) 100 (R 8), hm_row g (a 19) (a 20) 100 (R 9)] : List va_W).flatten) rfl
  unfold f_X3_forgetAll at hF
  refine lv_aload_n hx hb dX3_forgetAll_0 rfl (lv_at hl 0 rfl) ?_
  refine hm_get S X hf_X3_14 0 rfl rfl dX3_forgetAll_1 ?_
  obtain ⟨t1, ht1, hF⟩ := hm_bd hF
  refine hm_vv (As := []) S X mw_X2_empty hw_2_69 (c_X2_empty l g (a 1) (a 2) 200 (R 0) t1 ht1) (hm_mid [[(a 0, .inr (3, [.ref (a 1), .ref (a 3), .ref (a 5), .ref (a 7), .ref (a 9), .ref (a 11), .ref (a 13), .ref (a 15), .ref (a 17), .ref (a 19)]))]] [hm_row g (a 3) (a 4) 30 (R 1), hm_row g (a 5) (a 6) 200 (R 2), hm_row g (a 7) (a 8) 30 (R 3), hm_row g (a 9) (a 10) 30 (R 4), hm_row g (a 11) (a 12) 30 (R 5), hm_row g (a 13) (a 14) 30 (R 6), hm_row g (a 15) (a 16) 100 (R 7), hm_row g (a 17) (a 18) 100 (R 8), hm_row g (a 19) (a 20) 100 (R 9)]) (hm_mid [[(a 0, .inr (3, [.ref (a 1), .ref (a 3), .ref (a 5), .ref (a 7), .ref (a 9), .ref (a 11), .ref (a 13), .ref (a 15), .ref (a 17), .ref (a 19)]))]] [hm_row g (a 3) (a 4) 30 (R 1), hm_row g (a 5) (a 6) 200 (R 2), hm_row g (a 7) (a 8) 30 (R 3), hm_row g (a 9) (a 10) 30 (R 4), hm_row g (a 11) (a 12) 30 (R 5), hm_row g (a 13) (a 14) 30 (R 6), hm_row g (a 15) (a 16) 100 (R 7), hm_row g (a 17) (a 18) 100 (R 8), hm_row g (a 19) (a 20) 100 (R 9)] (b := hm_row g (a 1) (a 2) 200 t1)) rfl rfl rfl ⟨rfl, rfl, Nat.le_of_ble_eq_true rfl, Nat.le_of_ble_eq_true rfl⟩ rfl hl.1 rfl (Nat.le_of_ble_eq_true rfl) dX3_forgetAll_4 ⟨Nat.zero_le _, Nat.zero_le _⟩ (fun H locs X => ?_)
  have X := X.to (ws' := ([[(a 0, .inr (3, [.ref (a 1), .ref (a 3), .ref (a 5), .ref (a 7), .ref (a 9), .ref (a 11), .ref (a 13), .ref (a 15), .ref (a 17), .ref (a 19)]))], hm_row g (a 1) (a 2) 200 t1, hm_row g (a 3) (a 4) 30 (R 1), hm_row g (a 5) (a 6) 200 (R 2), hm_row g (a 7) (a 8) 30 (R 3), hm_row g (a 9) (a 10) 30 (R 4), hm_row g (a 11) (a 12) 30 (R 5), hm_row g (a 13) (a 14) 30 (R 6), hm_row g (a 15) (a 16) 100 (R 7), hm_row g (a 17) (a 18) 100 (R 8), hm_row g (a 19) (a 20) 100 (R 9)] : List va_W).flatten) rfl
  refine lv_aload_n hx hb dX3_forgetAll_7 rfl (lv_at hl 0 rfl) ?_
  refine hm_get S X hf_X3_20 0 rfl rfl dX3_forgetAll_8 ?_
  obtain ⟨t2, ht2, hF⟩ := hm_bd hF
  refine hm_vv (As := []) S X mw_X2_empty hw_2_69 (c_X2_empty l g (a 3) (a 4) 30 (R 1) t2 ht2) (hm_mid [[(a 0, .inr (3, [.ref (a 1), .ref (a 3), .ref (a 5), .ref (a 7), .ref (a 9), .ref (a 11), .ref (a 13), .ref (a 15), .ref (a 17), .ref (a 19)]))], hm_row g (a 1) (a 2) 200 t1] [hm_row g (a 5) (a 6) 200 (R 2), hm_row g (a 7) (a 8) 30 (R 3), hm_row g (a 9) (a 10) 30 (R 4), hm_row g (a 11) (a 12) 30 (R 5), hm_row g (a 13) (a 14) 30 (R 6), hm_row g (a 15) (a 16) 100 (R 7), hm_row g (a 17) (a 18) 100 (R 8), hm_row g (a 19) (a 20) 100 (R 9)]) (hm_mid [[(a 0, .inr (3, [.ref (a 1), .ref (a 3), .ref (a 5), .ref (a 7), .ref (a 9), .ref (a 11), .ref (a 13), .ref (a 15), .ref (a 17), .ref (a 19)]))], hm_row g (a 1) (a 2) 200 t1] [hm_row g (a 5) (a 6) 200 (R 2), hm_row g (a 7) (a 8) 30 (R 3), hm_row g (a 9) (a 10) 30 (R 4), hm_row g (a 11) (a 12) 30 (R 5), hm_row g (a 13) (a 14) 30 (R 6), hm_row g (a 15) (a 16) 100 (R 7), hm_row g (a 17) (a 18) 100 (R 8), hm_row g (a 19) (a 20) 100 (R 9)] (b := hm_row g (a 3) (a 4) 30 t2)) rfl rfl rfl ⟨rfl, rfl, Nat.le_of_ble_eq_true rfl, Nat.le_of_ble_eq_true rfl⟩ rfl hl.1 rfl (Nat.le_of_ble_eq_true rfl) dX3_forgetAll_11 ⟨Nat.zero_le _, Nat.zero_le _⟩ (fun H locs X => ?_)
  have X := X.to (ws' := ([[(a 0, .inr (3, [.ref (a 1), .ref (a 3), .ref (a 5), .ref (a 7), .ref (a 9), .ref (a 11), .ref (a 13), .ref (a 15), .ref (a 17), .ref (a 19)]))], hm_row g (a 1) (a 2) 200 t1, hm_row g (a 3) (a 4) 30 t2, hm_row g (a 5) (a 6) 200 (R 2), hm_row g (a 7) (a 8) 30 (R 3), hm_row g (a 9) (a 10) 30 (R 4), hm_row g (a 11) (a 12) 30 (R 5), hm_row g (a 13) (a 14) 30 (R 6), hm_row g (a 15) (a 16) 100 (R 7), hm_row g (a 17) (a 18) 100 (R 8), hm_row g (a 19) (a 20) 100 (R 9)] : List va_W).flatten) rfl
  refine lv_aload_n hx hb dX3_forgetAll_14 rfl (lv_at hl 0 rfl) ?_
  refine hm_get S X hf_X3_23 0 rfl rfl dX3_forgetAll_15 ?_
  obtain ⟨t3, ht3, hF⟩ := hm_bd hF
  refine hm_vv (As := []) S X mw_X2_empty hw_2_69 (c_X2_empty l g (a 5) (a 6) 200 (R 2) t3 ht3) (hm_mid [[(a 0, .inr (3, [.ref (a 1), .ref (a 3), .ref (a 5), .ref (a 7), .ref (a 9), .ref (a 11), .ref (a 13), .ref (a 15), .ref (a 17), .ref (a 19)]))], hm_row g (a 1) (a 2) 200 t1, hm_row g (a 3) (a 4) 30 t2] [hm_row g (a 7) (a 8) 30 (R 3), hm_row g (a 9) (a 10) 30 (R 4), hm_row g (a 11) (a 12) 30 (R 5), hm_row g (a 13) (a 14) 30 (R 6), hm_row g (a 15) (a 16) 100 (R 7), hm_row g (a 17) (a 18) 100 (R 8), hm_row g (a 19) (a 20) 100 (R 9)]) (hm_mid [[(a 0, .inr (3, [.ref (a 1), .ref (a 3), .ref (a 5), .ref (a 7), .ref (a 9), .ref (a 11), .ref (a 13), .ref (a 15), .ref (a 17), .ref (a 19)]))], hm_row g (a 1) (a 2) 200 t1, hm_row g (a 3) (a 4) 30 t2] [hm_row g (a 7) (a 8) 30 (R 3), hm_row g (a 9) (a 10) 30 (R 4), hm_row g (a 11) (a 12) 30 (R 5), hm_row g (a 13) (a 14) 30 (R 6), hm_row g (a 15) (a 16) 100 (R 7), hm_row g (a 17) (a 18) 100 (R 8), hm_row g (a 19) (a 20) 100 (R 9)] (b := hm_row g (a 5) (a 6) 200 t3)) rfl rfl rfl ⟨rfl, rfl, Nat.le_of_ble_eq_true rfl, Nat.le_of_ble_eq_true rfl⟩ rfl hl.1 rfl (Nat.le_of_ble_eq_true rfl) dX3_forgetAll_18 ⟨Nat.zero_le _, Nat.zero_le _⟩ (fun H locs X => ?_)
  have X := X.to (ws' := ([[(a 0, .inr (3, [.ref (a 1), .ref (a 3), .ref (a 5), .ref (a 7), .ref (a 9), .ref (a 11), .ref (a 13), .ref (a 15), .ref (a 17), .ref (a 19)]))], hm_row g (a 1) (a 2) 200 t1, hm_row g (a 3) (a 4) 30 t2, hm_row g (a 5) (a 6) 200 t3, hm_row g (a 7) (a 8) 30 (R 3), hm_row g (a 9) (a 10) 30 (R 4), hm_row g (a 11) (a 12) 30 (R 5), hm_row g (a 13) (a 14) 30 (R 6), hm_row g (a 15) (a 16) 100 (R 7), hm_row g (a 17) (a 18) 100 (R 8), hm_row g (a 19) (a 20) 100 (R 9)] : List va_W).flatten) rfl
  refine lv_aload_n hx hb dX3_forgetAll_21 rfl (lv_at hl 0 rfl) ?_
  refine hm_get S X hf_X3_26 0 rfl rfl dX3_forgetAll_22 ?_
  obtain ⟨t4, ht4, hF⟩ := hm_bd hF
  refine hm_vv (As := []) S X mw_X2_empty hw_2_69 (c_X2_empty l g (a 7) (a 8) 30 (R 3) t4 ht4) (hm_mid [[(a 0, .inr (3, [.ref (a 1), .ref (a 3), .ref (a 5), .ref (a 7), .ref (a 9), .ref (a 11), .ref (a 13), .ref (a 15), .ref (a 17), .ref (a 19)]))], hm_row g (a 1) (a 2) 200 t1, hm_row g (a 3) (a 4) 30 t2, hm_row g (a 5) (a 6) 200 t3] [hm_row g (a 9) (a 10) 30 (R 4), hm_row g (a 11) (a 12) 30 (R 5), hm_row g (a 13) (a 14) 30 (R 6), hm_row g (a 15) (a 16) 100 (R 7), hm_row g (a 17) (a 18) 100 (R 8), hm_row g (a 19) (a 20) 100 (R 9)]) (hm_mid [[(a 0, .inr (3, [.ref (a 1), .ref (a 3), .ref (a 5), .ref (a 7), .ref (a 9), .ref (a 11), .ref (a 13), .ref (a 15), .ref (a 17), .ref (a 19)]))], hm_row g (a 1) (a 2) 200 t1, hm_row g (a 3) (a 4) 30 t2, hm_row g (a 5) (a 6) 200 t3] [hm_row g (a 9) (a 10) 30 (R 4), hm_row g (a 11) (a 12) 30 (R 5), hm_row g (a 13) (a 14) 30 (R 6), hm_row g (a 15) (a 16) 100 (R 7), hm_row g (a 17) (a 18) 100 (R 8), hm_row g (a 19) (a 20) 100 (R 9)] (b := hm_row g (a 7) (a 8) 30 t4)) rfl rfl rfl ⟨rfl, rfl, Nat.le_of_ble_eq_true rfl, Nat.le_of_ble_eq_true rfl⟩ rfl hl.1 rfl (Nat.le_of_ble_eq_true rfl) dX3_forgetAll_25 ⟨Nat.zero_le _, Nat.zero_le _⟩ (fun H locs X => ?_)
  have X := X.to (ws' := ([[(a 0, .inr (3, [.ref (a 1), .ref (a 3), .ref (a 5), .ref (a 7), .ref (a 9), .ref (a 11), .ref (a 13), .ref (a 15), .ref (a 17), .ref (a 19)]))], hm_row g (a 1) (a 2) 200 t1, hm_row g (a 3) (a 4) 30 t2, hm_row g (a 5) (a 6) 200 t3, hm_row g (a 7) (a 8) 30 t4, hm_row g (a 9) (a 10) 30 (R 4), hm_row g (a 11) (a 12) 30 (R 5), hm_row g (a 13) (a 14) 30 (R 6), hm_row g (a 15) (a 16) 100 (R 7), hm_row g (a 17) (a 18) 100 (R 8), hm_row g (a 19) (a 20) 100 (R 9)] : List va_W).flatten) rfl
  refine lv_aload_n hx hb dX3_forgetAll_28 rfl (lv_at hl 0 rfl) ?_
  refine hm_get S X hf_X3_29 0 rfl rfl dX3_forgetAll_29 ?_
  obtain ⟨t5, ht5, hF⟩ := hm_bd hF
  refine hm_vv (As := []) S X mw_X2_empty hw_2_69 (c_X2_empty l g (a 9) (a 10) 30 (R 4) t5 ht5) (hm_mid [[(a 0, .inr (3, [.ref (a 1), .ref (a 3), .ref (a 5), .ref (a 7), .ref (a 9), .ref (a 11), .ref (a 13), .ref (a 15), .ref (a 17), .ref (a 19)]))], hm_row g (a 1) (a 2) 200 t1, hm_row g (a 3) (a 4) 30 t2, hm_row g (a 5) (a 6) 200 t3, hm_row g (a 7) (a 8) 30 t4] [hm_row g (a 11) (a 12) 30 (R 5), hm_row g (a 13) (a 14) 30 (R 6), hm_row g (a 15) (a 16) 100 (R 7), hm_row g (a 17) (a 18) 100 (R 8), hm_row g (a 19) (a 20) 100 (R 9)]) (hm_mid [[(a 0, .inr (3, [.ref (a 1), .ref (a 3), .ref (a 5), .ref (a 7), .ref (a 9), .ref (a 11), .ref (a 13), .ref (a 15), .ref (a 17), .ref (a 19)]))], hm_row g (a 1) (a 2) 200 t1, hm_row g (a 3) (a 4) 30 t2, hm_row g (a 5) (a 6) 200 t3, hm_row g (a 7) (a 8) 30 t4] [hm_row g (a 11) (a 12) 30 (R 5), hm_row g (a 13) (a 14) 30 (R 6), hm_row g (a 15) (a 16) 100 (R 7), hm_row g (a 17) (a 18) 100 (R 8), hm_row g (a 19) (a 20) 100 (R 9)] (b := hm_row g (a 9) (a 10) 30 t5)) rfl rfl rfl ⟨rfl, rfl, Nat.le_of_ble_eq_true rfl, Nat.le_of_ble_eq_true rfl⟩ rfl hl.1 rfl (Nat.le_of_ble_eq_true rfl) dX3_forgetAll_32 ⟨Nat.zero_le _, Nat.zero_le _⟩ (fun H locs X => ?_)
  have X := X.to (ws' := ([[(a 0, .inr (3, [.ref (a 1), .ref (a 3), .ref (a 5), .ref (a 7), .ref (a 9), .ref (a 11), .ref (a 13), .ref (a 15), .ref (a 17), .ref (a 19)]))], hm_row g (a 1) (a 2) 200 t1, hm_row g (a 3) (a 4) 30 t2, hm_row g (a 5) (a 6) 200 t3, hm_row g (a 7) (a 8) 30 t4, hm_row g (a 9) (a 10) 30 t5, hm_row g (a 11) (a 12) 30 (R 5), hm_row g (a 13) (a 14) 30 (R 6), hm_row g (a 15) (a 16) 100 (R 7), hm_row g (a 17) (a 18) 100 (R 8), hm_row g (a 19) (a 20) 100 (R 9)] : List va_W).flatten) rfl
  refine lv_aload_n hx hb dX3_forgetAll_35 rfl (lv_at hl 0 rfl) ?_
  refine hm_get S X hf_X3_32 0 rfl rfl dX3_forgetAll_36 ?_
  obtain ⟨t6, ht6, hF⟩ := hm_bd hF
  refine hm_vv (As := []) S X mw_X2_empty hw_2_69 (c_X2_empty l g (a 11) (a 12) 30 (R 5) t6 ht6) (hm_mid [[(a 0, .inr (3, [.ref (a 1), .ref (a 3), .ref (a 5), .ref (a 7), .ref (a 9), .ref (a 11), .ref (a 13), .ref (a 15), .ref (a 17), .ref (a 19)]))], hm_row g (a 1) (a 2) 200 t1, hm_row g (a 3) (a 4) 30 t2, hm_row g (a 5) (a 6) 200 t3, hm_row g (a 7) (a 8) 30 t4, hm_row g (a 9) (a 10) 30 t5] [hm_row g (a 13) (a 14) 30 (R 6), hm_row g (a 15) (a 16) 100 (R 7), hm_row g (a 17) (a 18) 100 (R 8), hm_row g (a 19) (a 20) 100 (R 9)]) (hm_mid [[(a 0, .inr (3, [.ref (a 1), .ref (a 3), .ref (a 5), .ref (a 7), .ref (a 9), .ref (a 11), .ref (a 13), .ref (a 15), .ref (a 17), .ref (a 19)]))], hm_row g (a 1) (a 2) 200 t1, hm_row g (a 3) (a 4) 30 t2, hm_row g (a 5) (a 6) 200 t3, hm_row g (a 7) (a 8) 30 t4, hm_row g (a 9) (a 10) 30 t5] [hm_row g (a 13) (a 14) 30 (R 6), hm_row g (a 15) (a 16) 100 (R 7), hm_row g (a 17) (a 18) 100 (R 8), hm_row g (a 19) (a 20) 100 (R 9)] (b := hm_row g (a 11) (a 12) 30 t6)) rfl rfl rfl ⟨rfl, rfl, Nat.le_of_ble_eq_true rfl, Nat.le_of_ble_eq_true rfl⟩ rfl hl.1 rfl (Nat.le_of_ble_eq_true rfl) dX3_forgetAll_39 ⟨Nat.zero_le _, Nat.zero_le _⟩ (fun H locs X => ?_)
  have X := X.to (ws' := ([[(a 0, .inr (3, [.ref (a 1), .ref (a 3), .ref (a 5), .ref (a 7), .ref (a 9), .ref (a 11), .ref (a 13), .ref (a 15), .ref (a 17), .ref (a 19)]))], hm_row g (a 1) (a 2) 200 t1, hm_row g (a 3) (a 4) 30 t2, hm_row g (a 5) (a 6) 200 t3, hm_row g (a 7) (a 8) 30 t4, hm_row g (a 9) (a 10) 30 t5, hm_row g (a 11) (a 12) 30 t6, hm_row g (a 13) (a 14) 30 (R 6), hm_row g (a 15) (a 16) 100 (R 7), hm_row g (a 17) (a 18) 100 (R 8), hm_row g (a 19) (a 20) 100 (R 9)] : List va_W).flatten) rfl
  refine lv_aload_n hx hb dX3_forgetAll_42 rfl (lv_at hl 0 rfl) ?_
  refine hm_get S X hf_X3_35 0 rfl rfl dX3_forgetAll_43 ?_
  obtain ⟨t7, ht7, hF⟩ := hm_bd hF
  refine hm_vv (As := []) S X mw_X2_empty hw_2_69 (c_X2_empty l g (a 13) (a 14) 30 (R 6) t7 ht7) (hm_mid [[(a 0, .inr (3, [.ref (a 1), .ref (a 3), .ref (a 5), .ref (a 7), .ref (a 9), .ref (a 11), .ref (a 13), .ref (a 15), .ref (a 17), .ref (a 19)]))], hm_row g (a 1) (a 2) 200 t1, hm_row g (a 3) (a 4) 30 t2, hm_row g (a 5) (a 6) 200 t3, hm_row g (a 7) (a 8) 30 t4, hm_row g (a 9) (a 10) 30 t5, hm_row g (a 11) (a 12) 30 t6] [hm_row g (a 15) (a 16) 100 (R 7), hm_row g (a 17) (a 18) 100 (R 8), hm_row g (a 19) (a 20) 100 (R 9)]) (hm_mid [[(a 0, .inr (3, [.ref (a 1), .ref (a 3), .ref (a 5), .ref (a 7), .ref (a 9), .ref (a 11), .ref (a 13), .ref (a 15), .ref (a 17), .ref (a 19)]))], hm_row g (a 1) (a 2) 200 t1, hm_row g (a 3) (a 4) 30 t2, hm_row g (a 5) (a 6) 200 t3, hm_row g (a 7) (a 8) 30 t4, hm_row g (a 9) (a 10) 30 t5, hm_row g (a 11) (a 12) 30 t6] [hm_row g (a 15) (a 16) 100 (R 7), hm_row g (a 17) (a 18) 100 (R 8), hm_row g (a 19) (a 20) 100 (R 9)] (b := hm_row g (a 13) (a 14) 30 t7)) rfl rfl rfl ⟨rfl, rfl, Nat.le_of_ble_eq_true rfl, Nat.le_of_ble_eq_true rfl⟩ rfl hl.1 rfl (Nat.le_of_ble_eq_true rfl) dX3_forgetAll_46 ⟨Nat.zero_le _, Nat.zero_le _⟩ (fun H locs X => ?_)
  have X := X.to (ws' := ([[(a 0, .inr (3, [.ref (a 1), .ref (a 3), .ref (a 5), .ref (a 7), .ref (a 9), .ref (a 11), .ref (a 13), .ref (a 15), .ref (a 17), .ref (a 19)]))], hm_row g (a 1) (a 2) 200 t1, hm_row g (a 3) (a 4) 30 t2, hm_row g (a 5) (a 6) 200 t3, hm_row g (a 7) (a 8) 30 t4, hm_row g (a 9) (a 10) 30 t5, hm_row g (a 11) (a 12) 30 t6, hm_row g (a 13) (a 14) 30 t7, hm_row g (a 15) (a 16) 100 (R 7), hm_row g (a 17) (a 18) 100 (R 8), hm_row g (a 19) (a 20) 100 (R 9)] : List va_W).flatten) rfl
  refine lv_aload_n hx hb dX3_forgetAll_49 rfl (lv_at hl 0 rfl) ?_
  refine hm_get S X hf_X3_38 0 rfl rfl dX3_forgetAll_50 ?_
  obtain ⟨t8, ht8, hF⟩ := hm_bd hF
  refine hm_vv (As := []) S X mw_X2_empty hw_2_69 (c_X2_empty l g (a 15) (a 16) 100 (R 7) t8 ht8) (hm_mid [[(a 0, .inr (3, [.ref (a 1), .ref (a 3), .ref (a 5), .ref (a 7), .ref (a 9), .ref (a 11), .ref (a 13), .ref (a 15), .ref (a 17), .ref (a 19)]))], hm_row g (a 1) (a 2) 200 t1, hm_row g (a 3) (a 4) 30 t2, hm_row g (a 5) (a 6) 200 t3, hm_row g (a 7) (a 8) 30 t4, hm_row g (a 9) (a 10) 30 t5, hm_row g (a 11) (a 12) 30 t6, hm_row g (a 13) (a 14) 30 t7] [hm_row g (a 17) (a 18) 100 (R 8), hm_row g (a 19) (a 20) 100 (R 9)]) (hm_mid [[(a 0, .inr (3, [.ref (a 1), .ref (a 3), .ref (a 5), .ref (a 7), .ref (a 9), .ref (a 11), .ref (a 13), .ref (a 15), .ref (a 17), .ref (a 19)]))], hm_row g (a 1) (a 2) 200 t1, hm_row g (a 3) (a 4) 30 t2, hm_row g (a 5) (a 6) 200 t3, hm_row g (a 7) (a 8) 30 t4, hm_row g (a 9) (a 10) 30 t5, hm_row g (a 11) (a 12) 30 t6, hm_row g (a 13) (a 14) 30 t7] [hm_row g (a 17) (a 18) 100 (R 8), hm_row g (a 19) (a 20) 100 (R 9)] (b := hm_row g (a 15) (a 16) 100 t8)) rfl rfl rfl ⟨rfl, rfl, Nat.le_of_ble_eq_true rfl, Nat.le_of_ble_eq_true rfl⟩ rfl hl.1 rfl (Nat.le_of_ble_eq_true rfl) dX3_forgetAll_53 ⟨Nat.zero_le _, Nat.zero_le _⟩ (fun H locs X => ?_)
  have X := X.to (ws' := ([[(a 0, .inr (3, [.ref (a 1), .ref (a 3), .ref (a 5), .ref (a 7), .ref (a 9), .ref (a 11), .ref (a 13), .ref (a 15), .ref (a 17), .ref (a 19)]))], hm_row g (a 1) (a 2) 200 t1, hm_row g (a 3) (a 4) 30 t2, hm_row g (a 5) (a 6) 200 t3, hm_row g (a 7) (a 8) 30 t4, hm_row g (a 9) (a 10) 30 t5, hm_row g (a 11) (a 12) 30 t6, hm_row g (a 13) (a 14) 30 t7, hm_row g (a 15) (a 16) 100 t8, hm_row g (a 17) (a 18) 100 (R 8), hm_row g (a 19) (a 20) 100 (R 9)] : List va_W).flatten) rfl
  refine lv_aload_n hx hb dX3_forgetAll_56 rfl (lv_at hl 0 rfl) ?_
  refine hm_get S X hf_X3_41 0 rfl rfl dX3_forgetAll_57 ?_
  obtain ⟨t9, ht9, hF⟩ := hm_bd hF
  refine hm_vv (As := []) S X mw_X2_empty hw_2_69 (c_X2_empty l g (a 17) (a 18) 100 (R 8) t9 ht9) (hm_mid [[(a 0, .inr (3, [.ref (a 1), .ref (a 3), .ref (a 5), .ref (a 7), .ref (a 9), .ref (a 11), .ref (a 13), .ref (a 15), .ref (a 17), .ref (a 19)]))], hm_row g (a 1) (a 2) 200 t1, hm_row g (a 3) (a 4) 30 t2, hm_row g (a 5) (a 6) 200 t3, hm_row g (a 7) (a 8) 30 t4, hm_row g (a 9) (a 10) 30 t5, hm_row g (a 11) (a 12) 30 t6, hm_row g (a 13) (a 14) 30 t7, hm_row g (a 15) (a 16) 100 t8] [hm_row g (a 19) (a 20) 100 (R 9)]) (hm_mid [[(a 0, .inr (3, [.ref (a 1), .ref (a 3), .ref (a 5), .ref (a 7), .ref (a 9), .ref (a 11), .ref (a 13), .ref (a 15), .ref (a 17), .ref (a 19)]))], hm_row g (a 1) (a 2) 200 t1, hm_row g (a 3) (a 4) 30 t2, hm_row g (a 5) (a 6) 200 t3, hm_row g (a 7) (a 8) 30 t4, hm_row g (a 9) (a 10) 30 t5, hm_row g (a 11) (a 12) 30 t6, hm_row g (a 13) (a 14) 30 t7, hm_row g (a 15) (a 16) 100 t8] [hm_row g (a 19) (a 20) 100 (R 9)] (b := hm_row g (a 17) (a 18) 100 t9)) rfl rfl rfl ⟨rfl, rfl, Nat.le_of_ble_eq_true rfl, Nat.le_of_ble_eq_true rfl⟩ rfl hl.1 rfl (Nat.le_of_ble_eq_true rfl) dX3_forgetAll_60 ⟨Nat.zero_le _, Nat.zero_le _⟩ (fun H locs X => ?_)
  have X := X.to (ws' := ([[(a 0, .inr (3, [.ref (a 1), .ref (a 3), .ref (a 5), .ref (a 7), .ref (a 9), .ref (a 11), .ref (a 13), .ref (a 15), .ref (a 17), .ref (a 19)]))], hm_row g (a 1) (a 2) 200 t1, hm_row g (a 3) (a 4) 30 t2, hm_row g (a 5) (a 6) 200 t3, hm_row g (a 7) (a 8) 30 t4, hm_row g (a 9) (a 10) 30 t5, hm_row g (a 11) (a 12) 30 t6, hm_row g (a 13) (a 14) 30 t7, hm_row g (a 15) (a 16) 100 t8, hm_row g (a 17) (a 18) 100 t9, hm_row g (a 19) (a 20) 100 (R 9)] : List va_W).flatten) rfl
  refine lv_aload_n hx hb dX3_forgetAll_63 rfl (lv_at hl 0 rfl) ?_
  refine hm_get S X hf_X3_44 0 rfl rfl dX3_forgetAll_64 ?_
  obtain ⟨t10, ht10, hF⟩ := hm_bd hF
  refine hm_vv (As := []) S X mw_X2_empty hw_2_69 (c_X2_empty l g (a 19) (a 20) 100 (R 9) t10 ht10) (hm_mid [[(a 0, .inr (3, [.ref (a 1), .ref (a 3), .ref (a 5), .ref (a 7), .ref (a 9), .ref (a 11), .ref (a 13), .ref (a 15), .ref (a 17), .ref (a 19)]))], hm_row g (a 1) (a 2) 200 t1, hm_row g (a 3) (a 4) 30 t2, hm_row g (a 5) (a 6) 200 t3, hm_row g (a 7) (a 8) 30 t4, hm_row g (a 9) (a 10) 30 t5, hm_row g (a 11) (a 12) 30 t6, hm_row g (a 13) (a 14) 30 t7, hm_row g (a 15) (a 16) 100 t8, hm_row g (a 17) (a 18) 100 t9] []) (hm_mid [[(a 0, .inr (3, [.ref (a 1), .ref (a 3), .ref (a 5), .ref (a 7), .ref (a 9), .ref (a 11), .ref (a 13), .ref (a 15), .ref (a 17), .ref (a 19)]))], hm_row g (a 1) (a 2) 200 t1, hm_row g (a 3) (a 4) 30 t2, hm_row g (a 5) (a 6) 200 t3, hm_row g (a 7) (a 8) 30 t4, hm_row g (a 9) (a 10) 30 t5, hm_row g (a 11) (a 12) 30 t6, hm_row g (a 13) (a 14) 30 t7, hm_row g (a 15) (a 16) 100 t8, hm_row g (a 17) (a 18) 100 t9] [] (b := hm_row g (a 19) (a 20) 100 t10)) rfl rfl rfl ⟨rfl, rfl, Nat.le_of_ble_eq_true rfl, Nat.le_of_ble_eq_true rfl⟩ rfl hl.1 rfl (Nat.le_of_ble_eq_true rfl) dX3_forgetAll_67 ⟨Nat.zero_le _, Nat.zero_le _⟩ (fun H locs X => ?_)
  have X := X.to (ws' := ([[(a 0, .inr (3, [.ref (a 1), .ref (a 3), .ref (a 5), .ref (a 7), .ref (a 9), .ref (a 11), .ref (a 13), .ref (a 15), .ref (a 17), .ref (a 19)]))], hm_row g (a 1) (a 2) 200 t1, hm_row g (a 3) (a 4) 30 t2, hm_row g (a 5) (a 6) 200 t3, hm_row g (a 7) (a 8) 30 t4, hm_row g (a 9) (a 10) 30 t5, hm_row g (a 11) (a 12) 30 t6, hm_row g (a 13) (a 14) 30 t7, hm_row g (a 15) (a 16) 100 t8, hm_row g (a 17) (a 18) 100 t9, hm_row g (a 19) (a 20) 100 t10] : List va_W).flatten) rfl
  obtain rfl := Option.some.inj hF
  exact hm_rv S hr hlk X rfl dX3_forgetAll_70
def f_X3_addPlace (R_1 : hm_SR) (R_2 : hm_SR) (R_3 : hm_SR) (R_7 : hm_SR) (R_8 : hm_SR) (R_9 : hm_SR) (x0 : Int32)  : Option (hm_SR × hm_SR × hm_SR) :=
  (f_X3_wordCount R_1).bind fun t1 =>
  (f_X2_add 100 R_7 t1).bind fun t2 =>
  (f_X2_size R_2).bind fun t3 =>
  (f_X3_startOf 30 R_3 t1).bind fun t4 =>
  (f_X2_add 100 R_8 (t3 - t4)).bind fun t5 =>
  (f_X2_add 100 R_9 x0).bind fun t6 =>
  some (t2.2, t5.2, t6.2)
abbrev rm_X3_addPlace : Room := { frames := 2, cells := 0, slots := 0, locals := 42 }
set_option maxHeartbeats 4000000 in
set_option maxRecDepth 100000 in
theorem c_X3_addPlace (l : Launch) (g : hm_G) (a : Nat → Nat) (R : Nat → hm_SR) (x0 : Int32) (q : hm_SR × hm_SR × hm_SR) (hF : f_X3_addPlace (R 1) (R 2) (R 3) (R 7) (R 8) (R 9) x0 = some q) : hm_Mv l yX3_addPlace (Cond.code yX3_addPlace cX3_addPlace 3 none :: hm_W) rm_X3_addPlace g [.ref (a 0), .int x0] ([hm_wSc g a R] : List va_W).flatten ([hm_wSc g a (hm_up (hm_up (hm_up R 7 q.1) 8 q.2.1) 9 q.2.2)] : List va_W).flatten := by
  refine hm_ofv [(0, .ref (a 0)), (1, .int x0)] (by decide) (own := RX3) rfl (Nat.le_of_ble_eq_true rfl) rfl rfl ?_
  intro p e s m args below meth c AA S hr hlk X ls hl
  have hx := S.1
  have hb := S.2.1
  have hown := S.2.2.2.1
  have hts := S.2.2.2.2
  have X := X.to (ws' := ([[(a 0, .inr (3, [.ref (a 1), .ref (a 3), .ref (a 5), .ref (a 7), .ref (a 9), .ref (a 11), .ref (a 13), .ref (a 15), .ref (a 17), .ref (a 19)]))], hm_row g (a 1) (a 2) 200 (R 0), hm_row g (a 3) (a 4) 30 (R 1), hm_row g (a 5) (a 6) 200 (R 2), hm_row g (a 7) (a 8) 30 (R 3), hm_row g (a 9) (a 10) 30 (R 4), hm_row g (a 11) (a 12) 30 (R 5), hm_row g (a 13) (a 14) 30 (R 6), hm_row g (a 15) (a 16) 100 (R 7), hm_row g (a 17) (a 18) 100 (R 8), hm_row g (a 19) (a 20) 100 (R 9)] : List va_W).flatten) rfl
  unfold f_X3_addPlace at hF
  refine lv_aload_n hx hb dX3_addPlace_0 rfl (lv_at hl 0 rfl) ?_
  obtain ⟨t1, ht1, hF⟩ := hm_bd hF
  refine hm_vi (As := []) S X mw_X3_wordCount hw_2_77 (c_X3_wordCount l g a R t1 ht1) (hm_cq (n := 11) [0, 1, 2, 3, 4, 5, 6, 7, 8, 9, 10] [] rfl (by decide +kernel) rfl rfl) (hm_cq (bs := [[(a 0, .inr (3, [.ref (a 1), .ref (a 3), .ref (a 5), .ref (a 7), .ref (a 9), .ref (a 11), .ref (a 13), .ref (a 15), .ref (a 17), .ref (a 19)]))], hm_row g (a 1) (a 2) 200 (R 0), hm_row g (a 3) (a 4) 30 (R 1), hm_row g (a 5) (a 6) 200 (R 2), hm_row g (a 7) (a 8) 30 (R 3), hm_row g (a 9) (a 10) 30 (R 4), hm_row g (a 11) (a 12) 30 (R 5), hm_row g (a 13) (a 14) 30 (R 6), hm_row g (a 15) (a 16) 100 (R 7), hm_row g (a 17) (a 18) 100 (R 8), hm_row g (a 19) (a 20) 100 (R 9)]) (n := 11) [0, 1, 2, 3, 4, 5, 6, 7, 8, 9, 10] [] rfl (by decide +kernel) rfl rfl) rfl rfl rfl ⟨rfl, rfl, Nat.le_of_ble_eq_true rfl, Nat.le_of_ble_eq_true rfl⟩ rfl hl.1 rfl (Nat.le_of_ble_eq_true rfl) dX3_addPlace_1 ⟨Nat.zero_le _, Nat.zero_le _⟩ (fun H locs X => ?_)
  have X := X.to (ws' := ([[(a 0, .inr (3, [.ref (a 1), .ref (a 3), .ref (a 5), .ref (a 7), .ref (a 9), .ref (a 11), .ref (a 13), .ref (a 15), .ref (a 17), .ref (a 19)]))], hm_row g (a 1) (a 2) 200 (R 0), hm_row g (a 3) (a 4) 30 (R 1), hm_row g (a 5) (a 6) 200 (R 2), hm_row g (a 7) (a 8) 30 (R 3), hm_row g (a 9) (a 10) 30 (R 4), hm_row g (a 11) (a 12) 30 (R 5), hm_row g (a 13) (a 14) 30 (R 6), hm_row g (a 15) (a 16) 100 (R 7), hm_row g (a 17) (a 18) 100 (R 8), hm_row g (a 19) (a 20) 100 (R 9)] : List va_W).flatten) rfl
  refine lv_istore_n (lv' := [(2, .int t1), (0, .ref (a 0)), (1, .int x0)]) hx hb dX3_addPlace_4 rfl hl (by decide) rfl (fun ls hl => ?_)
  refine lv_aload_n hx hb dX3_addPlace_5 rfl (lv_at hl 1 rfl) ?_
  refine hm_get S X hf_X3_38 0 rfl rfl dX3_addPlace_6 ?_
  refine lv_iload_n hx hb dX3_addPlace_9 rfl (lv_at hl 0 rfl) ?_
  obtain ⟨t2, ht2, hF⟩ := hm_bd hF
  refine hm_vi (As := [.int t1]) S X mw_X2_add hw_2_72 (c_X2_add l g (a 15) (a 16) 100 (R 7) t1 t2 ht2) (hm_mid [[(a 0, .inr (3, [.ref (a 1), .ref (a 3), .ref (a 5), .ref (a 7), .ref (a 9), .ref (a 11), .ref (a 13), .ref (a 15), .ref (a 17), .ref (a 19)]))], hm_row g (a 1) (a 2) 200 (R 0), hm_row g (a 3) (a 4) 30 (R 1), hm_row g (a 5) (a 6) 200 (R 2), hm_row g (a 7) (a 8) 30 (R 3), hm_row g (a 9) (a 10) 30 (R 4), hm_row g (a 11) (a 12) 30 (R 5), hm_row g (a 13) (a 14) 30 (R 6)] [hm_row g (a 17) (a 18) 100 (R 8), hm_row g (a 19) (a 20) 100 (R 9)]) (hm_mid [[(a 0, .inr (3, [.ref (a 1), .ref (a 3), .ref (a 5), .ref (a 7), .ref (a 9), .ref (a 11), .ref (a 13), .ref (a 15), .ref (a 17), .ref (a 19)]))], hm_row g (a 1) (a 2) 200 (R 0), hm_row g (a 3) (a 4) 30 (R 1), hm_row g (a 5) (a 6) 200 (R 2), hm_row g (a 7) (a 8) 30 (R 3), hm_row g (a 9) (a 10) 30 (R 4), hm_row g (a 11) (a 12) 30 (R 5), hm_row g (a 13) (a 14) 30 (R 6)] [hm_row g (a 17) (a 18) 100 (R 8), hm_row g (a 19) (a 20) 100 (R 9)] (b := hm_row g (a 15) (a 16) 100 t2.2)) rfl rfl rfl ⟨rfl, rfl, Nat.le_of_ble_eq_true rfl, Nat.le_of_ble_eq_true rfl⟩ rfl hl.1 rfl (Nat.le_of_ble_eq_true rfl) dX3_addPlace_10 ⟨Nat.zero_le _, Nat.zero_le _⟩ (fun H locs X => ?_)
  have X := X.to (ws' := ([[(a 0, .inr (3, [.ref (a 1), .ref (a 3), .ref (a 5), .ref (a 7), .ref (a 9), .ref (a 11), .ref (a 13), .ref (a 15), .ref (a 17), .ref (a 19)]))], hm_row g (a 1) (a 2) 200 (R 0), hm_row g (a 3) (a 4) 30 (R 1), hm_row g (a 5) (a 6) 200 (R 2), hm_row g (a 7) (a 8) 30 (R 3), hm_row g (a 9) (a 10) 30 (R 4), hm_row g (a 11) (a 12) 30 (R 5), hm_row g (a 13) (a 14) 30 (R 6), hm_row g (a 15) (a 16) 100 t2.2, hm_row g (a 17) (a 18) 100 (R 8), hm_row g (a 19) (a 20) 100 (R 9)] : List va_W).flatten) rfl
  refine lv_pop hx hb dX3_addPlace_13 rfl ?_
  refine lv_aload_n hx hb dX3_addPlace_14 rfl (lv_at hl 1 rfl) ?_
  refine hm_get S X hf_X3_41 0 rfl rfl dX3_addPlace_15 ?_
  refine lv_aload_n hx hb dX3_addPlace_18 rfl (lv_at hl 1 rfl) ?_
  refine hm_get S X hf_X3_23 0 rfl rfl dX3_addPlace_19 ?_
  obtain ⟨t3, ht3, hF⟩ := hm_bd hF
  refine hm_vi (As := []) S X mw_X2_size hw_2_70 (c_X2_size l g (a 5) (a 6) 200 (R 2) t3 ht3) (hm_mid [[(a 0, .inr (3, [.ref (a 1), .ref (a 3), .ref (a 5), .ref (a 7), .ref (a 9), .ref (a 11), .ref (a 13), .ref (a 15), .ref (a 17), .ref (a 19)]))], hm_row g (a 1) (a 2) 200 (R 0), hm_row g (a 3) (a 4) 30 (R 1)] [hm_row g (a 7) (a 8) 30 (R 3), hm_row g (a 9) (a 10) 30 (R 4), hm_row g (a 11) (a 12) 30 (R 5), hm_row g (a 13) (a 14) 30 (R 6), hm_row g (a 15) (a 16) 100 t2.2, hm_row g (a 17) (a 18) 100 (R 8), hm_row g (a 19) (a 20) 100 (R 9)]) (hm_mid [[(a 0, .inr (3, [.ref (a 1), .ref (a 3), .ref (a 5), .ref (a 7), .ref (a 9), .ref (a 11), .ref (a 13), .ref (a 15), .ref (a 17), .ref (a 19)]))], hm_row g (a 1) (a 2) 200 (R 0), hm_row g (a 3) (a 4) 30 (R 1)] [hm_row g (a 7) (a 8) 30 (R 3), hm_row g (a 9) (a 10) 30 (R 4), hm_row g (a 11) (a 12) 30 (R 5), hm_row g (a 13) (a 14) 30 (R 6), hm_row g (a 15) (a 16) 100 t2.2, hm_row g (a 17) (a 18) 100 (R 8), hm_row g (a 19) (a 20) 100 (R 9)] (b := hm_row g (a 5) (a 6) 200 (R 2))) rfl rfl rfl ⟨rfl, rfl, Nat.le_of_ble_eq_true rfl, Nat.le_of_ble_eq_true rfl⟩ rfl hl.1 rfl (Nat.le_of_ble_eq_true rfl) dX3_addPlace_22 ⟨Nat.zero_le _, Nat.zero_le _⟩ (fun H locs X => ?_)
  have X := X.to (ws' := ([[(a 0, .inr (3, [.ref (a 1), .ref (a 3), .ref (a 5), .ref (a 7), .ref (a 9), .ref (a 11), .ref (a 13), .ref (a 15), .ref (a 17), .ref (a 19)]))], hm_row g (a 1) (a 2) 200 (R 0), hm_row g (a 3) (a 4) 30 (R 1), hm_row g (a 5) (a 6) 200 (R 2), hm_row g (a 7) (a 8) 30 (R 3), hm_row g (a 9) (a 10) 30 (R 4), hm_row g (a 11) (a 12) 30 (R 5), hm_row g (a 13) (a 14) 30 (R 6), hm_row g (a 15) (a 16) 100 t2.2, hm_row g (a 17) (a 18) 100 (R 8), hm_row g (a 19) (a 20) 100 (R 9)] : List va_W).flatten) rfl
  refine lv_aload_n hx hb dX3_addPlace_25 rfl (lv_at hl 1 rfl) ?_
  refine hm_get S X hf_X3_26 0 rfl rfl dX3_addPlace_26 ?_
  refine lv_iload_n hx hb dX3_addPlace_29 rfl (lv_at hl 0 rfl) ?_
  obtain ⟨t4, ht4, hF⟩ := hm_bd hF
  refine hm_si S X mw_X3_startOf hw_2_81 (c_X3_startOf l g (a 7) (a 8) 30 (R 3) t1 t4 ht4) (hm_mid [[(a 0, .inr (3, [.ref (a 1), .ref (a 3), .ref (a 5), .ref (a 7), .ref (a 9), .ref (a 11), .ref (a 13), .ref (a 15), .ref (a 17), .ref (a 19)]))], hm_row g (a 1) (a 2) 200 (R 0), hm_row g (a 3) (a 4) 30 (R 1), hm_row g (a 5) (a 6) 200 (R 2)] [hm_row g (a 9) (a 10) 30 (R 4), hm_row g (a 11) (a 12) 30 (R 5), hm_row g (a 13) (a 14) 30 (R 6), hm_row g (a 15) (a 16) 100 t2.2, hm_row g (a 17) (a 18) 100 (R 8), hm_row g (a 19) (a 20) 100 (R 9)]) (hm_mid [[(a 0, .inr (3, [.ref (a 1), .ref (a 3), .ref (a 5), .ref (a 7), .ref (a 9), .ref (a 11), .ref (a 13), .ref (a 15), .ref (a 17), .ref (a 19)]))], hm_row g (a 1) (a 2) 200 (R 0), hm_row g (a 3) (a 4) 30 (R 1), hm_row g (a 5) (a 6) 200 (R 2)] [hm_row g (a 9) (a 10) 30 (R 4), hm_row g (a 11) (a 12) 30 (R 5), hm_row g (a 13) (a 14) 30 (R 6), hm_row g (a 15) (a 16) 100 t2.2, hm_row g (a 17) (a 18) 100 (R 8), hm_row g (a 19) (a 20) 100 (R 9)] (b := hm_row g (a 7) (a 8) 30 (R 3))) ⟨rfl, rfl, Nat.le_of_ble_eq_true rfl, Nat.le_of_ble_eq_true rfl⟩ rfl hl.1 rfl (Nat.le_of_ble_eq_true rfl) dX3_addPlace_30 ⟨Nat.zero_le _, Nat.zero_le _⟩ (fun H locs X => ?_)
  have X := X.to (ws' := ([[(a 0, .inr (3, [.ref (a 1), .ref (a 3), .ref (a 5), .ref (a 7), .ref (a 9), .ref (a 11), .ref (a 13), .ref (a 15), .ref (a 17), .ref (a 19)]))], hm_row g (a 1) (a 2) 200 (R 0), hm_row g (a 3) (a 4) 30 (R 1), hm_row g (a 5) (a 6) 200 (R 2), hm_row g (a 7) (a 8) 30 (R 3), hm_row g (a 9) (a 10) 30 (R 4), hm_row g (a 11) (a 12) 30 (R 5), hm_row g (a 13) (a 14) 30 (R 6), hm_row g (a 15) (a 16) 100 t2.2, hm_row g (a 17) (a 18) 100 (R 8), hm_row g (a 19) (a 20) 100 (R 9)] : List va_W).flatten) rfl
  refine lv_isub hx hb dX3_addPlace_33 ?_
  obtain ⟨t5, ht5, hF⟩ := hm_bd hF
  refine hm_vi (As := [.int (t3 - t4)]) S X mw_X2_add hw_2_72 (c_X2_add l g (a 17) (a 18) 100 (R 8) (t3 - t4) t5 ht5) (hm_mid [[(a 0, .inr (3, [.ref (a 1), .ref (a 3), .ref (a 5), .ref (a 7), .ref (a 9), .ref (a 11), .ref (a 13), .ref (a 15), .ref (a 17), .ref (a 19)]))], hm_row g (a 1) (a 2) 200 (R 0), hm_row g (a 3) (a 4) 30 (R 1), hm_row g (a 5) (a 6) 200 (R 2), hm_row g (a 7) (a 8) 30 (R 3), hm_row g (a 9) (a 10) 30 (R 4), hm_row g (a 11) (a 12) 30 (R 5), hm_row g (a 13) (a 14) 30 (R 6), hm_row g (a 15) (a 16) 100 t2.2] [hm_row g (a 19) (a 20) 100 (R 9)]) (hm_mid [[(a 0, .inr (3, [.ref (a 1), .ref (a 3), .ref (a 5), .ref (a 7), .ref (a 9), .ref (a 11), .ref (a 13), .ref (a 15), .ref (a 17), .ref (a 19)]))], hm_row g (a 1) (a 2) 200 (R 0), hm_row g (a 3) (a 4) 30 (R 1), hm_row g (a 5) (a 6) 200 (R 2), hm_row g (a 7) (a 8) 30 (R 3), hm_row g (a 9) (a 10) 30 (R 4), hm_row g (a 11) (a 12) 30 (R 5), hm_row g (a 13) (a 14) 30 (R 6), hm_row g (a 15) (a 16) 100 t2.2] [hm_row g (a 19) (a 20) 100 (R 9)] (b := hm_row g (a 17) (a 18) 100 t5.2)) rfl rfl rfl ⟨rfl, rfl, Nat.le_of_ble_eq_true rfl, Nat.le_of_ble_eq_true rfl⟩ rfl hl.1 rfl (Nat.le_of_ble_eq_true rfl) dX3_addPlace_34 ⟨Nat.zero_le _, Nat.zero_le _⟩ (fun H locs X => ?_)
  have X := X.to (ws' := ([[(a 0, .inr (3, [.ref (a 1), .ref (a 3), .ref (a 5), .ref (a 7), .ref (a 9), .ref (a 11), .ref (a 13), .ref (a 15), .ref (a 17), .ref (a 19)]))], hm_row g (a 1) (a 2) 200 (R 0), hm_row g (a 3) (a 4) 30 (R 1), hm_row g (a 5) (a 6) 200 (R 2), hm_row g (a 7) (a 8) 30 (R 3), hm_row g (a 9) (a 10) 30 (R 4), hm_row g (a 11) (a 12) 30 (R 5), hm_row g (a 13) (a 14) 30 (R 6), hm_row g (a 15) (a 16) 100 t2.2, hm_row g (a 17) (a 18) 100 t5.2, hm_row g (a 19) (a 20) 100 (R 9)] : List va_W).flatten) rfl
  refine lv_pop hx hb dX3_addPlace_37 rfl ?_
  refine lv_aload_n hx hb dX3_addPlace_38 rfl (lv_at hl 1 rfl) ?_
  refine hm_get S X hf_X3_44 0 rfl rfl dX3_addPlace_39 ?_
  refine lv_iload_n hx hb dX3_addPlace_42 rfl (lv_at hl 2 rfl) ?_
  obtain ⟨t6, ht6, hF⟩ := hm_bd hF
  refine hm_vi (As := [.int x0]) S X mw_X2_add hw_2_72 (c_X2_add l g (a 19) (a 20) 100 (R 9) x0 t6 ht6) (hm_mid [[(a 0, .inr (3, [.ref (a 1), .ref (a 3), .ref (a 5), .ref (a 7), .ref (a 9), .ref (a 11), .ref (a 13), .ref (a 15), .ref (a 17), .ref (a 19)]))], hm_row g (a 1) (a 2) 200 (R 0), hm_row g (a 3) (a 4) 30 (R 1), hm_row g (a 5) (a 6) 200 (R 2), hm_row g (a 7) (a 8) 30 (R 3), hm_row g (a 9) (a 10) 30 (R 4), hm_row g (a 11) (a 12) 30 (R 5), hm_row g (a 13) (a 14) 30 (R 6), hm_row g (a 15) (a 16) 100 t2.2, hm_row g (a 17) (a 18) 100 t5.2] []) (hm_mid [[(a 0, .inr (3, [.ref (a 1), .ref (a 3), .ref (a 5), .ref (a 7), .ref (a 9), .ref (a 11), .ref (a 13), .ref (a 15), .ref (a 17), .ref (a 19)]))], hm_row g (a 1) (a 2) 200 (R 0), hm_row g (a 3) (a 4) 30 (R 1), hm_row g (a 5) (a 6) 200 (R 2), hm_row g (a 7) (a 8) 30 (R 3), hm_row g (a 9) (a 10) 30 (R 4), hm_row g (a 11) (a 12) 30 (R 5), hm_row g (a 13) (a 14) 30 (R 6), hm_row g (a 15) (a 16) 100 t2.2, hm_row g (a 17) (a 18) 100 t5.2] [] (b := hm_row g (a 19) (a 20) 100 t6.2)) rfl rfl rfl ⟨rfl, rfl, Nat.le_of_ble_eq_true rfl, Nat.le_of_ble_eq_true rfl⟩ rfl hl.1 rfl (Nat.le_of_ble_eq_true rfl) dX3_addPlace_43 ⟨Nat.zero_le _, Nat.zero_le _⟩ (fun H locs X => ?_)
  have X := X.to (ws' := ([[(a 0, .inr (3, [.ref (a 1), .ref (a 3), .ref (a 5), .ref (a 7), .ref (a 9), .ref (a 11), .ref (a 13), .ref (a 15), .ref (a 17), .ref (a 19)]))], hm_row g (a 1) (a 2) 200 (R 0), hm_row g (a 3) (a 4) 30 (R 1), hm_row g (a 5) (a 6) 200 (R 2), hm_row g (a 7) (a 8) 30 (R 3), hm_row g (a 9) (a 10) 30 (R 4), hm_row g (a 11) (a 12) 30 (R 5), hm_row g (a 13) (a 14) 30 (R 6), hm_row g (a 15) (a 16) 100 t2.2, hm_row g (a 17) (a 18) 100 t5.2, hm_row g (a 19) (a 20) 100 t6.2] : List va_W).flatten) rfl
  refine lv_pop hx hb dX3_addPlace_46 rfl ?_
  obtain rfl := Option.some.inj hF
  exact hm_rv S hr hlk X rfl dX3_addPlace_47
def f_X3_placeCount (R_7 : hm_SR)  : Option (Int32) :=
  (f_X2_size R_7).bind fun t1 =>
  some (t1)
abbrev rm_X3_placeCount : Room := { frames := 1, cells := 0, slots := 0, locals := 20 }
set_option maxHeartbeats 4000000 in
set_option maxRecDepth 100000 in
theorem c_X3_placeCount (l : Launch) (g : hm_G) (a : Nat → Nat) (R : Nat → hm_SR) (q : Int32) (hF : f_X3_placeCount (R 7) = some q) : hm_Mi l yX3_placeCount (Cond.code yX3_placeCount cX3_placeCount 1 (some .int) :: hm_W) rm_X3_placeCount g [.ref (a 0)] ([hm_wSc g a R] : List va_W).flatten ([hm_wSc g a R] : List va_W).flatten q := by
  refine hm_ofi [(0, .ref (a 0))] (by decide) (own := RX3) rfl (Nat.le_of_ble_eq_true rfl) rfl rfl ?_
  intro p e s m args below meth c AA S hr hlk X ls hl
  have hx := S.1
  have hb := S.2.1
  have hown := S.2.2.2.1
  have hts := S.2.2.2.2
  have X := X.to (ws' := ([[(a 0, .inr (3, [.ref (a 1), .ref (a 3), .ref (a 5), .ref (a 7), .ref (a 9), .ref (a 11), .ref (a 13), .ref (a 15), .ref (a 17), .ref (a 19)]))], hm_row g (a 1) (a 2) 200 (R 0), hm_row g (a 3) (a 4) 30 (R 1), hm_row g (a 5) (a 6) 200 (R 2), hm_row g (a 7) (a 8) 30 (R 3), hm_row g (a 9) (a 10) 30 (R 4), hm_row g (a 11) (a 12) 30 (R 5), hm_row g (a 13) (a 14) 30 (R 6), hm_row g (a 15) (a 16) 100 (R 7), hm_row g (a 17) (a 18) 100 (R 8), hm_row g (a 19) (a 20) 100 (R 9)] : List va_W).flatten) rfl
  unfold f_X3_placeCount at hF
  refine lv_aload_n hx hb dX3_placeCount_0 rfl (lv_at hl 0 rfl) ?_
  refine hm_get S X hf_X3_38 0 rfl rfl dX3_placeCount_1 ?_
  obtain ⟨t1, ht1, hF⟩ := hm_bd hF
  refine hm_vi (As := []) S X mw_X2_size hw_2_70 (c_X2_size l g (a 15) (a 16) 100 (R 7) t1 ht1) (hm_mid [[(a 0, .inr (3, [.ref (a 1), .ref (a 3), .ref (a 5), .ref (a 7), .ref (a 9), .ref (a 11), .ref (a 13), .ref (a 15), .ref (a 17), .ref (a 19)]))], hm_row g (a 1) (a 2) 200 (R 0), hm_row g (a 3) (a 4) 30 (R 1), hm_row g (a 5) (a 6) 200 (R 2), hm_row g (a 7) (a 8) 30 (R 3), hm_row g (a 9) (a 10) 30 (R 4), hm_row g (a 11) (a 12) 30 (R 5), hm_row g (a 13) (a 14) 30 (R 6)] [hm_row g (a 17) (a 18) 100 (R 8), hm_row g (a 19) (a 20) 100 (R 9)]) (hm_mid [[(a 0, .inr (3, [.ref (a 1), .ref (a 3), .ref (a 5), .ref (a 7), .ref (a 9), .ref (a 11), .ref (a 13), .ref (a 15), .ref (a 17), .ref (a 19)]))], hm_row g (a 1) (a 2) 200 (R 0), hm_row g (a 3) (a 4) 30 (R 1), hm_row g (a 5) (a 6) 200 (R 2), hm_row g (a 7) (a 8) 30 (R 3), hm_row g (a 9) (a 10) 30 (R 4), hm_row g (a 11) (a 12) 30 (R 5), hm_row g (a 13) (a 14) 30 (R 6)] [hm_row g (a 17) (a 18) 100 (R 8), hm_row g (a 19) (a 20) 100 (R 9)] (b := hm_row g (a 15) (a 16) 100 (R 7))) rfl rfl rfl ⟨rfl, rfl, Nat.le_of_ble_eq_true rfl, Nat.le_of_ble_eq_true rfl⟩ rfl hl.1 rfl (Nat.le_of_ble_eq_true rfl) dX3_placeCount_4 ⟨Nat.zero_le _, Nat.zero_le _⟩ (fun H locs X => ?_)
  have X := X.to (ws' := ([[(a 0, .inr (3, [.ref (a 1), .ref (a 3), .ref (a 5), .ref (a 7), .ref (a 9), .ref (a 11), .ref (a 13), .ref (a 15), .ref (a 17), .ref (a 19)]))], hm_row g (a 1) (a 2) 200 (R 0), hm_row g (a 3) (a 4) 30 (R 1), hm_row g (a 5) (a 6) 200 (R 2), hm_row g (a 7) (a 8) 30 (R 3), hm_row g (a 9) (a 10) 30 (R 4), hm_row g (a 11) (a 12) 30 (R 5), hm_row g (a 13) (a 14) 30 (R 6), hm_row g (a 15) (a 16) 100 (R 7), hm_row g (a 17) (a 18) 100 (R 8), hm_row g (a 19) (a 20) 100 (R 9)] : List va_W).flatten) rfl
  obtain rfl := Option.some.inj hF
  exact hm_ri S hr hlk X rfl rfl dX3_placeCount_7
def f_X3_areSpelledAlike_l52 (R_2 : hm_SR) : Nat → Int32 → Int32 → Int32 → Int32 → Option (Int32)
  | 0, _, _, _, _ => none
  | k + 1, v3, v4, v5, v6 =>
  if v5 ≤ v6 then (
  some (1))
  else (
  (f_X2_get 200 R_2 (v3 + v6)).bind fun t5 =>
  (f_X2_get 200 R_2 (v4 + v6)).bind fun t6 =>
  if t5 = t6 then (
  f_X3_areSpelledAlike_l52 R_2 k v3 v4 v5 (v6 + 1))
  else (
  some (0)))
theorem f_X3_areSpelledAlike_l52_s (R_2 : hm_SR) (k : Nat) (v3 : Int32) (v4 : Int32) (v5 : Int32) (v6 : Int32) : f_X3_areSpelledAlike_l52 R_2 (k + 1) v3 v4 v5 v6 =
  if v5 ≤ v6 then (
  some (1))
  else (
  (f_X2_get 200 R_2 (v3 + v6)).bind fun t5 =>
  (f_X2_get 200 R_2 (v4 + v6)).bind fun t6 =>
  if t5 = t6 then (
  f_X3_areSpelledAlike_l52 R_2 k v3 v4 v5 (v6 + 1))
  else (
  some (0))) := rfl
theorem f_X3_areSpelledAlike_l52_z (R_2 : hm_SR) (v3 : Int32) (v4 : Int32) (v5 : Int32) (v6 : Int32) : f_X3_areSpelledAlike_l52 R_2 0 v3 v4 v5 v6 = none := rfl
def f_X3_areSpelledAlike (R_2 : hm_SR) (R_3 : hm_SR) (x0 : Int32) (x1 : Int32)  : Option (Int32) :=
  (f_X3_startOf 30 R_3 x0).bind fun t1 =>
  (f_X3_startOf 30 R_3 x1).bind fun t2 =>
  (f_X2_get 30 R_3 x0).bind fun t3 =>
  (f_X2_get 30 R_3 x1).bind fun t4 =>
  if (t4 - t2) = (t3 - t1) then (
  f_X3_areSpelledAlike_l52 R_2 hm_fu t1 t2 (t3 - t1) 0)
  else (
  some (0))
abbrev rm_X3_areSpelledAlike : Room := { frames := 2, cells := 0, slots := 0, locals := 42 }
set_option maxHeartbeats 4000000 in
set_option maxRecDepth 100000 in
theorem c_X3_areSpelledAlike (l : Launch) (g : hm_G) (a : Nat → Nat) (R : Nat → hm_SR) (x0 : Int32) (x1 : Int32) (q : Int32) (hF : f_X3_areSpelledAlike (R 2) (R 3) x0 x1 = some q) : hm_Mi l yX3_areSpelledAlike (Cond.code yX3_areSpelledAlike cX3_areSpelledAlike 7 (some .boolean) :: hm_W) rm_X3_areSpelledAlike g [.ref (a 0), .int x0, .int x1] ([hm_wSc g a R] : List va_W).flatten ([hm_wSc g a R] : List va_W).flatten q := by
  refine hm_ofi [(0, .ref (a 0)), (1, .int x0), (2, .int x1)] (by decide) (own := RX3) rfl (Nat.le_of_ble_eq_true rfl) rfl rfl ?_
  intro p e s m args below meth c AA S hr hlk X ls hl
  have hx := S.1
  have hb := S.2.1
  have hown := S.2.2.2.1
  have hts := S.2.2.2.2
  have X := X.to (ws' := ([[(a 0, .inr (3, [.ref (a 1), .ref (a 3), .ref (a 5), .ref (a 7), .ref (a 9), .ref (a 11), .ref (a 13), .ref (a 15), .ref (a 17), .ref (a 19)]))], hm_row g (a 1) (a 2) 200 (R 0), hm_row g (a 3) (a 4) 30 (R 1), hm_row g (a 5) (a 6) 200 (R 2), hm_row g (a 7) (a 8) 30 (R 3), hm_row g (a 9) (a 10) 30 (R 4), hm_row g (a 11) (a 12) 30 (R 5), hm_row g (a 13) (a 14) 30 (R 6), hm_row g (a 15) (a 16) 100 (R 7), hm_row g (a 17) (a 18) 100 (R 8), hm_row g (a 19) (a 20) 100 (R 9)] : List va_W).flatten) rfl
  have hl52 : ∀ (k52 : Nat) (v3 : Int32) (v4 : Int32) (v5 : Int32) (v6 : Int32), f_X3_areSpelledAlike_l52 (R 2) k52 v3 v4 v5 v6 = some q → ∀ (H : Heap) (locs : List Loc), hm_X g AA s H locs ([[(a 0, .inr (3, [.ref (a 1), .ref (a 3), .ref (a 5), .ref (a 7), .ref (a 9), .ref (a 11), .ref (a 13), .ref (a 15), .ref (a 17), .ref (a 19)]))], hm_row g (a 1) (a 2) 200 (R 0), hm_row g (a 3) (a 4) 30 (R 1), hm_row g (a 5) (a 6) 200 (R 2), hm_row g (a 7) (a 8) 30 (R 3), hm_row g (a 9) (a 10) 30 (R 4), hm_row g (a 11) (a 12) 30 (R 5), hm_row g (a 13) (a 14) 30 (R 6), hm_row g (a 15) (a 16) 100 (R 7), hm_row g (a 17) (a 18) 100 (R 8), hm_row g (a 19) (a 20) 100 (R 9)] : List va_W).flatten → ∀ ls : Array Slot, lv_has ls 7 [(0, .ref (a 0)), (3, .int v3), (4, .int v4), (5, .int v5), (6, .int v6)] → W p l e rm_X3_areSpelledAlike s m args below meth c H locs 0 0 (MQ below (hm_Qi g AA ([hm_wSc g a R] : List va_W).flatten q) args s 0 0 AA) (F0 m 52 ls []) := by
    intro k52
    induction k52 with
    | zero =>
      intro v3 v4 v5 v6 hF
      rw [f_X3_areSpelledAlike_l52_z] at hF
      cases hF
    | succ k52 ih52 =>
      intro v3 v4 v5 v6 hF H locs X ls hl
      rw [f_X3_areSpelledAlike_l52_s] at hF
      refine lv_iload hx hb dX3_areSpelledAlike_52 (lv_at hl 4 rfl) ?_
      refine lv_iload hx hb dX3_areSpelledAlike_54 (lv_at hl 3 rfl) ?_
      refine lv_icmp_ge (tgt := 93) hx hb dX3_areSpelledAlike_56 (by decide) (fun c56 => ?_) (fun c56 => ?_)
      · have hF := hm_if hF c56
        refine lv_iconst (v := 1) hx hb dX3_areSpelledAlike_93 (by decide) ?_
        obtain rfl := Option.some.inj hF
        exact hm_rz S hr hlk X rfl rfl (Or.inr rfl) dX3_areSpelledAlike_94
      · have hF := hm_nf hF c56
        refine lv_aload_n hx hb dX3_areSpelledAlike_59 rfl (lv_at hl 0 rfl) ?_
        refine hm_get S X hf_X3_23 0 rfl rfl dX3_areSpelledAlike_60 ?_
        refine lv_iload_n hx hb dX3_areSpelledAlike_63 rfl (lv_at hl 1 rfl) ?_
        refine lv_iload hx hb dX3_areSpelledAlike_64 (lv_at hl 4 rfl) ?_
        refine lv_iadd hx hb dX3_areSpelledAlike_66 ?_
        obtain ⟨t5, ht5, hF⟩ := hm_bd hF
        refine hm_vi (As := [.int (v3 + v6)]) S X mw_X2_get hw_2_71 (c_X2_get l g (a 5) (a 6) 200 (R 2) (v3 + v6) t5 ht5) (hm_mid [[(a 0, .inr (3, [.ref (a 1), .ref (a 3), .ref (a 5), .ref (a 7), .ref (a 9), .ref (a 11), .ref (a 13), .ref (a 15), .ref (a 17), .ref (a 19)]))], hm_row g (a 1) (a 2) 200 (R 0), hm_row g (a 3) (a 4) 30 (R 1)] [hm_row g (a 7) (a 8) 30 (R 3), hm_row g (a 9) (a 10) 30 (R 4), hm_row g (a 11) (a 12) 30 (R 5), hm_row g (a 13) (a 14) 30 (R 6), hm_row g (a 15) (a 16) 100 (R 7), hm_row g (a 17) (a 18) 100 (R 8), hm_row g (a 19) (a 20) 100 (R 9)]) (hm_mid [[(a 0, .inr (3, [.ref (a 1), .ref (a 3), .ref (a 5), .ref (a 7), .ref (a 9), .ref (a 11), .ref (a 13), .ref (a 15), .ref (a 17), .ref (a 19)]))], hm_row g (a 1) (a 2) 200 (R 0), hm_row g (a 3) (a 4) 30 (R 1)] [hm_row g (a 7) (a 8) 30 (R 3), hm_row g (a 9) (a 10) 30 (R 4), hm_row g (a 11) (a 12) 30 (R 5), hm_row g (a 13) (a 14) 30 (R 6), hm_row g (a 15) (a 16) 100 (R 7), hm_row g (a 17) (a 18) 100 (R 8), hm_row g (a 19) (a 20) 100 (R 9)] (b := hm_row g (a 5) (a 6) 200 (R 2))) rfl rfl rfl ⟨rfl, rfl, Nat.le_of_ble_eq_true rfl, Nat.le_of_ble_eq_true rfl⟩ rfl hl.1 rfl (Nat.le_of_ble_eq_true rfl) dX3_areSpelledAlike_67 ⟨Nat.zero_le _, Nat.zero_le _⟩ (fun H locs X => ?_)
        have X := X.to (ws' := ([[(a 0, .inr (3, [.ref (a 1), .ref (a 3), .ref (a 5), .ref (a 7), .ref (a 9), .ref (a 11), .ref (a 13), .ref (a 15), .ref (a 17), .ref (a 19)]))], hm_row g (a 1) (a 2) 200 (R 0), hm_row g (a 3) (a 4) 30 (R 1), hm_row g (a 5) (a 6) 200 (R 2), hm_row g (a 7) (a 8) 30 (R 3), hm_row g (a 9) (a 10) 30 (R 4), hm_row g (a 11) (a 12) 30 (R 5), hm_row g (a 13) (a 14) 30 (R 6), hm_row g (a 15) (a 16) 100 (R 7), hm_row g (a 17) (a 18) 100 (R 8), hm_row g (a 19) (a 20) 100 (R 9)] : List va_W).flatten) rfl
        refine lv_aload_n hx hb dX3_areSpelledAlike_70 rfl (lv_at hl 0 rfl) ?_
        refine hm_get S X hf_X3_23 0 rfl rfl dX3_areSpelledAlike_71 ?_
        refine lv_iload hx hb dX3_areSpelledAlike_74 (lv_at hl 2 rfl) ?_
        refine lv_iload hx hb dX3_areSpelledAlike_76 (lv_at hl 4 rfl) ?_
        refine lv_iadd hx hb dX3_areSpelledAlike_78 ?_
        obtain ⟨t6, ht6, hF⟩ := hm_bd hF
        refine hm_vi (As := [.int (v4 + v6)]) S X mw_X2_get hw_2_71 (c_X2_get l g (a 5) (a 6) 200 (R 2) (v4 + v6) t6 ht6) (hm_mid [[(a 0, .inr (3, [.ref (a 1), .ref (a 3), .ref (a 5), .ref (a 7), .ref (a 9), .ref (a 11), .ref (a 13), .ref (a 15), .ref (a 17), .ref (a 19)]))], hm_row g (a 1) (a 2) 200 (R 0), hm_row g (a 3) (a 4) 30 (R 1)] [hm_row g (a 7) (a 8) 30 (R 3), hm_row g (a 9) (a 10) 30 (R 4), hm_row g (a 11) (a 12) 30 (R 5), hm_row g (a 13) (a 14) 30 (R 6), hm_row g (a 15) (a 16) 100 (R 7), hm_row g (a 17) (a 18) 100 (R 8), hm_row g (a 19) (a 20) 100 (R 9)]) (hm_mid [[(a 0, .inr (3, [.ref (a 1), .ref (a 3), .ref (a 5), .ref (a 7), .ref (a 9), .ref (a 11), .ref (a 13), .ref (a 15), .ref (a 17), .ref (a 19)]))], hm_row g (a 1) (a 2) 200 (R 0), hm_row g (a 3) (a 4) 30 (R 1)] [hm_row g (a 7) (a 8) 30 (R 3), hm_row g (a 9) (a 10) 30 (R 4), hm_row g (a 11) (a 12) 30 (R 5), hm_row g (a 13) (a 14) 30 (R 6), hm_row g (a 15) (a 16) 100 (R 7), hm_row g (a 17) (a 18) 100 (R 8), hm_row g (a 19) (a 20) 100 (R 9)] (b := hm_row g (a 5) (a 6) 200 (R 2))) rfl rfl rfl ⟨rfl, rfl, Nat.le_of_ble_eq_true rfl, Nat.le_of_ble_eq_true rfl⟩ rfl hl.1 rfl (Nat.le_of_ble_eq_true rfl) dX3_areSpelledAlike_79 ⟨Nat.zero_le _, Nat.zero_le _⟩ (fun H locs X => ?_)
        have X := X.to (ws' := ([[(a 0, .inr (3, [.ref (a 1), .ref (a 3), .ref (a 5), .ref (a 7), .ref (a 9), .ref (a 11), .ref (a 13), .ref (a 15), .ref (a 17), .ref (a 19)]))], hm_row g (a 1) (a 2) 200 (R 0), hm_row g (a 3) (a 4) 30 (R 1), hm_row g (a 5) (a 6) 200 (R 2), hm_row g (a 7) (a 8) 30 (R 3), hm_row g (a 9) (a 10) 30 (R 4), hm_row g (a 11) (a 12) 30 (R 5), hm_row g (a 13) (a 14) 30 (R 6), hm_row g (a 15) (a 16) 100 (R 7), hm_row g (a 17) (a 18) 100 (R 8), hm_row g (a 19) (a 20) 100 (R 9)] : List va_W).flatten) rfl
        refine lv_icmp_eq (tgt := 87) hx hb dX3_areSpelledAlike_82 (by decide) (fun c82 => ?_) (fun c82 => ?_)
        · have hF := hm_if hF c82
          refine lv_iinc (v := (v6 + 1)) (lv' := [(6, .int (v6 + 1)), (0, .ref (a 0)), (3, .int v3), (4, .int v4), (5, .int v5)]) hx hb dX3_areSpelledAlike_87 hl (k := 4) rfl rfl (by decide) rfl (fun ls hl => ?_)
          refine lv_goto (tgt := 52) hx hb dX3_areSpelledAlike_90 (by decide) ?_
          exact ih52 v3 v4 v5 (v6 + 1) hF _ _ X _ (lv_sub hl [1, 2, 3, 4, 0] rfl)
        · have hF := hm_nf hF c82
          refine lv_iconst (v := 0) hx hb dX3_areSpelledAlike_85 (by decide) ?_
          obtain rfl := Option.some.inj hF
          exact hm_rz S hr hlk X rfl rfl (Or.inl rfl) dX3_areSpelledAlike_86
  unfold f_X3_areSpelledAlike at hF
  refine lv_aload_n hx hb dX3_areSpelledAlike_0 rfl (lv_at hl 0 rfl) ?_
  refine hm_get S X hf_X3_26 0 rfl rfl dX3_areSpelledAlike_1 ?_
  refine lv_iload_n hx hb dX3_areSpelledAlike_4 rfl (lv_at hl 1 rfl) ?_
  obtain ⟨t1, ht1, hF⟩ := hm_bd hF
  refine hm_si S X mw_X3_startOf hw_2_81 (c_X3_startOf l g (a 7) (a 8) 30 (R 3) x0 t1 ht1) (hm_mid [[(a 0, .inr (3, [.ref (a 1), .ref (a 3), .ref (a 5), .ref (a 7), .ref (a 9), .ref (a 11), .ref (a 13), .ref (a 15), .ref (a 17), .ref (a 19)]))], hm_row g (a 1) (a 2) 200 (R 0), hm_row g (a 3) (a 4) 30 (R 1), hm_row g (a 5) (a 6) 200 (R 2)] [hm_row g (a 9) (a 10) 30 (R 4), hm_row g (a 11) (a 12) 30 (R 5), hm_row g (a 13) (a 14) 30 (R 6), hm_row g (a 15) (a 16) 100 (R 7), hm_row g (a 17) (a 18) 100 (R 8), hm_row g (a 19) (a 20) 100 (R 9)]) (hm_mid [[(a 0, .inr (3, [.ref (a 1), .ref (a 3), .ref (a 5), .ref (a 7), .ref (a 9), .ref (a 11), .ref (a 13), .ref (a 15), .ref (a 17), .ref (a 19)]))], hm_row g (a 1) (a 2) 200 (R 0), hm_row g (a 3) (a 4) 30 (R 1), hm_row g (a 5) (a 6) 200 (R 2)] [hm_row g (a 9) (a 10) 30 (R 4), hm_row g (a 11) (a 12) 30 (R 5), hm_row g (a 13) (a 14) 30 (R 6), hm_row g (a 15) (a 16) 100 (R 7), hm_row g (a 17) (a 18) 100 (R 8), hm_row g (a 19) (a 20) 100 (R 9)] (b := hm_row g (a 7) (a 8) 30 (R 3))) ⟨rfl, rfl, Nat.le_of_ble_eq_true rfl, Nat.le_of_ble_eq_true rfl⟩ rfl hl.1 rfl (Nat.le_of_ble_eq_true rfl) dX3_areSpelledAlike_5 ⟨Nat.zero_le _, Nat.zero_le _⟩ (fun H locs X => ?_)
  have X := X.to (ws' := ([[(a 0, .inr (3, [.ref (a 1), .ref (a 3), .ref (a 5), .ref (a 7), .ref (a 9), .ref (a 11), .ref (a 13), .ref (a 15), .ref (a 17), .ref (a 19)]))], hm_row g (a 1) (a 2) 200 (R 0), hm_row g (a 3) (a 4) 30 (R 1), hm_row g (a 5) (a 6) 200 (R 2), hm_row g (a 7) (a 8) 30 (R 3), hm_row g (a 9) (a 10) 30 (R 4), hm_row g (a 11) (a 12) 30 (R 5), hm_row g (a 13) (a 14) 30 (R 6), hm_row g (a 15) (a 16) 100 (R 7), hm_row g (a 17) (a 18) 100 (R 8), hm_row g (a 19) (a 20) 100 (R 9)] : List va_W).flatten) rfl
  refine lv_istore_n (lv' := [(3, .int t1), (0, .ref (a 0)), (1, .int x0), (2, .int x1)]) hx hb dX3_areSpelledAlike_8 rfl hl (by decide) rfl (fun ls hl => ?_)
  refine lv_aload_n hx hb dX3_areSpelledAlike_9 rfl (lv_at hl 1 rfl) ?_
  refine hm_get S X hf_X3_26 0 rfl rfl dX3_areSpelledAlike_10 ?_
  refine lv_iload_n hx hb dX3_areSpelledAlike_13 rfl (lv_at hl 3 rfl) ?_
  obtain ⟨t2, ht2, hF⟩ := hm_bd hF
  refine hm_si S X mw_X3_startOf hw_2_81 (c_X3_startOf l g (a 7) (a 8) 30 (R 3) x1 t2 ht2) (hm_mid [[(a 0, .inr (3, [.ref (a 1), .ref (a 3), .ref (a 5), .ref (a 7), .ref (a 9), .ref (a 11), .ref (a 13), .ref (a 15), .ref (a 17), .ref (a 19)]))], hm_row g (a 1) (a 2) 200 (R 0), hm_row g (a 3) (a 4) 30 (R 1), hm_row g (a 5) (a 6) 200 (R 2)] [hm_row g (a 9) (a 10) 30 (R 4), hm_row g (a 11) (a 12) 30 (R 5), hm_row g (a 13) (a 14) 30 (R 6), hm_row g (a 15) (a 16) 100 (R 7), hm_row g (a 17) (a 18) 100 (R 8), hm_row g (a 19) (a 20) 100 (R 9)]) (hm_mid [[(a 0, .inr (3, [.ref (a 1), .ref (a 3), .ref (a 5), .ref (a 7), .ref (a 9), .ref (a 11), .ref (a 13), .ref (a 15), .ref (a 17), .ref (a 19)]))], hm_row g (a 1) (a 2) 200 (R 0), hm_row g (a 3) (a 4) 30 (R 1), hm_row g (a 5) (a 6) 200 (R 2)] [hm_row g (a 9) (a 10) 30 (R 4), hm_row g (a 11) (a 12) 30 (R 5), hm_row g (a 13) (a 14) 30 (R 6), hm_row g (a 15) (a 16) 100 (R 7), hm_row g (a 17) (a 18) 100 (R 8), hm_row g (a 19) (a 20) 100 (R 9)] (b := hm_row g (a 7) (a 8) 30 (R 3))) ⟨rfl, rfl, Nat.le_of_ble_eq_true rfl, Nat.le_of_ble_eq_true rfl⟩ rfl hl.1 rfl (Nat.le_of_ble_eq_true rfl) dX3_areSpelledAlike_14 ⟨Nat.zero_le _, Nat.zero_le _⟩ (fun H locs X => ?_)
  have X := X.to (ws' := ([[(a 0, .inr (3, [.ref (a 1), .ref (a 3), .ref (a 5), .ref (a 7), .ref (a 9), .ref (a 11), .ref (a 13), .ref (a 15), .ref (a 17), .ref (a 19)]))], hm_row g (a 1) (a 2) 200 (R 0), hm_row g (a 3) (a 4) 30 (R 1), hm_row g (a 5) (a 6) 200 (R 2), hm_row g (a 7) (a 8) 30 (R 3), hm_row g (a 9) (a 10) 30 (R 4), hm_row g (a 11) (a 12) 30 (R 5), hm_row g (a 13) (a 14) 30 (R 6), hm_row g (a 15) (a 16) 100 (R 7), hm_row g (a 17) (a 18) 100 (R 8), hm_row g (a 19) (a 20) 100 (R 9)] : List va_W).flatten) rfl
  refine lv_istore (lv' := [(4, .int t2), (3, .int t1), (0, .ref (a 0)), (1, .int x0), (2, .int x1)]) hx hb dX3_areSpelledAlike_17 hl (by decide) rfl (fun ls hl => ?_)
  refine lv_aload_n hx hb dX3_areSpelledAlike_19 rfl (lv_at hl 2 rfl) ?_
  refine hm_get S X hf_X3_26 0 rfl rfl dX3_areSpelledAlike_20 ?_
  refine lv_iload_n hx hb dX3_areSpelledAlike_23 rfl (lv_at hl 3 rfl) ?_
  obtain ⟨t3, ht3, hF⟩ := hm_bd hF
  refine hm_vi (As := [.int x0]) S X mw_X2_get hw_2_71 (c_X2_get l g (a 7) (a 8) 30 (R 3) x0 t3 ht3) (hm_mid [[(a 0, .inr (3, [.ref (a 1), .ref (a 3), .ref (a 5), .ref (a 7), .ref (a 9), .ref (a 11), .ref (a 13), .ref (a 15), .ref (a 17), .ref (a 19)]))], hm_row g (a 1) (a 2) 200 (R 0), hm_row g (a 3) (a 4) 30 (R 1), hm_row g (a 5) (a 6) 200 (R 2)] [hm_row g (a 9) (a 10) 30 (R 4), hm_row g (a 11) (a 12) 30 (R 5), hm_row g (a 13) (a 14) 30 (R 6), hm_row g (a 15) (a 16) 100 (R 7), hm_row g (a 17) (a 18) 100 (R 8), hm_row g (a 19) (a 20) 100 (R 9)]) (hm_mid [[(a 0, .inr (3, [.ref (a 1), .ref (a 3), .ref (a 5), .ref (a 7), .ref (a 9), .ref (a 11), .ref (a 13), .ref (a 15), .ref (a 17), .ref (a 19)]))], hm_row g (a 1) (a 2) 200 (R 0), hm_row g (a 3) (a 4) 30 (R 1), hm_row g (a 5) (a 6) 200 (R 2)] [hm_row g (a 9) (a 10) 30 (R 4), hm_row g (a 11) (a 12) 30 (R 5), hm_row g (a 13) (a 14) 30 (R 6), hm_row g (a 15) (a 16) 100 (R 7), hm_row g (a 17) (a 18) 100 (R 8), hm_row g (a 19) (a 20) 100 (R 9)] (b := hm_row g (a 7) (a 8) 30 (R 3))) rfl rfl rfl ⟨rfl, rfl, Nat.le_of_ble_eq_true rfl, Nat.le_of_ble_eq_true rfl⟩ rfl hl.1 rfl (Nat.le_of_ble_eq_true rfl) dX3_areSpelledAlike_24 ⟨Nat.zero_le _, Nat.zero_le _⟩ (fun H locs X => ?_)
  have X := X.to (ws' := ([[(a 0, .inr (3, [.ref (a 1), .ref (a 3), .ref (a 5), .ref (a 7), .ref (a 9), .ref (a 11), .ref (a 13), .ref (a 15), .ref (a 17), .ref (a 19)]))], hm_row g (a 1) (a 2) 200 (R 0), hm_row g (a 3) (a 4) 30 (R 1), hm_row g (a 5) (a 6) 200 (R 2), hm_row g (a 7) (a 8) 30 (R 3), hm_row g (a 9) (a 10) 30 (R 4), hm_row g (a 11) (a 12) 30 (R 5), hm_row g (a 13) (a 14) 30 (R 6), hm_row g (a 15) (a 16) 100 (R 7), hm_row g (a 17) (a 18) 100 (R 8), hm_row g (a 19) (a 20) 100 (R 9)] : List va_W).flatten) rfl
  refine lv_iload_n hx hb dX3_areSpelledAlike_27 rfl (lv_at hl 1 rfl) ?_
  refine lv_isub hx hb dX3_areSpelledAlike_28 ?_
  refine lv_istore (lv' := [(5, .int (t3 - t1)), (4, .int t2), (3, .int t1), (0, .ref (a 0)), (1, .int x0), (2, .int x1)]) hx hb dX3_areSpelledAlike_29 hl (by decide) rfl (fun ls hl => ?_)
  refine lv_aload_n hx hb dX3_areSpelledAlike_31 rfl (lv_at hl 3 rfl) ?_
  refine hm_get S X hf_X3_26 0 rfl rfl dX3_areSpelledAlike_32 ?_
  refine lv_iload_n hx hb dX3_areSpelledAlike_35 rfl (lv_at hl 5 rfl) ?_
  obtain ⟨t4, ht4, hF⟩ := hm_bd hF
  refine hm_vi (As := [.int x1]) S X mw_X2_get hw_2_71 (c_X2_get l g (a 7) (a 8) 30 (R 3) x1 t4 ht4) (hm_mid [[(a 0, .inr (3, [.ref (a 1), .ref (a 3), .ref (a 5), .ref (a 7), .ref (a 9), .ref (a 11), .ref (a 13), .ref (a 15), .ref (a 17), .ref (a 19)]))], hm_row g (a 1) (a 2) 200 (R 0), hm_row g (a 3) (a 4) 30 (R 1), hm_row g (a 5) (a 6) 200 (R 2)] [hm_row g (a 9) (a 10) 30 (R 4), hm_row g (a 11) (a 12) 30 (R 5), hm_row g (a 13) (a 14) 30 (R 6), hm_row g (a 15) (a 16) 100 (R 7), hm_row g (a 17) (a 18) 100 (R 8), hm_row g (a 19) (a 20) 100 (R 9)]) (hm_mid [[(a 0, .inr (3, [.ref (a 1), .ref (a 3), .ref (a 5), .ref (a 7), .ref (a 9), .ref (a 11), .ref (a 13), .ref (a 15), .ref (a 17), .ref (a 19)]))], hm_row g (a 1) (a 2) 200 (R 0), hm_row g (a 3) (a 4) 30 (R 1), hm_row g (a 5) (a 6) 200 (R 2)] [hm_row g (a 9) (a 10) 30 (R 4), hm_row g (a 11) (a 12) 30 (R 5), hm_row g (a 13) (a 14) 30 (R 6), hm_row g (a 15) (a 16) 100 (R 7), hm_row g (a 17) (a 18) 100 (R 8), hm_row g (a 19) (a 20) 100 (R 9)] (b := hm_row g (a 7) (a 8) 30 (R 3))) rfl rfl rfl ⟨rfl, rfl, Nat.le_of_ble_eq_true rfl, Nat.le_of_ble_eq_true rfl⟩ rfl hl.1 rfl (Nat.le_of_ble_eq_true rfl) dX3_areSpelledAlike_36 ⟨Nat.zero_le _, Nat.zero_le _⟩ (fun H locs X => ?_)
  have X := X.to (ws' := ([[(a 0, .inr (3, [.ref (a 1), .ref (a 3), .ref (a 5), .ref (a 7), .ref (a 9), .ref (a 11), .ref (a 13), .ref (a 15), .ref (a 17), .ref (a 19)]))], hm_row g (a 1) (a 2) 200 (R 0), hm_row g (a 3) (a 4) 30 (R 1), hm_row g (a 5) (a 6) 200 (R 2), hm_row g (a 7) (a 8) 30 (R 3), hm_row g (a 9) (a 10) 30 (R 4), hm_row g (a 11) (a 12) 30 (R 5), hm_row g (a 13) (a 14) 30 (R 6), hm_row g (a 15) (a 16) 100 (R 7), hm_row g (a 17) (a 18) 100 (R 8), hm_row g (a 19) (a 20) 100 (R 9)] : List va_W).flatten) rfl
  refine lv_iload hx hb dX3_areSpelledAlike_39 (lv_at hl 1 rfl) ?_
  refine lv_isub hx hb dX3_areSpelledAlike_41 ?_
  refine lv_iload hx hb dX3_areSpelledAlike_42 (lv_at hl 0 rfl) ?_
  refine lv_icmp_eq (tgt := 49) hx hb dX3_areSpelledAlike_44 (by decide) (fun c44 => ?_) (fun c44 => ?_)
  · have hF := hm_if hF c44
    refine lv_iconst (v := 0) hx hb dX3_areSpelledAlike_49 (by decide) ?_
    refine lv_istore (lv' := [(6, .int 0), (5, .int (t3 - t1)), (4, .int t2), (3, .int t1), (0, .ref (a 0)), (1, .int x0), (2, .int x1)]) hx hb dX3_areSpelledAlike_50 hl (by decide) rfl (fun ls hl => ?_)
    exact hl52 hm_fu t1 t2 (t3 - t1) 0 hF _ _ X _ (lv_sub hl [4, 3, 2, 1, 0] rfl)
  · have hF := hm_nf hF c44
    refine lv_iconst (v := 0) hx hb dX3_areSpelledAlike_47 (by decide) ?_
    obtain rfl := Option.some.inj hF
    exact hm_rz S hr hlk X rfl rfl (Or.inl rfl) dX3_areSpelledAlike_48
def f_X3_firstLike_l2 (R_2 : hm_SR) (R_3 : hm_SR) (x0 : Int32) : Nat → Int32 → Option (Int32)
  | 0, _ => none
  | k + 1, v2 =>
  if x0 ≤ v2 then (
  some (x0))
  else (
  (f_X3_areSpelledAlike R_2 R_3 v2 x0).bind fun t1 =>
  if t1 = 0 then (
  f_X3_firstLike_l2 R_2 R_3 x0 k (v2 + 1))
  else (
  some (v2)))
theorem f_X3_firstLike_l2_s (R_2 : hm_SR) (R_3 : hm_SR) (x0 : Int32) (k : Nat) (v2 : Int32) : f_X3_firstLike_l2 R_2 R_3 x0 (k + 1) v2 =
  if x0 ≤ v2 then (
  some (x0))
  else (
  (f_X3_areSpelledAlike R_2 R_3 v2 x0).bind fun t1 =>
  if t1 = 0 then (
  f_X3_firstLike_l2 R_2 R_3 x0 k (v2 + 1))
  else (
  some (v2))) := rfl
theorem f_X3_firstLike_l2_z (R_2 : hm_SR) (R_3 : hm_SR) (x0 : Int32) (v2 : Int32) : f_X3_firstLike_l2 R_2 R_3 x0 0 v2 = none := rfl
def f_X3_firstLike (R_2 : hm_SR) (R_3 : hm_SR) (x0 : Int32)  : Option (Int32) :=
  f_X3_firstLike_l2 R_2 R_3 x0 hm_fu 0
abbrev rm_X3_firstLike : Room := { frames := 3, cells := 0, slots := 0, locals := 68 }
set_option maxHeartbeats 4000000 in
set_option maxRecDepth 100000 in
theorem c_X3_firstLike (l : Launch) (g : hm_G) (a : Nat → Nat) (R : Nat → hm_SR) (x0 : Int32) (q : Int32) (hF : f_X3_firstLike (R 2) (R 3) x0 = some q) : hm_Mi l yX3_firstLike (Cond.code yX3_firstLike cX3_firstLike 3 (some .int) :: hm_W) rm_X3_firstLike g [.ref (a 0), .int x0] ([hm_wSc g a R] : List va_W).flatten ([hm_wSc g a R] : List va_W).flatten q := by
  refine hm_ofi [(0, .ref (a 0)), (1, .int x0)] (by decide) (own := RX3) rfl (Nat.le_of_ble_eq_true rfl) rfl rfl ?_
  intro p e s m args below meth c AA S hr hlk X ls hl
  have hx := S.1
  have hb := S.2.1
  have hown := S.2.2.2.1
  have hts := S.2.2.2.2
  have X := X.to (ws' := ([[(a 0, .inr (3, [.ref (a 1), .ref (a 3), .ref (a 5), .ref (a 7), .ref (a 9), .ref (a 11), .ref (a 13), .ref (a 15), .ref (a 17), .ref (a 19)]))], hm_row g (a 1) (a 2) 200 (R 0), hm_row g (a 3) (a 4) 30 (R 1), hm_row g (a 5) (a 6) 200 (R 2), hm_row g (a 7) (a 8) 30 (R 3), hm_row g (a 9) (a 10) 30 (R 4), hm_row g (a 11) (a 12) 30 (R 5), hm_row g (a 13) (a 14) 30 (R 6), hm_row g (a 15) (a 16) 100 (R 7), hm_row g (a 17) (a 18) 100 (R 8), hm_row g (a 19) (a 20) 100 (R 9)] : List va_W).flatten) rfl
  have hl2 : ∀ (k2 : Nat) (v2 : Int32), f_X3_firstLike_l2 (R 2) (R 3) x0 k2 v2 = some q → ∀ (H : Heap) (locs : List Loc), hm_X g AA s H locs ([[(a 0, .inr (3, [.ref (a 1), .ref (a 3), .ref (a 5), .ref (a 7), .ref (a 9), .ref (a 11), .ref (a 13), .ref (a 15), .ref (a 17), .ref (a 19)]))], hm_row g (a 1) (a 2) 200 (R 0), hm_row g (a 3) (a 4) 30 (R 1), hm_row g (a 5) (a 6) 200 (R 2), hm_row g (a 7) (a 8) 30 (R 3), hm_row g (a 9) (a 10) 30 (R 4), hm_row g (a 11) (a 12) 30 (R 5), hm_row g (a 13) (a 14) 30 (R 6), hm_row g (a 15) (a 16) 100 (R 7), hm_row g (a 17) (a 18) 100 (R 8), hm_row g (a 19) (a 20) 100 (R 9)] : List va_W).flatten → ∀ ls : Array Slot, lv_has ls 3 [(0, .ref (a 0)), (1, .int x0), (2, .int v2)] → W p l e rm_X3_firstLike s m args below meth c H locs 0 0 (MQ below (hm_Qi g AA ([hm_wSc g a R] : List va_W).flatten q) args s 0 0 AA) (F0 m 2 ls []) := by
    intro k2
    induction k2 with
    | zero =>
      intro v2 hF
      rw [f_X3_firstLike_l2_z] at hF
      cases hF
    | succ k2 ih2 =>
      intro v2 hF H locs X ls hl
      rw [f_X3_firstLike_l2_s] at hF
      refine lv_iload_n hx hb dX3_firstLike_2 rfl (lv_at hl 2 rfl) ?_
      refine lv_iload_n hx hb dX3_firstLike_3 rfl (lv_at hl 1 rfl) ?_
      refine lv_icmp_ge (tgt := 24) hx hb dX3_firstLike_4 (by decide) (fun c4 => ?_) (fun c4 => ?_)
      · have hF := hm_if hF c4
        refine lv_iload_n hx hb dX3_firstLike_24 rfl (lv_at hl 1 rfl) ?_
        obtain rfl := Option.some.inj hF
        exact hm_ri S hr hlk X rfl rfl dX3_firstLike_25
      · have hF := hm_nf hF c4
        refine lv_aload_n hx hb dX3_firstLike_7 rfl (lv_at hl 0 rfl) ?_
        refine lv_iload_n hx hb dX3_firstLike_8 rfl (lv_at hl 2 rfl) ?_
        refine lv_iload_n hx hb dX3_firstLike_9 rfl (lv_at hl 1 rfl) ?_
        obtain ⟨t1, ht1, hF⟩ := hm_bd hF
        refine hm_vi (As := [.int v2, .int x0]) S X mw_X3_areSpelledAlike hw_2_96 (c_X3_areSpelledAlike l g a R v2 x0 t1 ht1) (hm_cq (n := 11) [0, 1, 2, 3, 4, 5, 6, 7, 8, 9, 10] [] rfl (by decide +kernel) rfl rfl) (hm_cq (bs := [[(a 0, .inr (3, [.ref (a 1), .ref (a 3), .ref (a 5), .ref (a 7), .ref (a 9), .ref (a 11), .ref (a 13), .ref (a 15), .ref (a 17), .ref (a 19)]))], hm_row g (a 1) (a 2) 200 (R 0), hm_row g (a 3) (a 4) 30 (R 1), hm_row g (a 5) (a 6) 200 (R 2), hm_row g (a 7) (a 8) 30 (R 3), hm_row g (a 9) (a 10) 30 (R 4), hm_row g (a 11) (a 12) 30 (R 5), hm_row g (a 13) (a 14) 30 (R 6), hm_row g (a 15) (a 16) 100 (R 7), hm_row g (a 17) (a 18) 100 (R 8), hm_row g (a 19) (a 20) 100 (R 9)]) (n := 11) [0, 1, 2, 3, 4, 5, 6, 7, 8, 9, 10] [] rfl (by decide +kernel) rfl rfl) rfl rfl rfl ⟨rfl, rfl, Nat.le_of_ble_eq_true rfl, Nat.le_of_ble_eq_true rfl⟩ rfl hl.1 rfl (Nat.le_of_ble_eq_true rfl) dX3_firstLike_10 ⟨Nat.zero_le _, Nat.zero_le _⟩ (fun H locs X => ?_)
        have X := X.to (ws' := ([[(a 0, .inr (3, [.ref (a 1), .ref (a 3), .ref (a 5), .ref (a 7), .ref (a 9), .ref (a 11), .ref (a 13), .ref (a 15), .ref (a 17), .ref (a 19)]))], hm_row g (a 1) (a 2) 200 (R 0), hm_row g (a 3) (a 4) 30 (R 1), hm_row g (a 5) (a 6) 200 (R 2), hm_row g (a 7) (a 8) 30 (R 3), hm_row g (a 9) (a 10) 30 (R 4), hm_row g (a 11) (a 12) 30 (R 5), hm_row g (a 13) (a 14) 30 (R 6), hm_row g (a 15) (a 16) 100 (R 7), hm_row g (a 17) (a 18) 100 (R 8), hm_row g (a 19) (a 20) 100 (R 9)] : List va_W).flatten) rfl
        refine lv_if_eq (tgt := 18) hx hb dX3_firstLike_13 (by decide) (fun c13 => ?_) (fun c13 => ?_)
        · have hF := hm_if hF c13
          refine lv_iinc (v := (v2 + 1)) (lv' := [(2, .int (v2 + 1)), (0, .ref (a 0)), (1, .int x0)]) hx hb dX3_firstLike_18 hl (k := 2) rfl rfl (by decide) rfl (fun ls hl => ?_)
          refine lv_goto (tgt := 2) hx hb dX3_firstLike_21 (by decide) ?_
          exact ih2 (v2 + 1) hF _ _ X _ (lv_sub hl [1, 2, 0] rfl)
        · have hF := hm_nf hF c13
          refine lv_iload_n hx hb dX3_firstLike_16 rfl (lv_at hl 2 rfl) ?_
          obtain rfl := Option.some.inj hF
          exact hm_ri S hr hlk X rfl rfl dX3_firstLike_17
  unfold f_X3_firstLike at hF
  refine lv_iconst (v := 0) hx hb dX3_firstLike_0 (by decide) ?_
  refine lv_istore_n (lv' := [(2, .int 0), (0, .ref (a 0)), (1, .int x0)]) hx hb dX3_firstLike_1 rfl hl (by decide) rfl (fun ls hl => ?_)
  exact hl2 hm_fu 0 hF _ _ X _ (lv_sub hl [1, 2, 0] rfl)
def f_X3_endWord (R_0 : hm_SR) (R_1 : hm_SR) (R_2 : hm_SR) (R_3 : hm_SR) (R_4 : hm_SR) (R_5 : hm_SR) (R_6 : hm_SR) (R_7 : hm_SR) (R_8 : hm_SR) (R_9 : hm_SR)  : Option (hm_SR × hm_SR × hm_SR × hm_SR × hm_SR × hm_SR × hm_SR × hm_SR) :=
  (f_X3_wordCount R_1).bind fun t1 =>
  (f_X3_addPlace R_1 R_2 R_3 R_7 R_8 R_9 0).bind fun t2 =>
  (f_X3_placeCount t2.1).bind fun t3 =>
  (f_X2_add 30 R_4 (t3 - 1)).bind fun t4 =>
  (f_X2_size R_2).bind fun t5 =>
  (f_X2_add 30 R_3 t5).bind fun t6 =>
  (f_X2_size R_0).bind fun t7 =>
  (f_X2_add 30 R_1 t7).bind fun t8 =>
  (f_X3_firstLike R_2 t6.2 t1).bind fun t9 =>
  (f_X2_add 30 R_5 t9).bind fun t10 =>
  if t9 = t1 then (
  (f_X2_add 30 R_6 t1).bind fun t11 =>
  some (t8.2, t6.2, t4.2, t10.2, t11.2, t2.1, t2.2.1, t2.2.2))
  else (
  some (t8.2, t6.2, t4.2, t10.2, R_6, t2.1, t2.2.1, t2.2.2))
abbrev rm_X3_endWord : Room := { frames := 4, cells := 0, slots := 0, locals := 90 }
set_option maxHeartbeats 4000000 in
set_option maxRecDepth 100000 in
theorem c_X3_endWord (l : Launch) (g : hm_G) (a : Nat → Nat) (R : Nat → hm_SR) (q : hm_SR × hm_SR × hm_SR × hm_SR × hm_SR × hm_SR × hm_SR × hm_SR) (hF : f_X3_endWord (R 0) (R 1) (R 2) (R 3) (R 4) (R 5) (R 6) (R 7) (R 8) (R 9) = some q) : hm_Mv l yX3_endWord (Cond.code yX3_endWord cX3_endWord 3 none :: hm_W) rm_X3_endWord g [.ref (a 0)] ([hm_wSc g a R] : List va_W).flatten ([hm_wSc g a (hm_up (hm_up (hm_up (hm_up (hm_up (hm_up (hm_up (hm_up R 1 q.1) 3 q.2.1) 4 q.2.2.1) 5 q.2.2.2.1) 6 q.2.2.2.2.1) 7 q.2.2.2.2.2.1) 8 q.2.2.2.2.2.2.1) 9 q.2.2.2.2.2.2.2)] : List va_W).flatten := by
  refine hm_ofv [(0, .ref (a 0))] (by decide) (own := RX3) rfl (Nat.le_of_ble_eq_true rfl) rfl rfl ?_
  intro p e s m args below meth c AA S hr hlk X ls hl
  have hx := S.1
  have hb := S.2.1
  have hown := S.2.2.2.1
  have hts := S.2.2.2.2
  have X := X.to (ws' := ([[(a 0, .inr (3, [.ref (a 1), .ref (a 3), .ref (a 5), .ref (a 7), .ref (a 9), .ref (a 11), .ref (a 13), .ref (a 15), .ref (a 17), .ref (a 19)]))], hm_row g (a 1) (a 2) 200 (R 0), hm_row g (a 3) (a 4) 30 (R 1), hm_row g (a 5) (a 6) 200 (R 2), hm_row g (a 7) (a 8) 30 (R 3), hm_row g (a 9) (a 10) 30 (R 4), hm_row g (a 11) (a 12) 30 (R 5), hm_row g (a 13) (a 14) 30 (R 6), hm_row g (a 15) (a 16) 100 (R 7), hm_row g (a 17) (a 18) 100 (R 8), hm_row g (a 19) (a 20) 100 (R 9)] : List va_W).flatten) rfl
  unfold f_X3_endWord at hF
  refine lv_aload_n hx hb dX3_endWord_0 rfl (lv_at hl 0 rfl) ?_
  obtain ⟨t1, ht1, hF⟩ := hm_bd hF
  refine hm_vi (As := []) S X mw_X3_wordCount hw_2_77 (c_X3_wordCount l g a R t1 ht1) (hm_cq (n := 11) [0, 1, 2, 3, 4, 5, 6, 7, 8, 9, 10] [] rfl (by decide +kernel) rfl rfl) (hm_cq (bs := [[(a 0, .inr (3, [.ref (a 1), .ref (a 3), .ref (a 5), .ref (a 7), .ref (a 9), .ref (a 11), .ref (a 13), .ref (a 15), .ref (a 17), .ref (a 19)]))], hm_row g (a 1) (a 2) 200 (R 0), hm_row g (a 3) (a 4) 30 (R 1), hm_row g (a 5) (a 6) 200 (R 2), hm_row g (a 7) (a 8) 30 (R 3), hm_row g (a 9) (a 10) 30 (R 4), hm_row g (a 11) (a 12) 30 (R 5), hm_row g (a 13) (a 14) 30 (R 6), hm_row g (a 15) (a 16) 100 (R 7), hm_row g (a 17) (a 18) 100 (R 8), hm_row g (a 19) (a 20) 100 (R 9)]) (n := 11) [0, 1, 2, 3, 4, 5, 6, 7, 8, 9, 10] [] rfl (by decide +kernel) rfl rfl) rfl rfl rfl ⟨rfl, rfl, Nat.le_of_ble_eq_true rfl, Nat.le_of_ble_eq_true rfl⟩ rfl hl.1 rfl (Nat.le_of_ble_eq_true rfl) dX3_endWord_1 ⟨Nat.zero_le _, Nat.zero_le _⟩ (fun H locs X => ?_)
  have X := X.to (ws' := ([[(a 0, .inr (3, [.ref (a 1), .ref (a 3), .ref (a 5), .ref (a 7), .ref (a 9), .ref (a 11), .ref (a 13), .ref (a 15), .ref (a 17), .ref (a 19)]))], hm_row g (a 1) (a 2) 200 (R 0), hm_row g (a 3) (a 4) 30 (R 1), hm_row g (a 5) (a 6) 200 (R 2), hm_row g (a 7) (a 8) 30 (R 3), hm_row g (a 9) (a 10) 30 (R 4), hm_row g (a 11) (a 12) 30 (R 5), hm_row g (a 13) (a 14) 30 (R 6), hm_row g (a 15) (a 16) 100 (R 7), hm_row g (a 17) (a 18) 100 (R 8), hm_row g (a 19) (a 20) 100 (R 9)] : List va_W).flatten) rfl
  refine lv_istore_n (lv' := [(1, .int t1), (0, .ref (a 0))]) hx hb dX3_endWord_4 rfl hl (by decide) rfl (fun ls hl => ?_)
  refine lv_aload_n hx hb dX3_endWord_5 rfl (lv_at hl 1 rfl) ?_
  refine lv_iconst (v := 0) hx hb dX3_endWord_6 (by decide) ?_
  obtain ⟨t2, ht2, hF⟩ := hm_bd hF
  refine hm_vv (As := [.int 0]) S X mw_X3_addPlace hw_2_73 (c_X3_addPlace l g a R 0 t2 ht2) (hm_cq (n := 11) [0, 1, 2, 3, 4, 5, 6, 7, 8, 9, 10] [] rfl (by decide +kernel) rfl rfl) (hm_cq (bs := [[(a 0, .inr (3, [.ref (a 1), .ref (a 3), .ref (a 5), .ref (a 7), .ref (a 9), .ref (a 11), .ref (a 13), .ref (a 15), .ref (a 17), .ref (a 19)]))], hm_row g (a 1) (a 2) 200 (R 0), hm_row g (a 3) (a 4) 30 (R 1), hm_row g (a 5) (a 6) 200 (R 2), hm_row g (a 7) (a 8) 30 (R 3), hm_row g (a 9) (a 10) 30 (R 4), hm_row g (a 11) (a 12) 30 (R 5), hm_row g (a 13) (a 14) 30 (R 6), hm_row g (a 15) (a 16) 100 t2.1, hm_row g (a 17) (a 18) 100 t2.2.1, hm_row g (a 19) (a 20) 100 t2.2.2]) (n := 11) [0, 1, 2, 3, 4, 5, 6, 7, 8, 9, 10] [] rfl (by decide +kernel) rfl rfl) rfl rfl rfl ⟨rfl, rfl, Nat.le_of_ble_eq_true rfl, Nat.le_of_ble_eq_true rfl⟩ rfl hl.1 rfl (Nat.le_of_ble_eq_true rfl) dX3_endWord_7 ⟨Nat.zero_le _, Nat.zero_le _⟩ (fun H locs X => ?_)
  have X := X.to (ws' := ([[(a 0, .inr (3, [.ref (a 1), .ref (a 3), .ref (a 5), .ref (a 7), .ref (a 9), .ref (a 11), .ref (a 13), .ref (a 15), .ref (a 17), .ref (a 19)]))], hm_row g (a 1) (a 2) 200 (R 0), hm_row g (a 3) (a 4) 30 (R 1), hm_row g (a 5) (a 6) 200 (R 2), hm_row g (a 7) (a 8) 30 (R 3), hm_row g (a 9) (a 10) 30 (R 4), hm_row g (a 11) (a 12) 30 (R 5), hm_row g (a 13) (a 14) 30 (R 6), hm_row g (a 15) (a 16) 100 t2.1, hm_row g (a 17) (a 18) 100 t2.2.1, hm_row g (a 19) (a 20) 100 t2.2.2] : List va_W).flatten) rfl
  refine lv_aload_n hx hb dX3_endWord_10 rfl (lv_at hl 1 rfl) ?_
  refine hm_get S X hf_X3_29 0 rfl rfl dX3_endWord_11 ?_
  refine lv_aload_n hx hb dX3_endWord_14 rfl (lv_at hl 1 rfl) ?_
  obtain ⟨t3, ht3, hF⟩ := hm_bd hF
  refine hm_vi (As := []) S X mw_X3_placeCount hw_2_88 (c_X3_placeCount l g a (hm_up (hm_up (hm_up R 7 t2.1) 8 t2.2.1) 9 t2.2.2) t3 ht3) (hm_cq (n := 11) [0, 1, 2, 3, 4, 5, 6, 7, 8, 9, 10] [] rfl (by decide +kernel) rfl rfl) (hm_cq (bs := [[(a 0, .inr (3, [.ref (a 1), .ref (a 3), .ref (a 5), .ref (a 7), .ref (a 9), .ref (a 11), .ref (a 13), .ref (a 15), .ref (a 17), .ref (a 19)]))], hm_row g (a 1) (a 2) 200 (R 0), hm_row g (a 3) (a 4) 30 (R 1), hm_row g (a 5) (a 6) 200 (R 2), hm_row g (a 7) (a 8) 30 (R 3), hm_row g (a 9) (a 10) 30 (R 4), hm_row g (a 11) (a 12) 30 (R 5), hm_row g (a 13) (a 14) 30 (R 6), hm_row g (a 15) (a 16) 100 t2.1, hm_row g (a 17) (a 18) 100 t2.2.1, hm_row g (a 19) (a 20) 100 t2.2.2]) (n := 11) [0, 1, 2, 3, 4, 5, 6, 7, 8, 9, 10] [] rfl (by decide +kernel) rfl rfl) rfl rfl rfl ⟨rfl, rfl, Nat.le_of_ble_eq_true rfl, Nat.le_of_ble_eq_true rfl⟩ rfl hl.1 rfl (Nat.le_of_ble_eq_true rfl) dX3_endWord_15 ⟨Nat.zero_le _, Nat.zero_le _⟩ (fun H locs X => ?_)
  have X := X.to (ws' := ([[(a 0, .inr (3, [.ref (a 1), .ref (a 3), .ref (a 5), .ref (a 7), .ref (a 9), .ref (a 11), .ref (a 13), .ref (a 15), .ref (a 17), .ref (a 19)]))], hm_row g (a 1) (a 2) 200 (R 0), hm_row g (a 3) (a 4) 30 (R 1), hm_row g (a 5) (a 6) 200 (R 2), hm_row g (a 7) (a 8) 30 (R 3), hm_row g (a 9) (a 10) 30 (R 4), hm_row g (a 11) (a 12) 30 (R 5), hm_row g (a 13) (a 14) 30 (R 6), hm_row g (a 15) (a 16) 100 t2.1, hm_row g (a 17) (a 18) 100 t2.2.1, hm_row g (a 19) (a 20) 100 t2.2.2] : List va_W).flatten) rfl
  refine lv_iconst (v := 1) hx hb dX3_endWord_18 (by decide) ?_
  refine lv_isub hx hb dX3_endWord_19 ?_
  obtain ⟨t4, ht4, hF⟩ := hm_bd hF
  refine hm_vi (As := [.int (t3 - 1)]) S X mw_X2_add hw_2_72 (c_X2_add l g (a 9) (a 10) 30 (R 4) (t3 - 1) t4 ht4) (hm_mid [[(a 0, .inr (3, [.ref (a 1), .ref (a 3), .ref (a 5), .ref (a 7), .ref (a 9), .ref (a 11), .ref (a 13), .ref (a 15), .ref (a 17), .ref (a 19)]))], hm_row g (a 1) (a 2) 200 (R 0), hm_row g (a 3) (a 4) 30 (R 1), hm_row g (a 5) (a 6) 200 (R 2), hm_row g (a 7) (a 8) 30 (R 3)] [hm_row g (a 11) (a 12) 30 (R 5), hm_row g (a 13) (a 14) 30 (R 6), hm_row g (a 15) (a 16) 100 t2.1, hm_row g (a 17) (a 18) 100 t2.2.1, hm_row g (a 19) (a 20) 100 t2.2.2]) (hm_mid [[(a 0, .inr (3, [.ref (a 1), .ref (a 3), .ref (a 5), .ref (a 7), .ref (a 9), .ref (a 11), .ref (a 13), .ref (a 15), .ref (a 17), .ref (a 19)]))], hm_row g (a 1) (a 2) 200 (R 0), hm_row g (a 3) (a 4) 30 (R 1), hm_row g (a 5) (a 6) 200 (R 2), hm_row g (a 7) (a 8) 30 (R 3)] [hm_row g (a 11) (a 12) 30 (R 5), hm_row g (a 13) (a 14) 30 (R 6), hm_row g (a 15) (a 16) 100 t2.1, hm_row g (a 17) (a 18) 100 t2.2.1, hm_row g (a 19) (a 20) 100 t2.2.2] (b := hm_row g (a 9) (a 10) 30 t4.2)) rfl rfl rfl ⟨rfl, rfl, Nat.le_of_ble_eq_true rfl, Nat.le_of_ble_eq_true rfl⟩ rfl hl.1 rfl (Nat.le_of_ble_eq_true rfl) dX3_endWord_20 ⟨Nat.zero_le _, Nat.zero_le _⟩ (fun H locs X => ?_)
  have X := X.to (ws' := ([[(a 0, .inr (3, [.ref (a 1), .ref (a 3), .ref (a 5), .ref (a 7), .ref (a 9), .ref (a 11), .ref (a 13), .ref (a 15), .ref (a 17), .ref (a 19)]))], hm_row g (a 1) (a 2) 200 (R 0), hm_row g (a 3) (a 4) 30 (R 1), hm_row g (a 5) (a 6) 200 (R 2), hm_row g (a 7) (a 8) 30 (R 3), hm_row g (a 9) (a 10) 30 t4.2, hm_row g (a 11) (a 12) 30 (R 5), hm_row g (a 13) (a 14) 30 (R 6), hm_row g (a 15) (a 16) 100 t2.1, hm_row g (a 17) (a 18) 100 t2.2.1, hm_row g (a 19) (a 20) 100 t2.2.2] : List va_W).flatten) rfl
  refine lv_pop hx hb dX3_endWord_23 rfl ?_
  refine lv_aload_n hx hb dX3_endWord_24 rfl (lv_at hl 1 rfl) ?_
  refine hm_get S X hf_X3_26 0 rfl rfl dX3_endWord_25 ?_
  refine lv_aload_n hx hb dX3_endWord_28 rfl (lv_at hl 1 rfl) ?_
  refine hm_get S X hf_X3_23 0 rfl rfl dX3_endWord_29 ?_
  obtain ⟨t5, ht5, hF⟩ := hm_bd hF
  refine hm_vi (As := []) S X mw_X2_size hw_2_70 (c_X2_size l g (a 5) (a 6) 200 (R 2) t5 ht5) (hm_mid [[(a 0, .inr (3, [.ref (a 1), .ref (a 3), .ref (a 5), .ref (a 7), .ref (a 9), .ref (a 11), .ref (a 13), .ref (a 15), .ref (a 17), .ref (a 19)]))], hm_row g (a 1) (a 2) 200 (R 0), hm_row g (a 3) (a 4) 30 (R 1)] [hm_row g (a 7) (a 8) 30 (R 3), hm_row g (a 9) (a 10) 30 t4.2, hm_row g (a 11) (a 12) 30 (R 5), hm_row g (a 13) (a 14) 30 (R 6), hm_row g (a 15) (a 16) 100 t2.1, hm_row g (a 17) (a 18) 100 t2.2.1, hm_row g (a 19) (a 20) 100 t2.2.2]) (hm_mid [[(a 0, .inr (3, [.ref (a 1), .ref (a 3), .ref (a 5), .ref (a 7), .ref (a 9), .ref (a 11), .ref (a 13), .ref (a 15), .ref (a 17), .ref (a 19)]))], hm_row g (a 1) (a 2) 200 (R 0), hm_row g (a 3) (a 4) 30 (R 1)] [hm_row g (a 7) (a 8) 30 (R 3), hm_row g (a 9) (a 10) 30 t4.2, hm_row g (a 11) (a 12) 30 (R 5), hm_row g (a 13) (a 14) 30 (R 6), hm_row g (a 15) (a 16) 100 t2.1, hm_row g (a 17) (a 18) 100 t2.2.1, hm_row g (a 19) (a 20) 100 t2.2.2] (b := hm_row g (a 5) (a 6) 200 (R 2))) rfl rfl rfl ⟨rfl, rfl, Nat.le_of_ble_eq_true rfl, Nat.le_of_ble_eq_true rfl⟩ rfl hl.1 rfl (Nat.le_of_ble_eq_true rfl) dX3_endWord_32 ⟨Nat.zero_le _, Nat.zero_le _⟩ (fun H locs X => ?_)
  have X := X.to (ws' := ([[(a 0, .inr (3, [.ref (a 1), .ref (a 3), .ref (a 5), .ref (a 7), .ref (a 9), .ref (a 11), .ref (a 13), .ref (a 15), .ref (a 17), .ref (a 19)]))], hm_row g (a 1) (a 2) 200 (R 0), hm_row g (a 3) (a 4) 30 (R 1), hm_row g (a 5) (a 6) 200 (R 2), hm_row g (a 7) (a 8) 30 (R 3), hm_row g (a 9) (a 10) 30 t4.2, hm_row g (a 11) (a 12) 30 (R 5), hm_row g (a 13) (a 14) 30 (R 6), hm_row g (a 15) (a 16) 100 t2.1, hm_row g (a 17) (a 18) 100 t2.2.1, hm_row g (a 19) (a 20) 100 t2.2.2] : List va_W).flatten) rfl
  obtain ⟨t6, ht6, hF⟩ := hm_bd hF
  refine hm_vi (As := [.int t5]) S X mw_X2_add hw_2_72 (c_X2_add l g (a 7) (a 8) 30 (R 3) t5 t6 ht6) (hm_mid [[(a 0, .inr (3, [.ref (a 1), .ref (a 3), .ref (a 5), .ref (a 7), .ref (a 9), .ref (a 11), .ref (a 13), .ref (a 15), .ref (a 17), .ref (a 19)]))], hm_row g (a 1) (a 2) 200 (R 0), hm_row g (a 3) (a 4) 30 (R 1), hm_row g (a 5) (a 6) 200 (R 2)] [hm_row g (a 9) (a 10) 30 t4.2, hm_row g (a 11) (a 12) 30 (R 5), hm_row g (a 13) (a 14) 30 (R 6), hm_row g (a 15) (a 16) 100 t2.1, hm_row g (a 17) (a 18) 100 t2.2.1, hm_row g (a 19) (a 20) 100 t2.2.2]) (hm_mid [[(a 0, .inr (3, [.ref (a 1), .ref (a 3), .ref (a 5), .ref (a 7), .ref (a 9), .ref (a 11), .ref (a 13), .ref (a 15), .ref (a 17), .ref (a 19)]))], hm_row g (a 1) (a 2) 200 (R 0), hm_row g (a 3) (a 4) 30 (R 1), hm_row g (a 5) (a 6) 200 (R 2)] [hm_row g (a 9) (a 10) 30 t4.2, hm_row g (a 11) (a 12) 30 (R 5), hm_row g (a 13) (a 14) 30 (R 6), hm_row g (a 15) (a 16) 100 t2.1, hm_row g (a 17) (a 18) 100 t2.2.1, hm_row g (a 19) (a 20) 100 t2.2.2] (b := hm_row g (a 7) (a 8) 30 t6.2)) rfl rfl rfl ⟨rfl, rfl, Nat.le_of_ble_eq_true rfl, Nat.le_of_ble_eq_true rfl⟩ rfl hl.1 rfl (Nat.le_of_ble_eq_true rfl) dX3_endWord_35 ⟨Nat.zero_le _, Nat.zero_le _⟩ (fun H locs X => ?_)
  have X := X.to (ws' := ([[(a 0, .inr (3, [.ref (a 1), .ref (a 3), .ref (a 5), .ref (a 7), .ref (a 9), .ref (a 11), .ref (a 13), .ref (a 15), .ref (a 17), .ref (a 19)]))], hm_row g (a 1) (a 2) 200 (R 0), hm_row g (a 3) (a 4) 30 (R 1), hm_row g (a 5) (a 6) 200 (R 2), hm_row g (a 7) (a 8) 30 t6.2, hm_row g (a 9) (a 10) 30 t4.2, hm_row g (a 11) (a 12) 30 (R 5), hm_row g (a 13) (a 14) 30 (R 6), hm_row g (a 15) (a 16) 100 t2.1, hm_row g (a 17) (a 18) 100 t2.2.1, hm_row g (a 19) (a 20) 100 t2.2.2] : List va_W).flatten) rfl
  refine lv_pop hx hb dX3_endWord_38 rfl ?_
  refine lv_aload_n hx hb dX3_endWord_39 rfl (lv_at hl 1 rfl) ?_
  refine hm_get S X hf_X3_20 0 rfl rfl dX3_endWord_40 ?_
  refine lv_aload_n hx hb dX3_endWord_43 rfl (lv_at hl 1 rfl) ?_
  refine hm_get S X hf_X3_14 0 rfl rfl dX3_endWord_44 ?_
  obtain ⟨t7, ht7, hF⟩ := hm_bd hF
  refine hm_vi (As := []) S X mw_X2_size hw_2_70 (c_X2_size l g (a 1) (a 2) 200 (R 0) t7 ht7) (hm_mid [[(a 0, .inr (3, [.ref (a 1), .ref (a 3), .ref (a 5), .ref (a 7), .ref (a 9), .ref (a 11), .ref (a 13), .ref (a 15), .ref (a 17), .ref (a 19)]))]] [hm_row g (a 3) (a 4) 30 (R 1), hm_row g (a 5) (a 6) 200 (R 2), hm_row g (a 7) (a 8) 30 t6.2, hm_row g (a 9) (a 10) 30 t4.2, hm_row g (a 11) (a 12) 30 (R 5), hm_row g (a 13) (a 14) 30 (R 6), hm_row g (a 15) (a 16) 100 t2.1, hm_row g (a 17) (a 18) 100 t2.2.1, hm_row g (a 19) (a 20) 100 t2.2.2]) (hm_mid [[(a 0, .inr (3, [.ref (a 1), .ref (a 3), .ref (a 5), .ref (a 7), .ref (a 9), .ref (a 11), .ref (a 13), .ref (a 15), .ref (a 17), .ref (a 19)]))]] [hm_row g (a 3) (a 4) 30 (R 1), hm_row g (a 5) (a 6) 200 (R 2), hm_row g (a 7) (a 8) 30 t6.2, hm_row g (a 9) (a 10) 30 t4.2, hm_row g (a 11) (a 12) 30 (R 5), hm_row g (a 13) (a 14) 30 (R 6), hm_row g (a 15) (a 16) 100 t2.1, hm_row g (a 17) (a 18) 100 t2.2.1, hm_row g (a 19) (a 20) 100 t2.2.2] (b := hm_row g (a 1) (a 2) 200 (R 0))) rfl rfl rfl ⟨rfl, rfl, Nat.le_of_ble_eq_true rfl, Nat.le_of_ble_eq_true rfl⟩ rfl hl.1 rfl (Nat.le_of_ble_eq_true rfl) dX3_endWord_47 ⟨Nat.zero_le _, Nat.zero_le _⟩ (fun H locs X => ?_)
  have X := X.to (ws' := ([[(a 0, .inr (3, [.ref (a 1), .ref (a 3), .ref (a 5), .ref (a 7), .ref (a 9), .ref (a 11), .ref (a 13), .ref (a 15), .ref (a 17), .ref (a 19)]))], hm_row g (a 1) (a 2) 200 (R 0), hm_row g (a 3) (a 4) 30 (R 1), hm_row g (a 5) (a 6) 200 (R 2), hm_row g (a 7) (a 8) 30 t6.2, hm_row g (a 9) (a 10) 30 t4.2, hm_row g (a 11) (a 12) 30 (R 5), hm_row g (a 13) (a 14) 30 (R 6), hm_row g (a 15) (a 16) 100 t2.1, hm_row g (a 17) (a 18) 100 t2.2.1, hm_row g (a 19) (a 20) 100 t2.2.2] : List va_W).flatten) rfl
  obtain ⟨t8, ht8, hF⟩ := hm_bd hF
  refine hm_vi (As := [.int t7]) S X mw_X2_add hw_2_72 (c_X2_add l g (a 3) (a 4) 30 (R 1) t7 t8 ht8) (hm_mid [[(a 0, .inr (3, [.ref (a 1), .ref (a 3), .ref (a 5), .ref (a 7), .ref (a 9), .ref (a 11), .ref (a 13), .ref (a 15), .ref (a 17), .ref (a 19)]))], hm_row g (a 1) (a 2) 200 (R 0)] [hm_row g (a 5) (a 6) 200 (R 2), hm_row g (a 7) (a 8) 30 t6.2, hm_row g (a 9) (a 10) 30 t4.2, hm_row g (a 11) (a 12) 30 (R 5), hm_row g (a 13) (a 14) 30 (R 6), hm_row g (a 15) (a 16) 100 t2.1, hm_row g (a 17) (a 18) 100 t2.2.1, hm_row g (a 19) (a 20) 100 t2.2.2]) (hm_mid [[(a 0, .inr (3, [.ref (a 1), .ref (a 3), .ref (a 5), .ref (a 7), .ref (a 9), .ref (a 11), .ref (a 13), .ref (a 15), .ref (a 17), .ref (a 19)]))], hm_row g (a 1) (a 2) 200 (R 0)] [hm_row g (a 5) (a 6) 200 (R 2), hm_row g (a 7) (a 8) 30 t6.2, hm_row g (a 9) (a 10) 30 t4.2, hm_row g (a 11) (a 12) 30 (R 5), hm_row g (a 13) (a 14) 30 (R 6), hm_row g (a 15) (a 16) 100 t2.1, hm_row g (a 17) (a 18) 100 t2.2.1, hm_row g (a 19) (a 20) 100 t2.2.2] (b := hm_row g (a 3) (a 4) 30 t8.2)) rfl rfl rfl ⟨rfl, rfl, Nat.le_of_ble_eq_true rfl, Nat.le_of_ble_eq_true rfl⟩ rfl hl.1 rfl (Nat.le_of_ble_eq_true rfl) dX3_endWord_50 ⟨Nat.zero_le _, Nat.zero_le _⟩ (fun H locs X => ?_)
  have X := X.to (ws' := ([[(a 0, .inr (3, [.ref (a 1), .ref (a 3), .ref (a 5), .ref (a 7), .ref (a 9), .ref (a 11), .ref (a 13), .ref (a 15), .ref (a 17), .ref (a 19)]))], hm_row g (a 1) (a 2) 200 (R 0), hm_row g (a 3) (a 4) 30 t8.2, hm_row g (a 5) (a 6) 200 (R 2), hm_row g (a 7) (a 8) 30 t6.2, hm_row g (a 9) (a 10) 30 t4.2, hm_row g (a 11) (a 12) 30 (R 5), hm_row g (a 13) (a 14) 30 (R 6), hm_row g (a 15) (a 16) 100 t2.1, hm_row g (a 17) (a 18) 100 t2.2.1, hm_row g (a 19) (a 20) 100 t2.2.2] : List va_W).flatten) rfl
  refine lv_pop hx hb dX3_endWord_53 rfl ?_
  refine lv_aload_n hx hb dX3_endWord_54 rfl (lv_at hl 1 rfl) ?_
  refine lv_iload_n hx hb dX3_endWord_55 rfl (lv_at hl 0 rfl) ?_
  obtain ⟨t9, ht9, hF⟩ := hm_bd hF
  refine hm_vi (As := [.int t1]) S X mw_X3_firstLike hw_2_92 (c_X3_firstLike l g a (hm_up (hm_up (hm_up (hm_up (hm_up (hm_up R 1 t8.2) 3 t6.2) 4 t4.2) 7 t2.1) 8 t2.2.1) 9 t2.2.2) t1 t9 ht9) (hm_cq (n := 11) [0, 1, 2, 3, 4, 5, 6, 7, 8, 9, 10] [] rfl (by decide +kernel) rfl rfl) (hm_cq (bs := [[(a 0, .inr (3, [.ref (a 1), .ref (a 3), .ref (a 5), .ref (a 7), .ref (a 9), .ref (a 11), .ref (a 13), .ref (a 15), .ref (a 17), .ref (a 19)]))], hm_row g (a 1) (a 2) 200 (R 0), hm_row g (a 3) (a 4) 30 t8.2, hm_row g (a 5) (a 6) 200 (R 2), hm_row g (a 7) (a 8) 30 t6.2, hm_row g (a 9) (a 10) 30 t4.2, hm_row g (a 11) (a 12) 30 (R 5), hm_row g (a 13) (a 14) 30 (R 6), hm_row g (a 15) (a 16) 100 t2.1, hm_row g (a 17) (a 18) 100 t2.2.1, hm_row g (a 19) (a 20) 100 t2.2.2]) (n := 11) [0, 1, 2, 3, 4, 5, 6, 7, 8, 9, 10] [] rfl (by decide +kernel) rfl rfl) rfl rfl rfl ⟨rfl, rfl, Nat.le_of_ble_eq_true rfl, Nat.le_of_ble_eq_true rfl⟩ rfl hl.1 rfl (Nat.le_of_ble_eq_true rfl) dX3_endWord_56 ⟨Nat.zero_le _, Nat.zero_le _⟩ (fun H locs X => ?_)
  have X := X.to (ws' := ([[(a 0, .inr (3, [.ref (a 1), .ref (a 3), .ref (a 5), .ref (a 7), .ref (a 9), .ref (a 11), .ref (a 13), .ref (a 15), .ref (a 17), .ref (a 19)]))], hm_row g (a 1) (a 2) 200 (R 0), hm_row g (a 3) (a 4) 30 t8.2, hm_row g (a 5) (a 6) 200 (R 2), hm_row g (a 7) (a 8) 30 t6.2, hm_row g (a 9) (a 10) 30 t4.2, hm_row g (a 11) (a 12) 30 (R 5), hm_row g (a 13) (a 14) 30 (R 6), hm_row g (a 15) (a 16) 100 t2.1, hm_row g (a 17) (a 18) 100 t2.2.1, hm_row g (a 19) (a 20) 100 t2.2.2] : List va_W).flatten) rfl
  refine lv_istore_n (lv' := [(2, .int t9), (1, .int t1), (0, .ref (a 0))]) hx hb dX3_endWord_59 rfl hl (by decide) rfl (fun ls hl => ?_)
  refine lv_aload_n hx hb dX3_endWord_60 rfl (lv_at hl 2 rfl) ?_
  refine hm_get S X hf_X3_32 0 rfl rfl dX3_endWord_61 ?_
  refine lv_iload_n hx hb dX3_endWord_64 rfl (lv_at hl 0 rfl) ?_
  obtain ⟨t10, ht10, hF⟩ := hm_bd hF
  refine hm_vi (As := [.int t9]) S X mw_X2_add hw_2_72 (c_X2_add l g (a 11) (a 12) 30 (R 5) t9 t10 ht10) (hm_mid [[(a 0, .inr (3, [.ref (a 1), .ref (a 3), .ref (a 5), .ref (a 7), .ref (a 9), .ref (a 11), .ref (a 13), .ref (a 15), .ref (a 17), .ref (a 19)]))], hm_row g (a 1) (a 2) 200 (R 0), hm_row g (a 3) (a 4) 30 t8.2, hm_row g (a 5) (a 6) 200 (R 2), hm_row g (a 7) (a 8) 30 t6.2, hm_row g (a 9) (a 10) 30 t4.2] [hm_row g (a 13) (a 14) 30 (R 6), hm_row g (a 15) (a 16) 100 t2.1, hm_row g (a 17) (a 18) 100 t2.2.1, hm_row g (a 19) (a 20) 100 t2.2.2]) (hm_mid [[(a 0, .inr (3, [.ref (a 1), .ref (a 3), .ref (a 5), .ref (a 7), .ref (a 9), .ref (a 11), .ref (a 13), .ref (a 15), .ref (a 17), .ref (a 19)]))], hm_row g (a 1) (a 2) 200 (R 0), hm_row g (a 3) (a 4) 30 t8.2, hm_row g (a 5) (a 6) 200 (R 2), hm_row g (a 7) (a 8) 30 t6.2, hm_row g (a 9) (a 10) 30 t4.2] [hm_row g (a 13) (a 14) 30 (R 6), hm_row g (a 15) (a 16) 100 t2.1, hm_row g (a 17) (a 18) 100 t2.2.1, hm_row g (a 19) (a 20) 100 t2.2.2] (b := hm_row g (a 11) (a 12) 30 t10.2)) rfl rfl rfl ⟨rfl, rfl, Nat.le_of_ble_eq_true rfl, Nat.le_of_ble_eq_true rfl⟩ rfl hl.1 rfl (Nat.le_of_ble_eq_true rfl) dX3_endWord_65 ⟨Nat.zero_le _, Nat.zero_le _⟩ (fun H locs X => ?_)
  have X := X.to (ws' := ([[(a 0, .inr (3, [.ref (a 1), .ref (a 3), .ref (a 5), .ref (a 7), .ref (a 9), .ref (a 11), .ref (a 13), .ref (a 15), .ref (a 17), .ref (a 19)]))], hm_row g (a 1) (a 2) 200 (R 0), hm_row g (a 3) (a 4) 30 t8.2, hm_row g (a 5) (a 6) 200 (R 2), hm_row g (a 7) (a 8) 30 t6.2, hm_row g (a 9) (a 10) 30 t4.2, hm_row g (a 11) (a 12) 30 t10.2, hm_row g (a 13) (a 14) 30 (R 6), hm_row g (a 15) (a 16) 100 t2.1, hm_row g (a 17) (a 18) 100 t2.2.1, hm_row g (a 19) (a 20) 100 t2.2.2] : List va_W).flatten) rfl
  refine lv_pop hx hb dX3_endWord_68 rfl ?_
  refine lv_iload_n hx hb dX3_endWord_69 rfl (lv_at hl 0 rfl) ?_
  refine lv_iload_n hx hb dX3_endWord_70 rfl (lv_at hl 1 rfl) ?_
  refine lv_icmp_ne (tgt := 83) hx hb dX3_endWord_71 (by decide) (fun c71 => ?_) (fun c71 => ?_)
  · have hF := hm_nf hF c71
    obtain rfl := Option.some.inj hF
    exact hm_rv S hr hlk X rfl dX3_endWord_83
  · have hF := hm_if hF c71
    refine lv_aload_n hx hb dX3_endWord_74 rfl (lv_at hl 2 rfl) ?_
    refine hm_get S X hf_X3_35 0 rfl rfl dX3_endWord_75 ?_
    refine lv_iload_n hx hb dX3_endWord_78 rfl (lv_at hl 1 rfl) ?_
    obtain ⟨t11, ht11, hF⟩ := hm_bd hF
    refine hm_vi (As := [.int t1]) S X mw_X2_add hw_2_72 (c_X2_add l g (a 13) (a 14) 30 (R 6) t1 t11 ht11) (hm_mid [[(a 0, .inr (3, [.ref (a 1), .ref (a 3), .ref (a 5), .ref (a 7), .ref (a 9), .ref (a 11), .ref (a 13), .ref (a 15), .ref (a 17), .ref (a 19)]))], hm_row g (a 1) (a 2) 200 (R 0), hm_row g (a 3) (a 4) 30 t8.2, hm_row g (a 5) (a 6) 200 (R 2), hm_row g (a 7) (a 8) 30 t6.2, hm_row g (a 9) (a 10) 30 t4.2, hm_row g (a 11) (a 12) 30 t10.2] [hm_row g (a 15) (a 16) 100 t2.1, hm_row g (a 17) (a 18) 100 t2.2.1, hm_row g (a 19) (a 20) 100 t2.2.2]) (hm_mid [[(a 0, .inr (3, [.ref (a 1), .ref (a 3), .ref (a 5), .ref (a 7), .ref (a 9), .ref (a 11), .ref (a 13), .ref (a 15), .ref (a 17), .ref (a 19)]))], hm_row g (a 1) (a 2) 200 (R 0), hm_row g (a 3) (a 4) 30 t8.2, hm_row g (a 5) (a 6) 200 (R 2), hm_row g (a 7) (a 8) 30 t6.2, hm_row g (a 9) (a 10) 30 t4.2, hm_row g (a 11) (a 12) 30 t10.2] [hm_row g (a 15) (a 16) 100 t2.1, hm_row g (a 17) (a 18) 100 t2.2.1, hm_row g (a 19) (a 20) 100 t2.2.2] (b := hm_row g (a 13) (a 14) 30 t11.2)) rfl rfl rfl ⟨rfl, rfl, Nat.le_of_ble_eq_true rfl, Nat.le_of_ble_eq_true rfl⟩ rfl hl.1 rfl (Nat.le_of_ble_eq_true rfl) dX3_endWord_79 ⟨Nat.zero_le _, Nat.zero_le _⟩ (fun H locs X => ?_)
    have X := X.to (ws' := ([[(a 0, .inr (3, [.ref (a 1), .ref (a 3), .ref (a 5), .ref (a 7), .ref (a 9), .ref (a 11), .ref (a 13), .ref (a 15), .ref (a 17), .ref (a 19)]))], hm_row g (a 1) (a 2) 200 (R 0), hm_row g (a 3) (a 4) 30 t8.2, hm_row g (a 5) (a 6) 200 (R 2), hm_row g (a 7) (a 8) 30 t6.2, hm_row g (a 9) (a 10) 30 t4.2, hm_row g (a 11) (a 12) 30 t10.2, hm_row g (a 13) (a 14) 30 t11.2, hm_row g (a 15) (a 16) 100 t2.1, hm_row g (a 17) (a 18) 100 t2.2.1, hm_row g (a 19) (a 20) 100 t2.2.2] : List va_W).flatten) rfl
    refine lv_pop hx hb dX3_endWord_82 rfl ?_
    obtain rfl := Option.some.inj hF
    exact hm_rv S hr hlk X rfl dX3_endWord_83
def f_X3_read_l87 (J6 : Int32 → hm_SR → hm_SR → hm_SR → hm_SR → hm_SR → hm_SR → hm_SR → hm_SR → hm_SR → hm_SR → Option (hm_SR × hm_SR × hm_SR × hm_SR × hm_SR × hm_SR × hm_SR × hm_SR × hm_SR × hm_SR)) (v2 : Int32) (wR_0 : hm_SR) (wR_1 : hm_SR) (wR_2 : hm_SR) (wR_3 : hm_SR) (wR_4 : hm_SR) (wR_5 : hm_SR) (wR_6 : hm_SR) (wR_7 : hm_SR) (wR_8 : hm_SR) (wR_9 : hm_SR) : Option (hm_SR × hm_SR × hm_SR × hm_SR × hm_SR × hm_SR × hm_SR × hm_SR × hm_SR × hm_SR) :=
  J6 (v2 + 1) wR_0 wR_1 wR_2 wR_3 wR_4 wR_5 wR_6 wR_7 wR_8 wR_9
def f_X3_read_l83 (J6 : Int32 → hm_SR → hm_SR → hm_SR → hm_SR → hm_SR → hm_SR → hm_SR → hm_SR → hm_SR → hm_SR → Option (hm_SR × hm_SR × hm_SR × hm_SR × hm_SR × hm_SR × hm_SR × hm_SR × hm_SR × hm_SR)) (v2 : Int32) (wR_0 : hm_SR) (wR_1 : hm_SR) (wR_2 : hm_SR) (wR_3 : hm_SR) (wR_4 : hm_SR) (wR_5 : hm_SR) (wR_6 : hm_SR) (wR_7 : hm_SR) (wR_8 : hm_SR) (wR_9 : hm_SR) : Option (hm_SR × hm_SR × hm_SR × hm_SR × hm_SR × hm_SR × hm_SR × hm_SR × hm_SR × hm_SR) :=
  (f_X3_endWord wR_0 wR_1 wR_2 wR_3 wR_4 wR_5 wR_6 wR_7 wR_8 wR_9).bind fun t7 =>
  f_X3_read_l87 J6 v2 wR_0 t7.1 wR_2 t7.2.1 t7.2.2.1 t7.2.2.2.1 t7.2.2.2.2.1 t7.2.2.2.2.2.1 t7.2.2.2.2.2.2.1 t7.2.2.2.2.2.2.2
def f_X3_read_l6 (n1 : Nat) (r1 : hm_SR) : Nat → Int32 → hm_SR → hm_SR → hm_SR → hm_SR → hm_SR → hm_SR → hm_SR → hm_SR → hm_SR → hm_SR → Option (hm_SR × hm_SR × hm_SR × hm_SR × hm_SR × hm_SR × hm_SR × hm_SR × hm_SR × hm_SR)
  | 0, _, _, _, _, _, _, _, _, _, _, _ => none
  | k + 1, v2, wR_0, wR_1, wR_2, wR_3, wR_4, wR_5, wR_6, wR_7, wR_8, wR_9 =>
  (f_X2_size r1).bind fun t2 =>
  if t2 ≤ v2 then (
  some (wR_0, wR_1, wR_2, wR_3, wR_4, wR_5, wR_6, wR_7, wR_8, wR_9))
  else (
  (f_X2_get n1 r1 v2).bind fun t3 =>
  if t3 = 32 then (
  f_X3_read_l87 (fun zv2 zwR_0 zwR_1 zwR_2 zwR_3 zwR_4 zwR_5 zwR_6 zwR_7 zwR_8 zwR_9 => f_X3_read_l6 n1 r1 k zv2 zwR_0 zwR_1 zwR_2 zwR_3 zwR_4 zwR_5 zwR_6 zwR_7 zwR_8 zwR_9) v2 wR_0 wR_1 wR_2 wR_3 wR_4 wR_5 wR_6 wR_7 wR_8 wR_9)
  else (
  (f_X2_add 200 wR_0 t3).bind fun t4 =>
  if t3 = 47 then (
  (f_X3_addPlace wR_1 wR_2 wR_3 wR_7 wR_8 wR_9 1).bind fun t9 =>
  f_X3_read_l87 (fun zv2 zwR_0 zwR_1 zwR_2 zwR_3 zwR_4 zwR_5 zwR_6 zwR_7 zwR_8 zwR_9 => f_X3_read_l6 n1 r1 k zv2 zwR_0 zwR_1 zwR_2 zwR_3 zwR_4 zwR_5 zwR_6 zwR_7 zwR_8 zwR_9) v2 t4.2 wR_1 wR_2 wR_3 wR_4 wR_5 wR_6 t9.1 t9.2.1 t9.2.2)
  else (
  (f_X2_add 200 wR_2 t3).bind fun t5 =>
  (f_X2_size r1).bind fun t6 =>
  if t6 ≤ (v2 + 1) then (
  f_X3_read_l83 (fun zv2 zwR_0 zwR_1 zwR_2 zwR_3 zwR_4 zwR_5 zwR_6 zwR_7 zwR_8 zwR_9 => f_X3_read_l6 n1 r1 k zv2 zwR_0 zwR_1 zwR_2 zwR_3 zwR_4 zwR_5 zwR_6 zwR_7 zwR_8 zwR_9) v2 t4.2 wR_1 t5.2 wR_3 wR_4 wR_5 wR_6 wR_7 wR_8 wR_9)
  else (
  (f_X2_get n1 r1 (v2 + 1)).bind fun t8 =>
  if t8 = 32 then (
  f_X3_read_l83 (fun zv2 zwR_0 zwR_1 zwR_2 zwR_3 zwR_4 zwR_5 zwR_6 zwR_7 zwR_8 zwR_9 => f_X3_read_l6 n1 r1 k zv2 zwR_0 zwR_1 zwR_2 zwR_3 zwR_4 zwR_5 zwR_6 zwR_7 zwR_8 zwR_9) v2 t4.2 wR_1 t5.2 wR_3 wR_4 wR_5 wR_6 wR_7 wR_8 wR_9)
  else (
  f_X3_read_l87 (fun zv2 zwR_0 zwR_1 zwR_2 zwR_3 zwR_4 zwR_5 zwR_6 zwR_7 zwR_8 zwR_9 => f_X3_read_l6 n1 r1 k zv2 zwR_0 zwR_1 zwR_2 zwR_3 zwR_4 zwR_5 zwR_6 zwR_7 zwR_8 zwR_9) v2 t4.2 wR_1 t5.2 wR_3 wR_4 wR_5 wR_6 wR_7 wR_8 wR_9)))))
theorem f_X3_read_l6_s (n1 : Nat) (r1 : hm_SR) (k : Nat) (v2 : Int32) (wR_0 : hm_SR) (wR_1 : hm_SR) (wR_2 : hm_SR) (wR_3 : hm_SR) (wR_4 : hm_SR) (wR_5 : hm_SR) (wR_6 : hm_SR) (wR_7 : hm_SR) (wR_8 : hm_SR) (wR_9 : hm_SR) : f_X3_read_l6 n1 r1 (k + 1) v2 wR_0 wR_1 wR_2 wR_3 wR_4 wR_5 wR_6 wR_7 wR_8 wR_9 =
  (f_X2_size r1).bind fun t2 =>
  if t2 ≤ v2 then (
  some (wR_0, wR_1, wR_2, wR_3, wR_4, wR_5, wR_6, wR_7, wR_8, wR_9))
  else (
  (f_X2_get n1 r1 v2).bind fun t3 =>
  if t3 = 32 then (
  f_X3_read_l87 (fun zv2 zwR_0 zwR_1 zwR_2 zwR_3 zwR_4 zwR_5 zwR_6 zwR_7 zwR_8 zwR_9 => f_X3_read_l6 n1 r1 k zv2 zwR_0 zwR_1 zwR_2 zwR_3 zwR_4 zwR_5 zwR_6 zwR_7 zwR_8 zwR_9) v2 wR_0 wR_1 wR_2 wR_3 wR_4 wR_5 wR_6 wR_7 wR_8 wR_9)
  else (
  (f_X2_add 200 wR_0 t3).bind fun t4 =>
  if t3 = 47 then (
  (f_X3_addPlace wR_1 wR_2 wR_3 wR_7 wR_8 wR_9 1).bind fun t9 =>
  f_X3_read_l87 (fun zv2 zwR_0 zwR_1 zwR_2 zwR_3 zwR_4 zwR_5 zwR_6 zwR_7 zwR_8 zwR_9 => f_X3_read_l6 n1 r1 k zv2 zwR_0 zwR_1 zwR_2 zwR_3 zwR_4 zwR_5 zwR_6 zwR_7 zwR_8 zwR_9) v2 t4.2 wR_1 wR_2 wR_3 wR_4 wR_5 wR_6 t9.1 t9.2.1 t9.2.2)
  else (
  (f_X2_add 200 wR_2 t3).bind fun t5 =>
  (f_X2_size r1).bind fun t6 =>
  if t6 ≤ (v2 + 1) then (
  f_X3_read_l83 (fun zv2 zwR_0 zwR_1 zwR_2 zwR_3 zwR_4 zwR_5 zwR_6 zwR_7 zwR_8 zwR_9 => f_X3_read_l6 n1 r1 k zv2 zwR_0 zwR_1 zwR_2 zwR_3 zwR_4 zwR_5 zwR_6 zwR_7 zwR_8 zwR_9) v2 t4.2 wR_1 t5.2 wR_3 wR_4 wR_5 wR_6 wR_7 wR_8 wR_9)
  else (
  (f_X2_get n1 r1 (v2 + 1)).bind fun t8 =>
  if t8 = 32 then (
  f_X3_read_l83 (fun zv2 zwR_0 zwR_1 zwR_2 zwR_3 zwR_4 zwR_5 zwR_6 zwR_7 zwR_8 zwR_9 => f_X3_read_l6 n1 r1 k zv2 zwR_0 zwR_1 zwR_2 zwR_3 zwR_4 zwR_5 zwR_6 zwR_7 zwR_8 zwR_9) v2 t4.2 wR_1 t5.2 wR_3 wR_4 wR_5 wR_6 wR_7 wR_8 wR_9)
  else (
  f_X3_read_l87 (fun zv2 zwR_0 zwR_1 zwR_2 zwR_3 zwR_4 zwR_5 zwR_6 zwR_7 zwR_8 zwR_9 => f_X3_read_l6 n1 r1 k zv2 zwR_0 zwR_1 zwR_2 zwR_3 zwR_4 zwR_5 zwR_6 zwR_7 zwR_8 zwR_9) v2 t4.2 wR_1 t5.2 wR_3 wR_4 wR_5 wR_6 wR_7 wR_8 wR_9))))) := rfl
theorem f_X3_read_l6_z (n1 : Nat) (r1 : hm_SR) (v2 : Int32) (wR_0 : hm_SR) (wR_1 : hm_SR) (wR_2 : hm_SR) (wR_3 : hm_SR) (wR_4 : hm_SR) (wR_5 : hm_SR) (wR_6 : hm_SR) (wR_7 : hm_SR) (wR_8 : hm_SR) (wR_9 : hm_SR) : f_X3_read_l6 n1 r1 0 v2 wR_0 wR_1 wR_2 wR_3 wR_4 wR_5 wR_6 wR_7 wR_8 wR_9 = none := rfl
def f_X3_read (R_0 : hm_SR) (R_1 : hm_SR) (R_2 : hm_SR) (R_3 : hm_SR) (R_4 : hm_SR) (R_5 : hm_SR) (R_6 : hm_SR) (R_7 : hm_SR) (R_8 : hm_SR) (R_9 : hm_SR) (n1 : Nat) (r1 : hm_SR)  : Option (hm_SR × hm_SR × hm_SR × hm_SR × hm_SR × hm_SR × hm_SR × hm_SR × hm_SR × hm_SR) :=
  (f_X3_forgetAll R_0 R_1 R_2 R_3 R_4 R_5 R_6 R_7 R_8 R_9).bind fun t1 =>
  f_X3_read_l6 n1 r1 hm_fu 0 t1.1 t1.2.1 t1.2.2.1 t1.2.2.2.1 t1.2.2.2.2.1 t1.2.2.2.2.2.1 t1.2.2.2.2.2.2.1 t1.2.2.2.2.2.2.2.1 t1.2.2.2.2.2.2.2.2.1 t1.2.2.2.2.2.2.2.2.2
abbrev rm_X3_read : Room := { frames := 5, cells := 0, slots := 0, locals := 112 }
set_option maxHeartbeats 4000000 in
set_option maxRecDepth 100000 in
theorem c_X3_read (l : Launch) (g : hm_G) (a : Nat → Nat) (R : Nat → hm_SR) (h1 b1 n1 : Nat) (r1 : hm_SR) (q : hm_SR × hm_SR × hm_SR × hm_SR × hm_SR × hm_SR × hm_SR × hm_SR × hm_SR × hm_SR) (hF : f_X3_read (R 0) (R 1) (R 2) (R 3) (R 4) (R 5) (R 6) (R 7) (R 8) (R 9) n1 r1 = some q) : hm_Mv l yX3_read (Cond.code yX3_read cX3_read 4 none :: hm_W) rm_X3_read g [.ref (a 0), .ref h1] ([hm_wSc g a R, hm_row g h1 b1 n1 r1] : List va_W).flatten ([hm_wSc g a (hm_up (hm_up (hm_up (hm_up (hm_up (hm_up (hm_up (hm_up (hm_up (hm_up R 0 q.1) 1 q.2.1) 2 q.2.2.1) 3 q.2.2.2.1) 4 q.2.2.2.2.1) 5 q.2.2.2.2.2.1) 6 q.2.2.2.2.2.2.1) 7 q.2.2.2.2.2.2.2.1) 8 q.2.2.2.2.2.2.2.2.1) 9 q.2.2.2.2.2.2.2.2.2), hm_row g h1 b1 n1 r1] : List va_W).flatten := by
  refine hm_ofv [(0, .ref (a 0)), (1, .ref h1)] (by decide) (own := RX3) rfl (Nat.le_of_ble_eq_true rfl) rfl rfl ?_
  intro p e s m args below meth c AA S hr hlk X ls hl
  have hx := S.1
  have hb := S.2.1
  have hown := S.2.2.2.1
  have hts := S.2.2.2.2
  have X := X.to (ws' := ([[(a 0, .inr (3, [.ref (a 1), .ref (a 3), .ref (a 5), .ref (a 7), .ref (a 9), .ref (a 11), .ref (a 13), .ref (a 15), .ref (a 17), .ref (a 19)]))], hm_row g (a 1) (a 2) 200 (R 0), hm_row g (a 3) (a 4) 30 (R 1), hm_row g (a 5) (a 6) 200 (R 2), hm_row g (a 7) (a 8) 30 (R 3), hm_row g (a 9) (a 10) 30 (R 4), hm_row g (a 11) (a 12) 30 (R 5), hm_row g (a 13) (a 14) 30 (R 6), hm_row g (a 15) (a 16) 100 (R 7), hm_row g (a 17) (a 18) 100 (R 8), hm_row g (a 19) (a 20) 100 (R 9), hm_row g h1 b1 n1 r1] : List va_W).flatten) rfl
  have hl6 : ∀ (k6 : Nat) (v2 : Int32) (wR_0 : hm_SR) (wR_1 : hm_SR) (wR_2 : hm_SR) (wR_3 : hm_SR) (wR_4 : hm_SR) (wR_5 : hm_SR) (wR_6 : hm_SR) (wR_7 : hm_SR) (wR_8 : hm_SR) (wR_9 : hm_SR), f_X3_read_l6 n1 r1 k6 v2 wR_0 wR_1 wR_2 wR_3 wR_4 wR_5 wR_6 wR_7 wR_8 wR_9 = some q → ∀ (H : Heap) (locs : List Loc), hm_X g AA s H locs ([[(a 0, .inr (3, [.ref (a 1), .ref (a 3), .ref (a 5), .ref (a 7), .ref (a 9), .ref (a 11), .ref (a 13), .ref (a 15), .ref (a 17), .ref (a 19)]))], hm_row g (a 1) (a 2) 200 wR_0, hm_row g (a 3) (a 4) 30 wR_1, hm_row g (a 5) (a 6) 200 wR_2, hm_row g (a 7) (a 8) 30 wR_3, hm_row g (a 9) (a 10) 30 wR_4, hm_row g (a 11) (a 12) 30 wR_5, hm_row g (a 13) (a 14) 30 wR_6, hm_row g (a 15) (a 16) 100 wR_7, hm_row g (a 17) (a 18) 100 wR_8, hm_row g (a 19) (a 20) 100 wR_9, hm_row g h1 b1 n1 r1] : List va_W).flatten → ∀ ls : Array Slot, lv_has ls 4 [(0, .ref (a 0)), (1, .ref h1), (2, .int v2)] → W p l e rm_X3_read s m args below meth c H locs 0 0 (MQ below (hm_Qv g AA ([hm_wSc g a (hm_up (hm_up (hm_up (hm_up (hm_up (hm_up (hm_up (hm_up (hm_up (hm_up R 0 q.1) 1 q.2.1) 2 q.2.2.1) 3 q.2.2.2.1) 4 q.2.2.2.2.1) 5 q.2.2.2.2.2.1) 6 q.2.2.2.2.2.2.1) 7 q.2.2.2.2.2.2.2.1) 8 q.2.2.2.2.2.2.2.2.1) 9 q.2.2.2.2.2.2.2.2.2), hm_row g h1 b1 n1 r1] : List va_W).flatten) args s 0 0 AA) (F0 m 6 ls []) := by
    intro k6
    induction k6 with
    | zero =>
      intro v2 wR_0 wR_1 wR_2 wR_3 wR_4 wR_5 wR_6 wR_7 wR_8 wR_9 hF
      rw [f_X3_read_l6_z] at hF
      cases hF
    | succ k6 ih6 =>
      have hl87 : ∀ (v2 : Int32) (wR_0 : hm_SR) (wR_1 : hm_SR) (wR_2 : hm_SR) (wR_3 : hm_SR) (wR_4 : hm_SR) (wR_5 : hm_SR) (wR_6 : hm_SR) (wR_7 : hm_SR) (wR_8 : hm_SR) (wR_9 : hm_SR), f_X3_read_l87 (fun zv2 zwR_0 zwR_1 zwR_2 zwR_3 zwR_4 zwR_5 zwR_6 zwR_7 zwR_8 zwR_9 => f_X3_read_l6 n1 r1 k6 zv2 zwR_0 zwR_1 zwR_2 zwR_3 zwR_4 zwR_5 zwR_6 zwR_7 zwR_8 zwR_9) v2 wR_0 wR_1 wR_2 wR_3 wR_4 wR_5 wR_6 wR_7 wR_8 wR_9 = some q → ∀ (H : Heap) (locs : List Loc), hm_X g AA s H locs ([[(a 0, .inr (3, [.ref (a 1), .ref (a 3), .ref (a 5), .ref (a 7), .ref (a 9), .ref (a 11), .ref (a 13), .ref (a 15), .ref (a 17), .ref (a 19)]))], hm_row g (a 1) (a 2) 200 wR_0, hm_row g (a 3) (a 4) 30 wR_1, hm_row g (a 5) (a 6) 200 wR_2, hm_row g (a 7) (a 8) 30 wR_3, hm_row g (a 9) (a 10) 30 wR_4, hm_row g (a 11) (a 12) 30 wR_5, hm_row g (a 13) (a 14) 30 wR_6, hm_row g (a 15) (a 16) 100 wR_7, hm_row g (a 17) (a 18) 100 wR_8, hm_row g (a 19) (a 20) 100 wR_9, hm_row g h1 b1 n1 r1] : List va_W).flatten → ∀ ls : Array Slot, lv_has ls 4 [(0, .ref (a 0)), (1, .ref h1), (2, .int v2)] → W p l e rm_X3_read s m args below meth c H locs 0 0 (MQ below (hm_Qv g AA ([hm_wSc g a (hm_up (hm_up (hm_up (hm_up (hm_up (hm_up (hm_up (hm_up (hm_up (hm_up R 0 q.1) 1 q.2.1) 2 q.2.2.1) 3 q.2.2.2.1) 4 q.2.2.2.2.1) 5 q.2.2.2.2.2.1) 6 q.2.2.2.2.2.2.1) 7 q.2.2.2.2.2.2.2.1) 8 q.2.2.2.2.2.2.2.2.1) 9 q.2.2.2.2.2.2.2.2.2), hm_row g h1 b1 n1 r1] : List va_W).flatten) args s 0 0 AA) (F0 m 87 ls []) := by
        intro v2 wR_0 wR_1 wR_2 wR_3 wR_4 wR_5 wR_6 wR_7 wR_8 wR_9 hF H locs X ls hl
        unfold f_X3_read_l87 at hF
        refine lv_iinc (v := (v2 + 1)) (lv' := [(2, .int (v2 + 1)), (0, .ref (a 0)), (1, .ref h1)]) hx hb dX3_read_87 hl (k := 2) rfl rfl (by decide) rfl (fun ls hl => ?_)
        refine lv_goto (tgt := 6) hx hb dX3_read_90 (by decide) ?_
        exact ih6 (v2 + 1) wR_0 wR_1 wR_2 wR_3 wR_4 wR_5 wR_6 wR_7 wR_8 wR_9 hF _ _ X _ (lv_sub hl [1, 2, 0] rfl)
      have hl83 : ∀ (v2 : Int32) (wR_0 : hm_SR) (wR_1 : hm_SR) (wR_2 : hm_SR) (wR_3 : hm_SR) (wR_4 : hm_SR) (wR_5 : hm_SR) (wR_6 : hm_SR) (wR_7 : hm_SR) (wR_8 : hm_SR) (wR_9 : hm_SR), f_X3_read_l83 (fun zv2 zwR_0 zwR_1 zwR_2 zwR_3 zwR_4 zwR_5 zwR_6 zwR_7 zwR_8 zwR_9 => f_X3_read_l6 n1 r1 k6 zv2 zwR_0 zwR_1 zwR_2 zwR_3 zwR_4 zwR_5 zwR_6 zwR_7 zwR_8 zwR_9) v2 wR_0 wR_1 wR_2 wR_3 wR_4 wR_5 wR_6 wR_7 wR_8 wR_9 = some q → ∀ (H : Heap) (locs : List Loc), hm_X g AA s H locs ([[(a 0, .inr (3, [.ref (a 1), .ref (a 3), .ref (a 5), .ref (a 7), .ref (a 9), .ref (a 11), .ref (a 13), .ref (a 15), .ref (a 17), .ref (a 19)]))], hm_row g (a 1) (a 2) 200 wR_0, hm_row g (a 3) (a 4) 30 wR_1, hm_row g (a 5) (a 6) 200 wR_2, hm_row g (a 7) (a 8) 30 wR_3, hm_row g (a 9) (a 10) 30 wR_4, hm_row g (a 11) (a 12) 30 wR_5, hm_row g (a 13) (a 14) 30 wR_6, hm_row g (a 15) (a 16) 100 wR_7, hm_row g (a 17) (a 18) 100 wR_8, hm_row g (a 19) (a 20) 100 wR_9, hm_row g h1 b1 n1 r1] : List va_W).flatten → ∀ ls : Array Slot, lv_has ls 4 [(0, .ref (a 0)), (1, .ref h1), (2, .int v2)] → W p l e rm_X3_read s m args below meth c H locs 0 0 (MQ below (hm_Qv g AA ([hm_wSc g a (hm_up (hm_up (hm_up (hm_up (hm_up (hm_up (hm_up (hm_up (hm_up (hm_up R 0 q.1) 1 q.2.1) 2 q.2.2.1) 3 q.2.2.2.1) 4 q.2.2.2.2.1) 5 q.2.2.2.2.2.1) 6 q.2.2.2.2.2.2.1) 7 q.2.2.2.2.2.2.2.1) 8 q.2.2.2.2.2.2.2.2.1) 9 q.2.2.2.2.2.2.2.2.2), hm_row g h1 b1 n1 r1] : List va_W).flatten) args s 0 0 AA) (F0 m 83 ls []) := by
        intro v2 wR_0 wR_1 wR_2 wR_3 wR_4 wR_5 wR_6 wR_7 wR_8 wR_9 hF H locs X ls hl
        unfold f_X3_read_l83 at hF
        refine lv_aload_n hx hb dX3_read_83 rfl (lv_at hl 0 rfl) ?_
        obtain ⟨t7, ht7, hF⟩ := hm_bd hF
        refine hm_vv (As := []) S X mw_X3_endWord hw_2_84 (c_X3_endWord l g a (hm_up (hm_up (hm_up (hm_up (hm_up (hm_up (hm_up (hm_up (hm_up (hm_up R 0 wR_0) 1 wR_1) 2 wR_2) 3 wR_3) 4 wR_4) 5 wR_5) 6 wR_6) 7 wR_7) 8 wR_8) 9 wR_9) t7 ht7) (hm_cq (n := 12) [0, 1, 2, 3, 4, 5, 6, 7, 8, 9, 10] [11] rfl (by decide +kernel) rfl rfl) (hm_cq (bs := [[(a 0, .inr (3, [.ref (a 1), .ref (a 3), .ref (a 5), .ref (a 7), .ref (a 9), .ref (a 11), .ref (a 13), .ref (a 15), .ref (a 17), .ref (a 19)]))], hm_row g (a 1) (a 2) 200 wR_0, hm_row g (a 3) (a 4) 30 t7.1, hm_row g (a 5) (a 6) 200 wR_2, hm_row g (a 7) (a 8) 30 t7.2.1, hm_row g (a 9) (a 10) 30 t7.2.2.1, hm_row g (a 11) (a 12) 30 t7.2.2.2.1, hm_row g (a 13) (a 14) 30 t7.2.2.2.2.1, hm_row g (a 15) (a 16) 100 t7.2.2.2.2.2.1, hm_row g (a 17) (a 18) 100 t7.2.2.2.2.2.2.1, hm_row g (a 19) (a 20) 100 t7.2.2.2.2.2.2.2, hm_row g h1 b1 n1 r1]) (n := 12) [0, 1, 2, 3, 4, 5, 6, 7, 8, 9, 10] [11] rfl (by decide +kernel) rfl rfl) rfl rfl rfl ⟨rfl, rfl, Nat.le_of_ble_eq_true rfl, Nat.le_of_ble_eq_true rfl⟩ rfl hl.1 rfl (Nat.le_of_ble_eq_true rfl) dX3_read_84 ⟨Nat.zero_le _, Nat.zero_le _⟩ (fun H locs X => ?_)
        have X := X.to (ws' := ([[(a 0, .inr (3, [.ref (a 1), .ref (a 3), .ref (a 5), .ref (a 7), .ref (a 9), .ref (a 11), .ref (a 13), .ref (a 15), .ref (a 17), .ref (a 19)]))], hm_row g (a 1) (a 2) 200 wR_0, hm_row g (a 3) (a 4) 30 t7.1, hm_row g (a 5) (a 6) 200 wR_2, hm_row g (a 7) (a 8) 30 t7.2.1, hm_row g (a 9) (a 10) 30 t7.2.2.1, hm_row g (a 11) (a 12) 30 t7.2.2.2.1, hm_row g (a 13) (a 14) 30 t7.2.2.2.2.1, hm_row g (a 15) (a 16) 100 t7.2.2.2.2.2.1, hm_row g (a 17) (a 18) 100 t7.2.2.2.2.2.2.1, hm_row g (a 19) (a 20) 100 t7.2.2.2.2.2.2.2, hm_row g h1 b1 n1 r1] : List va_W).flatten) rfl
        exact hl87 v2 wR_0 t7.1 wR_2 t7.2.1 t7.2.2.1 t7.2.2.2.1 t7.2.2.2.2.1 t7.2.2.2.2.2.1 t7.2.2.2.2.2.2.1 t7.2.2.2.2.2.2.2 hF _ _ X _ (lv_sub hl [0, 1, 2] rfl)
      intro v2 wR_0 wR_1 wR_2 wR_3 wR_4 wR_5 wR_6 wR_7 wR_8 wR_9 hF H locs X ls hl
      rw [f_X3_read_l6_s] at hF
      refine lv_iload_n hx hb dX3_read_6 rfl (lv_at hl 2 rfl) ?_
      refine lv_aload_n hx hb dX3_read_7 rfl (lv_at hl 1 rfl) ?_
      obtain ⟨t2, ht2, hF⟩ := hm_bd hF
      refine hm_vi (As := []) S X mw_X2_size hw_2_70 (c_X2_size l g h1 b1 n1 r1 t2 ht2) (hm_mid [[(a 0, .inr (3, [.ref (a 1), .ref (a 3), .ref (a 5), .ref (a 7), .ref (a 9), .ref (a 11), .ref (a 13), .ref (a 15), .ref (a 17), .ref (a 19)]))], hm_row g (a 1) (a 2) 200 wR_0, hm_row g (a 3) (a 4) 30 wR_1, hm_row g (a 5) (a 6) 200 wR_2, hm_row g (a 7) (a 8) 30 wR_3, hm_row g (a 9) (a 10) 30 wR_4, hm_row g (a 11) (a 12) 30 wR_5, hm_row g (a 13) (a 14) 30 wR_6, hm_row g (a 15) (a 16) 100 wR_7, hm_row g (a 17) (a 18) 100 wR_8, hm_row g (a 19) (a 20) 100 wR_9] []) (hm_mid [[(a 0, .inr (3, [.ref (a 1), .ref (a 3), .ref (a 5), .ref (a 7), .ref (a 9), .ref (a 11), .ref (a 13), .ref (a 15), .ref (a 17), .ref (a 19)]))], hm_row g (a 1) (a 2) 200 wR_0, hm_row g (a 3) (a 4) 30 wR_1, hm_row g (a 5) (a 6) 200 wR_2, hm_row g (a 7) (a 8) 30 wR_3, hm_row g (a 9) (a 10) 30 wR_4, hm_row g (a 11) (a 12) 30 wR_5, hm_row g (a 13) (a 14) 30 wR_6, hm_row g (a 15) (a 16) 100 wR_7, hm_row g (a 17) (a 18) 100 wR_8, hm_row g (a 19) (a 20) 100 wR_9] [] (b := hm_row g h1 b1 n1 r1)) rfl rfl rfl ⟨rfl, rfl, Nat.le_of_ble_eq_true rfl, Nat.le_of_ble_eq_true rfl⟩ rfl hl.1 rfl (Nat.le_of_ble_eq_true rfl) dX3_read_8 ⟨Nat.zero_le _, Nat.zero_le _⟩ (fun H locs X => ?_)
      have X := X.to (ws' := ([[(a 0, .inr (3, [.ref (a 1), .ref (a 3), .ref (a 5), .ref (a 7), .ref (a 9), .ref (a 11), .ref (a 13), .ref (a 15), .ref (a 17), .ref (a 19)]))], hm_row g (a 1) (a 2) 200 wR_0, hm_row g (a 3) (a 4) 30 wR_1, hm_row g (a 5) (a 6) 200 wR_2, hm_row g (a 7) (a 8) 30 wR_3, hm_row g (a 9) (a 10) 30 wR_4, hm_row g (a 11) (a 12) 30 wR_5, hm_row g (a 13) (a 14) 30 wR_6, hm_row g (a 15) (a 16) 100 wR_7, hm_row g (a 17) (a 18) 100 wR_8, hm_row g (a 19) (a 20) 100 wR_9, hm_row g h1 b1 n1 r1] : List va_W).flatten) rfl
      refine lv_icmp_ge (tgt := 93) hx hb dX3_read_11 (by decide) (fun c11 => ?_) (fun c11 => ?_)
      · have hF := hm_if hF c11
        obtain rfl := Option.some.inj hF
        exact hm_rv S hr hlk X rfl dX3_read_93
      · have hF := hm_nf hF c11
        refine lv_aload_n hx hb dX3_read_14 rfl (lv_at hl 1 rfl) ?_
        refine lv_iload_n hx hb dX3_read_15 rfl (lv_at hl 2 rfl) ?_
        obtain ⟨t3, ht3, hF⟩ := hm_bd hF
        refine hm_vi (As := [.int v2]) S X mw_X2_get hw_2_71 (c_X2_get l g h1 b1 n1 r1 v2 t3 ht3) (hm_mid [[(a 0, .inr (3, [.ref (a 1), .ref (a 3), .ref (a 5), .ref (a 7), .ref (a 9), .ref (a 11), .ref (a 13), .ref (a 15), .ref (a 17), .ref (a 19)]))], hm_row g (a 1) (a 2) 200 wR_0, hm_row g (a 3) (a 4) 30 wR_1, hm_row g (a 5) (a 6) 200 wR_2, hm_row g (a 7) (a 8) 30 wR_3, hm_row g (a 9) (a 10) 30 wR_4, hm_row g (a 11) (a 12) 30 wR_5, hm_row g (a 13) (a 14) 30 wR_6, hm_row g (a 15) (a 16) 100 wR_7, hm_row g (a 17) (a 18) 100 wR_8, hm_row g (a 19) (a 20) 100 wR_9] []) (hm_mid [[(a 0, .inr (3, [.ref (a 1), .ref (a 3), .ref (a 5), .ref (a 7), .ref (a 9), .ref (a 11), .ref (a 13), .ref (a 15), .ref (a 17), .ref (a 19)]))], hm_row g (a 1) (a 2) 200 wR_0, hm_row g (a 3) (a 4) 30 wR_1, hm_row g (a 5) (a 6) 200 wR_2, hm_row g (a 7) (a 8) 30 wR_3, hm_row g (a 9) (a 10) 30 wR_4, hm_row g (a 11) (a 12) 30 wR_5, hm_row g (a 13) (a 14) 30 wR_6, hm_row g (a 15) (a 16) 100 wR_7, hm_row g (a 17) (a 18) 100 wR_8, hm_row g (a 19) (a 20) 100 wR_9] [] (b := hm_row g h1 b1 n1 r1)) rfl rfl rfl ⟨rfl, rfl, Nat.le_of_ble_eq_true rfl, Nat.le_of_ble_eq_true rfl⟩ rfl hl.1 rfl (Nat.le_of_ble_eq_true rfl) dX3_read_16 ⟨Nat.zero_le _, Nat.zero_le _⟩ (fun H locs X => ?_)
        have X := X.to (ws' := ([[(a 0, .inr (3, [.ref (a 1), .ref (a 3), .ref (a 5), .ref (a 7), .ref (a 9), .ref (a 11), .ref (a 13), .ref (a 15), .ref (a 17), .ref (a 19)]))], hm_row g (a 1) (a 2) 200 wR_0, hm_row g (a 3) (a 4) 30 wR_1, hm_row g (a 5) (a 6) 200 wR_2, hm_row g (a 7) (a 8) 30 wR_3, hm_row g (a 9) (a 10) 30 wR_4, hm_row g (a 11) (a 12) 30 wR_5, hm_row g (a 13) (a 14) 30 wR_6, hm_row g (a 15) (a 16) 100 wR_7, hm_row g (a 17) (a 18) 100 wR_8, hm_row g (a 19) (a 20) 100 wR_9, hm_row g h1 b1 n1 r1] : List va_W).flatten) rfl
        refine lv_istore_n (lv' := [(3, .int t3), (0, .ref (a 0)), (1, .ref h1), (2, .int v2)]) hx hb dX3_read_19 rfl hl (by decide) rfl (fun ls hl => ?_)
        refine lv_iload_n hx hb dX3_read_20 rfl (lv_at hl 0 rfl) ?_
        refine lv_bipush (v := 32) hx hb dX3_read_21 (by decide) ?_
        refine lv_icmp_ne (tgt := 29) hx hb dX3_read_23 (by decide) (fun c23 => ?_) (fun c23 => ?_)
        · have hF := hm_nf hF c23
          refine lv_aload_n hx hb dX3_read_29 rfl (lv_at hl 1 rfl) ?_
          refine hm_get S X hf_X3_14 0 rfl rfl dX3_read_30 ?_
          refine lv_iload_n hx hb dX3_read_33 rfl (lv_at hl 0 rfl) ?_
          obtain ⟨t4, ht4, hF⟩ := hm_bd hF
          refine hm_vi (As := [.int t3]) S X mw_X2_add hw_2_72 (c_X2_add l g (a 1) (a 2) 200 wR_0 t3 t4 ht4) (hm_mid [[(a 0, .inr (3, [.ref (a 1), .ref (a 3), .ref (a 5), .ref (a 7), .ref (a 9), .ref (a 11), .ref (a 13), .ref (a 15), .ref (a 17), .ref (a 19)]))]] [hm_row g (a 3) (a 4) 30 wR_1, hm_row g (a 5) (a 6) 200 wR_2, hm_row g (a 7) (a 8) 30 wR_3, hm_row g (a 9) (a 10) 30 wR_4, hm_row g (a 11) (a 12) 30 wR_5, hm_row g (a 13) (a 14) 30 wR_6, hm_row g (a 15) (a 16) 100 wR_7, hm_row g (a 17) (a 18) 100 wR_8, hm_row g (a 19) (a 20) 100 wR_9, hm_row g h1 b1 n1 r1]) (hm_mid [[(a 0, .inr (3, [.ref (a 1), .ref (a 3), .ref (a 5), .ref (a 7), .ref (a 9), .ref (a 11), .ref (a 13), .ref (a 15), .ref (a 17), .ref (a 19)]))]] [hm_row g (a 3) (a 4) 30 wR_1, hm_row g (a 5) (a 6) 200 wR_2, hm_row g (a 7) (a 8) 30 wR_3, hm_row g (a 9) (a 10) 30 wR_4, hm_row g (a 11) (a 12) 30 wR_5, hm_row g (a 13) (a 14) 30 wR_6, hm_row g (a 15) (a 16) 100 wR_7, hm_row g (a 17) (a 18) 100 wR_8, hm_row g (a 19) (a 20) 100 wR_9, hm_row g h1 b1 n1 r1] (b := hm_row g (a 1) (a 2) 200 t4.2)) rfl rfl rfl ⟨rfl, rfl, Nat.le_of_ble_eq_true rfl, Nat.le_of_ble_eq_true rfl⟩ rfl hl.1 rfl (Nat.le_of_ble_eq_true rfl) dX3_read_34 ⟨Nat.zero_le _, Nat.zero_le _⟩ (fun H locs X => ?_)
          have X := X.to (ws' := ([[(a 0, .inr (3, [.ref (a 1), .ref (a 3), .ref (a 5), .ref (a 7), .ref (a 9), .ref (a 11), .ref (a 13), .ref (a 15), .ref (a 17), .ref (a 19)]))], hm_row g (a 1) (a 2) 200 t4.2, hm_row g (a 3) (a 4) 30 wR_1, hm_row g (a 5) (a 6) 200 wR_2, hm_row g (a 7) (a 8) 30 wR_3, hm_row g (a 9) (a 10) 30 wR_4, hm_row g (a 11) (a 12) 30 wR_5, hm_row g (a 13) (a 14) 30 wR_6, hm_row g (a 15) (a 16) 100 wR_7, hm_row g (a 17) (a 18) 100 wR_8, hm_row g (a 19) (a 20) 100 wR_9, hm_row g h1 b1 n1 r1] : List va_W).flatten) rfl
          refine lv_pop hx hb dX3_read_37 rfl ?_
          refine lv_iload_n hx hb dX3_read_38 rfl (lv_at hl 0 rfl) ?_
          refine lv_bipush (v := 47) hx hb dX3_read_39 (by decide) ?_
          refine lv_icmp_ne (tgt := 52) hx hb dX3_read_41 (by decide) (fun c41 => ?_) (fun c41 => ?_)
          · have hF := hm_nf hF c41
            refine lv_aload_n hx hb dX3_read_52 rfl (lv_at hl 1 rfl) ?_
            refine hm_get S X hf_X3_23 0 rfl rfl dX3_read_53 ?_
            refine lv_iload_n hx hb dX3_read_56 rfl (lv_at hl 0 rfl) ?_
            obtain ⟨t5, ht5, hF⟩ := hm_bd hF
            refine hm_vi (As := [.int t3]) S X mw_X2_add hw_2_72 (c_X2_add l g (a 5) (a 6) 200 wR_2 t3 t5 ht5) (hm_mid [[(a 0, .inr (3, [.ref (a 1), .ref (a 3), .ref (a 5), .ref (a 7), .ref (a 9), .ref (a 11), .ref (a 13), .ref (a 15), .ref (a 17), .ref (a 19)]))], hm_row g (a 1) (a 2) 200 t4.2, hm_row g (a 3) (a 4) 30 wR_1] [hm_row g (a 7) (a 8) 30 wR_3, hm_row g (a 9) (a 10) 30 wR_4, hm_row g (a 11) (a 12) 30 wR_5, hm_row g (a 13) (a 14) 30 wR_6, hm_row g (a 15) (a 16) 100 wR_7, hm_row g (a 17) (a 18) 100 wR_8, hm_row g (a 19) (a 20) 100 wR_9, hm_row g h1 b1 n1 r1]) (hm_mid [[(a 0, .inr (3, [.ref (a 1), .ref (a 3), .ref (a 5), .ref (a 7), .ref (a 9), .ref (a 11), .ref (a 13), .ref (a 15), .ref (a 17), .ref (a 19)]))], hm_row g (a 1) (a 2) 200 t4.2, hm_row g (a 3) (a 4) 30 wR_1] [hm_row g (a 7) (a 8) 30 wR_3, hm_row g (a 9) (a 10) 30 wR_4, hm_row g (a 11) (a 12) 30 wR_5, hm_row g (a 13) (a 14) 30 wR_6, hm_row g (a 15) (a 16) 100 wR_7, hm_row g (a 17) (a 18) 100 wR_8, hm_row g (a 19) (a 20) 100 wR_9, hm_row g h1 b1 n1 r1] (b := hm_row g (a 5) (a 6) 200 t5.2)) rfl rfl rfl ⟨rfl, rfl, Nat.le_of_ble_eq_true rfl, Nat.le_of_ble_eq_true rfl⟩ rfl hl.1 rfl (Nat.le_of_ble_eq_true rfl) dX3_read_57 ⟨Nat.zero_le _, Nat.zero_le _⟩ (fun H locs X => ?_)
            have X := X.to (ws' := ([[(a 0, .inr (3, [.ref (a 1), .ref (a 3), .ref (a 5), .ref (a 7), .ref (a 9), .ref (a 11), .ref (a 13), .ref (a 15), .ref (a 17), .ref (a 19)]))], hm_row g (a 1) (a 2) 200 t4.2, hm_row g (a 3) (a 4) 30 wR_1, hm_row g (a 5) (a 6) 200 t5.2, hm_row g (a 7) (a 8) 30 wR_3, hm_row g (a 9) (a 10) 30 wR_4, hm_row g (a 11) (a 12) 30 wR_5, hm_row g (a 13) (a 14) 30 wR_6, hm_row g (a 15) (a 16) 100 wR_7, hm_row g (a 17) (a 18) 100 wR_8, hm_row g (a 19) (a 20) 100 wR_9, hm_row g h1 b1 n1 r1] : List va_W).flatten) rfl
            refine lv_pop hx hb dX3_read_60 rfl ?_
            refine lv_iload_n hx hb dX3_read_61 rfl (lv_at hl 3 rfl) ?_
            refine lv_iconst (v := 1) hx hb dX3_read_62 (by decide) ?_
            refine lv_iadd hx hb dX3_read_63 ?_
            refine lv_aload_n hx hb dX3_read_64 rfl (lv_at hl 2 rfl) ?_
            obtain ⟨t6, ht6, hF⟩ := hm_bd hF
            refine hm_vi (As := []) S X mw_X2_size hw_2_70 (c_X2_size l g h1 b1 n1 r1 t6 ht6) (hm_mid [[(a 0, .inr (3, [.ref (a 1), .ref (a 3), .ref (a 5), .ref (a 7), .ref (a 9), .ref (a 11), .ref (a 13), .ref (a 15), .ref (a 17), .ref (a 19)]))], hm_row g (a 1) (a 2) 200 t4.2, hm_row g (a 3) (a 4) 30 wR_1, hm_row g (a 5) (a 6) 200 t5.2, hm_row g (a 7) (a 8) 30 wR_3, hm_row g (a 9) (a 10) 30 wR_4, hm_row g (a 11) (a 12) 30 wR_5, hm_row g (a 13) (a 14) 30 wR_6, hm_row g (a 15) (a 16) 100 wR_7, hm_row g (a 17) (a 18) 100 wR_8, hm_row g (a 19) (a 20) 100 wR_9] []) (hm_mid [[(a 0, .inr (3, [.ref (a 1), .ref (a 3), .ref (a 5), .ref (a 7), .ref (a 9), .ref (a 11), .ref (a 13), .ref (a 15), .ref (a 17), .ref (a 19)]))], hm_row g (a 1) (a 2) 200 t4.2, hm_row g (a 3) (a 4) 30 wR_1, hm_row g (a 5) (a 6) 200 t5.2, hm_row g (a 7) (a 8) 30 wR_3, hm_row g (a 9) (a 10) 30 wR_4, hm_row g (a 11) (a 12) 30 wR_5, hm_row g (a 13) (a 14) 30 wR_6, hm_row g (a 15) (a 16) 100 wR_7, hm_row g (a 17) (a 18) 100 wR_8, hm_row g (a 19) (a 20) 100 wR_9] [] (b := hm_row g h1 b1 n1 r1)) rfl rfl rfl ⟨rfl, rfl, Nat.le_of_ble_eq_true rfl, Nat.le_of_ble_eq_true rfl⟩ rfl hl.1 rfl (Nat.le_of_ble_eq_true rfl) dX3_read_65 ⟨Nat.zero_le _, Nat.zero_le _⟩ (fun H locs X => ?_)
            have X := X.to (ws' := ([[(a 0, .inr (3, [.ref (a 1), .ref (a 3), .ref (a 5), .ref (a 7), .ref (a 9), .ref (a 11), .ref (a 13), .ref (a 15), .ref (a 17), .ref (a 19)]))], hm_row g (a 1) (a 2) 200 t4.2, hm_row g (a 3) (a 4) 30 wR_1, hm_row g (a 5) (a 6) 200 t5.2, hm_row g (a 7) (a 8) 30 wR_3, hm_row g (a 9) (a 10) 30 wR_4, hm_row g (a 11) (a 12) 30 wR_5, hm_row g (a 13) (a 14) 30 wR_6, hm_row g (a 15) (a 16) 100 wR_7, hm_row g (a 17) (a 18) 100 wR_8, hm_row g (a 19) (a 20) 100 wR_9, hm_row g h1 b1 n1 r1] : List va_W).flatten) rfl
            refine lv_icmp_ge (tgt := 83) hx hb dX3_read_68 (by decide) (fun c68 => ?_) (fun c68 => ?_)
            · have hF := hm_if hF c68
              exact hl83 v2 t4.2 wR_1 t5.2 wR_3 wR_4 wR_5 wR_6 wR_7 wR_8 wR_9 hF _ _ X _ (lv_sub hl [1, 2, 3] rfl)
            · have hF := hm_nf hF c68
              refine lv_aload_n hx hb dX3_read_71 rfl (lv_at hl 2 rfl) ?_
              refine lv_iload_n hx hb dX3_read_72 rfl (lv_at hl 3 rfl) ?_
              refine lv_iconst (v := 1) hx hb dX3_read_73 (by decide) ?_
              refine lv_iadd hx hb dX3_read_74 ?_
              obtain ⟨t8, ht8, hF⟩ := hm_bd hF
              refine hm_vi (As := [.int (v2 + 1)]) S X mw_X2_get hw_2_71 (c_X2_get l g h1 b1 n1 r1 (v2 + 1) t8 ht8) (hm_mid [[(a 0, .inr (3, [.ref (a 1), .ref (a 3), .ref (a 5), .ref (a 7), .ref (a 9), .ref (a 11), .ref (a 13), .ref (a 15), .ref (a 17), .ref (a 19)]))], hm_row g (a 1) (a 2) 200 t4.2, hm_row g (a 3) (a 4) 30 wR_1, hm_row g (a 5) (a 6) 200 t5.2, hm_row g (a 7) (a 8) 30 wR_3, hm_row g (a 9) (a 10) 30 wR_4, hm_row g (a 11) (a 12) 30 wR_5, hm_row g (a 13) (a 14) 30 wR_6, hm_row g (a 15) (a 16) 100 wR_7, hm_row g (a 17) (a 18) 100 wR_8, hm_row g (a 19) (a 20) 100 wR_9] []) (hm_mid [[(a 0, .inr (3, [.ref (a 1), .ref (a 3), .ref (a 5), .ref (a 7), .ref (a 9), .ref (a 11), .ref (a 13), .ref (a 15), .ref (a 17), .ref (a 19)]))], hm_row g (a 1) (a 2) 200 t4.2, hm_row g (a 3) (a 4) 30 wR_1, hm_row g (a 5) (a 6) 200 t5.2, hm_row g (a 7) (a 8) 30 wR_3, hm_row g (a 9) (a 10) 30 wR_4, hm_row g (a 11) (a 12) 30 wR_5, hm_row g (a 13) (a 14) 30 wR_6, hm_row g (a 15) (a 16) 100 wR_7, hm_row g (a 17) (a 18) 100 wR_8, hm_row g (a 19) (a 20) 100 wR_9] [] (b := hm_row g h1 b1 n1 r1)) rfl rfl rfl ⟨rfl, rfl, Nat.le_of_ble_eq_true rfl, Nat.le_of_ble_eq_true rfl⟩ rfl hl.1 rfl (Nat.le_of_ble_eq_true rfl) dX3_read_75 ⟨Nat.zero_le _, Nat.zero_le _⟩ (fun H locs X => ?_)
              have X := X.to (ws' := ([[(a 0, .inr (3, [.ref (a 1), .ref (a 3), .ref (a 5), .ref (a 7), .ref (a 9), .ref (a 11), .ref (a 13), .ref (a 15), .ref (a 17), .ref (a 19)]))], hm_row g (a 1) (a 2) 200 t4.2, hm_row g (a 3) (a 4) 30 wR_1, hm_row g (a 5) (a 6) 200 t5.2, hm_row g (a 7) (a 8) 30 wR_3, hm_row g (a 9) (a 10) 30 wR_4, hm_row g (a 11) (a 12) 30 wR_5, hm_row g (a 13) (a 14) 30 wR_6, hm_row g (a 15) (a 16) 100 wR_7, hm_row g (a 17) (a 18) 100 wR_8, hm_row g (a 19) (a 20) 100 wR_9, hm_row g h1 b1 n1 r1] : List va_W).flatten) rfl
              refine lv_bipush (v := 32) hx hb dX3_read_78 (by decide) ?_
              refine lv_icmp_ne (tgt := 87) hx hb dX3_read_80 (by decide) (fun c80 => ?_) (fun c80 => ?_)
              · have hF := hm_nf hF c80
                exact hl87 v2 t4.2 wR_1 t5.2 wR_3 wR_4 wR_5 wR_6 wR_7 wR_8 wR_9 hF _ _ X _ (lv_sub hl [1, 2, 3] rfl)
              · have hF := hm_if hF c80
                exact hl83 v2 t4.2 wR_1 t5.2 wR_3 wR_4 wR_5 wR_6 wR_7 wR_8 wR_9 hF _ _ X _ (lv_sub hl [1, 2, 3] rfl)
          · have hF := hm_if hF c41
            refine lv_aload_n hx hb dX3_read_44 rfl (lv_at hl 1 rfl) ?_
            refine lv_iconst (v := 1) hx hb dX3_read_45 (by decide) ?_
            obtain ⟨t9, ht9, hF⟩ := hm_bd hF
            refine hm_vv (As := [.int 1]) S X mw_X3_addPlace hw_2_73 (c_X3_addPlace l g a (hm_up (hm_up (hm_up (hm_up (hm_up (hm_up (hm_up (hm_up (hm_up (hm_up R 0 t4.2) 1 wR_1) 2 wR_2) 3 wR_3) 4 wR_4) 5 wR_5) 6 wR_6) 7 wR_7) 8 wR_8) 9 wR_9) 1 t9 ht9) (hm_cq (n := 12) [0, 1, 2, 3, 4, 5, 6, 7, 8, 9, 10] [11] rfl (by decide +kernel) rfl rfl) (hm_cq (bs := [[(a 0, .inr (3, [.ref (a 1), .ref (a 3), .ref (a 5), .ref (a 7), .ref (a 9), .ref (a 11), .ref (a 13), .ref (a 15), .ref (a 17), .ref (a 19)]))], hm_row g (a 1) (a 2) 200 t4.2, hm_row g (a 3) (a 4) 30 wR_1, hm_row g (a 5) (a 6) 200 wR_2, hm_row g (a 7) (a 8) 30 wR_3, hm_row g (a 9) (a 10) 30 wR_4, hm_row g (a 11) (a 12) 30 wR_5, hm_row g (a 13) (a 14) 30 wR_6, hm_row g (a 15) (a 16) 100 t9.1, hm_row g (a 17) (a 18) 100 t9.2.1, hm_row g (a 19) (a 20) 100 t9.2.2, hm_row g h1 b1 n1 r1]) (n := 12) [0, 1, 2, 3, 4, 5, 6, 7, 8, 9, 10] [11] rfl (by decide +kernel) rfl rfl) rfl rfl rfl ⟨rfl, rfl, Nat.le_of_ble_eq_true rfl, Nat.le_of_ble_eq_true rfl⟩ rfl hl.1 rfl (Nat.le_of_ble_eq_true rfl) dX3_read_46 ⟨Nat.zero_le _, Nat.zero_le _⟩ (fun H locs X => ?_)
            have X := X.to (ws' := ([[(a 0, .inr (3, [.ref (a 1), .ref (a 3), .ref (a 5), .ref (a 7), .ref (a 9), .ref (a 11), .ref (a 13), .ref (a 15), .ref (a 17), .ref (a 19)]))], hm_row g (a 1) (a 2) 200 t4.2, hm_row g (a 3) (a 4) 30 wR_1, hm_row g (a 5) (a 6) 200 wR_2, hm_row g (a 7) (a 8) 30 wR_3, hm_row g (a 9) (a 10) 30 wR_4, hm_row g (a 11) (a 12) 30 wR_5, hm_row g (a 13) (a 14) 30 wR_6, hm_row g (a 15) (a 16) 100 t9.1, hm_row g (a 17) (a 18) 100 t9.2.1, hm_row g (a 19) (a 20) 100 t9.2.2, hm_row g h1 b1 n1 r1] : List va_W).flatten) rfl
            refine lv_goto (tgt := 87) hx hb dX3_read_49 (by decide) ?_
            exact hl87 v2 t4.2 wR_1 wR_2 wR_3 wR_4 wR_5 wR_6 t9.1 t9.2.1 t9.2.2 hF _ _ X _ (lv_sub hl [1, 2, 3] rfl)
        · have hF := hm_if hF c23
          refine lv_goto (tgt := 87) hx hb dX3_read_26 (by decide) ?_
          exact hl87 v2 wR_0 wR_1 wR_2 wR_3 wR_4 wR_5 wR_6 wR_7 wR_8 wR_9 hF _ _ X _ (lv_sub hl [1, 2, 3] rfl)
  unfold f_X3_read at hF
  refine lv_aload_n hx hb dX3_read_0 rfl (lv_at hl 0 rfl) ?_
  obtain ⟨t1, ht1, hF⟩ := hm_bd hF
  refine hm_vv (As := []) S X mw_X3_forgetAll hw_2_65 (c_X3_forgetAll l g a R t1 ht1) (hm_cq (n := 12) [0, 1, 2, 3, 4, 5, 6, 7, 8, 9, 10] [11] rfl (by decide +kernel) rfl rfl) (hm_cq (bs := [[(a 0, .inr (3, [.ref (a 1), .ref (a 3), .ref (a 5), .ref (a 7), .ref (a 9), .ref (a 11), .ref (a 13), .ref (a 15), .ref (a 17), .ref (a 19)]))], hm_row g (a 1) (a 2) 200 t1.1, hm_row g (a 3) (a 4) 30 t1.2.1, hm_row g (a 5) (a 6) 200 t1.2.2.1, hm_row g (a 7) (a 8) 30 t1.2.2.2.1, hm_row g (a 9) (a 10) 30 t1.2.2.2.2.1, hm_row g (a 11) (a 12) 30 t1.2.2.2.2.2.1, hm_row g (a 13) (a 14) 30 t1.2.2.2.2.2.2.1, hm_row g (a 15) (a 16) 100 t1.2.2.2.2.2.2.2.1, hm_row g (a 17) (a 18) 100 t1.2.2.2.2.2.2.2.2.1, hm_row g (a 19) (a 20) 100 t1.2.2.2.2.2.2.2.2.2, hm_row g h1 b1 n1 r1]) (n := 12) [0, 1, 2, 3, 4, 5, 6, 7, 8, 9, 10] [11] rfl (by decide +kernel) rfl rfl) rfl rfl rfl ⟨rfl, rfl, Nat.le_of_ble_eq_true rfl, Nat.le_of_ble_eq_true rfl⟩ rfl hl.1 rfl (Nat.le_of_ble_eq_true rfl) dX3_read_1 ⟨Nat.zero_le _, Nat.zero_le _⟩ (fun H locs X => ?_)
  have X := X.to (ws' := ([[(a 0, .inr (3, [.ref (a 1), .ref (a 3), .ref (a 5), .ref (a 7), .ref (a 9), .ref (a 11), .ref (a 13), .ref (a 15), .ref (a 17), .ref (a 19)]))], hm_row g (a 1) (a 2) 200 t1.1, hm_row g (a 3) (a 4) 30 t1.2.1, hm_row g (a 5) (a 6) 200 t1.2.2.1, hm_row g (a 7) (a 8) 30 t1.2.2.2.1, hm_row g (a 9) (a 10) 30 t1.2.2.2.2.1, hm_row g (a 11) (a 12) 30 t1.2.2.2.2.2.1, hm_row g (a 13) (a 14) 30 t1.2.2.2.2.2.2.1, hm_row g (a 15) (a 16) 100 t1.2.2.2.2.2.2.2.1, hm_row g (a 17) (a 18) 100 t1.2.2.2.2.2.2.2.2.1, hm_row g (a 19) (a 20) 100 t1.2.2.2.2.2.2.2.2.2, hm_row g h1 b1 n1 r1] : List va_W).flatten) rfl
  refine lv_iconst (v := 0) hx hb dX3_read_4 (by decide) ?_
  refine lv_istore_n (lv' := [(2, .int 0), (0, .ref (a 0)), (1, .ref h1)]) hx hb dX3_read_5 rfl hl (by decide) rfl (fun ls hl => ?_)
  exact hl6 hm_fu 0 t1.1 t1.2.1 t1.2.2.1 t1.2.2.2.1 t1.2.2.2.2.1 t1.2.2.2.2.2.1 t1.2.2.2.2.2.2.1 t1.2.2.2.2.2.2.2.1 t1.2.2.2.2.2.2.2.2.1 t1.2.2.2.2.2.2.2.2.2 hF _ _ X _ (lv_sub hl [1, 2, 0] rfl)
def f_X3_wordAt (R_7 : hm_SR) (x0 : Int32)  : Option (Int32) :=
  (f_X2_get 100 R_7 x0).bind fun t1 =>
  some (t1)
abbrev rm_X3_wordAt : Room := { frames := 1, cells := 0, slots := 0, locals := 21 }
set_option maxHeartbeats 4000000 in
set_option maxRecDepth 100000 in
theorem c_X3_wordAt (l : Launch) (g : hm_G) (a : Nat → Nat) (R : Nat → hm_SR) (x0 : Int32) (q : Int32) (hF : f_X3_wordAt (R 7) x0 = some q) : hm_Mi l yX3_wordAt (Cond.code yX3_wordAt cX3_wordAt 2 (some .int) :: hm_W) rm_X3_wordAt g [.ref (a 0), .int x0] ([hm_wSc g a R] : List va_W).flatten ([hm_wSc g a R] : List va_W).flatten q := by
  refine hm_ofi [(0, .ref (a 0)), (1, .int x0)] (by decide) (own := RX3) rfl (Nat.le_of_ble_eq_true rfl) rfl rfl ?_
  intro p e s m args below meth c AA S hr hlk X ls hl
  have hx := S.1
  have hb := S.2.1
  have hown := S.2.2.2.1
  have hts := S.2.2.2.2
  have X := X.to (ws' := ([[(a 0, .inr (3, [.ref (a 1), .ref (a 3), .ref (a 5), .ref (a 7), .ref (a 9), .ref (a 11), .ref (a 13), .ref (a 15), .ref (a 17), .ref (a 19)]))], hm_row g (a 1) (a 2) 200 (R 0), hm_row g (a 3) (a 4) 30 (R 1), hm_row g (a 5) (a 6) 200 (R 2), hm_row g (a 7) (a 8) 30 (R 3), hm_row g (a 9) (a 10) 30 (R 4), hm_row g (a 11) (a 12) 30 (R 5), hm_row g (a 13) (a 14) 30 (R 6), hm_row g (a 15) (a 16) 100 (R 7), hm_row g (a 17) (a 18) 100 (R 8), hm_row g (a 19) (a 20) 100 (R 9)] : List va_W).flatten) rfl
  unfold f_X3_wordAt at hF
  refine lv_aload_n hx hb dX3_wordAt_0 rfl (lv_at hl 0 rfl) ?_
  refine hm_get S X hf_X3_38 0 rfl rfl dX3_wordAt_1 ?_
  refine lv_iload_n hx hb dX3_wordAt_4 rfl (lv_at hl 1 rfl) ?_
  obtain ⟨t1, ht1, hF⟩ := hm_bd hF
  refine hm_vi (As := [.int x0]) S X mw_X2_get hw_2_71 (c_X2_get l g (a 15) (a 16) 100 (R 7) x0 t1 ht1) (hm_mid [[(a 0, .inr (3, [.ref (a 1), .ref (a 3), .ref (a 5), .ref (a 7), .ref (a 9), .ref (a 11), .ref (a 13), .ref (a 15), .ref (a 17), .ref (a 19)]))], hm_row g (a 1) (a 2) 200 (R 0), hm_row g (a 3) (a 4) 30 (R 1), hm_row g (a 5) (a 6) 200 (R 2), hm_row g (a 7) (a 8) 30 (R 3), hm_row g (a 9) (a 10) 30 (R 4), hm_row g (a 11) (a 12) 30 (R 5), hm_row g (a 13) (a 14) 30 (R 6)] [hm_row g (a 17) (a 18) 100 (R 8), hm_row g (a 19) (a 20) 100 (R 9)]) (hm_mid [[(a 0, .inr (3, [.ref (a 1), .ref (a 3), .ref (a 5), .ref (a 7), .ref (a 9), .ref (a 11), .ref (a 13), .ref (a 15), .ref (a 17), .ref (a 19)]))], hm_row g (a 1) (a 2) 200 (R 0), hm_row g (a 3) (a 4) 30 (R 1), hm_row g (a 5) (a 6) 200 (R 2), hm_row g (a 7) (a 8) 30 (R 3), hm_row g (a 9) (a 10) 30 (R 4), hm_row g (a 11) (a 12) 30 (R 5), hm_row g (a 13) (a 14) 30 (R 6)] [hm_row g (a 17) (a 18) 100 (R 8), hm_row g (a 19) (a 20) 100 (R 9)] (b := hm_row g (a 15) (a 16) 100 (R 7))) rfl rfl rfl ⟨rfl, rfl, Nat.le_of_ble_eq_true rfl, Nat.le_of_ble_eq_true rfl⟩ rfl hl.1 rfl (Nat.le_of_ble_eq_true rfl) dX3_wordAt_5 ⟨Nat.zero_le _, Nat.zero_le _⟩ (fun H locs X => ?_)
  have X := X.to (ws' := ([[(a 0, .inr (3, [.ref (a 1), .ref (a 3), .ref (a 5), .ref (a 7), .ref (a 9), .ref (a 11), .ref (a 13), .ref (a 15), .ref (a 17), .ref (a 19)]))], hm_row g (a 1) (a 2) 200 (R 0), hm_row g (a 3) (a 4) 30 (R 1), hm_row g (a 5) (a 6) 200 (R 2), hm_row g (a 7) (a 8) 30 (R 3), hm_row g (a 9) (a 10) 30 (R 4), hm_row g (a 11) (a 12) 30 (R 5), hm_row g (a 13) (a 14) 30 (R 6), hm_row g (a 15) (a 16) 100 (R 7), hm_row g (a 17) (a 18) 100 (R 8), hm_row g (a 19) (a 20) 100 (R 9)] : List va_W).flatten) rfl
  obtain rfl := Option.some.inj hF
  exact hm_ri S hr hlk X rfl rfl dX3_wordAt_8
def f_X3_plainAhead (R_8 : hm_SR) (x0 : Int32)  : Option (Int32) :=
  (f_X2_get 100 R_8 x0).bind fun t1 =>
  some (t1)
abbrev rm_X3_plainAhead : Room := { frames := 1, cells := 0, slots := 0, locals := 21 }
set_option maxHeartbeats 4000000 in
set_option maxRecDepth 100000 in
theorem c_X3_plainAhead (l : Launch) (g : hm_G) (a : Nat → Nat) (R : Nat → hm_SR) (x0 : Int32) (q : Int32) (hF : f_X3_plainAhead (R 8) x0 = some q) : hm_Mi l yX3_plainAhead (Cond.code yX3_plainAhead cX3_plainAhead 2 (some .int) :: hm_W) rm_X3_plainAhead g [.ref (a 0), .int x0] ([hm_wSc g a R] : List va_W).flatten ([hm_wSc g a R] : List va_W).flatten q := by
  refine hm_ofi [(0, .ref (a 0)), (1, .int x0)] (by decide) (own := RX3) rfl (Nat.le_of_ble_eq_true rfl) rfl rfl ?_
  intro p e s m args below meth c AA S hr hlk X ls hl
  have hx := S.1
  have hb := S.2.1
  have hown := S.2.2.2.1
  have hts := S.2.2.2.2
  have X := X.to (ws' := ([[(a 0, .inr (3, [.ref (a 1), .ref (a 3), .ref (a 5), .ref (a 7), .ref (a 9), .ref (a 11), .ref (a 13), .ref (a 15), .ref (a 17), .ref (a 19)]))], hm_row g (a 1) (a 2) 200 (R 0), hm_row g (a 3) (a 4) 30 (R 1), hm_row g (a 5) (a 6) 200 (R 2), hm_row g (a 7) (a 8) 30 (R 3), hm_row g (a 9) (a 10) 30 (R 4), hm_row g (a 11) (a 12) 30 (R 5), hm_row g (a 13) (a 14) 30 (R 6), hm_row g (a 15) (a 16) 100 (R 7), hm_row g (a 17) (a 18) 100 (R 8), hm_row g (a 19) (a 20) 100 (R 9)] : List va_W).flatten) rfl
  unfold f_X3_plainAhead at hF
  refine lv_aload_n hx hb dX3_plainAhead_0 rfl (lv_at hl 0 rfl) ?_
  refine hm_get S X hf_X3_41 0 rfl rfl dX3_plainAhead_1 ?_
  refine lv_iload_n hx hb dX3_plainAhead_4 rfl (lv_at hl 1 rfl) ?_
  obtain ⟨t1, ht1, hF⟩ := hm_bd hF
  refine hm_vi (As := [.int x0]) S X mw_X2_get hw_2_71 (c_X2_get l g (a 17) (a 18) 100 (R 8) x0 t1 ht1) (hm_mid [[(a 0, .inr (3, [.ref (a 1), .ref (a 3), .ref (a 5), .ref (a 7), .ref (a 9), .ref (a 11), .ref (a 13), .ref (a 15), .ref (a 17), .ref (a 19)]))], hm_row g (a 1) (a 2) 200 (R 0), hm_row g (a 3) (a 4) 30 (R 1), hm_row g (a 5) (a 6) 200 (R 2), hm_row g (a 7) (a 8) 30 (R 3), hm_row g (a 9) (a 10) 30 (R 4), hm_row g (a 11) (a 12) 30 (R 5), hm_row g (a 13) (a 14) 30 (R 6), hm_row g (a 15) (a 16) 100 (R 7)] [hm_row g (a 19) (a 20) 100 (R 9)]) (hm_mid [[(a 0, .inr (3, [.ref (a 1), .ref (a 3), .ref (a 5), .ref (a 7), .ref (a 9), .ref (a 11), .ref (a 13), .ref (a 15), .ref (a 17), .ref (a 19)]))], hm_row g (a 1) (a 2) 200 (R 0), hm_row g (a 3) (a 4) 30 (R 1), hm_row g (a 5) (a 6) 200 (R 2), hm_row g (a 7) (a 8) 30 (R 3), hm_row g (a 9) (a 10) 30 (R 4), hm_row g (a 11) (a 12) 30 (R 5), hm_row g (a 13) (a 14) 30 (R 6), hm_row g (a 15) (a 16) 100 (R 7)] [hm_row g (a 19) (a 20) 100 (R 9)] (b := hm_row g (a 17) (a 18) 100 (R 8))) rfl rfl rfl ⟨rfl, rfl, Nat.le_of_ble_eq_true rfl, Nat.le_of_ble_eq_true rfl⟩ rfl hl.1 rfl (Nat.le_of_ble_eq_true rfl) dX3_plainAhead_5 ⟨Nat.zero_le _, Nat.zero_le _⟩ (fun H locs X => ?_)
  have X := X.to (ws' := ([[(a 0, .inr (3, [.ref (a 1), .ref (a 3), .ref (a 5), .ref (a 7), .ref (a 9), .ref (a 11), .ref (a 13), .ref (a 15), .ref (a 17), .ref (a 19)]))], hm_row g (a 1) (a 2) 200 (R 0), hm_row g (a 3) (a 4) 30 (R 1), hm_row g (a 5) (a 6) 200 (R 2), hm_row g (a 7) (a 8) 30 (R 3), hm_row g (a 9) (a 10) 30 (R 4), hm_row g (a 11) (a 12) 30 (R 5), hm_row g (a 13) (a 14) 30 (R 6), hm_row g (a 15) (a 16) 100 (R 7), hm_row g (a 17) (a 18) 100 (R 8), hm_row g (a 19) (a 20) 100 (R 9)] : List va_W).flatten) rfl
  obtain rfl := Option.some.inj hF
  exact hm_ri S hr hlk X rfl rfl dX3_plainAhead_8
def f_X3_isSlashAt (R_9 : hm_SR) (x0 : Int32)  : Option (Int32) :=
  (f_X2_get 100 R_9 x0).bind fun t1 =>
  if t1 = 1 then (
  some (1))
  else (
  some (0))
abbrev rm_X3_isSlashAt : Room := { frames := 1, cells := 0, slots := 0, locals := 21 }
set_option maxHeartbeats 4000000 in
set_option maxRecDepth 100000 in
theorem c_X3_isSlashAt (l : Launch) (g : hm_G) (a : Nat → Nat) (R : Nat → hm_SR) (x0 : Int32) (q : Int32) (hF : f_X3_isSlashAt (R 9) x0 = some q) : hm_Mi l yX3_isSlashAt (Cond.code yX3_isSlashAt cX3_isSlashAt 2 (some .boolean) :: hm_W) rm_X3_isSlashAt g [.ref (a 0), .int x0] ([hm_wSc g a R] : List va_W).flatten ([hm_wSc g a R] : List va_W).flatten q := by
  refine hm_ofi [(0, .ref (a 0)), (1, .int x0)] (by decide) (own := RX3) rfl (Nat.le_of_ble_eq_true rfl) rfl rfl ?_
  intro p e s m args below meth c AA S hr hlk X ls hl
  have hx := S.1
  have hb := S.2.1
  have hown := S.2.2.2.1
  have hts := S.2.2.2.2
  have X := X.to (ws' := ([[(a 0, .inr (3, [.ref (a 1), .ref (a 3), .ref (a 5), .ref (a 7), .ref (a 9), .ref (a 11), .ref (a 13), .ref (a 15), .ref (a 17), .ref (a 19)]))], hm_row g (a 1) (a 2) 200 (R 0), hm_row g (a 3) (a 4) 30 (R 1), hm_row g (a 5) (a 6) 200 (R 2), hm_row g (a 7) (a 8) 30 (R 3), hm_row g (a 9) (a 10) 30 (R 4), hm_row g (a 11) (a 12) 30 (R 5), hm_row g (a 13) (a 14) 30 (R 6), hm_row g (a 15) (a 16) 100 (R 7), hm_row g (a 17) (a 18) 100 (R 8), hm_row g (a 19) (a 20) 100 (R 9)] : List va_W).flatten) rfl
  unfold f_X3_isSlashAt at hF
  refine lv_aload_n hx hb dX3_isSlashAt_0 rfl (lv_at hl 0 rfl) ?_
  refine hm_get S X hf_X3_44 0 rfl rfl dX3_isSlashAt_1 ?_
  refine lv_iload_n hx hb dX3_isSlashAt_4 rfl (lv_at hl 1 rfl) ?_
  obtain ⟨t1, ht1, hF⟩ := hm_bd hF
  refine hm_vi (As := [.int x0]) S X mw_X2_get hw_2_71 (c_X2_get l g (a 19) (a 20) 100 (R 9) x0 t1 ht1) (hm_mid [[(a 0, .inr (3, [.ref (a 1), .ref (a 3), .ref (a 5), .ref (a 7), .ref (a 9), .ref (a 11), .ref (a 13), .ref (a 15), .ref (a 17), .ref (a 19)]))], hm_row g (a 1) (a 2) 200 (R 0), hm_row g (a 3) (a 4) 30 (R 1), hm_row g (a 5) (a 6) 200 (R 2), hm_row g (a 7) (a 8) 30 (R 3), hm_row g (a 9) (a 10) 30 (R 4), hm_row g (a 11) (a 12) 30 (R 5), hm_row g (a 13) (a 14) 30 (R 6), hm_row g (a 15) (a 16) 100 (R 7), hm_row g (a 17) (a 18) 100 (R 8)] []) (hm_mid [[(a 0, .inr (3, [.ref (a 1), .ref (a 3), .ref (a 5), .ref (a 7), .ref (a 9), .ref (a 11), .ref (a 13), .ref (a 15), .ref (a 17), .ref (a 19)]))], hm_row g (a 1) (a 2) 200 (R 0), hm_row g (a 3) (a 4) 30 (R 1), hm_row g (a 5) (a 6) 200 (R 2), hm_row g (a 7) (a 8) 30 (R 3), hm_row g (a 9) (a 10) 30 (R 4), hm_row g (a 11) (a 12) 30 (R 5), hm_row g (a 13) (a 14) 30 (R 6), hm_row g (a 15) (a 16) 100 (R 7), hm_row g (a 17) (a 18) 100 (R 8)] [] (b := hm_row g (a 19) (a 20) 100 (R 9))) rfl rfl rfl ⟨rfl, rfl, Nat.le_of_ble_eq_true rfl, Nat.le_of_ble_eq_true rfl⟩ rfl hl.1 rfl (Nat.le_of_ble_eq_true rfl) dX3_isSlashAt_5 ⟨Nat.zero_le _, Nat.zero_le _⟩ (fun H locs X => ?_)
  have X := X.to (ws' := ([[(a 0, .inr (3, [.ref (a 1), .ref (a 3), .ref (a 5), .ref (a 7), .ref (a 9), .ref (a 11), .ref (a 13), .ref (a 15), .ref (a 17), .ref (a 19)]))], hm_row g (a 1) (a 2) 200 (R 0), hm_row g (a 3) (a 4) 30 (R 1), hm_row g (a 5) (a 6) 200 (R 2), hm_row g (a 7) (a 8) 30 (R 3), hm_row g (a 9) (a 10) 30 (R 4), hm_row g (a 11) (a 12) 30 (R 5), hm_row g (a 13) (a 14) 30 (R 6), hm_row g (a 15) (a 16) 100 (R 7), hm_row g (a 17) (a 18) 100 (R 8), hm_row g (a 19) (a 20) 100 (R 9)] : List va_W).flatten) rfl
  refine lv_iconst (v := 1) hx hb dX3_isSlashAt_8 (by decide) ?_
  refine lv_icmp_ne (tgt := 16) hx hb dX3_isSlashAt_9 (by decide) (fun c9 => ?_) (fun c9 => ?_)
  · have hF := hm_nf hF c9
    refine lv_iconst (v := 0) hx hb dX3_isSlashAt_16 (by decide) ?_
    obtain rfl := Option.some.inj hF
    exact hm_rz S hr hlk X rfl rfl (Or.inl rfl) dX3_isSlashAt_17
  · have hF := hm_if hF c9
    refine lv_iconst (v := 1) hx hb dX3_isSlashAt_12 (by decide) ?_
    refine lv_goto (tgt := 17) hx hb dX3_isSlashAt_13 (by decide) ?_
    obtain rfl := Option.some.inj hF
    exact hm_rz S hr hlk X rfl rfl (Or.inr rfl) dX3_isSlashAt_17
def f_X3_lastPlaceOf (R_4 : hm_SR) (x0 : Int32)  : Option (Int32) :=
  (f_X2_get 30 R_4 x0).bind fun t1 =>
  some (t1)
abbrev rm_X3_lastPlaceOf : Room := { frames := 1, cells := 0, slots := 0, locals := 21 }
set_option maxHeartbeats 4000000 in
set_option maxRecDepth 100000 in
theorem c_X3_lastPlaceOf (l : Launch) (g : hm_G) (a : Nat → Nat) (R : Nat → hm_SR) (x0 : Int32) (q : Int32) (hF : f_X3_lastPlaceOf (R 4) x0 = some q) : hm_Mi l yX3_lastPlaceOf (Cond.code yX3_lastPlaceOf cX3_lastPlaceOf 2 (some .int) :: hm_W) rm_X3_lastPlaceOf g [.ref (a 0), .int x0] ([hm_wSc g a R] : List va_W).flatten ([hm_wSc g a R] : List va_W).flatten q := by
  refine hm_ofi [(0, .ref (a 0)), (1, .int x0)] (by decide) (own := RX3) rfl (Nat.le_of_ble_eq_true rfl) rfl rfl ?_
  intro p e s m args below meth c AA S hr hlk X ls hl
  have hx := S.1
  have hb := S.2.1
  have hown := S.2.2.2.1
  have hts := S.2.2.2.2
  have X := X.to (ws' := ([[(a 0, .inr (3, [.ref (a 1), .ref (a 3), .ref (a 5), .ref (a 7), .ref (a 9), .ref (a 11), .ref (a 13), .ref (a 15), .ref (a 17), .ref (a 19)]))], hm_row g (a 1) (a 2) 200 (R 0), hm_row g (a 3) (a 4) 30 (R 1), hm_row g (a 5) (a 6) 200 (R 2), hm_row g (a 7) (a 8) 30 (R 3), hm_row g (a 9) (a 10) 30 (R 4), hm_row g (a 11) (a 12) 30 (R 5), hm_row g (a 13) (a 14) 30 (R 6), hm_row g (a 15) (a 16) 100 (R 7), hm_row g (a 17) (a 18) 100 (R 8), hm_row g (a 19) (a 20) 100 (R 9)] : List va_W).flatten) rfl
  unfold f_X3_lastPlaceOf at hF
  refine lv_aload_n hx hb dX3_lastPlaceOf_0 rfl (lv_at hl 0 rfl) ?_
  refine hm_get S X hf_X3_29 0 rfl rfl dX3_lastPlaceOf_1 ?_
  refine lv_iload_n hx hb dX3_lastPlaceOf_4 rfl (lv_at hl 1 rfl) ?_
  obtain ⟨t1, ht1, hF⟩ := hm_bd hF
  refine hm_vi (As := [.int x0]) S X mw_X2_get hw_2_71 (c_X2_get l g (a 9) (a 10) 30 (R 4) x0 t1 ht1) (hm_mid [[(a 0, .inr (3, [.ref (a 1), .ref (a 3), .ref (a 5), .ref (a 7), .ref (a 9), .ref (a 11), .ref (a 13), .ref (a 15), .ref (a 17), .ref (a 19)]))], hm_row g (a 1) (a 2) 200 (R 0), hm_row g (a 3) (a 4) 30 (R 1), hm_row g (a 5) (a 6) 200 (R 2), hm_row g (a 7) (a 8) 30 (R 3)] [hm_row g (a 11) (a 12) 30 (R 5), hm_row g (a 13) (a 14) 30 (R 6), hm_row g (a 15) (a 16) 100 (R 7), hm_row g (a 17) (a 18) 100 (R 8), hm_row g (a 19) (a 20) 100 (R 9)]) (hm_mid [[(a 0, .inr (3, [.ref (a 1), .ref (a 3), .ref (a 5), .ref (a 7), .ref (a 9), .ref (a 11), .ref (a 13), .ref (a 15), .ref (a 17), .ref (a 19)]))], hm_row g (a 1) (a 2) 200 (R 0), hm_row g (a 3) (a 4) 30 (R 1), hm_row g (a 5) (a 6) 200 (R 2), hm_row g (a 7) (a 8) 30 (R 3)] [hm_row g (a 11) (a 12) 30 (R 5), hm_row g (a 13) (a 14) 30 (R 6), hm_row g (a 15) (a 16) 100 (R 7), hm_row g (a 17) (a 18) 100 (R 8), hm_row g (a 19) (a 20) 100 (R 9)] (b := hm_row g (a 9) (a 10) 30 (R 4))) rfl rfl rfl ⟨rfl, rfl, Nat.le_of_ble_eq_true rfl, Nat.le_of_ble_eq_true rfl⟩ rfl hl.1 rfl (Nat.le_of_ble_eq_true rfl) dX3_lastPlaceOf_5 ⟨Nat.zero_le _, Nat.zero_le _⟩ (fun H locs X => ?_)
  have X := X.to (ws' := ([[(a 0, .inr (3, [.ref (a 1), .ref (a 3), .ref (a 5), .ref (a 7), .ref (a 9), .ref (a 11), .ref (a 13), .ref (a 15), .ref (a 17), .ref (a 19)]))], hm_row g (a 1) (a 2) 200 (R 0), hm_row g (a 3) (a 4) 30 (R 1), hm_row g (a 5) (a 6) 200 (R 2), hm_row g (a 7) (a 8) 30 (R 3), hm_row g (a 9) (a 10) 30 (R 4), hm_row g (a 11) (a 12) 30 (R 5), hm_row g (a 13) (a 14) 30 (R 6), hm_row g (a 15) (a 16) 100 (R 7), hm_row g (a 17) (a 18) 100 (R 8), hm_row g (a 19) (a 20) 100 (R 9)] : List va_W).flatten) rfl
  obtain rfl := Option.some.inj hF
  exact hm_ri S hr hlk X rfl rfl dX3_lastPlaceOf_8
def f_X3_spellings (R_6 : hm_SR)  : Option (Int32) :=
  (f_X2_size R_6).bind fun t1 =>
  some (t1)
abbrev rm_X3_spellings : Room := { frames := 1, cells := 0, slots := 0, locals := 20 }
set_option maxHeartbeats 4000000 in
set_option maxRecDepth 100000 in
theorem c_X3_spellings (l : Launch) (g : hm_G) (a : Nat → Nat) (R : Nat → hm_SR) (q : Int32) (hF : f_X3_spellings (R 6) = some q) : hm_Mi l yX3_spellings (Cond.code yX3_spellings cX3_spellings 1 (some .int) :: hm_W) rm_X3_spellings g [.ref (a 0)] ([hm_wSc g a R] : List va_W).flatten ([hm_wSc g a R] : List va_W).flatten q := by
  refine hm_ofi [(0, .ref (a 0))] (by decide) (own := RX3) rfl (Nat.le_of_ble_eq_true rfl) rfl rfl ?_
  intro p e s m args below meth c AA S hr hlk X ls hl
  have hx := S.1
  have hb := S.2.1
  have hown := S.2.2.2.1
  have hts := S.2.2.2.2
  have X := X.to (ws' := ([[(a 0, .inr (3, [.ref (a 1), .ref (a 3), .ref (a 5), .ref (a 7), .ref (a 9), .ref (a 11), .ref (a 13), .ref (a 15), .ref (a 17), .ref (a 19)]))], hm_row g (a 1) (a 2) 200 (R 0), hm_row g (a 3) (a 4) 30 (R 1), hm_row g (a 5) (a 6) 200 (R 2), hm_row g (a 7) (a 8) 30 (R 3), hm_row g (a 9) (a 10) 30 (R 4), hm_row g (a 11) (a 12) 30 (R 5), hm_row g (a 13) (a 14) 30 (R 6), hm_row g (a 15) (a 16) 100 (R 7), hm_row g (a 17) (a 18) 100 (R 8), hm_row g (a 19) (a 20) 100 (R 9)] : List va_W).flatten) rfl
  unfold f_X3_spellings at hF
  refine lv_aload_n hx hb dX3_spellings_0 rfl (lv_at hl 0 rfl) ?_
  refine hm_get S X hf_X3_35 0 rfl rfl dX3_spellings_1 ?_
  obtain ⟨t1, ht1, hF⟩ := hm_bd hF
  refine hm_vi (As := []) S X mw_X2_size hw_2_70 (c_X2_size l g (a 13) (a 14) 30 (R 6) t1 ht1) (hm_mid [[(a 0, .inr (3, [.ref (a 1), .ref (a 3), .ref (a 5), .ref (a 7), .ref (a 9), .ref (a 11), .ref (a 13), .ref (a 15), .ref (a 17), .ref (a 19)]))], hm_row g (a 1) (a 2) 200 (R 0), hm_row g (a 3) (a 4) 30 (R 1), hm_row g (a 5) (a 6) 200 (R 2), hm_row g (a 7) (a 8) 30 (R 3), hm_row g (a 9) (a 10) 30 (R 4), hm_row g (a 11) (a 12) 30 (R 5)] [hm_row g (a 15) (a 16) 100 (R 7), hm_row g (a 17) (a 18) 100 (R 8), hm_row g (a 19) (a 20) 100 (R 9)]) (hm_mid [[(a 0, .inr (3, [.ref (a 1), .ref (a 3), .ref (a 5), .ref (a 7), .ref (a 9), .ref (a 11), .ref (a 13), .ref (a 15), .ref (a 17), .ref (a 19)]))], hm_row g (a 1) (a 2) 200 (R 0), hm_row g (a 3) (a 4) 30 (R 1), hm_row g (a 5) (a 6) 200 (R 2), hm_row g (a 7) (a 8) 30 (R 3), hm_row g (a 9) (a 10) 30 (R 4), hm_row g (a 11) (a 12) 30 (R 5)] [hm_row g (a 15) (a 16) 100 (R 7), hm_row g (a 17) (a 18) 100 (R 8), hm_row g (a 19) (a 20) 100 (R 9)] (b := hm_row g (a 13) (a 14) 30 (R 6))) rfl rfl rfl ⟨rfl, rfl, Nat.le_of_ble_eq_true rfl, Nat.le_of_ble_eq_true rfl⟩ rfl hl.1 rfl (Nat.le_of_ble_eq_true rfl) dX3_spellings_4 ⟨Nat.zero_le _, Nat.zero_le _⟩ (fun H locs X => ?_)
  have X := X.to (ws' := ([[(a 0, .inr (3, [.ref (a 1), .ref (a 3), .ref (a 5), .ref (a 7), .ref (a 9), .ref (a 11), .ref (a 13), .ref (a 15), .ref (a 17), .ref (a 19)]))], hm_row g (a 1) (a 2) 200 (R 0), hm_row g (a 3) (a 4) 30 (R 1), hm_row g (a 5) (a 6) 200 (R 2), hm_row g (a 7) (a 8) 30 (R 3), hm_row g (a 9) (a 10) 30 (R 4), hm_row g (a 11) (a 12) 30 (R 5), hm_row g (a 13) (a 14) 30 (R 6), hm_row g (a 15) (a 16) 100 (R 7), hm_row g (a 17) (a 18) 100 (R 8), hm_row g (a 19) (a 20) 100 (R 9)] : List va_W).flatten) rfl
  obtain rfl := Option.some.inj hF
  exact hm_ri S hr hlk X rfl rfl dX3_spellings_7
def f_X3_firstSpelled (R_6 : hm_SR) (x0 : Int32)  : Option (Int32) :=
  (f_X2_get 30 R_6 x0).bind fun t1 =>
  some (t1)
abbrev rm_X3_firstSpelled : Room := { frames := 1, cells := 0, slots := 0, locals := 21 }
set_option maxHeartbeats 4000000 in
set_option maxRecDepth 100000 in
theorem c_X3_firstSpelled (l : Launch) (g : hm_G) (a : Nat → Nat) (R : Nat → hm_SR) (x0 : Int32) (q : Int32) (hF : f_X3_firstSpelled (R 6) x0 = some q) : hm_Mi l yX3_firstSpelled (Cond.code yX3_firstSpelled cX3_firstSpelled 2 (some .int) :: hm_W) rm_X3_firstSpelled g [.ref (a 0), .int x0] ([hm_wSc g a R] : List va_W).flatten ([hm_wSc g a R] : List va_W).flatten q := by
  refine hm_ofi [(0, .ref (a 0)), (1, .int x0)] (by decide) (own := RX3) rfl (Nat.le_of_ble_eq_true rfl) rfl rfl ?_
  intro p e s m args below meth c AA S hr hlk X ls hl
  have hx := S.1
  have hb := S.2.1
  have hown := S.2.2.2.1
  have hts := S.2.2.2.2
  have X := X.to (ws' := ([[(a 0, .inr (3, [.ref (a 1), .ref (a 3), .ref (a 5), .ref (a 7), .ref (a 9), .ref (a 11), .ref (a 13), .ref (a 15), .ref (a 17), .ref (a 19)]))], hm_row g (a 1) (a 2) 200 (R 0), hm_row g (a 3) (a 4) 30 (R 1), hm_row g (a 5) (a 6) 200 (R 2), hm_row g (a 7) (a 8) 30 (R 3), hm_row g (a 9) (a 10) 30 (R 4), hm_row g (a 11) (a 12) 30 (R 5), hm_row g (a 13) (a 14) 30 (R 6), hm_row g (a 15) (a 16) 100 (R 7), hm_row g (a 17) (a 18) 100 (R 8), hm_row g (a 19) (a 20) 100 (R 9)] : List va_W).flatten) rfl
  unfold f_X3_firstSpelled at hF
  refine lv_aload_n hx hb dX3_firstSpelled_0 rfl (lv_at hl 0 rfl) ?_
  refine hm_get S X hf_X3_35 0 rfl rfl dX3_firstSpelled_1 ?_
  refine lv_iload_n hx hb dX3_firstSpelled_4 rfl (lv_at hl 1 rfl) ?_
  obtain ⟨t1, ht1, hF⟩ := hm_bd hF
  refine hm_vi (As := [.int x0]) S X mw_X2_get hw_2_71 (c_X2_get l g (a 13) (a 14) 30 (R 6) x0 t1 ht1) (hm_mid [[(a 0, .inr (3, [.ref (a 1), .ref (a 3), .ref (a 5), .ref (a 7), .ref (a 9), .ref (a 11), .ref (a 13), .ref (a 15), .ref (a 17), .ref (a 19)]))], hm_row g (a 1) (a 2) 200 (R 0), hm_row g (a 3) (a 4) 30 (R 1), hm_row g (a 5) (a 6) 200 (R 2), hm_row g (a 7) (a 8) 30 (R 3), hm_row g (a 9) (a 10) 30 (R 4), hm_row g (a 11) (a 12) 30 (R 5)] [hm_row g (a 15) (a 16) 100 (R 7), hm_row g (a 17) (a 18) 100 (R 8), hm_row g (a 19) (a 20) 100 (R 9)]) (hm_mid [[(a 0, .inr (3, [.ref (a 1), .ref (a 3), .ref (a 5), .ref (a 7), .ref (a 9), .ref (a 11), .ref (a 13), .ref (a 15), .ref (a 17), .ref (a 19)]))], hm_row g (a 1) (a 2) 200 (R 0), hm_row g (a 3) (a 4) 30 (R 1), hm_row g (a 5) (a 6) 200 (R 2), hm_row g (a 7) (a 8) 30 (R 3), hm_row g (a 9) (a 10) 30 (R 4), hm_row g (a 11) (a 12) 30 (R 5)] [hm_row g (a 15) (a 16) 100 (R 7), hm_row g (a 17) (a 18) 100 (R 8), hm_row g (a 19) (a 20) 100 (R 9)] (b := hm_row g (a 13) (a 14) 30 (R 6))) rfl rfl rfl ⟨rfl, rfl, Nat.le_of_ble_eq_true rfl, Nat.le_of_ble_eq_true rfl⟩ rfl hl.1 rfl (Nat.le_of_ble_eq_true rfl) dX3_firstSpelled_5 ⟨Nat.zero_le _, Nat.zero_le _⟩ (fun H locs X => ?_)
  have X := X.to (ws' := ([[(a 0, .inr (3, [.ref (a 1), .ref (a 3), .ref (a 5), .ref (a 7), .ref (a 9), .ref (a 11), .ref (a 13), .ref (a 15), .ref (a 17), .ref (a 19)]))], hm_row g (a 1) (a 2) 200 (R 0), hm_row g (a 3) (a 4) 30 (R 1), hm_row g (a 5) (a 6) 200 (R 2), hm_row g (a 7) (a 8) 30 (R 3), hm_row g (a 9) (a 10) 30 (R 4), hm_row g (a 11) (a 12) 30 (R 5), hm_row g (a 13) (a 14) 30 (R 6), hm_row g (a 15) (a 16) 100 (R 7), hm_row g (a 17) (a 18) 100 (R 8), hm_row g (a 19) (a 20) 100 (R 9)] : List va_W).flatten) rfl
  obtain rfl := Option.some.inj hF
  exact hm_ri S hr hlk X rfl rfl dX3_firstSpelled_8
def f_X3_timesSpelled_l40 (J4 : Int32 → Int32 → Option (Int32)) (s40_0 : Int32) (s40_1 : Int32) (v3 : Int32) : Option (Int32) :=
  J4 (s40_1 + s40_0) (v3 + 1)
def f_X3_timesSpelled_l4 (R_5 : hm_SR) (R_6 : hm_SR) (x0 : Int32) : Nat → Int32 → Int32 → Option (Int32)
  | 0, _, _ => none
  | k + 1, v2, v3 =>
  (f_X2_size R_5).bind fun t1 =>
  if t1 ≤ v3 then (
  some (v2))
  else (
  (f_X2_get 30 R_5 v3).bind fun t2 =>
  (f_X2_get 30 R_6 x0).bind fun t3 =>
  if t2 = t3 then (
  f_X3_timesSpelled_l40 (fun zv2 zv3 => f_X3_timesSpelled_l4 R_5 R_6 x0 k zv2 zv3) 1 v2 v3)
  else (
  f_X3_timesSpelled_l40 (fun zv2 zv3 => f_X3_timesSpelled_l4 R_5 R_6 x0 k zv2 zv3) 0 v2 v3))
theorem f_X3_timesSpelled_l4_s (R_5 : hm_SR) (R_6 : hm_SR) (x0 : Int32) (k : Nat) (v2 : Int32) (v3 : Int32) : f_X3_timesSpelled_l4 R_5 R_6 x0 (k + 1) v2 v3 =
  (f_X2_size R_5).bind fun t1 =>
  if t1 ≤ v3 then (
  some (v2))
  else (
  (f_X2_get 30 R_5 v3).bind fun t2 =>
  (f_X2_get 30 R_6 x0).bind fun t3 =>
  if t2 = t3 then (
  f_X3_timesSpelled_l40 (fun zv2 zv3 => f_X3_timesSpelled_l4 R_5 R_6 x0 k zv2 zv3) 1 v2 v3)
  else (
  f_X3_timesSpelled_l40 (fun zv2 zv3 => f_X3_timesSpelled_l4 R_5 R_6 x0 k zv2 zv3) 0 v2 v3)) := rfl
theorem f_X3_timesSpelled_l4_z (R_5 : hm_SR) (R_6 : hm_SR) (x0 : Int32) (v2 : Int32) (v3 : Int32) : f_X3_timesSpelled_l4 R_5 R_6 x0 0 v2 v3 = none := rfl
def f_X3_timesSpelled (R_5 : hm_SR) (R_6 : hm_SR) (x0 : Int32)  : Option (Int32) :=
  f_X3_timesSpelled_l4 R_5 R_6 x0 hm_fu 0 0
abbrev rm_X3_timesSpelled : Room := { frames := 1, cells := 0, slots := 0, locals := 21 }
set_option maxHeartbeats 4000000 in
set_option maxRecDepth 100000 in
theorem c_X3_timesSpelled (l : Launch) (g : hm_G) (a : Nat → Nat) (R : Nat → hm_SR) (x0 : Int32) (q : Int32) (hF : f_X3_timesSpelled (R 5) (R 6) x0 = some q) : hm_Mi l yX3_timesSpelled (Cond.code yX3_timesSpelled cX3_timesSpelled 4 (some .int) :: hm_W) rm_X3_timesSpelled g [.ref (a 0), .int x0] ([hm_wSc g a R] : List va_W).flatten ([hm_wSc g a R] : List va_W).flatten q := by
  refine hm_ofi [(0, .ref (a 0)), (1, .int x0)] (by decide) (own := RX3) rfl (Nat.le_of_ble_eq_true rfl) rfl rfl ?_
  intro p e s m args below meth c AA S hr hlk X ls hl
  have hx := S.1
  have hb := S.2.1
  have hown := S.2.2.2.1
  have hts := S.2.2.2.2
  have X := X.to (ws' := ([[(a 0, .inr (3, [.ref (a 1), .ref (a 3), .ref (a 5), .ref (a 7), .ref (a 9), .ref (a 11), .ref (a 13), .ref (a 15), .ref (a 17), .ref (a 19)]))], hm_row g (a 1) (a 2) 200 (R 0), hm_row g (a 3) (a 4) 30 (R 1), hm_row g (a 5) (a 6) 200 (R 2), hm_row g (a 7) (a 8) 30 (R 3), hm_row g (a 9) (a 10) 30 (R 4), hm_row g (a 11) (a 12) 30 (R 5), hm_row g (a 13) (a 14) 30 (R 6), hm_row g (a 15) (a 16) 100 (R 7), hm_row g (a 17) (a 18) 100 (R 8), hm_row g (a 19) (a 20) 100 (R 9)] : List va_W).flatten) rfl
  have hl4 : ∀ (k4 : Nat) (v2 : Int32) (v3 : Int32), f_X3_timesSpelled_l4 (R 5) (R 6) x0 k4 v2 v3 = some q → ∀ (H : Heap) (locs : List Loc), hm_X g AA s H locs ([[(a 0, .inr (3, [.ref (a 1), .ref (a 3), .ref (a 5), .ref (a 7), .ref (a 9), .ref (a 11), .ref (a 13), .ref (a 15), .ref (a 17), .ref (a 19)]))], hm_row g (a 1) (a 2) 200 (R 0), hm_row g (a 3) (a 4) 30 (R 1), hm_row g (a 5) (a 6) 200 (R 2), hm_row g (a 7) (a 8) 30 (R 3), hm_row g (a 9) (a 10) 30 (R 4), hm_row g (a 11) (a 12) 30 (R 5), hm_row g (a 13) (a 14) 30 (R 6), hm_row g (a 15) (a 16) 100 (R 7), hm_row g (a 17) (a 18) 100 (R 8), hm_row g (a 19) (a 20) 100 (R 9)] : List va_W).flatten → ∀ ls : Array Slot, lv_has ls 4 [(0, .ref (a 0)), (1, .int x0), (2, .int v2), (3, .int v3)] → W p l e rm_X3_timesSpelled s m args below meth c H locs 0 0 (MQ below (hm_Qi g AA ([hm_wSc g a R] : List va_W).flatten q) args s 0 0 AA) (F0 m 4 ls []) := by
    intro k4
    induction k4 with
    | zero =>
      intro v2 v3 hF
      rw [f_X3_timesSpelled_l4_z] at hF
      cases hF
    | succ k4 ih4 =>
      have hl40 : ∀ (s40_0 : Int32) (s40_1 : Int32) (v3 : Int32), f_X3_timesSpelled_l40 (fun zv2 zv3 => f_X3_timesSpelled_l4 (R 5) (R 6) x0 k4 zv2 zv3) s40_0 s40_1 v3 = some q → ∀ (H : Heap) (locs : List Loc), hm_X g AA s H locs ([[(a 0, .inr (3, [.ref (a 1), .ref (a 3), .ref (a 5), .ref (a 7), .ref (a 9), .ref (a 11), .ref (a 13), .ref (a 15), .ref (a 17), .ref (a 19)]))], hm_row g (a 1) (a 2) 200 (R 0), hm_row g (a 3) (a 4) 30 (R 1), hm_row g (a 5) (a 6) 200 (R 2), hm_row g (a 7) (a 8) 30 (R 3), hm_row g (a 9) (a 10) 30 (R 4), hm_row g (a 11) (a 12) 30 (R 5), hm_row g (a 13) (a 14) 30 (R 6), hm_row g (a 15) (a 16) 100 (R 7), hm_row g (a 17) (a 18) 100 (R 8), hm_row g (a 19) (a 20) 100 (R 9)] : List va_W).flatten → ∀ ls : Array Slot, lv_has ls 4 [(0, .ref (a 0)), (1, .int x0), (3, .int v3)] → W p l e rm_X3_timesSpelled s m args below meth c H locs 0 0 (MQ below (hm_Qi g AA ([hm_wSc g a R] : List va_W).flatten q) args s 0 0 AA) (F0 m 40 ls [.int s40_0, .int s40_1]) := by
        intro s40_0 s40_1 v3 hF H locs X ls hl
        unfold f_X3_timesSpelled_l40 at hF
        refine lv_iadd hx hb dX3_timesSpelled_40 ?_
        refine lv_istore_n (lv' := [(2, .int (s40_1 + s40_0)), (0, .ref (a 0)), (1, .int x0), (3, .int v3)]) hx hb dX3_timesSpelled_41 rfl hl (by decide) rfl (fun ls hl => ?_)
        refine lv_iinc (v := (v3 + 1)) (lv' := [(3, .int (v3 + 1)), (2, .int (s40_1 + s40_0)), (0, .ref (a 0)), (1, .int x0)]) hx hb dX3_timesSpelled_42 hl (k := 3) rfl rfl (by decide) rfl (fun ls hl => ?_)
        refine lv_goto (tgt := 4) hx hb dX3_timesSpelled_45 (by decide) ?_
        exact ih4 (s40_1 + s40_0) (v3 + 1) hF _ _ X _ (lv_sub hl [2, 3, 1, 0] rfl)
      intro v2 v3 hF H locs X ls hl
      rw [f_X3_timesSpelled_l4_s] at hF
      refine lv_iload_n hx hb dX3_timesSpelled_4 rfl (lv_at hl 3 rfl) ?_
      refine lv_aload_n hx hb dX3_timesSpelled_5 rfl (lv_at hl 0 rfl) ?_
      refine hm_get S X hf_X3_32 0 rfl rfl dX3_timesSpelled_6 ?_
      obtain ⟨t1, ht1, hF⟩ := hm_bd hF
      refine hm_vi (As := []) S X mw_X2_size hw_2_70 (c_X2_size l g (a 11) (a 12) 30 (R 5) t1 ht1) (hm_mid [[(a 0, .inr (3, [.ref (a 1), .ref (a 3), .ref (a 5), .ref (a 7), .ref (a 9), .ref (a 11), .ref (a 13), .ref (a 15), .ref (a 17), .ref (a 19)]))], hm_row g (a 1) (a 2) 200 (R 0), hm_row g (a 3) (a 4) 30 (R 1), hm_row g (a 5) (a 6) 200 (R 2), hm_row g (a 7) (a 8) 30 (R 3), hm_row g (a 9) (a 10) 30 (R 4)] [hm_row g (a 13) (a 14) 30 (R 6), hm_row g (a 15) (a 16) 100 (R 7), hm_row g (a 17) (a 18) 100 (R 8), hm_row g (a 19) (a 20) 100 (R 9)]) (hm_mid [[(a 0, .inr (3, [.ref (a 1), .ref (a 3), .ref (a 5), .ref (a 7), .ref (a 9), .ref (a 11), .ref (a 13), .ref (a 15), .ref (a 17), .ref (a 19)]))], hm_row g (a 1) (a 2) 200 (R 0), hm_row g (a 3) (a 4) 30 (R 1), hm_row g (a 5) (a 6) 200 (R 2), hm_row g (a 7) (a 8) 30 (R 3), hm_row g (a 9) (a 10) 30 (R 4)] [hm_row g (a 13) (a 14) 30 (R 6), hm_row g (a 15) (a 16) 100 (R 7), hm_row g (a 17) (a 18) 100 (R 8), hm_row g (a 19) (a 20) 100 (R 9)] (b := hm_row g (a 11) (a 12) 30 (R 5))) rfl rfl rfl ⟨rfl, rfl, Nat.le_of_ble_eq_true rfl, Nat.le_of_ble_eq_true rfl⟩ rfl hl.1 rfl (Nat.le_of_ble_eq_true rfl) dX3_timesSpelled_9 ⟨Nat.zero_le _, Nat.zero_le _⟩ (fun H locs X => ?_)
      have X := X.to (ws' := ([[(a 0, .inr (3, [.ref (a 1), .ref (a 3), .ref (a 5), .ref (a 7), .ref (a 9), .ref (a 11), .ref (a 13), .ref (a 15), .ref (a 17), .ref (a 19)]))], hm_row g (a 1) (a 2) 200 (R 0), hm_row g (a 3) (a 4) 30 (R 1), hm_row g (a 5) (a 6) 200 (R 2), hm_row g (a 7) (a 8) 30 (R 3), hm_row g (a 9) (a 10) 30 (R 4), hm_row g (a 11) (a 12) 30 (R 5), hm_row g (a 13) (a 14) 30 (R 6), hm_row g (a 15) (a 16) 100 (R 7), hm_row g (a 17) (a 18) 100 (R 8), hm_row g (a 19) (a 20) 100 (R 9)] : List va_W).flatten) rfl
      refine lv_icmp_ge (tgt := 48) hx hb dX3_timesSpelled_12 (by decide) (fun c12 => ?_) (fun c12 => ?_)
      · have hF := hm_if hF c12
        refine lv_iload_n hx hb dX3_timesSpelled_48 rfl (lv_at hl 2 rfl) ?_
        obtain rfl := Option.some.inj hF
        exact hm_ri S hr hlk X rfl rfl dX3_timesSpelled_49
      · have hF := hm_nf hF c12
        refine lv_iload_n hx hb dX3_timesSpelled_15 rfl (lv_at hl 2 rfl) ?_
        refine lv_aload_n hx hb dX3_timesSpelled_16 rfl (lv_at hl 0 rfl) ?_
        refine hm_get S X hf_X3_32 0 rfl rfl dX3_timesSpelled_17 ?_
        refine lv_iload_n hx hb dX3_timesSpelled_20 rfl (lv_at hl 3 rfl) ?_
        obtain ⟨t2, ht2, hF⟩ := hm_bd hF
        refine hm_vi (As := [.int v3]) S X mw_X2_get hw_2_71 (c_X2_get l g (a 11) (a 12) 30 (R 5) v3 t2 ht2) (hm_mid [[(a 0, .inr (3, [.ref (a 1), .ref (a 3), .ref (a 5), .ref (a 7), .ref (a 9), .ref (a 11), .ref (a 13), .ref (a 15), .ref (a 17), .ref (a 19)]))], hm_row g (a 1) (a 2) 200 (R 0), hm_row g (a 3) (a 4) 30 (R 1), hm_row g (a 5) (a 6) 200 (R 2), hm_row g (a 7) (a 8) 30 (R 3), hm_row g (a 9) (a 10) 30 (R 4)] [hm_row g (a 13) (a 14) 30 (R 6), hm_row g (a 15) (a 16) 100 (R 7), hm_row g (a 17) (a 18) 100 (R 8), hm_row g (a 19) (a 20) 100 (R 9)]) (hm_mid [[(a 0, .inr (3, [.ref (a 1), .ref (a 3), .ref (a 5), .ref (a 7), .ref (a 9), .ref (a 11), .ref (a 13), .ref (a 15), .ref (a 17), .ref (a 19)]))], hm_row g (a 1) (a 2) 200 (R 0), hm_row g (a 3) (a 4) 30 (R 1), hm_row g (a 5) (a 6) 200 (R 2), hm_row g (a 7) (a 8) 30 (R 3), hm_row g (a 9) (a 10) 30 (R 4)] [hm_row g (a 13) (a 14) 30 (R 6), hm_row g (a 15) (a 16) 100 (R 7), hm_row g (a 17) (a 18) 100 (R 8), hm_row g (a 19) (a 20) 100 (R 9)] (b := hm_row g (a 11) (a 12) 30 (R 5))) rfl rfl rfl ⟨rfl, rfl, Nat.le_of_ble_eq_true rfl, Nat.le_of_ble_eq_true rfl⟩ rfl hl.1 rfl (Nat.le_of_ble_eq_true rfl) dX3_timesSpelled_21 ⟨Nat.zero_le _, Nat.zero_le _⟩ (fun H locs X => ?_)
        have X := X.to (ws' := ([[(a 0, .inr (3, [.ref (a 1), .ref (a 3), .ref (a 5), .ref (a 7), .ref (a 9), .ref (a 11), .ref (a 13), .ref (a 15), .ref (a 17), .ref (a 19)]))], hm_row g (a 1) (a 2) 200 (R 0), hm_row g (a 3) (a 4) 30 (R 1), hm_row g (a 5) (a 6) 200 (R 2), hm_row g (a 7) (a 8) 30 (R 3), hm_row g (a 9) (a 10) 30 (R 4), hm_row g (a 11) (a 12) 30 (R 5), hm_row g (a 13) (a 14) 30 (R 6), hm_row g (a 15) (a 16) 100 (R 7), hm_row g (a 17) (a 18) 100 (R 8), hm_row g (a 19) (a 20) 100 (R 9)] : List va_W).flatten) rfl
        refine lv_aload_n hx hb dX3_timesSpelled_24 rfl (lv_at hl 0 rfl) ?_
        refine hm_get S X hf_X3_35 0 rfl rfl dX3_timesSpelled_25 ?_
        refine lv_iload_n hx hb dX3_timesSpelled_28 rfl (lv_at hl 1 rfl) ?_
        obtain ⟨t3, ht3, hF⟩ := hm_bd hF
        refine hm_vi (As := [.int x0]) S X mw_X2_get hw_2_71 (c_X2_get l g (a 13) (a 14) 30 (R 6) x0 t3 ht3) (hm_mid [[(a 0, .inr (3, [.ref (a 1), .ref (a 3), .ref (a 5), .ref (a 7), .ref (a 9), .ref (a 11), .ref (a 13), .ref (a 15), .ref (a 17), .ref (a 19)]))], hm_row g (a 1) (a 2) 200 (R 0), hm_row g (a 3) (a 4) 30 (R 1), hm_row g (a 5) (a 6) 200 (R 2), hm_row g (a 7) (a 8) 30 (R 3), hm_row g (a 9) (a 10) 30 (R 4), hm_row g (a 11) (a 12) 30 (R 5)] [hm_row g (a 15) (a 16) 100 (R 7), hm_row g (a 17) (a 18) 100 (R 8), hm_row g (a 19) (a 20) 100 (R 9)]) (hm_mid [[(a 0, .inr (3, [.ref (a 1), .ref (a 3), .ref (a 5), .ref (a 7), .ref (a 9), .ref (a 11), .ref (a 13), .ref (a 15), .ref (a 17), .ref (a 19)]))], hm_row g (a 1) (a 2) 200 (R 0), hm_row g (a 3) (a 4) 30 (R 1), hm_row g (a 5) (a 6) 200 (R 2), hm_row g (a 7) (a 8) 30 (R 3), hm_row g (a 9) (a 10) 30 (R 4), hm_row g (a 11) (a 12) 30 (R 5)] [hm_row g (a 15) (a 16) 100 (R 7), hm_row g (a 17) (a 18) 100 (R 8), hm_row g (a 19) (a 20) 100 (R 9)] (b := hm_row g (a 13) (a 14) 30 (R 6))) rfl rfl rfl ⟨rfl, rfl, Nat.le_of_ble_eq_true rfl, Nat.le_of_ble_eq_true rfl⟩ rfl hl.1 rfl (Nat.le_of_ble_eq_true rfl) dX3_timesSpelled_29 ⟨Nat.zero_le _, Nat.zero_le _⟩ (fun H locs X => ?_)
        have X := X.to (ws' := ([[(a 0, .inr (3, [.ref (a 1), .ref (a 3), .ref (a 5), .ref (a 7), .ref (a 9), .ref (a 11), .ref (a 13), .ref (a 15), .ref (a 17), .ref (a 19)]))], hm_row g (a 1) (a 2) 200 (R 0), hm_row g (a 3) (a 4) 30 (R 1), hm_row g (a 5) (a 6) 200 (R 2), hm_row g (a 7) (a 8) 30 (R 3), hm_row g (a 9) (a 10) 30 (R 4), hm_row g (a 11) (a 12) 30 (R 5), hm_row g (a 13) (a 14) 30 (R 6), hm_row g (a 15) (a 16) 100 (R 7), hm_row g (a 17) (a 18) 100 (R 8), hm_row g (a 19) (a 20) 100 (R 9)] : List va_W).flatten) rfl
        refine lv_icmp_ne (tgt := 39) hx hb dX3_timesSpelled_32 (by decide) (fun c32 => ?_) (fun c32 => ?_)
        · have hF := hm_nf hF c32
          refine lv_iconst (v := 0) hx hb dX3_timesSpelled_39 (by decide) ?_
          exact hl40 0 v2 v3 hF _ _ X _ (lv_sub hl [0, 1, 3] rfl)
        · have hF := hm_if hF c32
          refine lv_iconst (v := 1) hx hb dX3_timesSpelled_35 (by decide) ?_
          refine lv_goto (tgt := 40) hx hb dX3_timesSpelled_36 (by decide) ?_
          exact hl40 1 v2 v3 hF _ _ X _ (lv_sub hl [0, 1, 3] rfl)
  unfold f_X3_timesSpelled at hF
  refine lv_iconst (v := 0) hx hb dX3_timesSpelled_0 (by decide) ?_
  refine lv_istore_n (lv' := [(2, .int 0), (0, .ref (a 0)), (1, .int x0)]) hx hb dX3_timesSpelled_1 rfl hl (by decide) rfl (fun ls hl => ?_)
  refine lv_iconst (v := 0) hx hb dX3_timesSpelled_2 (by decide) ?_
  refine lv_istore_n (lv' := [(3, .int 0), (2, .int 0), (0, .ref (a 0)), (1, .int x0)]) hx hb dX3_timesSpelled_3 rfl hl (by decide) rfl (fun ls hl => ?_)
  exact hl4 hm_fu 0 0 hF _ _ X _ (lv_sub hl [2, 3, 1, 0] rfl)
