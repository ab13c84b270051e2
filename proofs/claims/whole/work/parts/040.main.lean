def f_X7_type (R_0 : hm_SR) (x0 : Int32)  : Option (Int32 × hm_SR) :=
  if x0 < 0 then (
  some ((-1), R_0))
  else (
  if x0 ≤ 255 then (
  (f_X2_add 200 R_0 x0).bind fun t1 =>
  if t1.1 = 0 then (
  some ((-3), t1.2))
  else (
  (f_X2_size t1.2).bind fun t2 =>
  some (t2, t1.2)))
  else (
  some ((-1), R_0)))
abbrev rm_X7_type : Room := { frames := 1, cells := 0, slots := 0, locals := 21 }
set_option maxHeartbeats 4000000 in
set_option maxRecDepth 100000 in
theorem c_X7_type (l : Launch) (g : hm_G) (a : Nat → Nat → Nat) (R : Nat → hm_SR) (Z : Nat → Int32) (ScR : Nat → hm_SR) (SeR : Nat → hm_SR) (SeA : Nat → Nat → Int32) (LeR : Nat → hm_SR) (LeZ : Nat → Int32) (BrA : Nat → Nat → Int32) (ShR : Nat → hm_SR) (ShZ : Nat → Int32) (SuA : Nat → Nat → Int32) (SuJ : Nat → Nat → Int64) (x0 : Int32) (q : Int32 × hm_SR) (hF : f_X7_type (R 0) x0 = some q) : hm_Mi l yX7_type (Cond.code yX7_type cX7_type 2 (some .int) :: hm_W) rm_X7_type g [.ref (a 0 0), .int x0] ([hm_wHM g a R Z ScR SeR SeA LeR LeZ BrA ShR ShZ SuA SuJ] : List va_W).flatten ([hm_wHM g a (hm_up R 0 q.2) Z ScR SeR SeA LeR LeZ BrA ShR ShZ SuA SuJ] : List va_W).flatten q.1 := by
  refine hm_ofi [(0, .ref (a 0 0)), (1, .int x0)] (by decide) (own := RX7) rfl (Nat.le_of_ble_eq_true rfl) rfl rfl ?_
  intro p e s m args below meth c AA S hr hlk X ls hl
  have hx := S.1
  have hb := S.2.1
  have hown := S.2.2.2.1
  have hts := S.2.2.2.2
  have X := X.to (ws' := ([[(a 0 0, .inr (7, [.ref (a 1 0), .ref (a 2 0), .ref (a 3 0), .ref (a 4 0), .ref (a 5 0), .ref (a 6 0), .ref (a 7 0), .ref (a 8 0), .ref (a 9 0), .ref (a 10 0), .int (Z 0), .int (Z 1)]))], hm_row g (a 1 0) (a 1 1) 200 (R 0), hm_wSc g (a 2) ScR, hm_wSe g (a 3) SeR SeA, hm_row g (a 4 0) (a 4 1) 100 (R 1), hm_row g (a 5 0) (a 5 1) 6 (R 2), hm_row g (a 6 0) (a 6 1) 6 (R 3), hm_wLe g (a 7) LeR LeZ, hm_wBr g (a 8) BrA, hm_wSh g (a 9) ShR ShZ, hm_wSu g (a 10) SuA SuJ] : List va_W).flatten) rfl
  unfold f_X7_type at hF
  refine lv_iload_n hx hb dX7_type_0 rfl (lv_at hl 1 rfl) ?_
  refine lv_if_lt (tgt := 11) hx hb dX7_type_1 (by decide) (fun c1 => ?_) (fun c1 => ?_)
  · have hF := hm_if hF c1
    refine lv_iconst (v := (-1)) hx hb dX7_type_11 (by decide) ?_
    obtain rfl := Option.some.inj hF
    exact hm_ri S hr hlk X rfl rfl dX7_type_12
  · have hF := hm_nf hF c1
    refine lv_iload_n hx hb dX7_type_4 rfl (lv_at hl 1 rfl) ?_
    refine lv_sipush (v := 255) hx hb dX7_type_5 (by decide) ?_
    refine lv_icmp_le (tgt := 13) hx hb dX7_type_8 (by decide) (fun c8 => ?_) (fun c8 => ?_)
    · have hF := hm_if hF c8
      refine lv_aload_n hx hb dX7_type_13 rfl (lv_at hl 0 rfl) ?_
      refine hm_get S X hf_X7_14 0 rfl rfl dX7_type_14 ?_
      refine lv_iload_n hx hb dX7_type_17 rfl (lv_at hl 1 rfl) ?_
      obtain ⟨t1, ht1, hF⟩ := hm_bd hF
      refine hm_vi (As := [.int x0]) S X mw_X2_add hw_2_22 (c_X2_add l g (a 1 0) (a 1 1) 200 (R 0) x0 t1 ht1) (hm_mid [[(a 0 0, .inr (7, [.ref (a 1 0), .ref (a 2 0), .ref (a 3 0), .ref (a 4 0), .ref (a 5 0), .ref (a 6 0), .ref (a 7 0), .ref (a 8 0), .ref (a 9 0), .ref (a 10 0), .int (Z 0), .int (Z 1)]))]] [hm_wSc g (a 2) ScR, hm_wSe g (a 3) SeR SeA, hm_row g (a 4 0) (a 4 1) 100 (R 1), hm_row g (a 5 0) (a 5 1) 6 (R 2), hm_row g (a 6 0) (a 6 1) 6 (R 3), hm_wLe g (a 7) LeR LeZ, hm_wBr g (a 8) BrA, hm_wSh g (a 9) ShR ShZ, hm_wSu g (a 10) SuA SuJ]) (hm_mid [[(a 0 0, .inr (7, [.ref (a 1 0), .ref (a 2 0), .ref (a 3 0), .ref (a 4 0), .ref (a 5 0), .ref (a 6 0), .ref (a 7 0), .ref (a 8 0), .ref (a 9 0), .ref (a 10 0), .int (Z 0), .int (Z 1)]))]] [hm_wSc g (a 2) ScR, hm_wSe g (a 3) SeR SeA, hm_row g (a 4 0) (a 4 1) 100 (R 1), hm_row g (a 5 0) (a 5 1) 6 (R 2), hm_row g (a 6 0) (a 6 1) 6 (R 3), hm_wLe g (a 7) LeR LeZ, hm_wBr g (a 8) BrA, hm_wSh g (a 9) ShR ShZ, hm_wSu g (a 10) SuA SuJ] (b := hm_row g (a 1 0) (a 1 1) 200 t1.2)) rfl rfl rfl ⟨rfl, rfl, Nat.le_of_ble_eq_true rfl, Nat.le_of_ble_eq_true rfl⟩ rfl hl.1 rfl (Nat.le_of_ble_eq_true rfl) dX7_type_18 ⟨Nat.zero_le _, Nat.zero_le _⟩ (fun H locs X => ?_)
      have X := X.to (ws' := ([[(a 0 0, .inr (7, [.ref (a 1 0), .ref (a 2 0), .ref (a 3 0), .ref (a 4 0), .ref (a 5 0), .ref (a 6 0), .ref (a 7 0), .ref (a 8 0), .ref (a 9 0), .ref (a 10 0), .int (Z 0), .int (Z 1)]))], hm_row g (a 1 0) (a 1 1) 200 t1.2, hm_wSc g (a 2) ScR, hm_wSe g (a 3) SeR SeA, hm_row g (a 4 0) (a 4 1) 100 (R 1), hm_row g (a 5 0) (a 5 1) 6 (R 2), hm_row g (a 6 0) (a 6 1) 6 (R 3), hm_wLe g (a 7) LeR LeZ, hm_wBr g (a 8) BrA, hm_wSh g (a 9) ShR ShZ, hm_wSu g (a 10) SuA SuJ] : List va_W).flatten) rfl
      refine lv_if_eq (tgt := 34) hx hb dX7_type_21 (by decide) (fun c21 => ?_) (fun c21 => ?_)
      · have hF := hm_if hF c21
        refine lv_bipush (v := (-3)) hx hb dX7_type_34 (by decide) ?_
        obtain rfl := Option.some.inj hF
        exact hm_ri S hr hlk X rfl rfl dX7_type_36
      · have hF := hm_nf hF c21
        refine lv_aload_n hx hb dX7_type_24 rfl (lv_at hl 0 rfl) ?_
        refine hm_get S X hf_X7_14 0 rfl rfl dX7_type_25 ?_
        obtain ⟨t2, ht2, hF⟩ := hm_bd hF
        refine hm_vi (As := []) S X mw_X2_size hw_2_26 (c_X2_size l g (a 1 0) (a 1 1) 200 t1.2 t2 ht2) (hm_mid [[(a 0 0, .inr (7, [.ref (a 1 0), .ref (a 2 0), .ref (a 3 0), .ref (a 4 0), .ref (a 5 0), .ref (a 6 0), .ref (a 7 0), .ref (a 8 0), .ref (a 9 0), .ref (a 10 0), .int (Z 0), .int (Z 1)]))]] [hm_wSc g (a 2) ScR, hm_wSe g (a 3) SeR SeA, hm_row g (a 4 0) (a 4 1) 100 (R 1), hm_row g (a 5 0) (a 5 1) 6 (R 2), hm_row g (a 6 0) (a 6 1) 6 (R 3), hm_wLe g (a 7) LeR LeZ, hm_wBr g (a 8) BrA, hm_wSh g (a 9) ShR ShZ, hm_wSu g (a 10) SuA SuJ]) (hm_mid [[(a 0 0, .inr (7, [.ref (a 1 0), .ref (a 2 0), .ref (a 3 0), .ref (a 4 0), .ref (a 5 0), .ref (a 6 0), .ref (a 7 0), .ref (a 8 0), .ref (a 9 0), .ref (a 10 0), .int (Z 0), .int (Z 1)]))]] [hm_wSc g (a 2) ScR, hm_wSe g (a 3) SeR SeA, hm_row g (a 4 0) (a 4 1) 100 (R 1), hm_row g (a 5 0) (a 5 1) 6 (R 2), hm_row g (a 6 0) (a 6 1) 6 (R 3), hm_wLe g (a 7) LeR LeZ, hm_wBr g (a 8) BrA, hm_wSh g (a 9) ShR ShZ, hm_wSu g (a 10) SuA SuJ] (b := hm_row g (a 1 0) (a 1 1) 200 t1.2)) rfl rfl rfl ⟨rfl, rfl, Nat.le_of_ble_eq_true rfl, Nat.le_of_ble_eq_true rfl⟩ rfl hl.1 rfl (Nat.le_of_ble_eq_true rfl) dX7_type_28 ⟨Nat.zero_le _, Nat.zero_le _⟩ (fun H locs X => ?_)
        have X := X.to (ws' := ([[(a 0 0, .inr (7, [.ref (a 1 0), .ref (a 2 0), .ref (a 3 0), .ref (a 4 0), .ref (a 5 0), .ref (a 6 0), .ref (a 7 0), .ref (a 8 0), .ref (a 9 0), .ref (a 10 0), .int (Z 0), .int (Z 1)]))], hm_row g (a 1 0) (a 1 1) 200 t1.2, hm_wSc g (a 2) ScR, hm_wSe g (a 3) SeR SeA, hm_row g (a 4 0) (a 4 1) 100 (R 1), hm_row g (a 5 0) (a 5 1) 6 (R 2), hm_row g (a 6 0) (a 6 1) 6 (R 3), hm_wLe g (a 7) LeR LeZ, hm_wBr g (a 8) BrA, hm_wSh g (a 9) ShR ShZ, hm_wSu g (a 10) SuA SuJ] : List va_W).flatten) rfl
        refine lv_goto (tgt := 36) hx hb dX7_type_31 (by decide) ?_
        obtain rfl := Option.some.inj hF
        exact hm_ri S hr hlk X rfl rfl dX7_type_36
    · have hF := hm_nf hF c8
      refine lv_iconst (v := (-1)) hx hb dX7_type_11 (by decide) ?_
      obtain rfl := Option.some.inj hF
      exact hm_ri S hr hlk X rfl rfl dX7_type_12
def f_X7_clear (R_0 : hm_SR)  : Option (Int32 × hm_SR) :=
  (f_X2_size R_0).bind fun t1 =>
  (f_X2_empty R_0).bind fun t2 =>
  some (t1, t2)
abbrev rm_X7_clear : Room := { frames := 1, cells := 0, slots := 0, locals := 20 }
set_option maxHeartbeats 4000000 in
set_option maxRecDepth 100000 in
theorem c_X7_clear (l : Launch) (g : hm_G) (a : Nat → Nat → Nat) (R : Nat → hm_SR) (Z : Nat → Int32) (ScR : Nat → hm_SR) (SeR : Nat → hm_SR) (SeA : Nat → Nat → Int32) (LeR : Nat → hm_SR) (LeZ : Nat → Int32) (BrA : Nat → Nat → Int32) (ShR : Nat → hm_SR) (ShZ : Nat → Int32) (SuA : Nat → Nat → Int32) (SuJ : Nat → Nat → Int64) (q : Int32 × hm_SR) (hF : f_X7_clear (R 0) = some q) : hm_Mi l yX7_clear (Cond.code yX7_clear cX7_clear 2 (some .int) :: hm_W) rm_X7_clear g [.ref (a 0 0)] ([hm_wHM g a R Z ScR SeR SeA LeR LeZ BrA ShR ShZ SuA SuJ] : List va_W).flatten ([hm_wHM g a (hm_up R 0 q.2) Z ScR SeR SeA LeR LeZ BrA ShR ShZ SuA SuJ] : List va_W).flatten q.1 := by
  refine hm_ofi [(0, .ref (a 0 0))] (by decide) (own := RX7) rfl (Nat.le_of_ble_eq_true rfl) rfl rfl ?_
  intro p e s m args below meth c AA S hr hlk X ls hl
  have hx := S.1
  have hb := S.2.1
  have hown := S.2.2.2.1
  have hts := S.2.2.2.2
  have X := X.to (ws' := ([[(a 0 0, .inr (7, [.ref (a 1 0), .ref (a 2 0), .ref (a 3 0), .ref (a 4 0), .ref (a 5 0), .ref (a 6 0), .ref (a 7 0), .ref (a 8 0), .ref (a 9 0), .ref (a 10 0), .int (Z 0), .int (Z 1)]))], hm_row g (a 1 0) (a 1 1) 200 (R 0), hm_wSc g (a 2) ScR, hm_wSe g (a 3) SeR SeA, hm_row g (a 4 0) (a 4 1) 100 (R 1), hm_row g (a 5 0) (a 5 1) 6 (R 2), hm_row g (a 6 0) (a 6 1) 6 (R 3), hm_wLe g (a 7) LeR LeZ, hm_wBr g (a 8) BrA, hm_wSh g (a 9) ShR ShZ, hm_wSu g (a 10) SuA SuJ] : List va_W).flatten) rfl
  unfold f_X7_clear at hF
  refine lv_aload_n hx hb dX7_clear_0 rfl (lv_at hl 0 rfl) ?_
  refine hm_get S X hf_X7_14 0 rfl rfl dX7_clear_1 ?_
  obtain ⟨t1, ht1, hF⟩ := hm_bd hF
  refine hm_vi (As := []) S X mw_X2_size hw_2_26 (c_X2_size l g (a 1 0) (a 1 1) 200 (R 0) t1 ht1) (hm_mid [[(a 0 0, .inr (7, [.ref (a 1 0), .ref (a 2 0), .ref (a 3 0), .ref (a 4 0), .ref (a 5 0), .ref (a 6 0), .ref (a 7 0), .ref (a 8 0), .ref (a 9 0), .ref (a 10 0), .int (Z 0), .int (Z 1)]))]] [hm_wSc g (a 2) ScR, hm_wSe g (a 3) SeR SeA, hm_row g (a 4 0) (a 4 1) 100 (R 1), hm_row g (a 5 0) (a 5 1) 6 (R 2), hm_row g (a 6 0) (a 6 1) 6 (R 3), hm_wLe g (a 7) LeR LeZ, hm_wBr g (a 8) BrA, hm_wSh g (a 9) ShR ShZ, hm_wSu g (a 10) SuA SuJ]) (hm_mid [[(a 0 0, .inr (7, [.ref (a 1 0), .ref (a 2 0), .ref (a 3 0), .ref (a 4 0), .ref (a 5 0), .ref (a 6 0), .ref (a 7 0), .ref (a 8 0), .ref (a 9 0), .ref (a 10 0), .int (Z 0), .int (Z 1)]))]] [hm_wSc g (a 2) ScR, hm_wSe g (a 3) SeR SeA, hm_row g (a 4 0) (a 4 1) 100 (R 1), hm_row g (a 5 0) (a 5 1) 6 (R 2), hm_row g (a 6 0) (a 6 1) 6 (R 3), hm_wLe g (a 7) LeR LeZ, hm_wBr g (a 8) BrA, hm_wSh g (a 9) ShR ShZ, hm_wSu g (a 10) SuA SuJ] (b := hm_row g (a 1 0) (a 1 1) 200 (R 0))) rfl rfl rfl ⟨rfl, rfl, Nat.le_of_ble_eq_true rfl, Nat.le_of_ble_eq_true rfl⟩ rfl hl.1 rfl (Nat.le_of_ble_eq_true rfl) dX7_clear_4 ⟨Nat.zero_le _, Nat.zero_le _⟩ (fun H locs X => ?_)
  have X := X.to (ws' := ([[(a 0 0, .inr (7, [.ref (a 1 0), .ref (a 2 0), .ref (a 3 0), .ref (a 4 0), .ref (a 5 0), .ref (a 6 0), .ref (a 7 0), .ref (a 8 0), .ref (a 9 0), .ref (a 10 0), .int (Z 0), .int (Z 1)]))], hm_row g (a 1 0) (a 1 1) 200 (R 0), hm_wSc g (a 2) ScR, hm_wSe g (a 3) SeR SeA, hm_row g (a 4 0) (a 4 1) 100 (R 1), hm_row g (a 5 0) (a 5 1) 6 (R 2), hm_row g (a 6 0) (a 6 1) 6 (R 3), hm_wLe g (a 7) LeR LeZ, hm_wBr g (a 8) BrA, hm_wSh g (a 9) ShR ShZ, hm_wSu g (a 10) SuA SuJ] : List va_W).flatten) rfl
  refine lv_istore_n (lv' := [(1, .int t1), (0, .ref (a 0 0))]) hx hb dX7_clear_7 rfl hl (by decide) rfl (fun ls hl => ?_)
  refine lv_aload_n hx hb dX7_clear_8 rfl (lv_at hl 1 rfl) ?_
  refine hm_get S X hf_X7_14 0 rfl rfl dX7_clear_9 ?_
  obtain ⟨t2, ht2, hF⟩ := hm_bd hF
  refine hm_vv (As := []) S X mw_X2_empty hw_2_34 (c_X2_empty l g (a 1 0) (a 1 1) 200 (R 0) t2 ht2) (hm_mid [[(a 0 0, .inr (7, [.ref (a 1 0), .ref (a 2 0), .ref (a 3 0), .ref (a 4 0), .ref (a 5 0), .ref (a 6 0), .ref (a 7 0), .ref (a 8 0), .ref (a 9 0), .ref (a 10 0), .int (Z 0), .int (Z 1)]))]] [hm_wSc g (a 2) ScR, hm_wSe g (a 3) SeR SeA, hm_row g (a 4 0) (a 4 1) 100 (R 1), hm_row g (a 5 0) (a 5 1) 6 (R 2), hm_row g (a 6 0) (a 6 1) 6 (R 3), hm_wLe g (a 7) LeR LeZ, hm_wBr g (a 8) BrA, hm_wSh g (a 9) ShR ShZ, hm_wSu g (a 10) SuA SuJ]) (hm_mid [[(a 0 0, .inr (7, [.ref (a 1 0), .ref (a 2 0), .ref (a 3 0), .ref (a 4 0), .ref (a 5 0), .ref (a 6 0), .ref (a 7 0), .ref (a 8 0), .ref (a 9 0), .ref (a 10 0), .int (Z 0), .int (Z 1)]))]] [hm_wSc g (a 2) ScR, hm_wSe g (a 3) SeR SeA, hm_row g (a 4 0) (a 4 1) 100 (R 1), hm_row g (a 5 0) (a 5 1) 6 (R 2), hm_row g (a 6 0) (a 6 1) 6 (R 3), hm_wLe g (a 7) LeR LeZ, hm_wBr g (a 8) BrA, hm_wSh g (a 9) ShR ShZ, hm_wSu g (a 10) SuA SuJ] (b := hm_row g (a 1 0) (a 1 1) 200 t2)) rfl rfl rfl ⟨rfl, rfl, Nat.le_of_ble_eq_true rfl, Nat.le_of_ble_eq_true rfl⟩ rfl hl.1 rfl (Nat.le_of_ble_eq_true rfl) dX7_clear_12 ⟨Nat.zero_le _, Nat.zero_le _⟩ (fun H locs X => ?_)
  have X := X.to (ws' := ([[(a 0 0, .inr (7, [.ref (a 1 0), .ref (a 2 0), .ref (a 3 0), .ref (a 4 0), .ref (a 5 0), .ref (a 6 0), .ref (a 7 0), .ref (a 8 0), .ref (a 9 0), .ref (a 10 0), .int (Z 0), .int (Z 1)]))], hm_row g (a 1 0) (a 1 1) 200 t2, hm_wSc g (a 2) ScR, hm_wSe g (a 3) SeR SeA, hm_row g (a 4 0) (a 4 1) 100 (R 1), hm_row g (a 5 0) (a 5 1) 6 (R 2), hm_row g (a 6 0) (a 6 1) 6 (R 3), hm_wLe g (a 7) LeR LeZ, hm_wBr g (a 8) BrA, hm_wSh g (a 9) ShR ShZ, hm_wSu g (a 10) SuA SuJ] : List va_W).flatten) rfl
  refine lv_iload_n hx hb dX7_clear_15 rfl (lv_at hl 0 rfl) ?_
  obtain rfl := Option.some.inj hF
  exact hm_ri S hr hlk X rfl rfl dX7_clear_16
def f_X7_words (R_0 : hm_SR) (R_1 : hm_SR) (R_2 : hm_SR) (R_3 : hm_SR) (Z_0 : Int32) (Z_1 : Int32) (ScR_0 : hm_SR) (ScR_1 : hm_SR) (ScR_2 : hm_SR) (ScR_3 : hm_SR) (ScR_4 : hm_SR) (ScR_5 : hm_SR) (ScR_6 : hm_SR) (ScR_7 : hm_SR) (ScR_8 : hm_SR) (ScR_9 : hm_SR) (SeR_0 : hm_SR) (SeR_1 : hm_SR) (SeA_0 : Nat → Int32) (SeA_2 : Nat → Int32)  : Option (Int32 × hm_SR × hm_SR × hm_SR × hm_SR × hm_SR × hm_SR × hm_SR × hm_SR × hm_SR × hm_SR × hm_SR × hm_SR × hm_SR × hm_SR × (Nat → Int32) × (Nat → Int32) × hm_SR × hm_SR × Int32 × Int32) :=
  (f_X7_faultOf 200 R_0).bind fun t1 =>
  if t1 < 0 then (
  (f_X3_read ScR_0 ScR_1 ScR_2 ScR_3 ScR_4 ScR_5 ScR_6 ScR_7 ScR_8 ScR_9 200 R_0).bind fun t2 =>
  (f_X2_empty R_0).bind fun t3 =>
  (f_X4_begin SeR_0 SeR_1 SeA_0 SeA_2).bind fun t4 =>
  (f_X2_empty R_1).bind fun t5 =>
  (f_X2_empty R_2).bind fun t6 =>
  (f_X2_empty R_3).bind fun t7 =>
  (f_X3_wordCount t2.2.1).bind fun t8 =>
  some (t8, t3, t5, t6, t7, t2.1, t2.2.1, t2.2.2.1, t2.2.2.2.1, t2.2.2.2.2.1, t2.2.2.2.2.2.1, t2.2.2.2.2.2.2.1, t2.2.2.2.2.2.2.2.1, t2.2.2.2.2.2.2.2.2.1, t2.2.2.2.2.2.2.2.2.2, t4.1, t4.2.1, t4.2.2.1, t4.2.2.2, 1, 1))
  else (
  some (((-10) - t1), R_0, R_1, R_2, R_3, ScR_0, ScR_1, ScR_2, ScR_3, ScR_4, ScR_5, ScR_6, ScR_7, ScR_8, ScR_9, SeA_0, SeA_2, SeR_0, SeR_1, Z_0, Z_1))
abbrev rm_X7_words : Room := { frames := 6, cells := 0, slots := 0, locals := 135 }
set_option maxHeartbeats 4000000 in
set_option maxRecDepth 100000 in
theorem c_X7_words (l : Launch) (g : hm_G) (a : Nat → Nat → Nat) (R : Nat → hm_SR) (Z : Nat → Int32) (ScR : Nat → hm_SR) (SeR : Nat → hm_SR) (SeA : Nat → Nat → Int32) (LeR : Nat → hm_SR) (LeZ : Nat → Int32) (BrA : Nat → Nat → Int32) (ShR : Nat → hm_SR) (ShZ : Nat → Int32) (SuA : Nat → Nat → Int32) (SuJ : Nat → Nat → Int64) (q : Int32 × hm_SR × hm_SR × hm_SR × hm_SR × hm_SR × hm_SR × hm_SR × hm_SR × hm_SR × hm_SR × hm_SR × hm_SR × hm_SR × hm_SR × (Nat → Int32) × (Nat → Int32) × hm_SR × hm_SR × Int32 × Int32) (hF : f_X7_words (R 0) (R 1) (R 2) (R 3) (Z 0) (Z 1) (ScR 0) (ScR 1) (ScR 2) (ScR 3) (ScR 4) (ScR 5) (ScR 6) (ScR 7) (ScR 8) (ScR 9) (SeR 0) (SeR 1) (SeA 0) (SeA 2) = some q) : hm_Mi l yX7_words (Cond.code yX7_words cX7_words 2 (some .int) :: hm_W) rm_X7_words g [.ref (a 0 0)] ([hm_wHM g a R Z ScR SeR SeA LeR LeZ BrA ShR ShZ SuA SuJ] : List va_W).flatten ([hm_wHM g a (hm_up (hm_up (hm_up (hm_up R 0 q.2.1) 1 q.2.2.1) 2 q.2.2.2.1) 3 q.2.2.2.2.1) (hm_up (hm_up Z 0 q.2.2.2.2.2.2.2.2.2.2.2.2.2.2.2.2.2.2.2.1) 1 q.2.2.2.2.2.2.2.2.2.2.2.2.2.2.2.2.2.2.2.2) (hm_up (hm_up (hm_up (hm_up (hm_up (hm_up (hm_up (hm_up (hm_up (hm_up ScR 0 q.2.2.2.2.2.1) 1 q.2.2.2.2.2.2.1) 2 q.2.2.2.2.2.2.2.1) 3 q.2.2.2.2.2.2.2.2.1) 4 q.2.2.2.2.2.2.2.2.2.1) 5 q.2.2.2.2.2.2.2.2.2.2.1) 6 q.2.2.2.2.2.2.2.2.2.2.2.1) 7 q.2.2.2.2.2.2.2.2.2.2.2.2.1) 8 q.2.2.2.2.2.2.2.2.2.2.2.2.2.1) 9 q.2.2.2.2.2.2.2.2.2.2.2.2.2.2.1) (hm_up (hm_up SeR 0 q.2.2.2.2.2.2.2.2.2.2.2.2.2.2.2.2.2.1) 1 q.2.2.2.2.2.2.2.2.2.2.2.2.2.2.2.2.2.2.1) (hm_up (hm_up SeA 0 q.2.2.2.2.2.2.2.2.2.2.2.2.2.2.2.1) 2 q.2.2.2.2.2.2.2.2.2.2.2.2.2.2.2.2.1) LeR LeZ BrA ShR ShZ SuA SuJ] : List va_W).flatten q.1 := by
  refine hm_ofi [(0, .ref (a 0 0))] (by decide) (own := RX7) rfl (Nat.le_of_ble_eq_true rfl) rfl rfl ?_
  intro p e s m args below meth c AA S hr hlk X ls hl
  have hx := S.1
  have hb := S.2.1
  have hown := S.2.2.2.1
  have hts := S.2.2.2.2
  have X := X.to (ws' := ([[(a 0 0, .inr (7, [.ref (a 1 0), .ref (a 2 0), .ref (a 3 0), .ref (a 4 0), .ref (a 5 0), .ref (a 6 0), .ref (a 7 0), .ref (a 8 0), .ref (a 9 0), .ref (a 10 0), .int (Z 0), .int (Z 1)]))], hm_row g (a 1 0) (a 1 1) 200 (R 0), hm_wSc g (a 2) ScR, hm_wSe g (a 3) SeR SeA, hm_row g (a 4 0) (a 4 1) 100 (R 1), hm_row g (a 5 0) (a 5 1) 6 (R 2), hm_row g (a 6 0) (a 6 1) 6 (R 3), hm_wLe g (a 7) LeR LeZ, hm_wBr g (a 8) BrA, hm_wSh g (a 9) ShR ShZ, hm_wSu g (a 10) SuA SuJ] : List va_W).flatten) rfl
  unfold f_X7_words at hF
  refine lv_aload_n hx hb dX7_words_0 rfl (lv_at hl 0 rfl) ?_
  refine hm_get S X hf_X7_14 0 rfl rfl dX7_words_1 ?_
  obtain ⟨t1, ht1, hF⟩ := hm_bd hF
  refine hm_si S X mw_X7_faultOf hw_2_39 (c_X7_faultOf l g (a 1 0) (a 1 1) 200 (R 0) t1 ht1) (hm_mid [[(a 0 0, .inr (7, [.ref (a 1 0), .ref (a 2 0), .ref (a 3 0), .ref (a 4 0), .ref (a 5 0), .ref (a 6 0), .ref (a 7 0), .ref (a 8 0), .ref (a 9 0), .ref (a 10 0), .int (Z 0), .int (Z 1)]))]] [hm_wSc g (a 2) ScR, hm_wSe g (a 3) SeR SeA, hm_row g (a 4 0) (a 4 1) 100 (R 1), hm_row g (a 5 0) (a 5 1) 6 (R 2), hm_row g (a 6 0) (a 6 1) 6 (R 3), hm_wLe g (a 7) LeR LeZ, hm_wBr g (a 8) BrA, hm_wSh g (a 9) ShR ShZ, hm_wSu g (a 10) SuA SuJ]) (hm_mid [[(a 0 0, .inr (7, [.ref (a 1 0), .ref (a 2 0), .ref (a 3 0), .ref (a 4 0), .ref (a 5 0), .ref (a 6 0), .ref (a 7 0), .ref (a 8 0), .ref (a 9 0), .ref (a 10 0), .int (Z 0), .int (Z 1)]))]] [hm_wSc g (a 2) ScR, hm_wSe g (a 3) SeR SeA, hm_row g (a 4 0) (a 4 1) 100 (R 1), hm_row g (a 5 0) (a 5 1) 6 (R 2), hm_row g (a 6 0) (a 6 1) 6 (R 3), hm_wLe g (a 7) LeR LeZ, hm_wBr g (a 8) BrA, hm_wSh g (a 9) ShR ShZ, hm_wSu g (a 10) SuA SuJ] (b := hm_row g (a 1 0) (a 1 1) 200 (R 0))) ⟨rfl, rfl, Nat.le_of_ble_eq_true rfl, Nat.le_of_ble_eq_true rfl⟩ rfl hl.1 rfl (Nat.le_of_ble_eq_true rfl) dX7_words_4 ⟨Nat.zero_le _, Nat.zero_le _⟩ (fun H locs X => ?_)
  have X := X.to (ws' := ([[(a 0 0, .inr (7, [.ref (a 1 0), .ref (a 2 0), .ref (a 3 0), .ref (a 4 0), .ref (a 5 0), .ref (a 6 0), .ref (a 7 0), .ref (a 8 0), .ref (a 9 0), .ref (a 10 0), .int (Z 0), .int (Z 1)]))], hm_row g (a 1 0) (a 1 1) 200 (R 0), hm_wSc g (a 2) ScR, hm_wSe g (a 3) SeR SeA, hm_row g (a 4 0) (a 4 1) 100 (R 1), hm_row g (a 5 0) (a 5 1) 6 (R 2), hm_row g (a 6 0) (a 6 1) 6 (R 3), hm_wLe g (a 7) LeR LeZ, hm_wBr g (a 8) BrA, hm_wSh g (a 9) ShR ShZ, hm_wSu g (a 10) SuA SuJ] : List va_W).flatten) rfl
  refine lv_istore_n (lv' := [(1, .int t1), (0, .ref (a 0 0))]) hx hb dX7_words_7 rfl hl (by decide) rfl (fun ls hl => ?_)
  refine lv_iload_n hx hb dX7_words_8 rfl (lv_at hl 0 rfl) ?_
  refine lv_if_lt (tgt := 17) hx hb dX7_words_9 (by decide) (fun c9 => ?_) (fun c9 => ?_)
  · have hF := hm_if hF c9
    refine lv_aload_n hx hb dX7_words_17 rfl (lv_at hl 1 rfl) ?_
    refine hm_get S X hf_X7_21 0 rfl rfl dX7_words_18 ?_
    refine lv_aload_n hx hb dX7_words_21 rfl (lv_at hl 1 rfl) ?_
    refine hm_get S X hf_X7_14 0 rfl rfl dX7_words_22 ?_
    obtain ⟨t2, ht2, hF⟩ := hm_bd hF
    refine hm_vv (As := [.ref (a 1 0)]) S X mw_X3_read hw_2_61 (c_X3_read l g (a 2) ScR (a 1 0) (a 1 1) 200 (R 0) t2 ht2) (hm_cq (n := 11) [2, 1] [0, 3, 4, 5, 6, 7, 8, 9, 10] rfl (by decide +kernel) rfl rfl) (hm_cq (bs := [[(a 0 0, .inr (7, [.ref (a 1 0), .ref (a 2 0), .ref (a 3 0), .ref (a 4 0), .ref (a 5 0), .ref (a 6 0), .ref (a 7 0), .ref (a 8 0), .ref (a 9 0), .ref (a 10 0), .int (Z 0), .int (Z 1)]))], hm_row g (a 1 0) (a 1 1) 200 (R 0), hm_wSc g (a 2) (hm_up (hm_up (hm_up (hm_up (hm_up (hm_up (hm_up (hm_up (hm_up (hm_up ScR 0 t2.1) 1 t2.2.1) 2 t2.2.2.1) 3 t2.2.2.2.1) 4 t2.2.2.2.2.1) 5 t2.2.2.2.2.2.1) 6 t2.2.2.2.2.2.2.1) 7 t2.2.2.2.2.2.2.2.1) 8 t2.2.2.2.2.2.2.2.2.1) 9 t2.2.2.2.2.2.2.2.2.2), hm_wSe g (a 3) SeR SeA, hm_row g (a 4 0) (a 4 1) 100 (R 1), hm_row g (a 5 0) (a 5 1) 6 (R 2), hm_row g (a 6 0) (a 6 1) 6 (R 3), hm_wLe g (a 7) LeR LeZ, hm_wBr g (a 8) BrA, hm_wSh g (a 9) ShR ShZ, hm_wSu g (a 10) SuA SuJ]) (n := 11) [2, 1] [0, 3, 4, 5, 6, 7, 8, 9, 10] rfl (by decide +kernel) rfl rfl) rfl rfl rfl ⟨rfl, rfl, Nat.le_of_ble_eq_true rfl, Nat.le_of_ble_eq_true rfl⟩ rfl hl.1 rfl (Nat.le_of_ble_eq_true rfl) dX7_words_25 ⟨Nat.zero_le _, Nat.zero_le _⟩ (fun H locs X => ?_)
    have X := X.to (ws' := ([[(a 0 0, .inr (7, [.ref (a 1 0), .ref (a 2 0), .ref (a 3 0), .ref (a 4 0), .ref (a 5 0), .ref (a 6 0), .ref (a 7 0), .ref (a 8 0), .ref (a 9 0), .ref (a 10 0), .int (Z 0), .int (Z 1)]))], hm_row g (a 1 0) (a 1 1) 200 (R 0), hm_wSc g (a 2) (hm_up (hm_up (hm_up (hm_up (hm_up (hm_up (hm_up (hm_up (hm_up (hm_up ScR 0 t2.1) 1 t2.2.1) 2 t2.2.2.1) 3 t2.2.2.2.1) 4 t2.2.2.2.2.1) 5 t2.2.2.2.2.2.1) 6 t2.2.2.2.2.2.2.1) 7 t2.2.2.2.2.2.2.2.1) 8 t2.2.2.2.2.2.2.2.2.1) 9 t2.2.2.2.2.2.2.2.2.2), hm_wSe g (a 3) SeR SeA, hm_row g (a 4 0) (a 4 1) 100 (R 1), hm_row g (a 5 0) (a 5 1) 6 (R 2), hm_row g (a 6 0) (a 6 1) 6 (R 3), hm_wLe g (a 7) LeR LeZ, hm_wBr g (a 8) BrA, hm_wSh g (a 9) ShR ShZ, hm_wSu g (a 10) SuA SuJ] : List va_W).flatten) rfl
    refine lv_aload_n hx hb dX7_words_28 rfl (lv_at hl 1 rfl) ?_
    refine hm_get S X hf_X7_14 0 rfl rfl dX7_words_29 ?_
    obtain ⟨t3, ht3, hF⟩ := hm_bd hF
    refine hm_vv (As := []) S X mw_X2_empty hw_2_34 (c_X2_empty l g (a 1 0) (a 1 1) 200 (R 0) t3 ht3) (hm_mid [[(a 0 0, .inr (7, [.ref (a 1 0), .ref (a 2 0), .ref (a 3 0), .ref (a 4 0), .ref (a 5 0), .ref (a 6 0), .ref (a 7 0), .ref (a 8 0), .ref (a 9 0), .ref (a 10 0), .int (Z 0), .int (Z 1)]))]] [hm_wSc g (a 2) (hm_up (hm_up (hm_up (hm_up (hm_up (hm_up (hm_up (hm_up (hm_up (hm_up ScR 0 t2.1) 1 t2.2.1) 2 t2.2.2.1) 3 t2.2.2.2.1) 4 t2.2.2.2.2.1) 5 t2.2.2.2.2.2.1) 6 t2.2.2.2.2.2.2.1) 7 t2.2.2.2.2.2.2.2.1) 8 t2.2.2.2.2.2.2.2.2.1) 9 t2.2.2.2.2.2.2.2.2.2), hm_wSe g (a 3) SeR SeA, hm_row g (a 4 0) (a 4 1) 100 (R 1), hm_row g (a 5 0) (a 5 1) 6 (R 2), hm_row g (a 6 0) (a 6 1) 6 (R 3), hm_wLe g (a 7) LeR LeZ, hm_wBr g (a 8) BrA, hm_wSh g (a 9) ShR ShZ, hm_wSu g (a 10) SuA SuJ]) (hm_mid [[(a 0 0, .inr (7, [.ref (a 1 0), .ref (a 2 0), .ref (a 3 0), .ref (a 4 0), .ref (a 5 0), .ref (a 6 0), .ref (a 7 0), .ref (a 8 0), .ref (a 9 0), .ref (a 10 0), .int (Z 0), .int (Z 1)]))]] [hm_wSc g (a 2) (hm_up (hm_up (hm_up (hm_up (hm_up (hm_up (hm_up (hm_up (hm_up (hm_up ScR 0 t2.1) 1 t2.2.1) 2 t2.2.2.1) 3 t2.2.2.2.1) 4 t2.2.2.2.2.1) 5 t2.2.2.2.2.2.1) 6 t2.2.2.2.2.2.2.1) 7 t2.2.2.2.2.2.2.2.1) 8 t2.2.2.2.2.2.2.2.2.1) 9 t2.2.2.2.2.2.2.2.2.2), hm_wSe g (a 3) SeR SeA, hm_row g (a 4 0) (a 4 1) 100 (R 1), hm_row g (a 5 0) (a 5 1) 6 (R 2), hm_row g (a 6 0) (a 6 1) 6 (R 3), hm_wLe g (a 7) LeR LeZ, hm_wBr g (a 8) BrA, hm_wSh g (a 9) ShR ShZ, hm_wSu g (a 10) SuA SuJ] (b := hm_row g (a 1 0) (a 1 1) 200 t3)) rfl rfl rfl ⟨rfl, rfl, Nat.le_of_ble_eq_true rfl, Nat.le_of_ble_eq_true rfl⟩ rfl hl.1 rfl (Nat.le_of_ble_eq_true rfl) dX7_words_32 ⟨Nat.zero_le _, Nat.zero_le _⟩ (fun H locs X => ?_)
    have X := X.to (ws' := ([[(a 0 0, .inr (7, [.ref (a 1 0), .ref (a 2 0), .ref (a 3 0), .ref (a 4 0), .ref (a 5 0), .ref (a 6 0), .ref (a 7 0), .ref (a 8 0), .ref (a 9 0), .ref (a 10 0), .int (Z 0), .int (Z 1)]))], hm_row g (a 1 0) (a 1 1) 200 t3, hm_wSc g (a 2) (hm_up (hm_up (hm_up (hm_up (hm_up (hm_up (hm_up (hm_up (hm_up (hm_up ScR 0 t2.1) 1 t2.2.1) 2 t2.2.2.1) 3 t2.2.2.2.1) 4 t2.2.2.2.2.1) 5 t2.2.2.2.2.2.1) 6 t2.2.2.2.2.2.2.1) 7 t2.2.2.2.2.2.2.2.1) 8 t2.2.2.2.2.2.2.2.2.1) 9 t2.2.2.2.2.2.2.2.2.2), hm_wSe g (a 3) SeR SeA, hm_row g (a 4 0) (a 4 1) 100 (R 1), hm_row g (a 5 0) (a 5 1) 6 (R 2), hm_row g (a 6 0) (a 6 1) 6 (R 3), hm_wLe g (a 7) LeR LeZ, hm_wBr g (a 8) BrA, hm_wSh g (a 9) ShR ShZ, hm_wSu g (a 10) SuA SuJ] : List va_W).flatten) rfl
    refine lv_aload_n hx hb dX7_words_35 rfl (lv_at hl 1 rfl) ?_
    refine hm_get S X hf_X7_28 0 rfl rfl dX7_words_36 ?_
    obtain ⟨t4, ht4, hF⟩ := hm_bd hF
    refine hm_vv (As := []) S X mw_X4_begin hw_2_100 (c_X4_begin l g (a 3) SeR SeA t4 ht4) (hm_mid [[(a 0 0, .inr (7, [.ref (a 1 0), .ref (a 2 0), .ref (a 3 0), .ref (a 4 0), .ref (a 5 0), .ref (a 6 0), .ref (a 7 0), .ref (a 8 0), .ref (a 9 0), .ref (a 10 0), .int (Z 0), .int (Z 1)]))], hm_row g (a 1 0) (a 1 1) 200 t3, hm_wSc g (a 2) (hm_up (hm_up (hm_up (hm_up (hm_up (hm_up (hm_up (hm_up (hm_up (hm_up ScR 0 t2.1) 1 t2.2.1) 2 t2.2.2.1) 3 t2.2.2.2.1) 4 t2.2.2.2.2.1) 5 t2.2.2.2.2.2.1) 6 t2.2.2.2.2.2.2.1) 7 t2.2.2.2.2.2.2.2.1) 8 t2.2.2.2.2.2.2.2.2.1) 9 t2.2.2.2.2.2.2.2.2.2)] [hm_row g (a 4 0) (a 4 1) 100 (R 1), hm_row g (a 5 0) (a 5 1) 6 (R 2), hm_row g (a 6 0) (a 6 1) 6 (R 3), hm_wLe g (a 7) LeR LeZ, hm_wBr g (a 8) BrA, hm_wSh g (a 9) ShR ShZ, hm_wSu g (a 10) SuA SuJ]) (hm_mid [[(a 0 0, .inr (7, [.ref (a 1 0), .ref (a 2 0), .ref (a 3 0), .ref (a 4 0), .ref (a 5 0), .ref (a 6 0), .ref (a 7 0), .ref (a 8 0), .ref (a 9 0), .ref (a 10 0), .int (Z 0), .int (Z 1)]))], hm_row g (a 1 0) (a 1 1) 200 t3, hm_wSc g (a 2) (hm_up (hm_up (hm_up (hm_up (hm_up (hm_up (hm_up (hm_up (hm_up (hm_up ScR 0 t2.1) 1 t2.2.1) 2 t2.2.2.1) 3 t2.2.2.2.1) 4 t2.2.2.2.2.1) 5 t2.2.2.2.2.2.1) 6 t2.2.2.2.2.2.2.1) 7 t2.2.2.2.2.2.2.2.1) 8 t2.2.2.2.2.2.2.2.2.1) 9 t2.2.2.2.2.2.2.2.2.2)] [hm_row g (a 4 0) (a 4 1) 100 (R 1), hm_row g (a 5 0) (a 5 1) 6 (R 2), hm_row g (a 6 0) (a 6 1) 6 (R 3), hm_wLe g (a 7) LeR LeZ, hm_wBr g (a 8) BrA, hm_wSh g (a 9) ShR ShZ, hm_wSu g (a 10) SuA SuJ] (b := hm_wSe g (a 3) (hm_up (hm_up SeR 0 t4.2.2.1) 1 t4.2.2.2) (hm_up (hm_up SeA 0 t4.1) 2 t4.2.1))) rfl rfl rfl ⟨rfl, rfl, Nat.le_of_ble_eq_true rfl, Nat.le_of_ble_eq_true rfl⟩ rfl hl.1 rfl (Nat.le_of_ble_eq_true rfl) dX7_words_39 ⟨Nat.zero_le _, Nat.zero_le _⟩ (fun H locs X => ?_)
    have X := X.to (ws' := ([[(a 0 0, .inr (7, [.ref (a 1 0), .ref (a 2 0), .ref (a 3 0), .ref (a 4 0), .ref (a 5 0), .ref (a 6 0), .ref (a 7 0), .ref (a 8 0), .ref (a 9 0), .ref (a 10 0), .int (Z 0), .int (Z 1)]))], hm_row g (a 1 0) (a 1 1) 200 t3, hm_wSc g (a 2) (hm_up (hm_up (hm_up (hm_up (hm_up (hm_up (hm_up (hm_up (hm_up (hm_up ScR 0 t2.1) 1 t2.2.1) 2 t2.2.2.1) 3 t2.2.2.2.1) 4 t2.2.2.2.2.1) 5 t2.2.2.2.2.2.1) 6 t2.2.2.2.2.2.2.1) 7 t2.2.2.2.2.2.2.2.1) 8 t2.2.2.2.2.2.2.2.2.1) 9 t2.2.2.2.2.2.2.2.2.2), hm_wSe g (a 3) (hm_up (hm_up SeR 0 t4.2.2.1) 1 t4.2.2.2) (hm_up (hm_up SeA 0 t4.1) 2 t4.2.1), hm_row g (a 4 0) (a 4 1) 100 (R 1), hm_row g (a 5 0) (a 5 1) 6 (R 2), hm_row g (a 6 0) (a 6 1) 6 (R 3), hm_wLe g (a 7) LeR LeZ, hm_wBr g (a 8) BrA, hm_wSh g (a 9) ShR ShZ, hm_wSu g (a 10) SuA SuJ] : List va_W).flatten) rfl
    refine lv_aload_n hx hb dX7_words_42 rfl (lv_at hl 1 rfl) ?_
    refine hm_get S X hf_X7_32 0 rfl rfl dX7_words_43 ?_
    obtain ⟨t5, ht5, hF⟩ := hm_bd hF
    refine hm_vv (As := []) S X mw_X2_empty hw_2_34 (c_X2_empty l g (a 4 0) (a 4 1) 100 (R 1) t5 ht5) (hm_mid [[(a 0 0, .inr (7, [.ref (a 1 0), .ref (a 2 0), .ref (a 3 0), .ref (a 4 0), .ref (a 5 0), .ref (a 6 0), .ref (a 7 0), .ref (a 8 0), .ref (a 9 0), .ref (a 10 0), .int (Z 0), .int (Z 1)]))], hm_row g (a 1 0) (a 1 1) 200 t3, hm_wSc g (a 2) (hm_up (hm_up (hm_up (hm_up (hm_up (hm_up (hm_up (hm_up (hm_up (hm_up ScR 0 t2.1) 1 t2.2.1) 2 t2.2.2.1) 3 t2.2.2.2.1) 4 t2.2.2.2.2.1) 5 t2.2.2.2.2.2.1) 6 t2.2.2.2.2.2.2.1) 7 t2.2.2.2.2.2.2.2.1) 8 t2.2.2.2.2.2.2.2.2.1) 9 t2.2.2.2.2.2.2.2.2.2), hm_wSe g (a 3) (hm_up (hm_up SeR 0 t4.2.2.1) 1 t4.2.2.2) (hm_up (hm_up SeA 0 t4.1) 2 t4.2.1)] [hm_row g (a 5 0) (a 5 1) 6 (R 2), hm_row g (a 6 0) (a 6 1) 6 (R 3), hm_wLe g (a 7) LeR LeZ, hm_wBr g (a 8) BrA, hm_wSh g (a 9) ShR ShZ, hm_wSu g (a 10) SuA SuJ]) (hm_mid [[(a 0 0, .inr (7, [.ref (a 1 0), .ref (a 2 0), .ref (a 3 0), .ref (a 4 0), .ref (a 5 0), .ref (a 6 0), .ref (a 7 0), .ref (a 8 0), .ref (a 9 0), .ref (a 10 0), .int (Z 0), .int (Z 1)]))], hm_row g (a 1 0) (a 1 1) 200 t3, hm_wSc g (a 2) (hm_up (hm_up (hm_up (hm_up (hm_up (hm_up (hm_up (hm_up (hm_up (hm_up ScR 0 t2.1) 1 t2.2.1) 2 t2.2.2.1) 3 t2.2.2.2.1) 4 t2.2.2.2.2.1) 5 t2.2.2.2.2.2.1) 6 t2.2.2.2.2.2.2.1) 7 t2.2.2.2.2.2.2.2.1) 8 t2.2.2.2.2.2.2.2.2.1) 9 t2.2.2.2.2.2.2.2.2.2), hm_wSe g (a 3) (hm_up (hm_up SeR 0 t4.2.2.1) 1 t4.2.2.2) (hm_up (hm_up SeA 0 t4.1) 2 t4.2.1)] [hm_row g (a 5 0) (a 5 1) 6 (R 2), hm_row g (a 6 0) (a 6 1) 6 (R 3), hm_wLe g (a 7) LeR LeZ, hm_wBr g (a 8) BrA, hm_wSh g (a 9) ShR ShZ, hm_wSu g (a 10) SuA SuJ] (b := hm_row g (a 4 0) (a 4 1) 100 t5)) rfl rfl rfl ⟨rfl, rfl, Nat.le_of_ble_eq_true rfl, Nat.le_of_ble_eq_true rfl⟩ rfl hl.1 rfl (Nat.le_of_ble_eq_true rfl) dX7_words_46 ⟨Nat.zero_le _, Nat.zero_le _⟩ (fun H locs X => ?_)
    have X := X.to (ws' := ([[(a 0 0, .inr (7, [.ref (a 1 0), .ref (a 2 0), .ref (a 3 0), .ref (a 4 0), .ref (a 5 0), .ref (a 6 0), .ref (a 7 0), .ref (a 8 0), .ref (a 9 0), .ref (a 10 0), .int (Z 0), .int (Z 1)]))], hm_row g (a 1 0) (a 1 1) 200 t3, hm_wSc g (a 2) (hm_up (hm_up (hm_up (hm_up (hm_up (hm_up (hm_up (hm_up (hm_up (hm_up ScR 0 t2.1) 1 t2.2.1) 2 t2.2.2.1) 3 t2.2.2.2.1) 4 t2.2.2.2.2.1) 5 t2.2.2.2.2.2.1) 6 t2.2.2.2.2.2.2.1) 7 t2.2.2.2.2.2.2.2.1) 8 t2.2.2.2.2.2.2.2.2.1) 9 t2.2.2.2.2.2.2.2.2.2), hm_wSe g (a 3) (hm_up (hm_up SeR 0 t4.2.2.1) 1 t4.2.2.2) (hm_up (hm_up SeA 0 t4.1) 2 t4.2.1), hm_row g (a 4 0) (a 4 1) 100 t5, hm_row g (a 5 0) (a 5 1) 6 (R 2), hm_row g (a 6 0) (a 6 1) 6 (R 3), hm_wLe g (a 7) LeR LeZ, hm_wBr g (a 8) BrA, hm_wSh g (a 9) ShR ShZ, hm_wSu g (a 10) SuA SuJ] : List va_W).flatten) rfl
    refine lv_aload_n hx hb dX7_words_49 rfl (lv_at hl 1 rfl) ?_
    refine hm_get S X hf_X7_35 0 rfl rfl dX7_words_50 ?_
    obtain ⟨t6, ht6, hF⟩ := hm_bd hF
    refine hm_vv (As := []) S X mw_X2_empty hw_2_34 (c_X2_empty l g (a 5 0) (a 5 1) 6 (R 2) t6 ht6) (hm_mid [[(a 0 0, .inr (7, [.ref (a 1 0), .ref (a 2 0), .ref (a 3 0), .ref (a 4 0), .ref (a 5 0), .ref (a 6 0), .ref (a 7 0), .ref (a 8 0), .ref (a 9 0), .ref (a 10 0), .int (Z 0), .int (Z 1)]))], hm_row g (a 1 0) (a 1 1) 200 t3, hm_wSc g (a 2) (hm_up (hm_up (hm_up (hm_up (hm_up (hm_up (hm_up (hm_up (hm_up (hm_up ScR 0 t2.1) 1 t2.2.1) 2 t2.2.2.1) 3 t2.2.2.2.1) 4 t2.2.2.2.2.1) 5 t2.2.2.2.2.2.1) 6 t2.2.2.2.2.2.2.1) 7 t2.2.2.2.2.2.2.2.1) 8 t2.2.2.2.2.2.2.2.2.1) 9 t2.2.2.2.2.2.2.2.2.2), hm_wSe g (a 3) (hm_up (hm_up SeR 0 t4.2.2.1) 1 t4.2.2.2) (hm_up (hm_up SeA 0 t4.1) 2 t4.2.1), hm_row g (a 4 0) (a 4 1) 100 t5] [hm_row g (a 6 0) (a 6 1) 6 (R 3), hm_wLe g (a 7) LeR LeZ, hm_wBr g (a 8) BrA, hm_wSh g (a 9) ShR ShZ, hm_wSu g (a 10) SuA SuJ]) (hm_mid [[(a 0 0, .inr (7, [.ref (a 1 0), .ref (a 2 0), .ref (a 3 0), .ref (a 4 0), .ref (a 5 0), .ref (a 6 0), .ref (a 7 0), .ref (a 8 0), .ref (a 9 0), .ref (a 10 0), .int (Z 0), .int (Z 1)]))], hm_row g (a 1 0) (a 1 1) 200 t3, hm_wSc g (a 2) (hm_up (hm_up (hm_up (hm_up (hm_up (hm_up (hm_up (hm_up (hm_up (hm_up ScR 0 t2.1) 1 t2.2.1) 2 t2.2.2.1) 3 t2.2.2.2.1) 4 t2.2.2.2.2.1) 5 t2.2.2.2.2.2.1) 6 t2.2.2.2.2.2.2.1) 7 t2.2.2.2.2.2.2.2.1) 8 t2.2.2.2.2.2.2.2.2.1) 9 t2.2.2.2.2.2.2.2.2.2), hm_wSe g (a 3) (hm_up (hm_up SeR 0 t4.2.2.1) 1 t4.2.2.2) (hm_up (hm_up SeA 0 t4.1) 2 t4.2.1), hm_row g (a 4 0) (a 4 1) 100 t5] [hm_row g (a 6 0) (a 6 1) 6 (R 3), hm_wLe g (a 7) LeR LeZ, hm_wBr g (a 8) BrA, hm_wSh g (a 9) ShR ShZ, hm_wSu g (a 10) SuA SuJ] (b := hm_row g (a 5 0) (a 5 1) 6 t6)) rfl rfl rfl ⟨rfl, rfl, Nat.le_of_ble_eq_true rfl, Nat.le_of_ble_eq_true rfl⟩ rfl hl.1 rfl (Nat.le_of_ble_eq_true rfl) dX7_words_53 ⟨Nat.zero_le _, Nat.zero_le _⟩ (fun H locs X => ?_)
    have X := X.to (ws' := ([[(a 0 0, .inr (7, [.ref (a 1 0), .ref (a 2 0), .ref (a 3 0), .ref (a 4 0), .ref (a 5 0), .ref (a 6 0), .ref (a 7 0), .ref (a 8 0), .ref (a 9 0), .ref (a 10 0), .int (Z 0), .int (Z 1)]))], hm_row g (a 1 0) (a 1 1) 200 t3, hm_wSc g (a 2) (hm_up (hm_up (hm_up (hm_up (hm_up (hm_up (hm_up (hm_up (hm_up (hm_up ScR 0 t2.1) 1 t2.2.1) 2 t2.2.2.1) 3 t2.2.2.2.1) 4 t2.2.2.2.2.1) 5 t2.2.2.2.2.2.1) 6 t2.2.2.2.2.2.2.1) 7 t2.2.2.2.2.2.2.2.1) 8 t2.2.2.2.2.2.2.2.2.1) 9 t2.2.2.2.2.2.2.2.2.2), hm_wSe g (a 3) (hm_up (hm_up SeR 0 t4.2.2.1) 1 t4.2.2.2) (hm_up (hm_up SeA 0 t4.1) 2 t4.2.1), hm_row g (a 4 0) (a 4 1) 100 t5, hm_row g (a 5 0) (a 5 1) 6 t6, hm_row g (a 6 0) (a 6 1) 6 (R 3), hm_wLe g (a 7) LeR LeZ, hm_wBr g (a 8) BrA, hm_wSh g (a 9) ShR ShZ, hm_wSu g (a 10) SuA SuJ] : List va_W).flatten) rfl
    refine lv_aload_n hx hb dX7_words_56 rfl (lv_at hl 1 rfl) ?_
    refine hm_get S X hf_X7_38 0 rfl rfl dX7_words_57 ?_
    obtain ⟨t7, ht7, hF⟩ := hm_bd hF
    refine hm_vv (As := []) S X mw_X2_empty hw_2_34 (c_X2_empty l g (a 6 0) (a 6 1) 6 (R 3) t7 ht7) (hm_mid [[(a 0 0, .inr (7, [.ref (a 1 0), .ref (a 2 0), .ref (a 3 0), .ref (a 4 0), .ref (a 5 0), .ref (a 6 0), .ref (a 7 0), .ref (a 8 0), .ref (a 9 0), .ref (a 10 0), .int (Z 0), .int (Z 1)]))], hm_row g (a 1 0) (a 1 1) 200 t3, hm_wSc g (a 2) (hm_up (hm_up (hm_up (hm_up (hm_up (hm_up (hm_up (hm_up (hm_up (hm_up ScR 0 t2.1) 1 t2.2.1) 2 t2.2.2.1) 3 t2.2.2.2.1) 4 t2.2.2.2.2.1) 5 t2.2.2.2.2.2.1) 6 t2.2.2.2.2.2.2.1) 7 t2.2.2.2.2.2.2.2.1) 8 t2.2.2.2.2.2.2.2.2.1) 9 t2.2.2.2.2.2.2.2.2.2), hm_wSe g (a 3) (hm_up (hm_up SeR 0 t4.2.2.1) 1 t4.2.2.2) (hm_up (hm_up SeA 0 t4.1) 2 t4.2.1), hm_row g (a 4 0) (a 4 1) 100 t5, hm_row g (a 5 0) (a 5 1) 6 t6] [hm_wLe g (a 7) LeR LeZ, hm_wBr g (a 8) BrA, hm_wSh g (a 9) ShR ShZ, hm_wSu g (a 10) SuA SuJ]) (hm_mid [[(a 0 0, .inr (7, [.ref (a 1 0), .ref (a 2 0), .ref (a 3 0), .ref (a 4 0), .ref (a 5 0), .ref (a 6 0), .ref (a 7 0), .ref (a 8 0), .ref (a 9 0), .ref (a 10 0), .int (Z 0), .int (Z 1)]))], hm_row g (a 1 0) (a 1 1) 200 t3, hm_wSc g (a 2) (hm_up (hm_up (hm_up (hm_up (hm_up (hm_up (hm_up (hm_up (hm_up (hm_up ScR 0 t2.1) 1 t2.2.1) 2 t2.2.2.1) 3 t2.2.2.2.1) 4 t2.2.2.2.2.1) 5 t2.2.2.2.2.2.1) 6 t2.2.2.2.2.2.2.1) 7 t2.2.2.2.2.2.2.2.1) 8 t2.2.2.2.2.2.2.2.2.1) 9 t2.2.2.2.2.2.2.2.2.2), hm_wSe g (a 3) (hm_up (hm_up SeR 0 t4.2.2.1) 1 t4.2.2.2) (hm_up (hm_up SeA 0 t4.1) 2 t4.2.1), hm_row g (a 4 0) (a 4 1) 100 t5, hm_row g (a 5 0) (a 5 1) 6 t6] [hm_wLe g (a 7) LeR LeZ, hm_wBr g (a 8) BrA, hm_wSh g (a 9) ShR ShZ, hm_wSu g (a 10) SuA SuJ] (b := hm_row g (a 6 0) (a 6 1) 6 t7)) rfl rfl rfl ⟨rfl, rfl, Nat.le_of_ble_eq_true rfl, Nat.le_of_ble_eq_true rfl⟩ rfl hl.1 rfl (Nat.le_of_ble_eq_true rfl) dX7_words_60 ⟨Nat.zero_le _, Nat.zero_le _⟩ (fun H locs X => ?_)
    have X := X.to (ws' := ([[(a 0 0, .inr (7, [.ref (a 1 0), .ref (a 2 0), .ref (a 3 0), .ref (a 4 0), .ref (a 5 0), .ref (a 6 0), .ref (a 7 0), .ref (a 8 0), .ref (a 9 0), .ref (a 10 0), .int (Z 0), .int (Z 1)]))], hm_row g (a 1 0) (a 1 1) 200 t3, hm_wSc g (a 2) (hm_up (hm_up (hm_up (hm_up (hm_up (hm_up (hm_up (hm_up (hm_up (hm_up ScR 0 t2.1) 1 t2.2.1) 2 t2.2.2.1) 3 t2.2.2.2.1) 4 t2.2.2.2.2.1) 5 t2.2.2.2.2.2.1) 6 t2.2.2.2.2.2.2.1) 7 t2.2.2.2.2.2.2.2.1) 8 t2.2.2.2.2.2.2.2.2.1) 9 t2.2.2.2.2.2.2.2.2.2), hm_wSe g (a 3) (hm_up (hm_up SeR 0 t4.2.2.1) 1 t4.2.2.2) (hm_up (hm_up SeA 0 t4.1) 2 t4.2.1), hm_row g (a 4 0) (a 4 1) 100 t5, hm_row g (a 5 0) (a 5 1) 6 t6, hm_row g (a 6 0) (a 6 1) 6 t7, hm_wLe g (a 7) LeR LeZ, hm_wBr g (a 8) BrA, hm_wSh g (a 9) ShR ShZ, hm_wSu g (a 10) SuA SuJ] : List va_W).flatten) rfl
    refine lv_aload_n hx hb dX7_words_63 rfl (lv_at hl 1 rfl) ?_
    refine lv_iconst (v := 1) hx hb dX7_words_64 (by decide) ?_
    refine hm_put S X hf_X7_69 hg_X7_sheetStale 0 rfl (hm_nb (Or.inr rfl)) (hm_fb (Or.inr rfl)) (Nat.le_of_ble_eq_true rfl) dX7_words_65 (fun H locs X => ?_)
    have X := X.to (ws' := ([[(a 0 0, .inr (7, [.ref (a 1 0), .ref (a 2 0), .ref (a 3 0), .ref (a 4 0), .ref (a 5 0), .ref (a 6 0), .ref (a 7 0), .ref (a 8 0), .ref (a 9 0), .ref (a 10 0), .int 1, .int (Z 1)]))], hm_row g (a 1 0) (a 1 1) 200 t3, hm_wSc g (a 2) (hm_up (hm_up (hm_up (hm_up (hm_up (hm_up (hm_up (hm_up (hm_up (hm_up ScR 0 t2.1) 1 t2.2.1) 2 t2.2.2.1) 3 t2.2.2.2.1) 4 t2.2.2.2.2.1) 5 t2.2.2.2.2.2.1) 6 t2.2.2.2.2.2.2.1) 7 t2.2.2.2.2.2.2.2.1) 8 t2.2.2.2.2.2.2.2.2.1) 9 t2.2.2.2.2.2.2.2.2.2), hm_wSe g (a 3) (hm_up (hm_up SeR 0 t4.2.2.1) 1 t4.2.2.2) (hm_up (hm_up SeA 0 t4.1) 2 t4.2.1), hm_row g (a 4 0) (a 4 1) 100 t5, hm_row g (a 5 0) (a 5 1) 6 t6, hm_row g (a 6 0) (a 6 1) 6 t7, hm_wLe g (a 7) LeR LeZ, hm_wBr g (a 8) BrA, hm_wSh g (a 9) ShR ShZ, hm_wSu g (a 10) SuA SuJ] : List va_W).flatten) rfl
    refine lv_aload_n hx hb dX7_words_68 rfl (lv_at hl 1 rfl) ?_
    refine lv_iconst (v := 1) hx hb dX7_words_69 (by decide) ?_
    refine hm_put S X hf_X7_73 hg_X7_surveyStale 0 rfl (hm_nb (Or.inr rfl)) (hm_fb (Or.inr rfl)) (Nat.le_of_ble_eq_true rfl) dX7_words_70 (fun H locs X => ?_)
    have X := X.to (ws' := ([[(a 0 0, .inr (7, [.ref (a 1 0), .ref (a 2 0), .ref (a 3 0), .ref (a 4 0), .ref (a 5 0), .ref (a 6 0), .ref (a 7 0), .ref (a 8 0), .ref (a 9 0), .ref (a 10 0), .int 1, .int 1]))], hm_row g (a 1 0) (a 1 1) 200 t3, hm_wSc g (a 2) (hm_up (hm_up (hm_up (hm_up (hm_up (hm_up (hm_up (hm_up (hm_up (hm_up ScR 0 t2.1) 1 t2.2.1) 2 t2.2.2.1) 3 t2.2.2.2.1) 4 t2.2.2.2.2.1) 5 t2.2.2.2.2.2.1) 6 t2.2.2.2.2.2.2.1) 7 t2.2.2.2.2.2.2.2.1) 8 t2.2.2.2.2.2.2.2.2.1) 9 t2.2.2.2.2.2.2.2.2.2), hm_wSe g (a 3) (hm_up (hm_up SeR 0 t4.2.2.1) 1 t4.2.2.2) (hm_up (hm_up SeA 0 t4.1) 2 t4.2.1), hm_row g (a 4 0) (a 4 1) 100 t5, hm_row g (a 5 0) (a 5 1) 6 t6, hm_row g (a 6 0) (a 6 1) 6 t7, hm_wLe g (a 7) LeR LeZ, hm_wBr g (a 8) BrA, hm_wSh g (a 9) ShR ShZ, hm_wSu g (a 10) SuA SuJ] : List va_W).flatten) rfl
    refine lv_aload_n hx hb dX7_words_73 rfl (lv_at hl 1 rfl) ?_
    refine hm_get S X hf_X7_21 0 rfl rfl dX7_words_74 ?_
    obtain ⟨t8, ht8, hF⟩ := hm_bd hF
    refine hm_vi (As := []) S X mw_X3_wordCount hw_2_101 (c_X3_wordCount l g (a 2) (hm_up (hm_up (hm_up (hm_up (hm_up (hm_up (hm_up (hm_up (hm_up (hm_up ScR 0 t2.1) 1 t2.2.1) 2 t2.2.2.1) 3 t2.2.2.2.1) 4 t2.2.2.2.2.1) 5 t2.2.2.2.2.2.1) 6 t2.2.2.2.2.2.2.1) 7 t2.2.2.2.2.2.2.2.1) 8 t2.2.2.2.2.2.2.2.2.1) 9 t2.2.2.2.2.2.2.2.2.2) t8 ht8) (hm_mid [[(a 0 0, .inr (7, [.ref (a 1 0), .ref (a 2 0), .ref (a 3 0), .ref (a 4 0), .ref (a 5 0), .ref (a 6 0), .ref (a 7 0), .ref (a 8 0), .ref (a 9 0), .ref (a 10 0), .int 1, .int 1]))], hm_row g (a 1 0) (a 1 1) 200 t3] [hm_wSe g (a 3) (hm_up (hm_up SeR 0 t4.2.2.1) 1 t4.2.2.2) (hm_up (hm_up SeA 0 t4.1) 2 t4.2.1), hm_row g (a 4 0) (a 4 1) 100 t5, hm_row g (a 5 0) (a 5 1) 6 t6, hm_row g (a 6 0) (a 6 1) 6 t7, hm_wLe g (a 7) LeR LeZ, hm_wBr g (a 8) BrA, hm_wSh g (a 9) ShR ShZ, hm_wSu g (a 10) SuA SuJ]) (hm_mid [[(a 0 0, .inr (7, [.ref (a 1 0), .ref (a 2 0), .ref (a 3 0), .ref (a 4 0), .ref (a 5 0), .ref (a 6 0), .ref (a 7 0), .ref (a 8 0), .ref (a 9 0), .ref (a 10 0), .int 1, .int 1]))], hm_row g (a 1 0) (a 1 1) 200 t3] [hm_wSe g (a 3) (hm_up (hm_up SeR 0 t4.2.2.1) 1 t4.2.2.2) (hm_up (hm_up SeA 0 t4.1) 2 t4.2.1), hm_row g (a 4 0) (a 4 1) 100 t5, hm_row g (a 5 0) (a 5 1) 6 t6, hm_row g (a 6 0) (a 6 1) 6 t7, hm_wLe g (a 7) LeR LeZ, hm_wBr g (a 8) BrA, hm_wSh g (a 9) ShR ShZ, hm_wSu g (a 10) SuA SuJ] (b := hm_wSc g (a 2) (hm_up (hm_up (hm_up (hm_up (hm_up (hm_up (hm_up (hm_up (hm_up (hm_up ScR 0 t2.1) 1 t2.2.1) 2 t2.2.2.1) 3 t2.2.2.2.1) 4 t2.2.2.2.2.1) 5 t2.2.2.2.2.2.1) 6 t2.2.2.2.2.2.2.1) 7 t2.2.2.2.2.2.2.2.1) 8 t2.2.2.2.2.2.2.2.2.1) 9 t2.2.2.2.2.2.2.2.2.2))) rfl rfl rfl ⟨rfl, rfl, Nat.le_of_ble_eq_true rfl, Nat.le_of_ble_eq_true rfl⟩ rfl hl.1 rfl (Nat.le_of_ble_eq_true rfl) dX7_words_77 ⟨Nat.zero_le _, Nat.zero_le _⟩ (fun H locs X => ?_)
    have X := X.to (ws' := ([[(a 0 0, .inr (7, [.ref (a 1 0), .ref (a 2 0), .ref (a 3 0), .ref (a 4 0), .ref (a 5 0), .ref (a 6 0), .ref (a 7 0), .ref (a 8 0), .ref (a 9 0), .ref (a 10 0), .int 1, .int 1]))], hm_row g (a 1 0) (a 1 1) 200 t3, hm_wSc g (a 2) (hm_up (hm_up (hm_up (hm_up (hm_up (hm_up (hm_up (hm_up (hm_up (hm_up ScR 0 t2.1) 1 t2.2.1) 2 t2.2.2.1) 3 t2.2.2.2.1) 4 t2.2.2.2.2.1) 5 t2.2.2.2.2.2.1) 6 t2.2.2.2.2.2.2.1) 7 t2.2.2.2.2.2.2.2.1) 8 t2.2.2.2.2.2.2.2.2.1) 9 t2.2.2.2.2.2.2.2.2.2), hm_wSe g (a 3) (hm_up (hm_up SeR 0 t4.2.2.1) 1 t4.2.2.2) (hm_up (hm_up SeA 0 t4.1) 2 t4.2.1), hm_row g (a 4 0) (a 4 1) 100 t5, hm_row g (a 5 0) (a 5 1) 6 t6, hm_row g (a 6 0) (a 6 1) 6 t7, hm_wLe g (a 7) LeR LeZ, hm_wBr g (a 8) BrA, hm_wSh g (a 9) ShR ShZ, hm_wSu g (a 10) SuA SuJ] : List va_W).flatten) rfl
    obtain rfl := Option.some.inj hF
    exact hm_ri S hr hlk X rfl rfl dX7_words_80
  · have hF := hm_nf hF c9
    refine lv_bipush (v := (-10)) hx hb dX7_words_12 (by decide) ?_
    refine lv_iload_n hx hb dX7_words_14 rfl (lv_at hl 0 rfl) ?_
    refine lv_isub hx hb dX7_words_15 ?_
    obtain rfl := Option.some.inj hF
    exact hm_ri S hr hlk X rfl rfl dX7_words_16
def f_X7_word (ScR_0 : hm_SR) (ScR_1 : hm_SR) (x0 : Int32) (x1 : Int32)  : Option (Int32) :=
  if x0 < 0 then (
  some ((-1)))
  else (
  (f_X3_wordCount ScR_1).bind fun t1 =>
  if t1 ≤ x0 then (
  some ((-1)))
  else (
  if ((-1) : Int32) ≤ x1 then (
  if x1 = (-1) then (
  (f_X3_signCount ScR_1 x0).bind fun t4 =>
  some (t4))
  else (
  (f_X3_signCount ScR_1 x0).bind fun t2 =>
  if t2 ≤ x1 then (
  some ((-9)))
  else (
  (f_X3_signOf ScR_0 ScR_1 x0 x1).bind fun t3 =>
  some (t3))))
  else (
  some ((-1)))))
abbrev rm_X7_word : Room := { frames := 3, cells := 0, slots := 0, locals := 64 }
set_option maxHeartbeats 4000000 in
set_option maxRecDepth 100000 in
theorem c_X7_word (l : Launch) (g : hm_G) (a : Nat → Nat → Nat) (R : Nat → hm_SR) (Z : Nat → Int32) (ScR : Nat → hm_SR) (SeR : Nat → hm_SR) (SeA : Nat → Nat → Int32) (LeR : Nat → hm_SR) (LeZ : Nat → Int32) (BrA : Nat → Nat → Int32) (ShR : Nat → hm_SR) (ShZ : Nat → Int32) (SuA : Nat → Nat → Int32) (SuJ : Nat → Nat → Int64) (x0 : Int32) (x1 : Int32) (q : Int32) (hF : f_X7_word (ScR 0) (ScR 1) x0 x1 = some q) : hm_Mi l yX7_word (Cond.code yX7_word cX7_word 3 (some .int) :: hm_W) rm_X7_word g [.ref (a 0 0), .int x0, .int x1] ([hm_wHM g a R Z ScR SeR SeA LeR LeZ BrA ShR ShZ SuA SuJ] : List va_W).flatten ([hm_wHM g a R Z ScR SeR SeA LeR LeZ BrA ShR ShZ SuA SuJ] : List va_W).flatten q := by
  refine hm_ofi [(0, .ref (a 0 0)), (1, .int x0), (2, .int x1)] (by decide) (own := RX7) rfl (Nat.le_of_ble_eq_true rfl) rfl rfl ?_
  intro p e s m args below meth c AA S hr hlk X ls hl
  have hx := S.1
  have hb := S.2.1
  have hown := S.2.2.2.1
  have hts := S.2.2.2.2
  have X := X.to (ws' := ([[(a 0 0, .inr (7, [.ref (a 1 0), .ref (a 2 0), .ref (a 3 0), .ref (a 4 0), .ref (a 5 0), .ref (a 6 0), .ref (a 7 0), .ref (a 8 0), .ref (a 9 0), .ref (a 10 0), .int (Z 0), .int (Z 1)]))], hm_row g (a 1 0) (a 1 1) 200 (R 0), hm_wSc g (a 2) ScR, hm_wSe g (a 3) SeR SeA, hm_row g (a 4 0) (a 4 1) 100 (R 1), hm_row g (a 5 0) (a 5 1) 6 (R 2), hm_row g (a 6 0) (a 6 1) 6 (R 3), hm_wLe g (a 7) LeR LeZ, hm_wBr g (a 8) BrA, hm_wSh g (a 9) ShR ShZ, hm_wSu g (a 10) SuA SuJ] : List va_W).flatten) rfl
  unfold f_X7_word at hF
  refine lv_iload_n hx hb dX7_word_0 rfl (lv_at hl 1 rfl) ?_
  refine lv_if_lt (tgt := 20) hx hb dX7_word_1 (by decide) (fun c1 => ?_) (fun c1 => ?_)
  · have hF := hm_if hF c1
    refine lv_iconst (v := (-1)) hx hb dX7_word_20 (by decide) ?_
    obtain rfl := Option.some.inj hF
    exact hm_ri S hr hlk X rfl rfl dX7_word_21
  · have hF := hm_nf hF c1
    refine lv_iload_n hx hb dX7_word_4 rfl (lv_at hl 1 rfl) ?_
    refine lv_aload_n hx hb dX7_word_5 rfl (lv_at hl 0 rfl) ?_
    refine hm_get S X hf_X7_21 0 rfl rfl dX7_word_6 ?_
    obtain ⟨t1, ht1, hF⟩ := hm_bd hF
    refine hm_vi (As := []) S X mw_X3_wordCount hw_2_101 (c_X3_wordCount l g (a 2) ScR t1 ht1) (hm_mid [[(a 0 0, .inr (7, [.ref (a 1 0), .ref (a 2 0), .ref (a 3 0), .ref (a 4 0), .ref (a 5 0), .ref (a 6 0), .ref (a 7 0), .ref (a 8 0), .ref (a 9 0), .ref (a 10 0), .int (Z 0), .int (Z 1)]))], hm_row g (a 1 0) (a 1 1) 200 (R 0)] [hm_wSe g (a 3) SeR SeA, hm_row g (a 4 0) (a 4 1) 100 (R 1), hm_row g (a 5 0) (a 5 1) 6 (R 2), hm_row g (a 6 0) (a 6 1) 6 (R 3), hm_wLe g (a 7) LeR LeZ, hm_wBr g (a 8) BrA, hm_wSh g (a 9) ShR ShZ, hm_wSu g (a 10) SuA SuJ]) (hm_mid [[(a 0 0, .inr (7, [.ref (a 1 0), .ref (a 2 0), .ref (a 3 0), .ref (a 4 0), .ref (a 5 0), .ref (a 6 0), .ref (a 7 0), .ref (a 8 0), .ref (a 9 0), .ref (a 10 0), .int (Z 0), .int (Z 1)]))], hm_row g (a 1 0) (a 1 1) 200 (R 0)] [hm_wSe g (a 3) SeR SeA, hm_row g (a 4 0) (a 4 1) 100 (R 1), hm_row g (a 5 0) (a 5 1) 6 (R 2), hm_row g (a 6 0) (a 6 1) 6 (R 3), hm_wLe g (a 7) LeR LeZ, hm_wBr g (a 8) BrA, hm_wSh g (a 9) ShR ShZ, hm_wSu g (a 10) SuA SuJ] (b := hm_wSc g (a 2) ScR)) rfl rfl rfl ⟨rfl, rfl, Nat.le_of_ble_eq_true rfl, Nat.le_of_ble_eq_true rfl⟩ rfl hl.1 rfl (Nat.le_of_ble_eq_true rfl) dX7_word_9 ⟨Nat.zero_le _, Nat.zero_le _⟩ (fun H locs X => ?_)
    have X := X.to (ws' := ([[(a 0 0, .inr (7, [.ref (a 1 0), .ref (a 2 0), .ref (a 3 0), .ref (a 4 0), .ref (a 5 0), .ref (a 6 0), .ref (a 7 0), .ref (a 8 0), .ref (a 9 0), .ref (a 10 0), .int (Z 0), .int (Z 1)]))], hm_row g (a 1 0) (a 1 1) 200 (R 0), hm_wSc g (a 2) ScR, hm_wSe g (a 3) SeR SeA, hm_row g (a 4 0) (a 4 1) 100 (R 1), hm_row g (a 5 0) (a 5 1) 6 (R 2), hm_row g (a 6 0) (a 6 1) 6 (R 3), hm_wLe g (a 7) LeR LeZ, hm_wBr g (a 8) BrA, hm_wSh g (a 9) ShR ShZ, hm_wSu g (a 10) SuA SuJ] : List va_W).flatten) rfl
    refine lv_icmp_ge (tgt := 20) hx hb dX7_word_12 (by decide) (fun c12 => ?_) (fun c12 => ?_)
    · have hF := hm_if hF c12
      refine lv_iconst (v := (-1)) hx hb dX7_word_20 (by decide) ?_
      obtain rfl := Option.some.inj hF
      exact hm_ri S hr hlk X rfl rfl dX7_word_21
    · have hF := hm_nf hF c12
      refine lv_iload_n hx hb dX7_word_15 rfl (lv_at hl 2 rfl) ?_
      refine lv_iconst (v := (-1)) hx hb dX7_word_16 (by decide) ?_
      refine lv_icmp_ge (tgt := 22) hx hb dX7_word_17 (by decide) (fun c17 => ?_) (fun c17 => ?_)
      · have hF := hm_if hF c17
        refine lv_iload_n hx hb dX7_word_22 rfl (lv_at hl 2 rfl) ?_
        refine lv_iconst (v := (-1)) hx hb dX7_word_23 (by decide) ?_
        refine lv_icmp_ne (tgt := 36) hx hb dX7_word_24 (by decide) (fun c24 => ?_) (fun c24 => ?_)
        · have hF := hm_nf hF c24
          refine lv_iload_n hx hb dX7_word_36 rfl (lv_at hl 2 rfl) ?_
          refine lv_aload_n hx hb dX7_word_37 rfl (lv_at hl 0 rfl) ?_
          refine hm_get S X hf_X7_21 0 rfl rfl dX7_word_38 ?_
          refine lv_iload_n hx hb dX7_word_41 rfl (lv_at hl 1 rfl) ?_
          obtain ⟨t2, ht2, hF⟩ := hm_bd hF
          refine hm_vi (As := [.int x0]) S X mw_X3_signCount hw_2_106 (c_X3_signCount l g (a 2) ScR x0 t2 ht2) (hm_mid [[(a 0 0, .inr (7, [.ref (a 1 0), .ref (a 2 0), .ref (a 3 0), .ref (a 4 0), .ref (a 5 0), .ref (a 6 0), .ref (a 7 0), .ref (a 8 0), .ref (a 9 0), .ref (a 10 0), .int (Z 0), .int (Z 1)]))], hm_row g (a 1 0) (a 1 1) 200 (R 0)] [hm_wSe g (a 3) SeR SeA, hm_row g (a 4 0) (a 4 1) 100 (R 1), hm_row g (a 5 0) (a 5 1) 6 (R 2), hm_row g (a 6 0) (a 6 1) 6 (R 3), hm_wLe g (a 7) LeR LeZ, hm_wBr g (a 8) BrA, hm_wSh g (a 9) ShR ShZ, hm_wSu g (a 10) SuA SuJ]) (hm_mid [[(a 0 0, .inr (7, [.ref (a 1 0), .ref (a 2 0), .ref (a 3 0), .ref (a 4 0), .ref (a 5 0), .ref (a 6 0), .ref (a 7 0), .ref (a 8 0), .ref (a 9 0), .ref (a 10 0), .int (Z 0), .int (Z 1)]))], hm_row g (a 1 0) (a 1 1) 200 (R 0)] [hm_wSe g (a 3) SeR SeA, hm_row g (a 4 0) (a 4 1) 100 (R 1), hm_row g (a 5 0) (a 5 1) 6 (R 2), hm_row g (a 6 0) (a 6 1) 6 (R 3), hm_wLe g (a 7) LeR LeZ, hm_wBr g (a 8) BrA, hm_wSh g (a 9) ShR ShZ, hm_wSu g (a 10) SuA SuJ] (b := hm_wSc g (a 2) ScR)) rfl rfl rfl ⟨rfl, rfl, Nat.le_of_ble_eq_true rfl, Nat.le_of_ble_eq_true rfl⟩ rfl hl.1 rfl (Nat.le_of_ble_eq_true rfl) dX7_word_42 ⟨Nat.zero_le _, Nat.zero_le _⟩ (fun H locs X => ?_)
          have X := X.to (ws' := ([[(a 0 0, .inr (7, [.ref (a 1 0), .ref (a 2 0), .ref (a 3 0), .ref (a 4 0), .ref (a 5 0), .ref (a 6 0), .ref (a 7 0), .ref (a 8 0), .ref (a 9 0), .ref (a 10 0), .int (Z 0), .int (Z 1)]))], hm_row g (a 1 0) (a 1 1) 200 (R 0), hm_wSc g (a 2) ScR, hm_wSe g (a 3) SeR SeA, hm_row g (a 4 0) (a 4 1) 100 (R 1), hm_row g (a 5 0) (a 5 1) 6 (R 2), hm_row g (a 6 0) (a 6 1) 6 (R 3), hm_wLe g (a 7) LeR LeZ, hm_wBr g (a 8) BrA, hm_wSh g (a 9) ShR ShZ, hm_wSu g (a 10) SuA SuJ] : List va_W).flatten) rfl
          refine lv_icmp_ge (tgt := 60) hx hb dX7_word_45 (by decide) (fun c45 => ?_) (fun c45 => ?_)
          · have hF := hm_if hF c45
            refine lv_bipush (v := (-9)) hx hb dX7_word_60 (by decide) ?_
            obtain rfl := Option.some.inj hF
            exact hm_ri S hr hlk X rfl rfl dX7_word_62
          · have hF := hm_nf hF c45
            refine lv_aload_n hx hb dX7_word_48 rfl (lv_at hl 0 rfl) ?_
            refine hm_get S X hf_X7_21 0 rfl rfl dX7_word_49 ?_
            refine lv_iload_n hx hb dX7_word_52 rfl (lv_at hl 1 rfl) ?_
            refine lv_iload_n hx hb dX7_word_53 rfl (lv_at hl 2 rfl) ?_
            obtain ⟨t3, ht3, hF⟩ := hm_bd hF
            refine hm_vi (As := [.int x0, .int x1]) S X mw_X3_signOf hw_2_110 (c_X3_signOf l g (a 2) ScR x0 x1 t3 ht3) (hm_mid [[(a 0 0, .inr (7, [.ref (a 1 0), .ref (a 2 0), .ref (a 3 0), .ref (a 4 0), .ref (a 5 0), .ref (a 6 0), .ref (a 7 0), .ref (a 8 0), .ref (a 9 0), .ref (a 10 0), .int (Z 0), .int (Z 1)]))], hm_row g (a 1 0) (a 1 1) 200 (R 0)] [hm_wSe g (a 3) SeR SeA, hm_row g (a 4 0) (a 4 1) 100 (R 1), hm_row g (a 5 0) (a 5 1) 6 (R 2), hm_row g (a 6 0) (a 6 1) 6 (R 3), hm_wLe g (a 7) LeR LeZ, hm_wBr g (a 8) BrA, hm_wSh g (a 9) ShR ShZ, hm_wSu g (a 10) SuA SuJ]) (hm_mid [[(a 0 0, .inr (7, [.ref (a 1 0), .ref (a 2 0), .ref (a 3 0), .ref (a 4 0), .ref (a 5 0), .ref (a 6 0), .ref (a 7 0), .ref (a 8 0), .ref (a 9 0), .ref (a 10 0), .int (Z 0), .int (Z 1)]))], hm_row g (a 1 0) (a 1 1) 200 (R 0)] [hm_wSe g (a 3) SeR SeA, hm_row g (a 4 0) (a 4 1) 100 (R 1), hm_row g (a 5 0) (a 5 1) 6 (R 2), hm_row g (a 6 0) (a 6 1) 6 (R 3), hm_wLe g (a 7) LeR LeZ, hm_wBr g (a 8) BrA, hm_wSh g (a 9) ShR ShZ, hm_wSu g (a 10) SuA SuJ] (b := hm_wSc g (a 2) ScR)) rfl rfl rfl ⟨rfl, rfl, Nat.le_of_ble_eq_true rfl, Nat.le_of_ble_eq_true rfl⟩ rfl hl.1 rfl (Nat.le_of_ble_eq_true rfl) dX7_word_54 ⟨Nat.zero_le _, Nat.zero_le _⟩ (fun H locs X => ?_)
            have X := X.to (ws' := ([[(a 0 0, .inr (7, [.ref (a 1 0), .ref (a 2 0), .ref (a 3 0), .ref (a 4 0), .ref (a 5 0), .ref (a 6 0), .ref (a 7 0), .ref (a 8 0), .ref (a 9 0), .ref (a 10 0), .int (Z 0), .int (Z 1)]))], hm_row g (a 1 0) (a 1 1) 200 (R 0), hm_wSc g (a 2) ScR, hm_wSe g (a 3) SeR SeA, hm_row g (a 4 0) (a 4 1) 100 (R 1), hm_row g (a 5 0) (a 5 1) 6 (R 2), hm_row g (a 6 0) (a 6 1) 6 (R 3), hm_wLe g (a 7) LeR LeZ, hm_wBr g (a 8) BrA, hm_wSh g (a 9) ShR ShZ, hm_wSu g (a 10) SuA SuJ] : List va_W).flatten) rfl
            refine lv_goto (tgt := 62) hx hb dX7_word_57 (by decide) ?_
            obtain rfl := Option.some.inj hF
            exact hm_ri S hr hlk X rfl rfl dX7_word_62
        · have hF := hm_if hF c24
          refine lv_aload_n hx hb dX7_word_27 rfl (lv_at hl 0 rfl) ?_
          refine hm_get S X hf_X7_21 0 rfl rfl dX7_word_28 ?_
          refine lv_iload_n hx hb dX7_word_31 rfl (lv_at hl 1 rfl) ?_
          obtain ⟨t4, ht4, hF⟩ := hm_bd hF
          refine hm_vi (As := [.int x0]) S X mw_X3_signCount hw_2_106 (c_X3_signCount l g (a 2) ScR x0 t4 ht4) (hm_mid [[(a 0 0, .inr (7, [.ref (a 1 0), .ref (a 2 0), .ref (a 3 0), .ref (a 4 0), .ref (a 5 0), .ref (a 6 0), .ref (a 7 0), .ref (a 8 0), .ref (a 9 0), .ref (a 10 0), .int (Z 0), .int (Z 1)]))], hm_row g (a 1 0) (a 1 1) 200 (R 0)] [hm_wSe g (a 3) SeR SeA, hm_row g (a 4 0) (a 4 1) 100 (R 1), hm_row g (a 5 0) (a 5 1) 6 (R 2), hm_row g (a 6 0) (a 6 1) 6 (R 3), hm_wLe g (a 7) LeR LeZ, hm_wBr g (a 8) BrA, hm_wSh g (a 9) ShR ShZ, hm_wSu g (a 10) SuA SuJ]) (hm_mid [[(a 0 0, .inr (7, [.ref (a 1 0), .ref (a 2 0), .ref (a 3 0), .ref (a 4 0), .ref (a 5 0), .ref (a 6 0), .ref (a 7 0), .ref (a 8 0), .ref (a 9 0), .ref (a 10 0), .int (Z 0), .int (Z 1)]))], hm_row g (a 1 0) (a 1 1) 200 (R 0)] [hm_wSe g (a 3) SeR SeA, hm_row g (a 4 0) (a 4 1) 100 (R 1), hm_row g (a 5 0) (a 5 1) 6 (R 2), hm_row g (a 6 0) (a 6 1) 6 (R 3), hm_wLe g (a 7) LeR LeZ, hm_wBr g (a 8) BrA, hm_wSh g (a 9) ShR ShZ, hm_wSu g (a 10) SuA SuJ] (b := hm_wSc g (a 2) ScR)) rfl rfl rfl ⟨rfl, rfl, Nat.le_of_ble_eq_true rfl, Nat.le_of_ble_eq_true rfl⟩ rfl hl.1 rfl (Nat.le_of_ble_eq_true rfl) dX7_word_32 ⟨Nat.zero_le _, Nat.zero_le _⟩ (fun H locs X => ?_)
          have X := X.to (ws' := ([[(a 0 0, .inr (7, [.ref (a 1 0), .ref (a 2 0), .ref (a 3 0), .ref (a 4 0), .ref (a 5 0), .ref (a 6 0), .ref (a 7 0), .ref (a 8 0), .ref (a 9 0), .ref (a 10 0), .int (Z 0), .int (Z 1)]))], hm_row g (a 1 0) (a 1 1) 200 (R 0), hm_wSc g (a 2) ScR, hm_wSe g (a 3) SeR SeA, hm_row g (a 4 0) (a 4 1) 100 (R 1), hm_row g (a 5 0) (a 5 1) 6 (R 2), hm_row g (a 6 0) (a 6 1) 6 (R 3), hm_wLe g (a 7) LeR LeZ, hm_wBr g (a 8) BrA, hm_wSh g (a 9) ShR ShZ, hm_wSu g (a 10) SuA SuJ] : List va_W).flatten) rfl
          obtain rfl := Option.some.inj hF
          exact hm_ri S hr hlk X rfl rfl dX7_word_35
      · have hF := hm_nf hF c17
        refine lv_iconst (v := (-1)) hx hb dX7_word_20 (by decide) ?_
        obtain rfl := Option.some.inj hF
        exact hm_ri S hr hlk X rfl rfl dX7_word_21
def f_X7_different (ScR_5 : hm_SR) (ScR_6 : hm_SR) (x0 : Int32) (x1 : Int32)  : Option (Int32) :=
  if x0 < 0 then (
  some ((-1)))
  else (
  if x1 < 0 then (
  some ((-1)))
  else (
  if x1 ≤ 1 then (
  (f_X3_spellings ScR_6).bind fun t1 =>
  if x0 < t1 then (
  if x1 = 0 then (
  (f_X3_firstSpelled ScR_6 x0).bind fun t3 =>
  some (t3))
  else (
  (f_X3_timesSpelled ScR_5 ScR_6 x0).bind fun t2 =>
  some (t2)))
  else (
  some ((-9))))
  else (
  some ((-1)))))
abbrev rm_X7_different : Room := { frames := 2, cells := 0, slots := 0, locals := 44 }
set_option maxHeartbeats 4000000 in
set_option maxRecDepth 100000 in
theorem c_X7_different (l : Launch) (g : hm_G) (a : Nat → Nat → Nat) (R : Nat → hm_SR) (Z : Nat → Int32) (ScR : Nat → hm_SR) (SeR : Nat → hm_SR) (SeA : Nat → Nat → Int32) (LeR : Nat → hm_SR) (LeZ : Nat → Int32) (BrA : Nat → Nat → Int32) (ShR : Nat → hm_SR) (ShZ : Nat → Int32) (SuA : Nat → Nat → Int32) (SuJ : Nat → Nat → Int64) (x0 : Int32) (x1 : Int32) (q : Int32) (hF : f_X7_different (ScR 5) (ScR 6) x0 x1 = some q) : hm_Mi l yX7_different (Cond.code yX7_different cX7_different 3 (some .int) :: hm_W) rm_X7_different g [.ref (a 0 0), .int x0, .int x1] ([hm_wHM g a R Z ScR SeR SeA LeR LeZ BrA ShR ShZ SuA SuJ] : List va_W).flatten ([hm_wHM g a R Z ScR SeR SeA LeR LeZ BrA ShR ShZ SuA SuJ] : List va_W).flatten q := by
  refine hm_ofi [(0, .ref (a 0 0)), (1, .int x0), (2, .int x1)] (by decide) (own := RX7) rfl (Nat.le_of_ble_eq_true rfl) rfl rfl ?_
  intro p e s m args below meth c AA S hr hlk X ls hl
  have hx := S.1
  have hb := S.2.1
  have hown := S.2.2.2.1
  have hts := S.2.2.2.2
  have X := X.to (ws' := ([[(a 0 0, .inr (7, [.ref (a 1 0), .ref (a 2 0), .ref (a 3 0), .ref (a 4 0), .ref (a 5 0), .ref (a 6 0), .ref (a 7 0), .ref (a 8 0), .ref (a 9 0), .ref (a 10 0), .int (Z 0), .int (Z 1)]))], hm_row g (a 1 0) (a 1 1) 200 (R 0), hm_wSc g (a 2) ScR, hm_wSe g (a 3) SeR SeA, hm_row g (a 4 0) (a 4 1) 100 (R 1), hm_row g (a 5 0) (a 5 1) 6 (R 2), hm_row g (a 6 0) (a 6 1) 6 (R 3), hm_wLe g (a 7) LeR LeZ, hm_wBr g (a 8) BrA, hm_wSh g (a 9) ShR ShZ, hm_wSu g (a 10) SuA SuJ] : List va_W).flatten) rfl
  unfold f_X7_different at hF
  refine lv_iload_n hx hb dX7_different_0 rfl (lv_at hl 1 rfl) ?_
  refine lv_if_lt (tgt := 13) hx hb dX7_different_1 (by decide) (fun c1 => ?_) (fun c1 => ?_)
  · have hF := hm_if hF c1
    refine lv_iconst (v := (-1)) hx hb dX7_different_13 (by decide) ?_
    obtain rfl := Option.some.inj hF
    exact hm_ri S hr hlk X rfl rfl dX7_different_14
  · have hF := hm_nf hF c1
    refine lv_iload_n hx hb dX7_different_4 rfl (lv_at hl 2 rfl) ?_
    refine lv_if_lt (tgt := 13) hx hb dX7_different_5 (by decide) (fun c5 => ?_) (fun c5 => ?_)
    · have hF := hm_if hF c5
      refine lv_iconst (v := (-1)) hx hb dX7_different_13 (by decide) ?_
      obtain rfl := Option.some.inj hF
      exact hm_ri S hr hlk X rfl rfl dX7_different_14
    · have hF := hm_nf hF c5
      refine lv_iload_n hx hb dX7_different_8 rfl (lv_at hl 2 rfl) ?_
      refine lv_iconst (v := 1) hx hb dX7_different_9 (by decide) ?_
      refine lv_icmp_le (tgt := 15) hx hb dX7_different_10 (by decide) (fun c10 => ?_) (fun c10 => ?_)
      · have hF := hm_if hF c10
        refine lv_iload_n hx hb dX7_different_15 rfl (lv_at hl 1 rfl) ?_
        refine lv_aload_n hx hb dX7_different_16 rfl (lv_at hl 0 rfl) ?_
        refine hm_get S X hf_X7_21 0 rfl rfl dX7_different_17 ?_
        obtain ⟨t1, ht1, hF⟩ := hm_bd hF
        refine hm_vi (As := []) S X mw_X3_spellings hw_2_118 (c_X3_spellings l g (a 2) ScR t1 ht1) (hm_mid [[(a 0 0, .inr (7, [.ref (a 1 0), .ref (a 2 0), .ref (a 3 0), .ref (a 4 0), .ref (a 5 0), .ref (a 6 0), .ref (a 7 0), .ref (a 8 0), .ref (a 9 0), .ref (a 10 0), .int (Z 0), .int (Z 1)]))], hm_row g (a 1 0) (a 1 1) 200 (R 0)] [hm_wSe g (a 3) SeR SeA, hm_row g (a 4 0) (a 4 1) 100 (R 1), hm_row g (a 5 0) (a 5 1) 6 (R 2), hm_row g (a 6 0) (a 6 1) 6 (R 3), hm_wLe g (a 7) LeR LeZ, hm_wBr g (a 8) BrA, hm_wSh g (a 9) ShR ShZ, hm_wSu g (a 10) SuA SuJ]) (hm_mid [[(a 0 0, .inr (7, [.ref (a 1 0), .ref (a 2 0), .ref (a 3 0), .ref (a 4 0), .ref (a 5 0), .ref (a 6 0), .ref (a 7 0), .ref (a 8 0), .ref (a 9 0), .ref (a 10 0), .int (Z 0), .int (Z 1)]))], hm_row g (a 1 0) (a 1 1) 200 (R 0)] [hm_wSe g (a 3) SeR SeA, hm_row g (a 4 0) (a 4 1) 100 (R 1), hm_row g (a 5 0) (a 5 1) 6 (R 2), hm_row g (a 6 0) (a 6 1) 6 (R 3), hm_wLe g (a 7) LeR LeZ, hm_wBr g (a 8) BrA, hm_wSh g (a 9) ShR ShZ, hm_wSu g (a 10) SuA SuJ] (b := hm_wSc g (a 2) ScR)) rfl rfl rfl ⟨rfl, rfl, Nat.le_of_ble_eq_true rfl, Nat.le_of_ble_eq_true rfl⟩ rfl hl.1 rfl (Nat.le_of_ble_eq_true rfl) dX7_different_20 ⟨Nat.zero_le _, Nat.zero_le _⟩ (fun H locs X => ?_)
        have X := X.to (ws' := ([[(a 0 0, .inr (7, [.ref (a 1 0), .ref (a 2 0), .ref (a 3 0), .ref (a 4 0), .ref (a 5 0), .ref (a 6 0), .ref (a 7 0), .ref (a 8 0), .ref (a 9 0), .ref (a 10 0), .int (Z 0), .int (Z 1)]))], hm_row g (a 1 0) (a 1 1) 200 (R 0), hm_wSc g (a 2) ScR, hm_wSe g (a 3) SeR SeA, hm_row g (a 4 0) (a 4 1) 100 (R 1), hm_row g (a 5 0) (a 5 1) 6 (R 2), hm_row g (a 6 0) (a 6 1) 6 (R 3), hm_wLe g (a 7) LeR LeZ, hm_wBr g (a 8) BrA, hm_wSh g (a 9) ShR ShZ, hm_wSu g (a 10) SuA SuJ] : List va_W).flatten) rfl
        refine lv_icmp_lt (tgt := 29) hx hb dX7_different_23 (by decide) (fun c23 => ?_) (fun c23 => ?_)
        · have hF := hm_if hF c23
          refine lv_iload_n hx hb dX7_different_29 rfl (lv_at hl 2 rfl) ?_
          refine lv_if_ne (tgt := 44) hx hb dX7_different_30 (by decide) (fun c30 => ?_) (fun c30 => ?_)
          · have hF := hm_nf hF c30
            refine lv_aload_n hx hb dX7_different_44 rfl (lv_at hl 0 rfl) ?_
            refine hm_get S X hf_X7_21 0 rfl rfl dX7_different_45 ?_
            refine lv_iload_n hx hb dX7_different_48 rfl (lv_at hl 1 rfl) ?_
            obtain ⟨t2, ht2, hF⟩ := hm_bd hF
            refine hm_vi (As := [.int x0]) S X mw_X3_timesSpelled hw_2_126 (c_X3_timesSpelled l g (a 2) ScR x0 t2 ht2) (hm_mid [[(a 0 0, .inr (7, [.ref (a 1 0), .ref (a 2 0), .ref (a 3 0), .ref (a 4 0), .ref (a 5 0), .ref (a 6 0), .ref (a 7 0), .ref (a 8 0), .ref (a 9 0), .ref (a 10 0), .int (Z 0), .int (Z 1)]))], hm_row g (a 1 0) (a 1 1) 200 (R 0)] [hm_wSe g (a 3) SeR SeA, hm_row g (a 4 0) (a 4 1) 100 (R 1), hm_row g (a 5 0) (a 5 1) 6 (R 2), hm_row g (a 6 0) (a 6 1) 6 (R 3), hm_wLe g (a 7) LeR LeZ, hm_wBr g (a 8) BrA, hm_wSh g (a 9) ShR ShZ, hm_wSu g (a 10) SuA SuJ]) (hm_mid [[(a 0 0, .inr (7, [.ref (a 1 0), .ref (a 2 0), .ref (a 3 0), .ref (a 4 0), .ref (a 5 0), .ref (a 6 0), .ref (a 7 0), .ref (a 8 0), .ref (a 9 0), .ref (a 10 0), .int (Z 0), .int (Z 1)]))], hm_row g (a 1 0) (a 1 1) 200 (R 0)] [hm_wSe g (a 3) SeR SeA, hm_row g (a 4 0) (a 4 1) 100 (R 1), hm_row g (a 5 0) (a 5 1) 6 (R 2), hm_row g (a 6 0) (a 6 1) 6 (R 3), hm_wLe g (a 7) LeR LeZ, hm_wBr g (a 8) BrA, hm_wSh g (a 9) ShR ShZ, hm_wSu g (a 10) SuA SuJ] (b := hm_wSc g (a 2) ScR)) rfl rfl rfl ⟨rfl, rfl, Nat.le_of_ble_eq_true rfl, Nat.le_of_ble_eq_true rfl⟩ rfl hl.1 rfl (Nat.le_of_ble_eq_true rfl) dX7_different_49 ⟨Nat.zero_le _, Nat.zero_le _⟩ (fun H locs X => ?_)
            have X := X.to (ws' := ([[(a 0 0, .inr (7, [.ref (a 1 0), .ref (a 2 0), .ref (a 3 0), .ref (a 4 0), .ref (a 5 0), .ref (a 6 0), .ref (a 7 0), .ref (a 8 0), .ref (a 9 0), .ref (a 10 0), .int (Z 0), .int (Z 1)]))], hm_row g (a 1 0) (a 1 1) 200 (R 0), hm_wSc g (a 2) ScR, hm_wSe g (a 3) SeR SeA, hm_row g (a 4 0) (a 4 1) 100 (R 1), hm_row g (a 5 0) (a 5 1) 6 (R 2), hm_row g (a 6 0) (a 6 1) 6 (R 3), hm_wLe g (a 7) LeR LeZ, hm_wBr g (a 8) BrA, hm_wSh g (a 9) ShR ShZ, hm_wSu g (a 10) SuA SuJ] : List va_W).flatten) rfl
            obtain rfl := Option.some.inj hF
            exact hm_ri S hr hlk X rfl rfl dX7_different_52
          · have hF := hm_if hF c30
            refine lv_aload_n hx hb dX7_different_33 rfl (lv_at hl 0 rfl) ?_
            refine hm_get S X hf_X7_21 0 rfl rfl dX7_different_34 ?_
            refine lv_iload_n hx hb dX7_different_37 rfl (lv_at hl 1 rfl) ?_
            obtain ⟨t3, ht3, hF⟩ := hm_bd hF
            refine hm_vi (As := [.int x0]) S X mw_X3_firstSpelled hw_2_122 (c_X3_firstSpelled l g (a 2) ScR x0 t3 ht3) (hm_mid [[(a 0 0, .inr (7, [.ref (a 1 0), .ref (a 2 0), .ref (a 3 0), .ref (a 4 0), .ref (a 5 0), .ref (a 6 0), .ref (a 7 0), .ref (a 8 0), .ref (a 9 0), .ref (a 10 0), .int (Z 0), .int (Z 1)]))], hm_row g (a 1 0) (a 1 1) 200 (R 0)] [hm_wSe g (a 3) SeR SeA, hm_row g (a 4 0) (a 4 1) 100 (R 1), hm_row g (a 5 0) (a 5 1) 6 (R 2), hm_row g (a 6 0) (a 6 1) 6 (R 3), hm_wLe g (a 7) LeR LeZ, hm_wBr g (a 8) BrA, hm_wSh g (a 9) ShR ShZ, hm_wSu g (a 10) SuA SuJ]) (hm_mid [[(a 0 0, .inr (7, [.ref (a 1 0), .ref (a 2 0), .ref (a 3 0), .ref (a 4 0), .ref (a 5 0), .ref (a 6 0), .ref (a 7 0), .ref (a 8 0), .ref (a 9 0), .ref (a 10 0), .int (Z 0), .int (Z 1)]))], hm_row g (a 1 0) (a 1 1) 200 (R 0)] [hm_wSe g (a 3) SeR SeA, hm_row g (a 4 0) (a 4 1) 100 (R 1), hm_row g (a 5 0) (a 5 1) 6 (R 2), hm_row g (a 6 0) (a 6 1) 6 (R 3), hm_wLe g (a 7) LeR LeZ, hm_wBr g (a 8) BrA, hm_wSh g (a 9) ShR ShZ, hm_wSu g (a 10) SuA SuJ] (b := hm_wSc g (a 2) ScR)) rfl rfl rfl ⟨rfl, rfl, Nat.le_of_ble_eq_true rfl, Nat.le_of_ble_eq_true rfl⟩ rfl hl.1 rfl (Nat.le_of_ble_eq_true rfl) dX7_different_38 ⟨Nat.zero_le _, Nat.zero_le _⟩ (fun H locs X => ?_)
            have X := X.to (ws' := ([[(a 0 0, .inr (7, [.ref (a 1 0), .ref (a 2 0), .ref (a 3 0), .ref (a 4 0), .ref (a 5 0), .ref (a 6 0), .ref (a 7 0), .ref (a 8 0), .ref (a 9 0), .ref (a 10 0), .int (Z 0), .int (Z 1)]))], hm_row g (a 1 0) (a 1 1) 200 (R 0), hm_wSc g (a 2) ScR, hm_wSe g (a 3) SeR SeA, hm_row g (a 4 0) (a 4 1) 100 (R 1), hm_row g (a 5 0) (a 5 1) 6 (R 2), hm_row g (a 6 0) (a 6 1) 6 (R 3), hm_wLe g (a 7) LeR LeZ, hm_wBr g (a 8) BrA, hm_wSh g (a 9) ShR ShZ, hm_wSu g (a 10) SuA SuJ] : List va_W).flatten) rfl
            refine lv_goto (tgt := 52) hx hb dX7_different_41 (by decide) ?_
            obtain rfl := Option.some.inj hF
            exact hm_ri S hr hlk X rfl rfl dX7_different_52
        · have hF := hm_nf hF c23
          refine lv_bipush (v := (-9)) hx hb dX7_different_26 (by decide) ?_
          obtain rfl := Option.some.inj hF
          exact hm_ri S hr hlk X rfl rfl dX7_different_28
      · have hF := hm_nf hF c10
        refine lv_iconst (v := (-1)) hx hb dX7_different_13 (by decide) ?_
        obtain rfl := Option.some.inj hF
        exact hm_ri S hr hlk X rfl rfl dX7_different_14
def f_X7_isPlace (ScR_7 : hm_SR) (x0 : Int32)  : Option (Int32) :=
  if x0 < 0 then (
  some (0))
  else (
  (f_X3_placeCount ScR_7).bind fun t1 =>
  if t1 ≤ x0 then (
  some (0))
  else (
  some (1)))
abbrev rm_X7_isPlace : Room := { frames := 2, cells := 0, slots := 0, locals := 40 }
set_option maxHeartbeats 4000000 in
set_option maxRecDepth 100000 in
theorem c_X7_isPlace (l : Launch) (g : hm_G) (a : Nat → Nat → Nat) (R : Nat → hm_SR) (Z : Nat → Int32) (ScR : Nat → hm_SR) (SeR : Nat → hm_SR) (SeA : Nat → Nat → Int32) (LeR : Nat → hm_SR) (LeZ : Nat → Int32) (BrA : Nat → Nat → Int32) (ShR : Nat → hm_SR) (ShZ : Nat → Int32) (SuA : Nat → Nat → Int32) (SuJ : Nat → Nat → Int64) (x0 : Int32) (q : Int32) (hF : f_X7_isPlace (ScR 7) x0 = some q) : hm_Mi l yX7_isPlace (Cond.code yX7_isPlace cX7_isPlace 2 (some .boolean) :: hm_W) rm_X7_isPlace g [.ref (a 0 0), .int x0] ([hm_wHM g a R Z ScR SeR SeA LeR LeZ BrA ShR ShZ SuA SuJ] : List va_W).flatten ([hm_wHM g a R Z ScR SeR SeA LeR LeZ BrA ShR ShZ SuA SuJ] : List va_W).flatten q := by
  refine hm_ofi [(0, .ref (a 0 0)), (1, .int x0)] (by decide) (own := RX7) rfl (Nat.le_of_ble_eq_true rfl) rfl rfl ?_
  intro p e s m args below meth c AA S hr hlk X ls hl
  have hx := S.1
  have hb := S.2.1
  have hown := S.2.2.2.1
  have hts := S.2.2.2.2
  have X := X.to (ws' := ([[(a 0 0, .inr (7, [.ref (a 1 0), .ref (a 2 0), .ref (a 3 0), .ref (a 4 0), .ref (a 5 0), .ref (a 6 0), .ref (a 7 0), .ref (a 8 0), .ref (a 9 0), .ref (a 10 0), .int (Z 0), .int (Z 1)]))], hm_row g (a 1 0) (a 1 1) 200 (R 0), hm_wSc g (a 2) ScR, hm_wSe g (a 3) SeR SeA, hm_row g (a 4 0) (a 4 1) 100 (R 1), hm_row g (a 5 0) (a 5 1) 6 (R 2), hm_row g (a 6 0) (a 6 1) 6 (R 3), hm_wLe g (a 7) LeR LeZ, hm_wBr g (a 8) BrA, hm_wSh g (a 9) ShR ShZ, hm_wSu g (a 10) SuA SuJ] : List va_W).flatten) rfl
  unfold f_X7_isPlace at hF
  refine lv_iload_n hx hb dX7_isPlace_0 rfl (lv_at hl 1 rfl) ?_
  refine lv_if_lt (tgt := 19) hx hb dX7_isPlace_1 (by decide) (fun c1 => ?_) (fun c1 => ?_)
  · have hF := hm_if hF c1
    refine lv_iconst (v := 0) hx hb dX7_isPlace_19 (by decide) ?_
    obtain rfl := Option.some.inj hF
    exact hm_rz S hr hlk X rfl rfl (Or.inl rfl) dX7_isPlace_20
  · have hF := hm_nf hF c1
    refine lv_iload_n hx hb dX7_isPlace_4 rfl (lv_at hl 1 rfl) ?_
    refine lv_aload_n hx hb dX7_isPlace_5 rfl (lv_at hl 0 rfl) ?_
    refine hm_get S X hf_X7_21 0 rfl rfl dX7_isPlace_6 ?_
    obtain ⟨t1, ht1, hF⟩ := hm_bd hF
    refine hm_vi (As := []) S X mw_X3_placeCount hw_2_138 (c_X3_placeCount l g (a 2) ScR t1 ht1) (hm_mid [[(a 0 0, .inr (7, [.ref (a 1 0), .ref (a 2 0), .ref (a 3 0), .ref (a 4 0), .ref (a 5 0), .ref (a 6 0), .ref (a 7 0), .ref (a 8 0), .ref (a 9 0), .ref (a 10 0), .int (Z 0), .int (Z 1)]))], hm_row g (a 1 0) (a 1 1) 200 (R 0)] [hm_wSe g (a 3) SeR SeA, hm_row g (a 4 0) (a 4 1) 100 (R 1), hm_row g (a 5 0) (a 5 1) 6 (R 2), hm_row g (a 6 0) (a 6 1) 6 (R 3), hm_wLe g (a 7) LeR LeZ, hm_wBr g (a 8) BrA, hm_wSh g (a 9) ShR ShZ, hm_wSu g (a 10) SuA SuJ]) (hm_mid [[(a 0 0, .inr (7, [.ref (a 1 0), .ref (a 2 0), .ref (a 3 0), .ref (a 4 0), .ref (a 5 0), .ref (a 6 0), .ref (a 7 0), .ref (a 8 0), .ref (a 9 0), .ref (a 10 0), .int (Z 0), .int (Z 1)]))], hm_row g (a 1 0) (a 1 1) 200 (R 0)] [hm_wSe g (a 3) SeR SeA, hm_row g (a 4 0) (a 4 1) 100 (R 1), hm_row g (a 5 0) (a 5 1) 6 (R 2), hm_row g (a 6 0) (a 6 1) 6 (R 3), hm_wLe g (a 7) LeR LeZ, hm_wBr g (a 8) BrA, hm_wSh g (a 9) ShR ShZ, hm_wSu g (a 10) SuA SuJ] (b := hm_wSc g (a 2) ScR)) rfl rfl rfl ⟨rfl, rfl, Nat.le_of_ble_eq_true rfl, Nat.le_of_ble_eq_true rfl⟩ rfl hl.1 rfl (Nat.le_of_ble_eq_true rfl) dX7_isPlace_9 ⟨Nat.zero_le _, Nat.zero_le _⟩ (fun H locs X => ?_)
    have X := X.to (ws' := ([[(a 0 0, .inr (7, [.ref (a 1 0), .ref (a 2 0), .ref (a 3 0), .ref (a 4 0), .ref (a 5 0), .ref (a 6 0), .ref (a 7 0), .ref (a 8 0), .ref (a 9 0), .ref (a 10 0), .int (Z 0), .int (Z 1)]))], hm_row g (a 1 0) (a 1 1) 200 (R 0), hm_wSc g (a 2) ScR, hm_wSe g (a 3) SeR SeA, hm_row g (a 4 0) (a 4 1) 100 (R 1), hm_row g (a 5 0) (a 5 1) 6 (R 2), hm_row g (a 6 0) (a 6 1) 6 (R 3), hm_wLe g (a 7) LeR LeZ, hm_wBr g (a 8) BrA, hm_wSh g (a 9) ShR ShZ, hm_wSu g (a 10) SuA SuJ] : List va_W).flatten) rfl
    refine lv_icmp_ge (tgt := 19) hx hb dX7_isPlace_12 (by decide) (fun c12 => ?_) (fun c12 => ?_)
    · have hF := hm_if hF c12
      refine lv_iconst (v := 0) hx hb dX7_isPlace_19 (by decide) ?_
      obtain rfl := Option.some.inj hF
      exact hm_rz S hr hlk X rfl rfl (Or.inl rfl) dX7_isPlace_20
    · have hF := hm_nf hF c12
      refine lv_iconst (v := 1) hx hb dX7_isPlace_15 (by decide) ?_
      refine lv_goto (tgt := 20) hx hb dX7_isPlace_16 (by decide) ?_
      obtain rfl := Option.some.inj hF
      exact hm_rz S hr hlk X rfl rfl (Or.inr rfl) dX7_isPlace_20
def f_X7_place (ScR_7 : hm_SR) (ScR_8 : hm_SR) (ScR_9 : hm_SR) (x0 : Int32) (x1 : Int32)  : Option (Int32) :=
  (f_X7_isPlace ScR_7 x0).bind fun t1 =>
  if t1 = 0 then (
  some ((-1)))
  else (
  if x1 = 0 then (
  (f_X3_wordAt ScR_7 x0).bind fun t2 =>
  some (t2))
  else (
  if x1 = 1 then (
  (f_X3_plainAhead ScR_8 x0).bind fun t3 =>
  some (t3))
  else (
  if x1 = 2 then (
  (f_X3_isSlashAt ScR_9 x0).bind fun t4 =>
  if t4 = 0 then (
  some (0))
  else (
  some (1)))
  else (
  some ((-1))))))
abbrev rm_X7_place : Room := { frames := 3, cells := 0, slots := 0, locals := 61 }
set_option maxHeartbeats 4000000 in
set_option maxRecDepth 100000 in
theorem c_X7_place (l : Launch) (g : hm_G) (a : Nat → Nat → Nat) (R : Nat → hm_SR) (Z : Nat → Int32) (ScR : Nat → hm_SR) (SeR : Nat → hm_SR) (SeA : Nat → Nat → Int32) (LeR : Nat → hm_SR) (LeZ : Nat → Int32) (BrA : Nat → Nat → Int32) (ShR : Nat → hm_SR) (ShZ : Nat → Int32) (SuA : Nat → Nat → Int32) (SuJ : Nat → Nat → Int64) (x0 : Int32) (x1 : Int32) (q : Int32) (hF : f_X7_place (ScR 7) (ScR 8) (ScR 9) x0 x1 = some q) : hm_Mi l yX7_place (Cond.code yX7_place cX7_place 3 (some .int) :: hm_W) rm_X7_place g [.ref (a 0 0), .int x0, .int x1] ([hm_wHM g a R Z ScR SeR SeA LeR LeZ BrA ShR ShZ SuA SuJ] : List va_W).flatten ([hm_wHM g a R Z ScR SeR SeA LeR LeZ BrA ShR ShZ SuA SuJ] : List va_W).flatten q := by
  refine hm_ofi [(0, .ref (a 0 0)), (1, .int x0), (2, .int x1)] (by decide) (own := RX7) rfl (Nat.le_of_ble_eq_true rfl) rfl rfl ?_
  intro p e s m args below meth c AA S hr hlk X ls hl
  have hx := S.1
  have hb := S.2.1
  have hown := S.2.2.2.1
  have hts := S.2.2.2.2
  have X := X.to (ws' := ([[(a 0 0, .inr (7, [.ref (a 1 0), .ref (a 2 0), .ref (a 3 0), .ref (a 4 0), .ref (a 5 0), .ref (a 6 0), .ref (a 7 0), .ref (a 8 0), .ref (a 9 0), .ref (a 10 0), .int (Z 0), .int (Z 1)]))], hm_row g (a 1 0) (a 1 1) 200 (R 0), hm_wSc g (a 2) ScR, hm_wSe g (a 3) SeR SeA, hm_row g (a 4 0) (a 4 1) 100 (R 1), hm_row g (a 5 0) (a 5 1) 6 (R 2), hm_row g (a 6 0) (a 6 1) 6 (R 3), hm_wLe g (a 7) LeR LeZ, hm_wBr g (a 8) BrA, hm_wSh g (a 9) ShR ShZ, hm_wSu g (a 10) SuA SuJ] : List va_W).flatten) rfl
  unfold f_X7_place at hF
  refine lv_aload_n hx hb dX7_place_0 rfl (lv_at hl 0 rfl) ?_
  refine lv_iload_n hx hb dX7_place_1 rfl (lv_at hl 1 rfl) ?_
  obtain ⟨t1, ht1, hF⟩ := hm_bd hF
  refine hm_vi (As := [.int x0]) S X mw_X7_isPlace hw_2_134 (c_X7_isPlace l g a R Z ScR SeR SeA LeR LeZ BrA ShR ShZ SuA SuJ x0 t1 ht1) (hm_cq (n := 11) [0, 1, 2, 3, 4, 5, 6, 7, 8, 9, 10] [] rfl (by decide +kernel) rfl rfl) (hm_cq (bs := [[(a 0 0, .inr (7, [.ref (a 1 0), .ref (a 2 0), .ref (a 3 0), .ref (a 4 0), .ref (a 5 0), .ref (a 6 0), .ref (a 7 0), .ref (a 8 0), .ref (a 9 0), .ref (a 10 0), .int (Z 0), .int (Z 1)]))], hm_row g (a 1 0) (a 1 1) 200 (R 0), hm_wSc g (a 2) ScR, hm_wSe g (a 3) SeR SeA, hm_row g (a 4 0) (a 4 1) 100 (R 1), hm_row g (a 5 0) (a 5 1) 6 (R 2), hm_row g (a 6 0) (a 6 1) 6 (R 3), hm_wLe g (a 7) LeR LeZ, hm_wBr g (a 8) BrA, hm_wSh g (a 9) ShR ShZ, hm_wSu g (a 10) SuA SuJ]) (n := 11) [0, 1, 2, 3, 4, 5, 6, 7, 8, 9, 10] [] rfl (by decide +kernel) rfl rfl) rfl rfl rfl ⟨rfl, rfl, Nat.le_of_ble_eq_true rfl, Nat.le_of_ble_eq_true rfl⟩ rfl hl.1 rfl (Nat.le_of_ble_eq_true rfl) dX7_place_2 ⟨Nat.zero_le _, Nat.zero_le _⟩ (fun H locs X => ?_)
  have X := X.to (ws' := ([[(a 0 0, .inr (7, [.ref (a 1 0), .ref (a 2 0), .ref (a 3 0), .ref (a 4 0), .ref (a 5 0), .ref (a 6 0), .ref (a 7 0), .ref (a 8 0), .ref (a 9 0), .ref (a 10 0), .int (Z 0), .int (Z 1)]))], hm_row g (a 1 0) (a 1 1) 200 (R 0), hm_wSc g (a 2) ScR, hm_wSe g (a 3) SeR SeA, hm_row g (a 4 0) (a 4 1) 100 (R 1), hm_row g (a 5 0) (a 5 1) 6 (R 2), hm_row g (a 6 0) (a 6 1) 6 (R 3), hm_wLe g (a 7) LeR LeZ, hm_wBr g (a 8) BrA, hm_wSh g (a 9) ShR ShZ, hm_wSu g (a 10) SuA SuJ] : List va_W).flatten) rfl
  refine lv_if_ne (tgt := 10) hx hb dX7_place_5 (by decide) (fun c5 => ?_) (fun c5 => ?_)
  · have hF := hm_nf hF c5
    refine lv_iload_n hx hb dX7_place_10 rfl (lv_at hl 2 rfl) ?_
    by_cases c11_0 : x1 = 0
    · have hF := hm_if hF c11_0
      refine hm_tabIn (off := 25) (tgt := 36) (k := 0) hx hb dX7_place_11 c11_0 (by decide) (by decide) (by decide) rfl (by decide) ?_
      refine lv_aload_n hx hb dX7_place_36 rfl (lv_at hl 0 rfl) ?_
      refine hm_get S X hf_X7_21 0 rfl rfl dX7_place_37 ?_
      refine lv_iload_n hx hb dX7_place_40 rfl (lv_at hl 1 rfl) ?_
      obtain ⟨t2, ht2, hF⟩ := hm_bd hF
      refine hm_vi (As := [.int x0]) S X mw_X3_wordAt hw_2_139 (c_X3_wordAt l g (a 2) ScR x0 t2 ht2) (hm_mid [[(a 0 0, .inr (7, [.ref (a 1 0), .ref (a 2 0), .ref (a 3 0), .ref (a 4 0), .ref (a 5 0), .ref (a 6 0), .ref (a 7 0), .ref (a 8 0), .ref (a 9 0), .ref (a 10 0), .int (Z 0), .int (Z 1)]))], hm_row g (a 1 0) (a 1 1) 200 (R 0)] [hm_wSe g (a 3) SeR SeA, hm_row g (a 4 0) (a 4 1) 100 (R 1), hm_row g (a 5 0) (a 5 1) 6 (R 2), hm_row g (a 6 0) (a 6 1) 6 (R 3), hm_wLe g (a 7) LeR LeZ, hm_wBr g (a 8) BrA, hm_wSh g (a 9) ShR ShZ, hm_wSu g (a 10) SuA SuJ]) (hm_mid [[(a 0 0, .inr (7, [.ref (a 1 0), .ref (a 2 0), .ref (a 3 0), .ref (a 4 0), .ref (a 5 0), .ref (a 6 0), .ref (a 7 0), .ref (a 8 0), .ref (a 9 0), .ref (a 10 0), .int (Z 0), .int (Z 1)]))], hm_row g (a 1 0) (a 1 1) 200 (R 0)] [hm_wSe g (a 3) SeR SeA, hm_row g (a 4 0) (a 4 1) 100 (R 1), hm_row g (a 5 0) (a 5 1) 6 (R 2), hm_row g (a 6 0) (a 6 1) 6 (R 3), hm_wLe g (a 7) LeR LeZ, hm_wBr g (a 8) BrA, hm_wSh g (a 9) ShR ShZ, hm_wSu g (a 10) SuA SuJ] (b := hm_wSc g (a 2) ScR)) rfl rfl rfl ⟨rfl, rfl, Nat.le_of_ble_eq_true rfl, Nat.le_of_ble_eq_true rfl⟩ rfl hl.1 rfl (Nat.le_of_ble_eq_true rfl) dX7_place_41 ⟨Nat.zero_le _, Nat.zero_le _⟩ (fun H locs X => ?_)
      have X := X.to (ws' := ([[(a 0 0, .inr (7, [.ref (a 1 0), .ref (a 2 0), .ref (a 3 0), .ref (a 4 0), .ref (a 5 0), .ref (a 6 0), .ref (a 7 0), .ref (a 8 0), .ref (a 9 0), .ref (a 10 0), .int (Z 0), .int (Z 1)]))], hm_row g (a 1 0) (a 1 1) 200 (R 0), hm_wSc g (a 2) ScR, hm_wSe g (a 3) SeR SeA, hm_row g (a 4 0) (a 4 1) 100 (R 1), hm_row g (a 5 0) (a 5 1) 6 (R 2), hm_row g (a 6 0) (a 6 1) 6 (R 3), hm_wLe g (a 7) LeR LeZ, hm_wBr g (a 8) BrA, hm_wSh g (a 9) ShR ShZ, hm_wSu g (a 10) SuA SuJ] : List va_W).flatten) rfl
      obtain rfl := Option.some.inj hF
      exact hm_ri S hr hlk X rfl rfl dX7_place_44
    · have hF := hm_nf hF c11_0
      by_cases c11_1 : x1 = 1
      · have hF := hm_if hF c11_1
        refine hm_tabIn (off := 34) (tgt := 45) (k := 1) hx hb dX7_place_11 c11_1 (by decide) (by decide) (by decide) rfl (by decide) ?_
        refine lv_aload_n hx hb dX7_place_45 rfl (lv_at hl 0 rfl) ?_
        refine hm_get S X hf_X7_21 0 rfl rfl dX7_place_46 ?_
        refine lv_iload_n hx hb dX7_place_49 rfl (lv_at hl 1 rfl) ?_
        obtain ⟨t3, ht3, hF⟩ := hm_bd hF
        refine hm_vi (As := [.int x0]) S X mw_X3_plainAhead hw_2_143 (c_X3_plainAhead l g (a 2) ScR x0 t3 ht3) (hm_mid [[(a 0 0, .inr (7, [.ref (a 1 0), .ref (a 2 0), .ref (a 3 0), .ref (a 4 0), .ref (a 5 0), .ref (a 6 0), .ref (a 7 0), .ref (a 8 0), .ref (a 9 0), .ref (a 10 0), .int (Z 0), .int (Z 1)]))], hm_row g (a 1 0) (a 1 1) 200 (R 0)] [hm_wSe g (a 3) SeR SeA, hm_row g (a 4 0) (a 4 1) 100 (R 1), hm_row g (a 5 0) (a 5 1) 6 (R 2), hm_row g (a 6 0) (a 6 1) 6 (R 3), hm_wLe g (a 7) LeR LeZ, hm_wBr g (a 8) BrA, hm_wSh g (a 9) ShR ShZ, hm_wSu g (a 10) SuA SuJ]) (hm_mid [[(a 0 0, .inr (7, [.ref (a 1 0), .ref (a 2 0), .ref (a 3 0), .ref (a 4 0), .ref (a 5 0), .ref (a 6 0), .ref (a 7 0), .ref (a 8 0), .ref (a 9 0), .ref (a 10 0), .int (Z 0), .int (Z 1)]))], hm_row g (a 1 0) (a 1 1) 200 (R 0)] [hm_wSe g (a 3) SeR SeA, hm_row g (a 4 0) (a 4 1) 100 (R 1), hm_row g (a 5 0) (a 5 1) 6 (R 2), hm_row g (a 6 0) (a 6 1) 6 (R 3), hm_wLe g (a 7) LeR LeZ, hm_wBr g (a 8) BrA, hm_wSh g (a 9) ShR ShZ, hm_wSu g (a 10) SuA SuJ] (b := hm_wSc g (a 2) ScR)) rfl rfl rfl ⟨rfl, rfl, Nat.le_of_ble_eq_true rfl, Nat.le_of_ble_eq_true rfl⟩ rfl hl.1 rfl (Nat.le_of_ble_eq_true rfl) dX7_place_50 ⟨Nat.zero_le _, Nat.zero_le _⟩ (fun H locs X => ?_)
        have X := X.to (ws' := ([[(a 0 0, .inr (7, [.ref (a 1 0), .ref (a 2 0), .ref (a 3 0), .ref (a 4 0), .ref (a 5 0), .ref (a 6 0), .ref (a 7 0), .ref (a 8 0), .ref (a 9 0), .ref (a 10 0), .int (Z 0), .int (Z 1)]))], hm_row g (a 1 0) (a 1 1) 200 (R 0), hm_wSc g (a 2) ScR, hm_wSe g (a 3) SeR SeA, hm_row g (a 4 0) (a 4 1) 100 (R 1), hm_row g (a 5 0) (a 5 1) 6 (R 2), hm_row g (a 6 0) (a 6 1) 6 (R 3), hm_wLe g (a 7) LeR LeZ, hm_wBr g (a 8) BrA, hm_wSh g (a 9) ShR ShZ, hm_wSu g (a 10) SuA SuJ] : List va_W).flatten) rfl
        obtain rfl := Option.some.inj hF
        exact hm_ri S hr hlk X rfl rfl dX7_place_53
      · have hF := hm_nf hF c11_1
        by_cases c11_2 : x1 = 2
        · have hF := hm_if hF c11_2
          refine hm_tabIn (off := 43) (tgt := 54) (k := 2) hx hb dX7_place_11 c11_2 (by decide) (by decide) (by decide) rfl (by decide) ?_
          refine lv_aload_n hx hb dX7_place_54 rfl (lv_at hl 0 rfl) ?_
          refine hm_get S X hf_X7_21 0 rfl rfl dX7_place_55 ?_
          refine lv_iload_n hx hb dX7_place_58 rfl (lv_at hl 1 rfl) ?_
          obtain ⟨t4, ht4, hF⟩ := hm_bd hF
          refine hm_vi (As := [.int x0]) S X mw_X3_isSlashAt hw_2_147 (c_X3_isSlashAt l g (a 2) ScR x0 t4 ht4) (hm_mid [[(a 0 0, .inr (7, [.ref (a 1 0), .ref (a 2 0), .ref (a 3 0), .ref (a 4 0), .ref (a 5 0), .ref (a 6 0), .ref (a 7 0), .ref (a 8 0), .ref (a 9 0), .ref (a 10 0), .int (Z 0), .int (Z 1)]))], hm_row g (a 1 0) (a 1 1) 200 (R 0)] [hm_wSe g (a 3) SeR SeA, hm_row g (a 4 0) (a 4 1) 100 (R 1), hm_row g (a 5 0) (a 5 1) 6 (R 2), hm_row g (a 6 0) (a 6 1) 6 (R 3), hm_wLe g (a 7) LeR LeZ, hm_wBr g (a 8) BrA, hm_wSh g (a 9) ShR ShZ, hm_wSu g (a 10) SuA SuJ]) (hm_mid [[(a 0 0, .inr (7, [.ref (a 1 0), .ref (a 2 0), .ref (a 3 0), .ref (a 4 0), .ref (a 5 0), .ref (a 6 0), .ref (a 7 0), .ref (a 8 0), .ref (a 9 0), .ref (a 10 0), .int (Z 0), .int (Z 1)]))], hm_row g (a 1 0) (a 1 1) 200 (R 0)] [hm_wSe g (a 3) SeR SeA, hm_row g (a 4 0) (a 4 1) 100 (R 1), hm_row g (a 5 0) (a 5 1) 6 (R 2), hm_row g (a 6 0) (a 6 1) 6 (R 3), hm_wLe g (a 7) LeR LeZ, hm_wBr g (a 8) BrA, hm_wSh g (a 9) ShR ShZ, hm_wSu g (a 10) SuA SuJ] (b := hm_wSc g (a 2) ScR)) rfl rfl rfl ⟨rfl, rfl, Nat.le_of_ble_eq_true rfl, Nat.le_of_ble_eq_true rfl⟩ rfl hl.1 rfl (Nat.le_of_ble_eq_true rfl) dX7_place_59 ⟨Nat.zero_le _, Nat.zero_le _⟩ (fun H locs X => ?_)
          have X := X.to (ws' := ([[(a 0 0, .inr (7, [.ref (a 1 0), .ref (a 2 0), .ref (a 3 0), .ref (a 4 0), .ref (a 5 0), .ref (a 6 0), .ref (a 7 0), .ref (a 8 0), .ref (a 9 0), .ref (a 10 0), .int (Z 0), .int (Z 1)]))], hm_row g (a 1 0) (a 1 1) 200 (R 0), hm_wSc g (a 2) ScR, hm_wSe g (a 3) SeR SeA, hm_row g (a 4 0) (a 4 1) 100 (R 1), hm_row g (a 5 0) (a 5 1) 6 (R 2), hm_row g (a 6 0) (a 6 1) 6 (R 3), hm_wLe g (a 7) LeR LeZ, hm_wBr g (a 8) BrA, hm_wSh g (a 9) ShR ShZ, hm_wSu g (a 10) SuA SuJ] : List va_W).flatten) rfl
          refine lv_if_eq (tgt := 69) hx hb dX7_place_62 (by decide) (fun c62 => ?_) (fun c62 => ?_)
          · have hF := hm_if hF c62
            refine lv_iconst (v := 0) hx hb dX7_place_69 (by decide) ?_
            obtain rfl := Option.some.inj hF
            exact hm_ri S hr hlk X rfl rfl dX7_place_70
          · have hF := hm_nf hF c62
            refine lv_iconst (v := 1) hx hb dX7_place_65 (by decide) ?_
            refine lv_goto (tgt := 70) hx hb dX7_place_66 (by decide) ?_
            obtain rfl := Option.some.inj hF
            exact hm_ri S hr hlk X rfl rfl dX7_place_70
        · have hF := hm_nf hF c11_2
          refine lv_tableOut (tgt := 71) hx hb dX7_place_11 (hm_out 0 2 [0, 1, 2] (by decide) (List.forall_mem_cons.mpr ⟨c11_0, List.forall_mem_cons.mpr ⟨c11_1, List.forall_mem_cons.mpr ⟨c11_2, fun _ h => absurd h List.not_mem_nil⟩⟩⟩)) (by decide) ?_
          refine lv_iconst (v := (-1)) hx hb dX7_place_71 (by decide) ?_
          obtain rfl := Option.some.inj hF
          exact hm_ri S hr hlk X rfl rfl dX7_place_72
  · have hF := hm_if hF c5
    refine lv_iconst (v := (-1)) hx hb dX7_place_8 (by decide) ?_
    obtain rfl := Option.some.inj hF
    exact hm_ri S hr hlk X rfl rfl dX7_place_9
def f_X7_markStale (Z_1 : Int32) (x0 : Int32)  : Option (Int32 × Int32) :=
  if x0 = 35 then (
  some (1, Z_1))
  else (
  some (1, 1))
abbrev rm_X7_markStale : Room := { frames := 0, cells := 0, slots := 0, locals := 0 }
set_option maxHeartbeats 4000000 in
set_option maxRecDepth 100000 in
theorem c_X7_markStale (l : Launch) (g : hm_G) (a : Nat → Nat → Nat) (R : Nat → hm_SR) (Z : Nat → Int32) (ScR : Nat → hm_SR) (SeR : Nat → hm_SR) (SeA : Nat → Nat → Int32) (LeR : Nat → hm_SR) (LeZ : Nat → Int32) (BrA : Nat → Nat → Int32) (ShR : Nat → hm_SR) (ShZ : Nat → Int32) (SuA : Nat → Nat → Int32) (SuJ : Nat → Nat → Int64) (x0 : Int32) (q : Int32 × Int32) (hF : f_X7_markStale (Z 1) x0 = some q) : hm_Mv l yX7_markStale (Cond.code yX7_markStale cX7_markStale 2 none :: hm_W) rm_X7_markStale g [.ref (a 0 0), .int x0] ([hm_wHM g a R Z ScR SeR SeA LeR LeZ BrA ShR ShZ SuA SuJ] : List va_W).flatten ([hm_wHM g a R (hm_up (hm_up Z 0 q.1) 1 q.2) ScR SeR SeA LeR LeZ BrA ShR ShZ SuA SuJ] : List va_W).flatten := by
  refine hm_ofv [(0, .ref (a 0 0)), (1, .int x0)] (by decide) (own := RX7) rfl (Nat.le_of_ble_eq_true rfl) rfl rfl ?_
  intro p e s m args below meth c AA S hr hlk X ls hl
  have hx := S.1
  have hb := S.2.1
  have hown := S.2.2.2.1
  have hts := S.2.2.2.2
  have X := X.to (ws' := ([[(a 0 0, .inr (7, [.ref (a 1 0), .ref (a 2 0), .ref (a 3 0), .ref (a 4 0), .ref (a 5 0), .ref (a 6 0), .ref (a 7 0), .ref (a 8 0), .ref (a 9 0), .ref (a 10 0), .int (Z 0), .int (Z 1)]))], hm_row g (a 1 0) (a 1 1) 200 (R 0), hm_wSc g (a 2) ScR, hm_wSe g (a 3) SeR SeA, hm_row g (a 4 0) (a 4 1) 100 (R 1), hm_row g (a 5 0) (a 5 1) 6 (R 2), hm_row g (a 6 0) (a 6 1) 6 (R 3), hm_wLe g (a 7) LeR LeZ, hm_wBr g (a 8) BrA, hm_wSh g (a 9) ShR ShZ, hm_wSu g (a 10) SuA SuJ] : List va_W).flatten) rfl
  unfold f_X7_markStale at hF
  refine lv_aload_n hx hb dX7_markStale_0 rfl (lv_at hl 0 rfl) ?_
  refine lv_iconst (v := 1) hx hb dX7_markStale_1 (by decide) ?_
  refine hm_put S X hf_X7_69 hg_X7_sheetStale 0 rfl (hm_nb (Or.inr rfl)) (hm_fb (Or.inr rfl)) (Nat.le_of_ble_eq_true rfl) dX7_markStale_2 (fun H locs X => ?_)
  have X := X.to (ws' := ([[(a 0 0, .inr (7, [.ref (a 1 0), .ref (a 2 0), .ref (a 3 0), .ref (a 4 0), .ref (a 5 0), .ref (a 6 0), .ref (a 7 0), .ref (a 8 0), .ref (a 9 0), .ref (a 10 0), .int 1, .int (Z 1)]))], hm_row g (a 1 0) (a 1 1) 200 (R 0), hm_wSc g (a 2) ScR, hm_wSe g (a 3) SeR SeA, hm_row g (a 4 0) (a 4 1) 100 (R 1), hm_row g (a 5 0) (a 5 1) 6 (R 2), hm_row g (a 6 0) (a 6 1) 6 (R 3), hm_wLe g (a 7) LeR LeZ, hm_wBr g (a 8) BrA, hm_wSh g (a 9) ShR ShZ, hm_wSu g (a 10) SuA SuJ] : List va_W).flatten) rfl
  refine lv_iload_n hx hb dX7_markStale_5 rfl (lv_at hl 1 rfl) ?_
  refine lv_bipush (v := 35) hx hb dX7_markStale_6 (by decide) ?_
  refine lv_icmp_eq (tgt := 16) hx hb dX7_markStale_8 (by decide) (fun c8 => ?_) (fun c8 => ?_)
  · have hF := hm_if hF c8
    obtain rfl := Option.some.inj hF
    exact hm_rv S hr hlk X rfl dX7_markStale_16
  · have hF := hm_nf hF c8
    refine lv_aload_n hx hb dX7_markStale_11 rfl (lv_at hl 0 rfl) ?_
    refine lv_iconst (v := 1) hx hb dX7_markStale_12 (by decide) ?_
    refine hm_put S X hf_X7_73 hg_X7_surveyStale 0 rfl (hm_nb (Or.inr rfl)) (hm_fb (Or.inr rfl)) (Nat.le_of_ble_eq_true rfl) dX7_markStale_13 (fun H locs X => ?_)
    have X := X.to (ws' := ([[(a 0 0, .inr (7, [.ref (a 1 0), .ref (a 2 0), .ref (a 3 0), .ref (a 4 0), .ref (a 5 0), .ref (a 6 0), .ref (a 7 0), .ref (a 8 0), .ref (a 9 0), .ref (a 10 0), .int 1, .int 1]))], hm_row g (a 1 0) (a 1 1) 200 (R 0), hm_wSc g (a 2) ScR, hm_wSe g (a 3) SeR SeA, hm_row g (a 4 0) (a 4 1) 100 (R 1), hm_row g (a 5 0) (a 5 1) 6 (R 2), hm_row g (a 6 0) (a 6 1) 6 (R 3), hm_wLe g (a 7) LeR LeZ, hm_wBr g (a 8) BrA, hm_wSh g (a 9) ShR ShZ, hm_wSu g (a 10) SuA SuJ] : List va_W).flatten) rfl
    obtain rfl := Option.some.inj hF
    exact hm_rv S hr hlk X rfl dX7_markStale_16
def f_X7_change (Z_0 : Int32) (Z_1 : Int32) (SeR_0 : hm_SR) (SeR_1 : hm_SR) (SeA_0 : Nat → Int32) (x0 : Int32) (x1 : Int32)  : Option (Int32 × (Nat → Int32) × hm_SR × hm_SR × Int32 × Int32) :=
  (f_X4_get SeA_0 x0).bind fun t1 =>
  if t1 = x1 then (
  some ((-2), SeA_0, SeR_0, SeR_1, Z_0, Z_1))
  else (
  (f_X4_change SeR_0 SeR_1 SeA_0 x0 x1).bind fun t2 =>
  (f_X7_markStale Z_1 x0).bind fun t3 =>
  some (t1, t2.1, t2.2.1, t2.2.2, t3.1, t3.2))
abbrev rm_X7_change : Room := { frames := 3, cells := 0, slots := 0, locals := 65 }
set_option maxHeartbeats 4000000 in
set_option maxRecDepth 100000 in
theorem c_X7_change (l : Launch) (g : hm_G) (a : Nat → Nat → Nat) (R : Nat → hm_SR) (Z : Nat → Int32) (ScR : Nat → hm_SR) (SeR : Nat → hm_SR) (SeA : Nat → Nat → Int32) (LeR : Nat → hm_SR) (LeZ : Nat → Int32) (BrA : Nat → Nat → Int32) (ShR : Nat → hm_SR) (ShZ : Nat → Int32) (SuA : Nat → Nat → Int32) (SuJ : Nat → Nat → Int64) (x0 : Int32) (x1 : Int32) (q : Int32 × (Nat → Int32) × hm_SR × hm_SR × Int32 × Int32) (hF : f_X7_change (Z 0) (Z 1) (SeR 0) (SeR 1) (SeA 0) x0 x1 = some q) : hm_Mi l yX7_change (Cond.code yX7_change cX7_change 4 (some .int) :: hm_W) rm_X7_change g [.ref (a 0 0), .int x0, .int x1] ([hm_wHM g a R Z ScR SeR SeA LeR LeZ BrA ShR ShZ SuA SuJ] : List va_W).flatten ([hm_wHM g a R (hm_up (hm_up Z 0 q.2.2.2.2.1) 1 q.2.2.2.2.2) ScR (hm_up (hm_up SeR 0 q.2.2.1) 1 q.2.2.2.1) (hm_up SeA 0 q.2.1) LeR LeZ BrA ShR ShZ SuA SuJ] : List va_W).flatten q.1 := by
  refine hm_ofi [(0, .ref (a 0 0)), (1, .int x0), (2, .int x1)] (by decide) (own := RX7) rfl (Nat.le_of_ble_eq_true rfl) rfl rfl ?_
  intro p e s m args below meth c AA S hr hlk X ls hl
  have hx := S.1
  have hb := S.2.1
  have hown := S.2.2.2.1
  have hts := S.2.2.2.2
  have X := X.to (ws' := ([[(a 0 0, .inr (7, [.ref (a 1 0), .ref (a 2 0), .ref (a 3 0), .ref (a 4 0), .ref (a 5 0), .ref (a 6 0), .ref (a 7 0), .ref (a 8 0), .ref (a 9 0), .ref (a 10 0), .int (Z 0), .int (Z 1)]))], hm_row g (a 1 0) (a 1 1) 200 (R 0), hm_wSc g (a 2) ScR, hm_wSe g (a 3) SeR SeA, hm_row g (a 4 0) (a 4 1) 100 (R 1), hm_row g (a 5 0) (a 5 1) 6 (R 2), hm_row g (a 6 0) (a 6 1) 6 (R 3), hm_wLe g (a 7) LeR LeZ, hm_wBr g (a 8) BrA, hm_wSh g (a 9) ShR ShZ, hm_wSu g (a 10) SuA SuJ] : List va_W).flatten) rfl
  unfold f_X7_change at hF
  refine lv_aload_n hx hb dX7_change_0 rfl (lv_at hl 0 rfl) ?_
  refine hm_get S X hf_X7_28 0 rfl rfl dX7_change_1 ?_
  refine lv_iload_n hx hb dX7_change_4 rfl (lv_at hl 1 rfl) ?_
  obtain ⟨t1, ht1, hF⟩ := hm_bd hF
  refine hm_vi (As := [.int x0]) S X mw_X4_get hw_2_159 (c_X4_get l g (a 3) SeR SeA x0 t1 ht1) (hm_mid [[(a 0 0, .inr (7, [.ref (a 1 0), .ref (a 2 0), .ref (a 3 0), .ref (a 4 0), .ref (a 5 0), .ref (a 6 0), .ref (a 7 0), .ref (a 8 0), .ref (a 9 0), .ref (a 10 0), .int (Z 0), .int (Z 1)]))], hm_row g (a 1 0) (a 1 1) 200 (R 0), hm_wSc g (a 2) ScR] [hm_row g (a 4 0) (a 4 1) 100 (R 1), hm_row g (a 5 0) (a 5 1) 6 (R 2), hm_row g (a 6 0) (a 6 1) 6 (R 3), hm_wLe g (a 7) LeR LeZ, hm_wBr g (a 8) BrA, hm_wSh g (a 9) ShR ShZ, hm_wSu g (a 10) SuA SuJ]) (hm_mid [[(a 0 0, .inr (7, [.ref (a 1 0), .ref (a 2 0), .ref (a 3 0), .ref (a 4 0), .ref (a 5 0), .ref (a 6 0), .ref (a 7 0), .ref (a 8 0), .ref (a 9 0), .ref (a 10 0), .int (Z 0), .int (Z 1)]))], hm_row g (a 1 0) (a 1 1) 200 (R 0), hm_wSc g (a 2) ScR] [hm_row g (a 4 0) (a 4 1) 100 (R 1), hm_row g (a 5 0) (a 5 1) 6 (R 2), hm_row g (a 6 0) (a 6 1) 6 (R 3), hm_wLe g (a 7) LeR LeZ, hm_wBr g (a 8) BrA, hm_wSh g (a 9) ShR ShZ, hm_wSu g (a 10) SuA SuJ] (b := hm_wSe g (a 3) SeR SeA)) rfl rfl rfl ⟨rfl, rfl, Nat.le_of_ble_eq_true rfl, Nat.le_of_ble_eq_true rfl⟩ rfl hl.1 rfl (Nat.le_of_ble_eq_true rfl) dX7_change_5 ⟨Nat.zero_le _, Nat.zero_le _⟩ (fun H locs X => ?_)
  have X := X.to (ws' := ([[(a 0 0, .inr (7, [.ref (a 1 0), .ref (a 2 0), .ref (a 3 0), .ref (a 4 0), .ref (a 5 0), .ref (a 6 0), .ref (a 7 0), .ref (a 8 0), .ref (a 9 0), .ref (a 10 0), .int (Z 0), .int (Z 1)]))], hm_row g (a 1 0) (a 1 1) 200 (R 0), hm_wSc g (a 2) ScR, hm_wSe g (a 3) SeR SeA, hm_row g (a 4 0) (a 4 1) 100 (R 1), hm_row g (a 5 0) (a 5 1) 6 (R 2), hm_row g (a 6 0) (a 6 1) 6 (R 3), hm_wLe g (a 7) LeR LeZ, hm_wBr g (a 8) BrA, hm_wSh g (a 9) ShR ShZ, hm_wSu g (a 10) SuA SuJ] : List va_W).flatten) rfl
  refine lv_istore_n (lv' := [(3, .int t1), (0, .ref (a 0 0)), (1, .int x0), (2, .int x1)]) hx hb dX7_change_8 rfl hl (by decide) rfl (fun ls hl => ?_)
  refine lv_iload_n hx hb dX7_change_9 rfl (lv_at hl 0 rfl) ?_
  refine lv_iload_n hx hb dX7_change_10 rfl (lv_at hl 3 rfl) ?_
  refine lv_icmp_ne (tgt := 17) hx hb dX7_change_11 (by decide) (fun c11 => ?_) (fun c11 => ?_)
  · have hF := hm_nf hF c11
    refine lv_aload_n hx hb dX7_change_17 rfl (lv_at hl 1 rfl) ?_
    refine hm_get S X hf_X7_28 0 rfl rfl dX7_change_18 ?_
    refine lv_iload_n hx hb dX7_change_21 rfl (lv_at hl 2 rfl) ?_
    refine lv_iload_n hx hb dX7_change_22 rfl (lv_at hl 3 rfl) ?_
    obtain ⟨t2, ht2, hF⟩ := hm_bd hF
    refine hm_vv (As := [.int x0, .int x1]) S X mw_X4_change hw_2_163 (c_X4_change l g (a 3) SeR SeA x0 x1 t2 ht2) (hm_mid [[(a 0 0, .inr (7, [.ref (a 1 0), .ref (a 2 0), .ref (a 3 0), .ref (a 4 0), .ref (a 5 0), .ref (a 6 0), .ref (a 7 0), .ref (a 8 0), .ref (a 9 0), .ref (a 10 0), .int (Z 0), .int (Z 1)]))], hm_row g (a 1 0) (a 1 1) 200 (R 0), hm_wSc g (a 2) ScR] [hm_row g (a 4 0) (a 4 1) 100 (R 1), hm_row g (a 5 0) (a 5 1) 6 (R 2), hm_row g (a 6 0) (a 6 1) 6 (R 3), hm_wLe g (a 7) LeR LeZ, hm_wBr g (a 8) BrA, hm_wSh g (a 9) ShR ShZ, hm_wSu g (a 10) SuA SuJ]) (hm_mid [[(a 0 0, .inr (7, [.ref (a 1 0), .ref (a 2 0), .ref (a 3 0), .ref (a 4 0), .ref (a 5 0), .ref (a 6 0), .ref (a 7 0), .ref (a 8 0), .ref (a 9 0), .ref (a 10 0), .int (Z 0), .int (Z 1)]))], hm_row g (a 1 0) (a 1 1) 200 (R 0), hm_wSc g (a 2) ScR] [hm_row g (a 4 0) (a 4 1) 100 (R 1), hm_row g (a 5 0) (a 5 1) 6 (R 2), hm_row g (a 6 0) (a 6 1) 6 (R 3), hm_wLe g (a 7) LeR LeZ, hm_wBr g (a 8) BrA, hm_wSh g (a 9) ShR ShZ, hm_wSu g (a 10) SuA SuJ] (b := hm_wSe g (a 3) (hm_up (hm_up SeR 0 t2.2.1) 1 t2.2.2) (hm_up SeA 0 t2.1))) rfl rfl rfl ⟨rfl, rfl, Nat.le_of_ble_eq_true rfl, Nat.le_of_ble_eq_true rfl⟩ rfl hl.1 rfl (Nat.le_of_ble_eq_true rfl) dX7_change_23 ⟨Nat.zero_le _, Nat.zero_le _⟩ (fun H locs X => ?_)
    have X := X.to (ws' := ([[(a 0 0, .inr (7, [.ref (a 1 0), .ref (a 2 0), .ref (a 3 0), .ref (a 4 0), .ref (a 5 0), .ref (a 6 0), .ref (a 7 0), .ref (a 8 0), .ref (a 9 0), .ref (a 10 0), .int (Z 0), .int (Z 1)]))], hm_row g (a 1 0) (a 1 1) 200 (R 0), hm_wSc g (a 2) ScR, hm_wSe g (a 3) (hm_up (hm_up SeR 0 t2.2.1) 1 t2.2.2) (hm_up SeA 0 t2.1), hm_row g (a 4 0) (a 4 1) 100 (R 1), hm_row g (a 5 0) (a 5 1) 6 (R 2), hm_row g (a 6 0) (a 6 1) 6 (R 3), hm_wLe g (a 7) LeR LeZ, hm_wBr g (a 8) BrA, hm_wSh g (a 9) ShR ShZ, hm_wSu g (a 10) SuA SuJ] : List va_W).flatten) rfl
    refine lv_aload_n hx hb dX7_change_26 rfl (lv_at hl 1 rfl) ?_
    refine lv_iload_n hx hb dX7_change_27 rfl (lv_at hl 2 rfl) ?_
    obtain ⟨t3, ht3, hF⟩ := hm_bd hF
    refine hm_vv (As := [.int x0]) S X mw_X7_markStale hw_2_183 (c_X7_markStale l g a R Z ScR (hm_up (hm_up SeR 0 t2.2.1) 1 t2.2.2) (hm_up SeA 0 t2.1) LeR LeZ BrA ShR ShZ SuA SuJ x0 t3 ht3) (hm_cq (n := 11) [0, 1, 2, 3, 4, 5, 6, 7, 8, 9, 10] [] rfl (by decide +kernel) rfl rfl) (hm_cq (bs := [[(a 0 0, .inr (7, [.ref (a 1 0), .ref (a 2 0), .ref (a 3 0), .ref (a 4 0), .ref (a 5 0), .ref (a 6 0), .ref (a 7 0), .ref (a 8 0), .ref (a 9 0), .ref (a 10 0), .int t3.1, .int t3.2]))], hm_row g (a 1 0) (a 1 1) 200 (R 0), hm_wSc g (a 2) ScR, hm_wSe g (a 3) (hm_up (hm_up SeR 0 t2.2.1) 1 t2.2.2) (hm_up SeA 0 t2.1), hm_row g (a 4 0) (a 4 1) 100 (R 1), hm_row g (a 5 0) (a 5 1) 6 (R 2), hm_row g (a 6 0) (a 6 1) 6 (R 3), hm_wLe g (a 7) LeR LeZ, hm_wBr g (a 8) BrA, hm_wSh g (a 9) ShR ShZ, hm_wSu g (a 10) SuA SuJ]) (n := 11) [0, 1, 2, 3, 4, 5, 6, 7, 8, 9, 10] [] rfl (by decide +kernel) rfl rfl) rfl rfl rfl ⟨rfl, rfl, Nat.le_of_ble_eq_true rfl, Nat.le_of_ble_eq_true rfl⟩ rfl hl.1 rfl (Nat.le_of_ble_eq_true rfl) dX7_change_28 ⟨Nat.zero_le _, Nat.zero_le _⟩ (fun H locs X => ?_)
    have X := X.to (ws' := ([[(a 0 0, .inr (7, [.ref (a 1 0), .ref (a 2 0), .ref (a 3 0), .ref (a 4 0), .ref (a 5 0), .ref (a 6 0), .ref (a 7 0), .ref (a 8 0), .ref (a 9 0), .ref (a 10 0), .int t3.1, .int t3.2]))], hm_row g (a 1 0) (a 1 1) 200 (R 0), hm_wSc g (a 2) ScR, hm_wSe g (a 3) (hm_up (hm_up SeR 0 t2.2.1) 1 t2.2.2) (hm_up SeA 0 t2.1), hm_row g (a 4 0) (a 4 1) 100 (R 1), hm_row g (a 5 0) (a 5 1) 6 (R 2), hm_row g (a 6 0) (a 6 1) 6 (R 3), hm_wLe g (a 7) LeR LeZ, hm_wBr g (a 8) BrA, hm_wSh g (a 9) ShR ShZ, hm_wSu g (a 10) SuA SuJ] : List va_W).flatten) rfl
    refine lv_iload_n hx hb dX7_change_31 rfl (lv_at hl 0 rfl) ?_
    obtain rfl := Option.some.inj hF
    exact hm_ri S hr hlk X rfl rfl dX7_change_32
  · have hF := hm_if hF c11
    refine lv_bipush (v := (-2)) hx hb dX7_change_14 (by decide) ?_
    obtain rfl := Option.some.inj hF
    exact hm_ri S hr hlk X rfl rfl dX7_change_16
def f_X7_wide (Z_0 : Int32) (Z_1 : Int32) (SeR_0 : hm_SR) (SeR_1 : hm_SR) (SeA_0 : Nat → Int32) (x0 : Int32) (x1 : Int32)  : Option (Int32 × (Nat → Int32) × hm_SR × hm_SR × Int32 × Int32) :=
  (f_X7_widthSlot x0).bind fun t1 =>
  if t1 < 0 then (
  some ((-1), SeA_0, SeR_0, SeR_1, Z_0, Z_1))
  else (
  if x1 < 0 then (
  some ((-1), SeA_0, SeR_0, SeR_1, Z_0, Z_1))
  else (
  if x1 ≤ 9 then (
  (f_X7_change Z_0 Z_1 SeR_0 SeR_1 SeA_0 t1 x1).bind fun t2 =>
  some (t2.1, t2.2.1, t2.2.2.1, t2.2.2.2.1, t2.2.2.2.2.1, t2.2.2.2.2.2))
  else (
  some ((-1), SeA_0, SeR_0, SeR_1, Z_0, Z_1))))
abbrev rm_X7_wide : Room := { frames := 4, cells := 0, slots := 0, locals := 88 }
set_option maxHeartbeats 4000000 in
set_option maxRecDepth 100000 in
theorem c_X7_wide (l : Launch) (g : hm_G) (a : Nat → Nat → Nat) (R : Nat → hm_SR) (Z : Nat → Int32) (ScR : Nat → hm_SR) (SeR : Nat → hm_SR) (SeA : Nat → Nat → Int32) (LeR : Nat → hm_SR) (LeZ : Nat → Int32) (BrA : Nat → Nat → Int32) (ShR : Nat → hm_SR) (ShZ : Nat → Int32) (SuA : Nat → Nat → Int32) (SuJ : Nat → Nat → Int64) (x0 : Int32) (x1 : Int32) (q : Int32 × (Nat → Int32) × hm_SR × hm_SR × Int32 × Int32) (hF : f_X7_wide (Z 0) (Z 1) (SeR 0) (SeR 1) (SeA 0) x0 x1 = some q) : hm_Mi l yX7_wide (Cond.code yX7_wide cX7_wide 4 (some .int) :: hm_W) rm_X7_wide g [.ref (a 0 0), .int x0, .int x1] ([hm_wHM g a R Z ScR SeR SeA LeR LeZ BrA ShR ShZ SuA SuJ] : List va_W).flatten ([hm_wHM g a R (hm_up (hm_up Z 0 q.2.2.2.2.1) 1 q.2.2.2.2.2) ScR (hm_up (hm_up SeR 0 q.2.2.1) 1 q.2.2.2.1) (hm_up SeA 0 q.2.1) LeR LeZ BrA ShR ShZ SuA SuJ] : List va_W).flatten q.1 := by
  refine hm_ofi [(0, .ref (a 0 0)), (1, .int x0), (2, .int x1)] (by decide) (own := RX7) rfl (Nat.le_of_ble_eq_true rfl) rfl rfl ?_
  intro p e s m args below meth c AA S hr hlk X ls hl
  have hx := S.1
  have hb := S.2.1
  have hown := S.2.2.2.1
  have hts := S.2.2.2.2
  have X := X.to (ws' := ([[(a 0 0, .inr (7, [.ref (a 1 0), .ref (a 2 0), .ref (a 3 0), .ref (a 4 0), .ref (a 5 0), .ref (a 6 0), .ref (a 7 0), .ref (a 8 0), .ref (a 9 0), .ref (a 10 0), .int (Z 0), .int (Z 1)]))], hm_row g (a 1 0) (a 1 1) 200 (R 0), hm_wSc g (a 2) ScR, hm_wSe g (a 3) SeR SeA, hm_row g (a 4 0) (a 4 1) 100 (R 1), hm_row g (a 5 0) (a 5 1) 6 (R 2), hm_row g (a 6 0) (a 6 1) 6 (R 3), hm_wLe g (a 7) LeR LeZ, hm_wBr g (a 8) BrA, hm_wSh g (a 9) ShR ShZ, hm_wSu g (a 10) SuA SuJ] : List va_W).flatten) rfl
  unfold f_X7_wide at hF
  refine lv_iload_n hx hb dX7_wide_0 rfl (lv_at hl 1 rfl) ?_
  obtain ⟨t1, ht1, hF⟩ := hm_bd hF
  refine hm_si S X mw_X7_widthSlot hw_2_52 (c_X7_widthSlot l g x0 t1 ht1) hm_non hm_non ⟨rfl, rfl, Nat.le_of_ble_eq_true rfl, Nat.le_of_ble_eq_true rfl⟩ rfl hl.1 rfl (Nat.le_of_ble_eq_true rfl) dX7_wide_1 ⟨Nat.zero_le _, Nat.zero_le _⟩ (fun H locs X => ?_)
  have X := X.to (ws' := ([[(a 0 0, .inr (7, [.ref (a 1 0), .ref (a 2 0), .ref (a 3 0), .ref (a 4 0), .ref (a 5 0), .ref (a 6 0), .ref (a 7 0), .ref (a 8 0), .ref (a 9 0), .ref (a 10 0), .int (Z 0), .int (Z 1)]))], hm_row g (a 1 0) (a 1 1) 200 (R 0), hm_wSc g (a 2) ScR, hm_wSe g (a 3) SeR SeA, hm_row g (a 4 0) (a 4 1) 100 (R 1), hm_row g (a 5 0) (a 5 1) 6 (R 2), hm_row g (a 6 0) (a 6 1) 6 (R 3), hm_wLe g (a 7) LeR LeZ, hm_wBr g (a 8) BrA, hm_wSh g (a 9) ShR ShZ, hm_wSu g (a 10) SuA SuJ] : List va_W).flatten) rfl
  refine lv_istore_n (lv' := [(3, .int t1), (0, .ref (a 0 0)), (1, .int x0), (2, .int x1)]) hx hb dX7_wide_4 rfl hl (by decide) rfl (fun ls hl => ?_)
  refine lv_iload_n hx hb dX7_wide_5 rfl (lv_at hl 0 rfl) ?_
  refine lv_if_lt (tgt := 19) hx hb dX7_wide_6 (by decide) (fun c6 => ?_) (fun c6 => ?_)
  · have hF := hm_if hF c6
    refine lv_iconst (v := (-1)) hx hb dX7_wide_19 (by decide) ?_
    obtain rfl := Option.some.inj hF
    exact hm_ri S hr hlk X rfl rfl dX7_wide_20
  · have hF := hm_nf hF c6
    refine lv_iload_n hx hb dX7_wide_9 rfl (lv_at hl 3 rfl) ?_
    refine lv_if_lt (tgt := 19) hx hb dX7_wide_10 (by decide) (fun c10 => ?_) (fun c10 => ?_)
    · have hF := hm_if hF c10
      refine lv_iconst (v := (-1)) hx hb dX7_wide_19 (by decide) ?_
      obtain rfl := Option.some.inj hF
      exact hm_ri S hr hlk X rfl rfl dX7_wide_20
    · have hF := hm_nf hF c10
      refine lv_iload_n hx hb dX7_wide_13 rfl (lv_at hl 3 rfl) ?_
      refine lv_bipush (v := 9) hx hb dX7_wide_14 (by decide) ?_
      refine lv_icmp_le (tgt := 21) hx hb dX7_wide_16 (by decide) (fun c16 => ?_) (fun c16 => ?_)
      · have hF := hm_if hF c16
        refine lv_aload_n hx hb dX7_wide_21 rfl (lv_at hl 1 rfl) ?_
        refine lv_iload_n hx hb dX7_wide_22 rfl (lv_at hl 0 rfl) ?_
        refine lv_iload_n hx hb dX7_wide_23 rfl (lv_at hl 3 rfl) ?_
        obtain ⟨t2, ht2, hF⟩ := hm_bd hF
        refine hm_vi (As := [.int t1, .int x1]) S X mw_X7_change hw_2_155 (c_X7_change l g a R Z ScR SeR SeA LeR LeZ BrA ShR ShZ SuA SuJ t1 x1 t2 ht2) (hm_cq (n := 11) [0, 1, 2, 3, 4, 5, 6, 7, 8, 9, 10] [] rfl (by decide +kernel) rfl rfl) (hm_cq (bs := [[(a 0 0, .inr (7, [.ref (a 1 0), .ref (a 2 0), .ref (a 3 0), .ref (a 4 0), .ref (a 5 0), .ref (a 6 0), .ref (a 7 0), .ref (a 8 0), .ref (a 9 0), .ref (a 10 0), .int t2.2.2.2.2.1, .int t2.2.2.2.2.2]))], hm_row g (a 1 0) (a 1 1) 200 (R 0), hm_wSc g (a 2) ScR, hm_wSe g (a 3) (hm_up (hm_up SeR 0 t2.2.2.1) 1 t2.2.2.2.1) (hm_up SeA 0 t2.2.1), hm_row g (a 4 0) (a 4 1) 100 (R 1), hm_row g (a 5 0) (a 5 1) 6 (R 2), hm_row g (a 6 0) (a 6 1) 6 (R 3), hm_wLe g (a 7) LeR LeZ, hm_wBr g (a 8) BrA, hm_wSh g (a 9) ShR ShZ, hm_wSu g (a 10) SuA SuJ]) (n := 11) [0, 1, 2, 3, 4, 5, 6, 7, 8, 9, 10] [] rfl (by decide +kernel) rfl rfl) rfl rfl rfl ⟨rfl, rfl, Nat.le_of_ble_eq_true rfl, Nat.le_of_ble_eq_true rfl⟩ rfl hl.1 rfl (Nat.le_of_ble_eq_true rfl) dX7_wide_24 ⟨Nat.zero_le _, Nat.zero_le _⟩ (fun H locs X => ?_)
        have X := X.to (ws' := ([[(a 0 0, .inr (7, [.ref (a 1 0), .ref (a 2 0), .ref (a 3 0), .ref (a 4 0), .ref (a 5 0), .ref (a 6 0), .ref (a 7 0), .ref (a 8 0), .ref (a 9 0), .ref (a 10 0), .int t2.2.2.2.2.1, .int t2.2.2.2.2.2]))], hm_row g (a 1 0) (a 1 1) 200 (R 0), hm_wSc g (a 2) ScR, hm_wSe g (a 3) (hm_up (hm_up SeR 0 t2.2.2.1) 1 t2.2.2.2.1) (hm_up SeA 0 t2.2.1), hm_row g (a 4 0) (a 4 1) 100 (R 1), hm_row g (a 5 0) (a 5 1) 6 (R 2), hm_row g (a 6 0) (a 6 1) 6 (R 3), hm_wLe g (a 7) LeR LeZ, hm_wBr g (a 8) BrA, hm_wSh g (a 9) ShR ShZ, hm_wSu g (a 10) SuA SuJ] : List va_W).flatten) rfl
        obtain rfl := Option.some.inj hF
        exact hm_ri S hr hlk X rfl rfl dX7_wide_27
      · have hF := hm_nf hF c16
        refine lv_iconst (v := (-1)) hx hb dX7_wide_19 (by decide) ?_
        obtain rfl := Option.some.inj hF
        exact hm_ri S hr hlk X rfl rfl dX7_wide_20
def f_X7_hangs (Z_0 : Int32) (Z_1 : Int32) (SeR_0 : hm_SR) (SeR_1 : hm_SR) (SeA_0 : Nat → Int32) (x0 : Int32) (x1 : Int32)  : Option (Int32 × (Nat → Int32) × hm_SR × hm_SR × Int32 × Int32) :=
  (f_X7_hangSlot x0).bind fun t1 =>
  if t1 < 0 then (
  some ((-1), SeA_0, SeR_0, SeR_1, Z_0, Z_1))
  else (
  if x1 < 0 then (
  some ((-1), SeA_0, SeR_0, SeR_1, Z_0, Z_1))
  else (
  if x1 ≤ 10 then (
  (f_X7_change Z_0 Z_1 SeR_0 SeR_1 SeA_0 t1 x1).bind fun t2 =>
  some (t2.1, t2.2.1, t2.2.2.1, t2.2.2.2.1, t2.2.2.2.2.1, t2.2.2.2.2.2))
  else (
  some ((-1), SeA_0, SeR_0, SeR_1, Z_0, Z_1))))
abbrev rm_X7_hangs : Room := { frames := 4, cells := 0, slots := 0, locals := 88 }
set_option maxHeartbeats 4000000 in
set_option maxRecDepth 100000 in
theorem c_X7_hangs (l : Launch) (g : hm_G) (a : Nat → Nat → Nat) (R : Nat → hm_SR) (Z : Nat → Int32) (ScR : Nat → hm_SR) (SeR : Nat → hm_SR) (SeA : Nat → Nat → Int32) (LeR : Nat → hm_SR) (LeZ : Nat → Int32) (BrA : Nat → Nat → Int32) (ShR : Nat → hm_SR) (ShZ : Nat → Int32) (SuA : Nat → Nat → Int32) (SuJ : Nat → Nat → Int64) (x0 : Int32) (x1 : Int32) (q : Int32 × (Nat → Int32) × hm_SR × hm_SR × Int32 × Int32) (hF : f_X7_hangs (Z 0) (Z 1) (SeR 0) (SeR 1) (SeA 0) x0 x1 = some q) : hm_Mi l yX7_hangs (Cond.code yX7_hangs cX7_hangs 4 (some .int) :: hm_W) rm_X7_hangs g [.ref (a 0 0), .int x0, .int x1] ([hm_wHM g a R Z ScR SeR SeA LeR LeZ BrA ShR ShZ SuA SuJ] : List va_W).flatten ([hm_wHM g a R (hm_up (hm_up Z 0 q.2.2.2.2.1) 1 q.2.2.2.2.2) ScR (hm_up (hm_up SeR 0 q.2.2.1) 1 q.2.2.2.1) (hm_up SeA 0 q.2.1) LeR LeZ BrA ShR ShZ SuA SuJ] : List va_W).flatten q.1 := by
  refine hm_ofi [(0, .ref (a 0 0)), (1, .int x0), (2, .int x1)] (by decide) (own := RX7) rfl (Nat.le_of_ble_eq_true rfl) rfl rfl ?_
  intro p e s m args below meth c AA S hr hlk X ls hl
  have hx := S.1
  have hb := S.2.1
  have hown := S.2.2.2.1
  have hts := S.2.2.2.2
  have X := X.to (ws' := ([[(a 0 0, .inr (7, [.ref (a 1 0), .ref (a 2 0), .ref (a 3 0), .ref (a 4 0), .ref (a 5 0), .ref (a 6 0), .ref (a 7 0), .ref (a 8 0), .ref (a 9 0), .ref (a 10 0), .int (Z 0), .int (Z 1)]))], hm_row g (a 1 0) (a 1 1) 200 (R 0), hm_wSc g (a 2) ScR, hm_wSe g (a 3) SeR SeA, hm_row g (a 4 0) (a 4 1) 100 (R 1), hm_row g (a 5 0) (a 5 1) 6 (R 2), hm_row g (a 6 0) (a 6 1) 6 (R 3), hm_wLe g (a 7) LeR LeZ, hm_wBr g (a 8) BrA, hm_wSh g (a 9) ShR ShZ, hm_wSu g (a 10) SuA SuJ] : List va_W).flatten) rfl
  unfold f_X7_hangs at hF
  refine lv_iload_n hx hb dX7_hangs_0 rfl (lv_at hl 1 rfl) ?_
  obtain ⟨t1, ht1, hF⟩ := hm_bd hF
  refine hm_si S X mw_X7_hangSlot hw_2_191 (c_X7_hangSlot l g x0 t1 ht1) hm_non hm_non ⟨rfl, rfl, Nat.le_of_ble_eq_true rfl, Nat.le_of_ble_eq_true rfl⟩ rfl hl.1 rfl (Nat.le_of_ble_eq_true rfl) dX7_hangs_1 ⟨Nat.zero_le _, Nat.zero_le _⟩ (fun H locs X => ?_)
  have X := X.to (ws' := ([[(a 0 0, .inr (7, [.ref (a 1 0), .ref (a 2 0), .ref (a 3 0), .ref (a 4 0), .ref (a 5 0), .ref (a 6 0), .ref (a 7 0), .ref (a 8 0), .ref (a 9 0), .ref (a 10 0), .int (Z 0), .int (Z 1)]))], hm_row g (a 1 0) (a 1 1) 200 (R 0), hm_wSc g (a 2) ScR, hm_wSe g (a 3) SeR SeA, hm_row g (a 4 0) (a 4 1) 100 (R 1), hm_row g (a 5 0) (a 5 1) 6 (R 2), hm_row g (a 6 0) (a 6 1) 6 (R 3), hm_wLe g (a 7) LeR LeZ, hm_wBr g (a 8) BrA, hm_wSh g (a 9) ShR ShZ, hm_wSu g (a 10) SuA SuJ] : List va_W).flatten) rfl
  refine lv_istore_n (lv' := [(3, .int t1), (0, .ref (a 0 0)), (1, .int x0), (2, .int x1)]) hx hb dX7_hangs_4 rfl hl (by decide) rfl (fun ls hl => ?_)
  refine lv_iload_n hx hb dX7_hangs_5 rfl (lv_at hl 0 rfl) ?_
  refine lv_if_lt (tgt := 19) hx hb dX7_hangs_6 (by decide) (fun c6 => ?_) (fun c6 => ?_)
  · have hF := hm_if hF c6
    refine lv_iconst (v := (-1)) hx hb dX7_hangs_19 (by decide) ?_
    obtain rfl := Option.some.inj hF
    exact hm_ri S hr hlk X rfl rfl dX7_hangs_20
  · have hF := hm_nf hF c6
    refine lv_iload_n hx hb dX7_hangs_9 rfl (lv_at hl 3 rfl) ?_
    refine lv_if_lt (tgt := 19) hx hb dX7_hangs_10 (by decide) (fun c10 => ?_) (fun c10 => ?_)
    · have hF := hm_if hF c10
      refine lv_iconst (v := (-1)) hx hb dX7_hangs_19 (by decide) ?_
      obtain rfl := Option.some.inj hF
      exact hm_ri S hr hlk X rfl rfl dX7_hangs_20
    · have hF := hm_nf hF c10
      refine lv_iload_n hx hb dX7_hangs_13 rfl (lv_at hl 3 rfl) ?_
      refine lv_bipush (v := 10) hx hb dX7_hangs_14 (by decide) ?_
      refine lv_icmp_le (tgt := 21) hx hb dX7_hangs_16 (by decide) (fun c16 => ?_) (fun c16 => ?_)
      · have hF := hm_if hF c16
        refine lv_aload_n hx hb dX7_hangs_21 rfl (lv_at hl 1 rfl) ?_
        refine lv_iload_n hx hb dX7_hangs_22 rfl (lv_at hl 0 rfl) ?_
        refine lv_iload_n hx hb dX7_hangs_23 rfl (lv_at hl 3 rfl) ?_
        obtain ⟨t2, ht2, hF⟩ := hm_bd hF
        refine hm_vi (As := [.int t1, .int x1]) S X mw_X7_change hw_2_155 (c_X7_change l g a R Z ScR SeR SeA LeR LeZ BrA ShR ShZ SuA SuJ t1 x1 t2 ht2) (hm_cq (n := 11) [0, 1, 2, 3, 4, 5, 6, 7, 8, 9, 10] [] rfl (by decide +kernel) rfl rfl) (hm_cq (bs := [[(a 0 0, .inr (7, [.ref (a 1 0), .ref (a 2 0), .ref (a 3 0), .ref (a 4 0), .ref (a 5 0), .ref (a 6 0), .ref (a 7 0), .ref (a 8 0), .ref (a 9 0), .ref (a 10 0), .int t2.2.2.2.2.1, .int t2.2.2.2.2.2]))], hm_row g (a 1 0) (a 1 1) 200 (R 0), hm_wSc g (a 2) ScR, hm_wSe g (a 3) (hm_up (hm_up SeR 0 t2.2.2.1) 1 t2.2.2.2.1) (hm_up SeA 0 t2.2.1), hm_row g (a 4 0) (a 4 1) 100 (R 1), hm_row g (a 5 0) (a 5 1) 6 (R 2), hm_row g (a 6 0) (a 6 1) 6 (R 3), hm_wLe g (a 7) LeR LeZ, hm_wBr g (a 8) BrA, hm_wSh g (a 9) ShR ShZ, hm_wSu g (a 10) SuA SuJ]) (n := 11) [0, 1, 2, 3, 4, 5, 6, 7, 8, 9, 10] [] rfl (by decide +kernel) rfl rfl) rfl rfl rfl ⟨rfl, rfl, Nat.le_of_ble_eq_true rfl, Nat.le_of_ble_eq_true rfl⟩ rfl hl.1 rfl (Nat.le_of_ble_eq_true rfl) dX7_hangs_24 ⟨Nat.zero_le _, Nat.zero_le _⟩ (fun H locs X => ?_)
        have X := X.to (ws' := ([[(a 0 0, .inr (7, [.ref (a 1 0), .ref (a 2 0), .ref (a 3 0), .ref (a 4 0), .ref (a 5 0), .ref (a 6 0), .ref (a 7 0), .ref (a 8 0), .ref (a 9 0), .ref (a 10 0), .int t2.2.2.2.2.1, .int t2.2.2.2.2.2]))], hm_row g (a 1 0) (a 1 1) 200 (R 0), hm_wSc g (a 2) ScR, hm_wSe g (a 3) (hm_up (hm_up SeR 0 t2.2.2.1) 1 t2.2.2.2.1) (hm_up SeA 0 t2.2.1), hm_row g (a 4 0) (a 4 1) 100 (R 1), hm_row g (a 5 0) (a 5 1) 6 (R 2), hm_row g (a 6 0) (a 6 1) 6 (R 3), hm_wLe g (a 7) LeR LeZ, hm_wBr g (a 8) BrA, hm_wSh g (a 9) ShR ShZ, hm_wSu g (a 10) SuA SuJ] : List va_W).flatten) rfl
        obtain rfl := Option.some.inj hF
        exact hm_ri S hr hlk X rfl rfl dX7_hangs_27
      · have hF := hm_nf hF c16
        refine lv_iconst (v := (-1)) hx hb dX7_hangs_19 (by decide) ?_
        obtain rfl := Option.some.inj hF
        exact hm_ri S hr hlk X rfl rfl dX7_hangs_20
def f_X7_sets (Z_0 : Int32) (Z_1 : Int32) (SeR_0 : hm_SR) (SeR_1 : hm_SR) (SeA_0 : Nat → Int32) (x0 : Int32) (x1 : Int32)  : Option (Int32 × (Nat → Int32) × hm_SR × hm_SR × Int32 × Int32) :=
  if x0 < 0 then (
  some ((-1), SeA_0, SeR_0, SeR_1, Z_0, Z_1))
  else (
  if (4 : Int32) ≤ x0 then (
  some ((-1), SeA_0, SeR_0, SeR_1, Z_0, Z_1))
  else (
  if x0 < 4 then (
  (hm_rd 4 hm_sx0 x0).bind fun t1 =>
  if x1 < t1 then (
  some ((-1), SeA_0, SeR_0, SeR_1, Z_0, Z_1))
  else (
  (hm_rd 4 hm_sx1 x0).bind fun t2 =>
  if x1 ≤ t2 then (
  (f_X7_change Z_0 Z_1 SeR_0 SeR_1 SeA_0 (34 + x0) x1).bind fun t3 =>
  some (t3.1, t3.2.1, t3.2.2.1, t3.2.2.2.1, t3.2.2.2.2.1, t3.2.2.2.2.2))
  else (
  some ((-1), SeA_0, SeR_0, SeR_1, Z_0, Z_1))))
  else (
  some ((-1), SeA_0, SeR_0, SeR_1, Z_0, Z_1))))
abbrev rm_X7_sets : Room := { frames := 4, cells := 0, slots := 0, locals := 88 }
set_option maxHeartbeats 4000000 in
set_option maxRecDepth 100000 in
theorem c_X7_sets (l : Launch) (g : hm_G) (a : Nat → Nat → Nat) (R : Nat → hm_SR) (Z : Nat → Int32) (ScR : Nat → hm_SR) (SeR : Nat → hm_SR) (SeA : Nat → Nat → Int32) (LeR : Nat → hm_SR) (LeZ : Nat → Int32) (BrA : Nat → Nat → Int32) (ShR : Nat → hm_SR) (ShZ : Nat → Int32) (SuA : Nat → Nat → Int32) (SuJ : Nat → Nat → Int64) (x0 : Int32) (x1 : Int32) (q : Int32 × (Nat → Int32) × hm_SR × hm_SR × Int32 × Int32) (hF : f_X7_sets (Z 0) (Z 1) (SeR 0) (SeR 1) (SeA 0) x0 x1 = some q) : hm_Mi l yX7_sets (Cond.code yX7_sets cX7_sets 3 (some .int) :: hm_W) rm_X7_sets g [.ref (a 0 0), .int x0, .int x1] ([hm_wHM g a R Z ScR SeR SeA LeR LeZ BrA ShR ShZ SuA SuJ] : List va_W).flatten ([hm_wHM g a R (hm_up (hm_up Z 0 q.2.2.2.2.1) 1 q.2.2.2.2.2) ScR (hm_up (hm_up SeR 0 q.2.2.1) 1 q.2.2.2.1) (hm_up SeA 0 q.2.1) LeR LeZ BrA ShR ShZ SuA SuJ] : List va_W).flatten q.1 := by
  refine hm_ofi [(0, .ref (a 0 0)), (1, .int x0), (2, .int x1)] (by decide) (own := RX7) rfl (Nat.le_of_ble_eq_true rfl) rfl rfl ?_
  intro p e s m args below meth c AA S hr hlk X ls hl
  have hx := S.1
  have hb := S.2.1
  have hown := S.2.2.2.1
  have hts := S.2.2.2.2
  obtain ⟨hN, t0, t1, t2, z0, z1, z2⟩ := X.2.2.2.2.2
  have X := X.to (ws' := ([[(a 0 0, .inr (7, [.ref (a 1 0), .ref (a 2 0), .ref (a 3 0), .ref (a 4 0), .ref (a 5 0), .ref (a 6 0), .ref (a 7 0), .ref (a 8 0), .ref (a 9 0), .ref (a 10 0), .int (Z 0), .int (Z 1)]))], hm_row g (a 1 0) (a 1 1) 200 (R 0), hm_wSc g (a 2) ScR, hm_wSe g (a 3) SeR SeA, hm_row g (a 4 0) (a 4 1) 100 (R 1), hm_row g (a 5 0) (a 5 1) 6 (R 2), hm_row g (a 6 0) (a 6 1) 6 (R 3), hm_wLe g (a 7) LeR LeZ, hm_wBr g (a 8) BrA, hm_wSh g (a 9) ShR ShZ, hm_wSu g (a 10) SuA SuJ] : List va_W).flatten) rfl
  unfold f_X7_sets at hF
  refine lv_iload_n hx hb dX7_sets_0 rfl (lv_at hl 1 rfl) ?_
  refine lv_if_lt (tgt := 20) hx hb dX7_sets_1 (by decide) (fun c1 => ?_) (fun c1 => ?_)
  · have hF := hm_if hF c1
    refine lv_iconst (v := (-1)) hx hb dX7_sets_20 (by decide) ?_
    obtain rfl := Option.some.inj hF
    exact hm_ri S hr hlk X rfl rfl dX7_sets_21
  · have hF := hm_nf hF c1
    refine lv_iload_n hx hb dX7_sets_4 rfl (lv_at hl 1 rfl) ?_
    refine va_gets hx hb z0.1 X.2.2.2.1 hown (hts _ hw_2_198) (fun _ h9 => h9) dX7_sets_5 ?_
    refine hm_slen hx hb z0 X.2.2.2.1 dX7_sets_8 ?_
    refine lv_icmp_ge (tgt := 20) hx hb dX7_sets_9 (by decide) (fun c9 => ?_) (fun c9 => ?_)
    · have hF := hm_if hF c9
      refine lv_iconst (v := (-1)) hx hb dX7_sets_20 (by decide) ?_
      obtain rfl := Option.some.inj hF
      exact hm_ri S hr hlk X rfl rfl dX7_sets_21
    · have hF := hm_nf hF c9
      refine lv_iload_n hx hb dX7_sets_12 rfl (lv_at hl 1 rfl) ?_
      refine va_gets hx hb z1.1 X.2.2.2.1 hown (hts _ hw_2_200) (fun _ h9 => h9) dX7_sets_13 ?_
      refine hm_slen hx hb z1 X.2.2.2.1 dX7_sets_16 ?_
      refine lv_icmp_lt (tgt := 22) hx hb dX7_sets_17 (by decide) (fun c17 => ?_) (fun c17 => ?_)
      · have hF := hm_if hF c17
        refine lv_iload_n hx hb dX7_sets_22 rfl (lv_at hl 2 rfl) ?_
        refine va_gets hx hb z0.1 X.2.2.2.1 hown (hts _ hw_2_198) (fun _ h9 => h9) dX7_sets_23 ?_
        refine lv_iload_n hx hb dX7_sets_26 rfl (lv_at hl 1 rfl) ?_
        obtain ⟨t1, ht1, hF⟩ := hm_bd hF
        refine hm_sld hx hb z0 X.2.2.2.1 ht1 dX7_sets_27 ?_
        refine lv_icmp_lt (tgt := 40) hx hb dX7_sets_28 (by decide) (fun c28 => ?_) (fun c28 => ?_)
        · have hF := hm_if hF c28
          refine lv_iconst (v := (-1)) hx hb dX7_sets_40 (by decide) ?_
          obtain rfl := Option.some.inj hF
          exact hm_ri S hr hlk X rfl rfl dX7_sets_41
        · have hF := hm_nf hF c28
          refine lv_iload_n hx hb dX7_sets_31 rfl (lv_at hl 2 rfl) ?_
          refine va_gets hx hb z1.1 X.2.2.2.1 hown (hts _ hw_2_200) (fun _ h9 => h9) dX7_sets_32 ?_
          refine lv_iload_n hx hb dX7_sets_35 rfl (lv_at hl 1 rfl) ?_
          obtain ⟨t2, ht2, hF⟩ := hm_bd hF
          refine hm_sld hx hb z1 X.2.2.2.1 ht2 dX7_sets_36 ?_
          refine lv_icmp_le (tgt := 42) hx hb dX7_sets_37 (by decide) (fun c37 => ?_) (fun c37 => ?_)
          · have hF := hm_if hF c37
            refine lv_aload_n hx hb dX7_sets_42 rfl (lv_at hl 0 rfl) ?_
            refine lv_bipush (v := 34) hx hb dX7_sets_43 (by decide) ?_
            refine lv_iload_n hx hb dX7_sets_45 rfl (lv_at hl 1 rfl) ?_
            refine lv_iadd hx hb dX7_sets_46 ?_
            refine lv_iload_n hx hb dX7_sets_47 rfl (lv_at hl 2 rfl) ?_
            obtain ⟨t3, ht3, hF⟩ := hm_bd hF
            refine hm_vi (As := [.int (34 + x0), .int x1]) S X mw_X7_change hw_2_155 (c_X7_change l g a R Z ScR SeR SeA LeR LeZ BrA ShR ShZ SuA SuJ (34 + x0) x1 t3 ht3) (hm_cq (n := 11) [0, 1, 2, 3, 4, 5, 6, 7, 8, 9, 10] [] rfl (by decide +kernel) rfl rfl) (hm_cq (bs := [[(a 0 0, .inr (7, [.ref (a 1 0), .ref (a 2 0), .ref (a 3 0), .ref (a 4 0), .ref (a 5 0), .ref (a 6 0), .ref (a 7 0), .ref (a 8 0), .ref (a 9 0), .ref (a 10 0), .int t3.2.2.2.2.1, .int t3.2.2.2.2.2]))], hm_row g (a 1 0) (a 1 1) 200 (R 0), hm_wSc g (a 2) ScR, hm_wSe g (a 3) (hm_up (hm_up SeR 0 t3.2.2.1) 1 t3.2.2.2.1) (hm_up SeA 0 t3.2.1), hm_row g (a 4 0) (a 4 1) 100 (R 1), hm_row g (a 5 0) (a 5 1) 6 (R 2), hm_row g (a 6 0) (a 6 1) 6 (R 3), hm_wLe g (a 7) LeR LeZ, hm_wBr g (a 8) BrA, hm_wSh g (a 9) ShR ShZ, hm_wSu g (a 10) SuA SuJ]) (n := 11) [0, 1, 2, 3, 4, 5, 6, 7, 8, 9, 10] [] rfl (by decide +kernel) rfl rfl) rfl rfl rfl ⟨rfl, rfl, Nat.le_of_ble_eq_true rfl, Nat.le_of_ble_eq_true rfl⟩ rfl hl.1 rfl (Nat.le_of_ble_eq_true rfl) dX7_sets_48 ⟨Nat.zero_le _, Nat.zero_le _⟩ (fun H locs X => ?_)
            have X := X.to (ws' := ([[(a 0 0, .inr (7, [.ref (a 1 0), .ref (a 2 0), .ref (a 3 0), .ref (a 4 0), .ref (a 5 0), .ref (a 6 0), .ref (a 7 0), .ref (a 8 0), .ref (a 9 0), .ref (a 10 0), .int t3.2.2.2.2.1, .int t3.2.2.2.2.2]))], hm_row g (a 1 0) (a 1 1) 200 (R 0), hm_wSc g (a 2) ScR, hm_wSe g (a 3) (hm_up (hm_up SeR 0 t3.2.2.1) 1 t3.2.2.2.1) (hm_up SeA 0 t3.2.1), hm_row g (a 4 0) (a 4 1) 100 (R 1), hm_row g (a 5 0) (a 5 1) 6 (R 2), hm_row g (a 6 0) (a 6 1) 6 (R 3), hm_wLe g (a 7) LeR LeZ, hm_wBr g (a 8) BrA, hm_wSh g (a 9) ShR ShZ, hm_wSu g (a 10) SuA SuJ] : List va_W).flatten) rfl
            obtain rfl := Option.some.inj hF
            exact hm_ri S hr hlk X rfl rfl dX7_sets_51
          · have hF := hm_nf hF c37
            refine lv_iconst (v := (-1)) hx hb dX7_sets_40 (by decide) ?_
            obtain rfl := Option.some.inj hF
            exact hm_ri S hr hlk X rfl rfl dX7_sets_41
      · have hF := hm_nf hF c17
        refine lv_iconst (v := (-1)) hx hb dX7_sets_20 (by decide) ?_
        obtain rfl := Option.some.inj hF
        exact hm_ri S hr hlk X rfl rfl dX7_sets_21
def f_X7_undo (Z_0 : Int32) (Z_1 : Int32) (SeR_0 : hm_SR) (SeR_1 : hm_SR) (SeA_0 : Nat → Int32)  : Option (Int32 × (Nat → Int32) × hm_SR × hm_SR × Int32 × Int32) :=
  (f_X4_undoable SeR_0).bind fun t1 =>
  if t1 = 0 then (
  some ((-2), SeA_0, SeR_0, SeR_1, Z_0, Z_1))
  else (
  (f_X4_takeBack SeR_0 SeR_1 SeA_0).bind fun t2 =>
  (f_X7_markStale Z_1 t2.1).bind fun t3 =>
  (f_X4_undoable t2.2.2.1).bind fun t4 =>
  some (t4, t2.2.1, t2.2.2.1, t2.2.2.2, t3.1, t3.2))
abbrev rm_X7_undo : Room := { frames := 2, cells := 0, slots := 0, locals := 44 }
set_option maxHeartbeats 4000000 in
set_option maxRecDepth 100000 in
theorem c_X7_undo (l : Launch) (g : hm_G) (a : Nat → Nat → Nat) (R : Nat → hm_SR) (Z : Nat → Int32) (ScR : Nat → hm_SR) (SeR : Nat → hm_SR) (SeA : Nat → Nat → Int32) (LeR : Nat → hm_SR) (LeZ : Nat → Int32) (BrA : Nat → Nat → Int32) (ShR : Nat → hm_SR) (ShZ : Nat → Int32) (SuA : Nat → Nat → Int32) (SuJ : Nat → Nat → Int64) (q : Int32 × (Nat → Int32) × hm_SR × hm_SR × Int32 × Int32) (hF : f_X7_undo (Z 0) (Z 1) (SeR 0) (SeR 1) (SeA 0) = some q) : hm_Mi l yX7_undo (Cond.code yX7_undo cX7_undo 1 (some .int) :: hm_W) rm_X7_undo g [.ref (a 0 0)] ([hm_wHM g a R Z ScR SeR SeA LeR LeZ BrA ShR ShZ SuA SuJ] : List va_W).flatten ([hm_wHM g a R (hm_up (hm_up Z 0 q.2.2.2.2.1) 1 q.2.2.2.2.2) ScR (hm_up (hm_up SeR 0 q.2.2.1) 1 q.2.2.2.1) (hm_up SeA 0 q.2.1) LeR LeZ BrA ShR ShZ SuA SuJ] : List va_W).flatten q.1 := by
  refine hm_ofi [(0, .ref (a 0 0))] (by decide) (own := RX7) rfl (Nat.le_of_ble_eq_true rfl) rfl rfl ?_
  intro p e s m args below meth c AA S hr hlk X ls hl
  have hx := S.1
  have hb := S.2.1
  have hown := S.2.2.2.1
  have hts := S.2.2.2.2
  have X := X.to (ws' := ([[(a 0 0, .inr (7, [.ref (a 1 0), .ref (a 2 0), .ref (a 3 0), .ref (a 4 0), .ref (a 5 0), .ref (a 6 0), .ref (a 7 0), .ref (a 8 0), .ref (a 9 0), .ref (a 10 0), .int (Z 0), .int (Z 1)]))], hm_row g (a 1 0) (a 1 1) 200 (R 0), hm_wSc g (a 2) ScR, hm_wSe g (a 3) SeR SeA, hm_row g (a 4 0) (a 4 1) 100 (R 1), hm_row g (a 5 0) (a 5 1) 6 (R 2), hm_row g (a 6 0) (a 6 1) 6 (R 3), hm_wLe g (a 7) LeR LeZ, hm_wBr g (a 8) BrA, hm_wSh g (a 9) ShR ShZ, hm_wSu g (a 10) SuA SuJ] : List va_W).flatten) rfl
  unfold f_X7_undo at hF
  refine lv_aload_n hx hb dX7_undo_0 rfl (lv_at hl 0 rfl) ?_
  refine hm_get S X hf_X7_28 0 rfl rfl dX7_undo_1 ?_
  obtain ⟨t1, ht1, hF⟩ := hm_bd hF
  refine hm_vi (As := []) S X mw_X4_undoable hw_2_206 (c_X4_undoable l g (a 3) SeR SeA t1 ht1) (hm_mid [[(a 0 0, .inr (7, [.ref (a 1 0), .ref (a 2 0), .ref (a 3 0), .ref (a 4 0), .ref (a 5 0), .ref (a 6 0), .ref (a 7 0), .ref (a 8 0), .ref (a 9 0), .ref (a 10 0), .int (Z 0), .int (Z 1)]))], hm_row g (a 1 0) (a 1 1) 200 (R 0), hm_wSc g (a 2) ScR] [hm_row g (a 4 0) (a 4 1) 100 (R 1), hm_row g (a 5 0) (a 5 1) 6 (R 2), hm_row g (a 6 0) (a 6 1) 6 (R 3), hm_wLe g (a 7) LeR LeZ, hm_wBr g (a 8) BrA, hm_wSh g (a 9) ShR ShZ, hm_wSu g (a 10) SuA SuJ]) (hm_mid [[(a 0 0, .inr (7, [.ref (a 1 0), .ref (a 2 0), .ref (a 3 0), .ref (a 4 0), .ref (a 5 0), .ref (a 6 0), .ref (a 7 0), .ref (a 8 0), .ref (a 9 0), .ref (a 10 0), .int (Z 0), .int (Z 1)]))], hm_row g (a 1 0) (a 1 1) 200 (R 0), hm_wSc g (a 2) ScR] [hm_row g (a 4 0) (a 4 1) 100 (R 1), hm_row g (a 5 0) (a 5 1) 6 (R 2), hm_row g (a 6 0) (a 6 1) 6 (R 3), hm_wLe g (a 7) LeR LeZ, hm_wBr g (a 8) BrA, hm_wSh g (a 9) ShR ShZ, hm_wSu g (a 10) SuA SuJ] (b := hm_wSe g (a 3) SeR SeA)) rfl rfl rfl ⟨rfl, rfl, Nat.le_of_ble_eq_true rfl, Nat.le_of_ble_eq_true rfl⟩ rfl hl.1 rfl (Nat.le_of_ble_eq_true rfl) dX7_undo_4 ⟨Nat.zero_le _, Nat.zero_le _⟩ (fun H locs X => ?_)
  have X := X.to (ws' := ([[(a 0 0, .inr (7, [.ref (a 1 0), .ref (a 2 0), .ref (a 3 0), .ref (a 4 0), .ref (a 5 0), .ref (a 6 0), .ref (a 7 0), .ref (a 8 0), .ref (a 9 0), .ref (a 10 0), .int (Z 0), .int (Z 1)]))], hm_row g (a 1 0) (a 1 1) 200 (R 0), hm_wSc g (a 2) ScR, hm_wSe g (a 3) SeR SeA, hm_row g (a 4 0) (a 4 1) 100 (R 1), hm_row g (a 5 0) (a 5 1) 6 (R 2), hm_row g (a 6 0) (a 6 1) 6 (R 3), hm_wLe g (a 7) LeR LeZ, hm_wBr g (a 8) BrA, hm_wSh g (a 9) ShR ShZ, hm_wSu g (a 10) SuA SuJ] : List va_W).flatten) rfl
  refine lv_if_ne (tgt := 13) hx hb dX7_undo_7 (by decide) (fun c7 => ?_) (fun c7 => ?_)
  · have hF := hm_nf hF c7
    refine lv_aload_n hx hb dX7_undo_13 rfl (lv_at hl 0 rfl) ?_
    refine lv_aload_n hx hb dX7_undo_14 rfl (lv_at hl 0 rfl) ?_
    refine hm_get S X hf_X7_28 0 rfl rfl dX7_undo_15 ?_
    obtain ⟨t2, ht2, hF⟩ := hm_bd hF
    refine hm_vi (As := []) S X mw_X4_takeBack hw_2_210 (c_X4_takeBack l g (a 3) SeR SeA t2 ht2) (hm_mid [[(a 0 0, .inr (7, [.ref (a 1 0), .ref (a 2 0), .ref (a 3 0), .ref (a 4 0), .ref (a 5 0), .ref (a 6 0), .ref (a 7 0), .ref (a 8 0), .ref (a 9 0), .ref (a 10 0), .int (Z 0), .int (Z 1)]))], hm_row g (a 1 0) (a 1 1) 200 (R 0), hm_wSc g (a 2) ScR] [hm_row g (a 4 0) (a 4 1) 100 (R 1), hm_row g (a 5 0) (a 5 1) 6 (R 2), hm_row g (a 6 0) (a 6 1) 6 (R 3), hm_wLe g (a 7) LeR LeZ, hm_wBr g (a 8) BrA, hm_wSh g (a 9) ShR ShZ, hm_wSu g (a 10) SuA SuJ]) (hm_mid [[(a 0 0, .inr (7, [.ref (a 1 0), .ref (a 2 0), .ref (a 3 0), .ref (a 4 0), .ref (a 5 0), .ref (a 6 0), .ref (a 7 0), .ref (a 8 0), .ref (a 9 0), .ref (a 10 0), .int (Z 0), .int (Z 1)]))], hm_row g (a 1 0) (a 1 1) 200 (R 0), hm_wSc g (a 2) ScR] [hm_row g (a 4 0) (a 4 1) 100 (R 1), hm_row g (a 5 0) (a 5 1) 6 (R 2), hm_row g (a 6 0) (a 6 1) 6 (R 3), hm_wLe g (a 7) LeR LeZ, hm_wBr g (a 8) BrA, hm_wSh g (a 9) ShR ShZ, hm_wSu g (a 10) SuA SuJ] (b := hm_wSe g (a 3) (hm_up (hm_up SeR 0 t2.2.2.1) 1 t2.2.2.2) (hm_up SeA 0 t2.2.1))) rfl rfl rfl ⟨rfl, rfl, Nat.le_of_ble_eq_true rfl, Nat.le_of_ble_eq_true rfl⟩ rfl hl.1 rfl (Nat.le_of_ble_eq_true rfl) dX7_undo_18 ⟨Nat.zero_le _, Nat.zero_le _⟩ (fun H locs X => ?_)
    have X := X.to (ws' := ([[(a 0 0, .inr (7, [.ref (a 1 0), .ref (a 2 0), .ref (a 3 0), .ref (a 4 0), .ref (a 5 0), .ref (a 6 0), .ref (a 7 0), .ref (a 8 0), .ref (a 9 0), .ref (a 10 0), .int (Z 0), .int (Z 1)]))], hm_row g (a 1 0) (a 1 1) 200 (R 0), hm_wSc g (a 2) ScR, hm_wSe g (a 3) (hm_up (hm_up SeR 0 t2.2.2.1) 1 t2.2.2.2) (hm_up SeA 0 t2.2.1), hm_row g (a 4 0) (a 4 1) 100 (R 1), hm_row g (a 5 0) (a 5 1) 6 (R 2), hm_row g (a 6 0) (a 6 1) 6 (R 3), hm_wLe g (a 7) LeR LeZ, hm_wBr g (a 8) BrA, hm_wSh g (a 9) ShR ShZ, hm_wSu g (a 10) SuA SuJ] : List va_W).flatten) rfl
    obtain ⟨t3, ht3, hF⟩ := hm_bd hF
    refine hm_vv (As := [.int t2.1]) S X mw_X7_markStale hw_2_183 (c_X7_markStale l g a R Z ScR (hm_up (hm_up SeR 0 t2.2.2.1) 1 t2.2.2.2) (hm_up SeA 0 t2.2.1) LeR LeZ BrA ShR ShZ SuA SuJ t2.1 t3 ht3) (hm_cq (n := 11) [0, 1, 2, 3, 4, 5, 6, 7, 8, 9, 10] [] rfl (by decide +kernel) rfl rfl) (hm_cq (bs := [[(a 0 0, .inr (7, [.ref (a 1 0), .ref (a 2 0), .ref (a 3 0), .ref (a 4 0), .ref (a 5 0), .ref (a 6 0), .ref (a 7 0), .ref (a 8 0), .ref (a 9 0), .ref (a 10 0), .int t3.1, .int t3.2]))], hm_row g (a 1 0) (a 1 1) 200 (R 0), hm_wSc g (a 2) ScR, hm_wSe g (a 3) (hm_up (hm_up SeR 0 t2.2.2.1) 1 t2.2.2.2) (hm_up SeA 0 t2.2.1), hm_row g (a 4 0) (a 4 1) 100 (R 1), hm_row g (a 5 0) (a 5 1) 6 (R 2), hm_row g (a 6 0) (a 6 1) 6 (R 3), hm_wLe g (a 7) LeR LeZ, hm_wBr g (a 8) BrA, hm_wSh g (a 9) ShR ShZ, hm_wSu g (a 10) SuA SuJ]) (n := 11) [0, 1, 2, 3, 4, 5, 6, 7, 8, 9, 10] [] rfl (by decide +kernel) rfl rfl) rfl rfl rfl ⟨rfl, rfl, Nat.le_of_ble_eq_true rfl, Nat.le_of_ble_eq_true rfl⟩ rfl hl.1 rfl (Nat.le_of_ble_eq_true rfl) dX7_undo_21 ⟨Nat.zero_le _, Nat.zero_le _⟩ (fun H locs X => ?_)
    have X := X.to (ws' := ([[(a 0 0, .inr (7, [.ref (a 1 0), .ref (a 2 0), .ref (a 3 0), .ref (a 4 0), .ref (a 5 0), .ref (a 6 0), .ref (a 7 0), .ref (a 8 0), .ref (a 9 0), .ref (a 10 0), .int t3.1, .int t3.2]))], hm_row g (a 1 0) (a 1 1) 200 (R 0), hm_wSc g (a 2) ScR, hm_wSe g (a 3) (hm_up (hm_up SeR 0 t2.2.2.1) 1 t2.2.2.2) (hm_up SeA 0 t2.2.1), hm_row g (a 4 0) (a 4 1) 100 (R 1), hm_row g (a 5 0) (a 5 1) 6 (R 2), hm_row g (a 6 0) (a 6 1) 6 (R 3), hm_wLe g (a 7) LeR LeZ, hm_wBr g (a 8) BrA, hm_wSh g (a 9) ShR ShZ, hm_wSu g (a 10) SuA SuJ] : List va_W).flatten) rfl
    refine lv_aload_n hx hb dX7_undo_24 rfl (lv_at hl 0 rfl) ?_
    refine hm_get S X hf_X7_28 0 rfl rfl dX7_undo_25 ?_
    obtain ⟨t4, ht4, hF⟩ := hm_bd hF
    refine hm_vi (As := []) S X mw_X4_undoable hw_2_206 (c_X4_undoable l g (a 3) (hm_up (hm_up SeR 0 t2.2.2.1) 1 t2.2.2.2) (hm_up SeA 0 t2.2.1) t4 ht4) (hm_mid [[(a 0 0, .inr (7, [.ref (a 1 0), .ref (a 2 0), .ref (a 3 0), .ref (a 4 0), .ref (a 5 0), .ref (a 6 0), .ref (a 7 0), .ref (a 8 0), .ref (a 9 0), .ref (a 10 0), .int t3.1, .int t3.2]))], hm_row g (a 1 0) (a 1 1) 200 (R 0), hm_wSc g (a 2) ScR] [hm_row g (a 4 0) (a 4 1) 100 (R 1), hm_row g (a 5 0) (a 5 1) 6 (R 2), hm_row g (a 6 0) (a 6 1) 6 (R 3), hm_wLe g (a 7) LeR LeZ, hm_wBr g (a 8) BrA, hm_wSh g (a 9) ShR ShZ, hm_wSu g (a 10) SuA SuJ]) (hm_mid [[(a 0 0, .inr (7, [.ref (a 1 0), .ref (a 2 0), .ref (a 3 0), .ref (a 4 0), .ref (a 5 0), .ref (a 6 0), .ref (a 7 0), .ref (a 8 0), .ref (a 9 0), .ref (a 10 0), .int t3.1, .int t3.2]))], hm_row g (a 1 0) (a 1 1) 200 (R 0), hm_wSc g (a 2) ScR] [hm_row g (a 4 0) (a 4 1) 100 (R 1), hm_row g (a 5 0) (a 5 1) 6 (R 2), hm_row g (a 6 0) (a 6 1) 6 (R 3), hm_wLe g (a 7) LeR LeZ, hm_wBr g (a 8) BrA, hm_wSh g (a 9) ShR ShZ, hm_wSu g (a 10) SuA SuJ] (b := hm_wSe g (a 3) (hm_up (hm_up SeR 0 t2.2.2.1) 1 t2.2.2.2) (hm_up SeA 0 t2.2.1))) rfl rfl rfl ⟨rfl, rfl, Nat.le_of_ble_eq_true rfl, Nat.le_of_ble_eq_true rfl⟩ rfl hl.1 rfl (Nat.le_of_ble_eq_true rfl) dX7_undo_28 ⟨Nat.zero_le _, Nat.zero_le _⟩ (fun H locs X => ?_)
    have X := X.to (ws' := ([[(a 0 0, .inr (7, [.ref (a 1 0), .ref (a 2 0), .ref (a 3 0), .ref (a 4 0), .ref (a 5 0), .ref (a 6 0), .ref (a 7 0), .ref (a 8 0), .ref (a 9 0), .ref (a 10 0), .int t3.1, .int t3.2]))], hm_row g (a 1 0) (a 1 1) 200 (R 0), hm_wSc g (a 2) ScR, hm_wSe g (a 3) (hm_up (hm_up SeR 0 t2.2.2.1) 1 t2.2.2.2) (hm_up SeA 0 t2.2.1), hm_row g (a 4 0) (a 4 1) 100 (R 1), hm_row g (a 5 0) (a 5 1) 6 (R 2), hm_row g (a 6 0) (a 6 1) 6 (R 3), hm_wLe g (a 7) LeR LeZ, hm_wBr g (a 8) BrA, hm_wSh g (a 9) ShR ShZ, hm_wSu g (a 10) SuA SuJ] : List va_W).flatten) rfl
    obtain rfl := Option.some.inj hF
    exact hm_ri S hr hlk X rfl rfl dX7_undo_31
  · have hF := hm_if hF c7
    refine lv_bipush (v := (-2)) hx hb dX7_undo_10 (by decide) ?_
    obtain rfl := Option.some.inj hF
    exact hm_ri S hr hlk X rfl rfl dX7_undo_12
def f_X7_freshen (Z_0 : Int32) (ScR_0 : hm_SR) (ScR_1 : hm_SR) (SeA_0 : Nat → Int32) (LeR_0 : hm_SR) (LeR_1 : hm_SR) (LeR_2 : hm_SR) (LeR_3 : hm_SR) (LeR_4 : hm_SR) (LeZ_0 : Int32) (LeZ_1 : Int32) (LeZ_2 : Int32) (LeZ_3 : Int32) (BrA_0 : Nat → Int32) (BrA_1 : Nat → Int32) (BrA_2 : Nat → Int32) (ShR_0 : hm_SR) (ShR_1 : hm_SR) (ShR_2 : hm_SR) (ShR_3 : hm_SR) (ShR_4 : hm_SR) (ShR_5 : hm_SR) (ShZ_0 : Int32) (ShZ_1 : Int32)  : Option ((Nat → Int32) × (Nat → Int32) × (Nat → Int32) × hm_SR × hm_SR × hm_SR × hm_SR × hm_SR × Int32 × Int32 × Int32 × Int32 × hm_SR × hm_SR × hm_SR × hm_SR × hm_SR × hm_SR × Int32 × Int32 × Int32) :=
  if Z_0 = 0 then (
  some (BrA_0, BrA_1, BrA_2, LeR_0, LeR_1, LeR_2, LeR_3, LeR_4, LeZ_0, LeZ_1, LeZ_2, LeZ_3, ShR_0, ShR_1, ShR_2, ShR_3, ShR_4, ShR_5, ShZ_0, ShZ_1, Z_0))
  else (
  (f_X1_take LeR_0 LeR_1 LeR_2 LeR_3 LeR_4 ScR_0 ScR_1 SeA_0).bind fun t1 =>
  (f_X4_get SeA_0 35).bind fun t2 =>
  (f_X0_solve BrA_0 BrA_1 BrA_2 t1.1 t1.2.1 t1.2.2.1 t1.2.2.2.2.1 t1.2.2.2.2.2.2.2.1 t1.2.2.2.2.2.2.2.2 t2).bind fun t3 =>
  (f_X5_lay ShR_0 ShR_1 ShR_2 ShR_3 ShR_4 ShR_5 t1.1 t1.2.1 t1.2.2.1 t1.2.2.2.1 t1.2.2.2.2.1 t1.2.2.2.2.2.1 t1.2.2.2.2.2.2.1 t3.1 t3.2.1 t3.2.2).bind fun t4 =>
  some (t3.1, t3.2.1, t3.2.2, t1.1, t1.2.1, t1.2.2.1, t1.2.2.2.1, t1.2.2.2.2.1, t1.2.2.2.2.2.1, t1.2.2.2.2.2.2.1, t1.2.2.2.2.2.2.2.1, t1.2.2.2.2.2.2.2.2, t4.1, t4.2.1, t4.2.2.1, t4.2.2.2.1, t4.2.2.2.2.1, t4.2.2.2.2.2.1, t4.2.2.2.2.2.2.1, t4.2.2.2.2.2.2.2, 0))
abbrev rm_X7_freshen : Room := { frames := 5, cells := 0, slots := 0, locals := 120 }
set_option maxHeartbeats 4000000 in
set_option maxRecDepth 100000 in
theorem c_X7_freshen (l : Launch) (g : hm_G) (a : Nat → Nat → Nat) (R : Nat → hm_SR) (Z : Nat → Int32) (ScR : Nat → hm_SR) (SeR : Nat → hm_SR) (SeA : Nat → Nat → Int32) (LeR : Nat → hm_SR) (LeZ : Nat → Int32) (BrA : Nat → Nat → Int32) (ShR : Nat → hm_SR) (ShZ : Nat → Int32) (SuA : Nat → Nat → Int32) (SuJ : Nat → Nat → Int64) (q : (Nat → Int32) × (Nat → Int32) × (Nat → Int32) × hm_SR × hm_SR × hm_SR × hm_SR × hm_SR × Int32 × Int32 × Int32 × Int32 × hm_SR × hm_SR × hm_SR × hm_SR × hm_SR × hm_SR × Int32 × Int32 × Int32) (hF : f_X7_freshen (Z 0) (ScR 0) (ScR 1) (SeA 0) (LeR 0) (LeR 1) (LeR 2) (LeR 3) (LeR 4) (LeZ 0) (LeZ 1) (LeZ 2) (LeZ 3) (BrA 0) (BrA 1) (BrA 2) (ShR 0) (ShR 1) (ShR 2) (ShR 3) (ShR 4) (ShR 5) (ShZ 0) (ShZ 1) = some q) : hm_Mv l yX7_freshen (Cond.code yX7_freshen cX7_freshen 1 none :: hm_W) rm_X7_freshen g [.ref (a 0 0)] ([hm_wHM g a R Z ScR SeR SeA LeR LeZ BrA ShR ShZ SuA SuJ] : List va_W).flatten ([hm_wHM g a R (hm_up Z 0 q.2.2.2.2.2.2.2.2.2.2.2.2.2.2.2.2.2.2.2.2) ScR SeR SeA (hm_up (hm_up (hm_up (hm_up (hm_up LeR 0 q.2.2.2.1) 1 q.2.2.2.2.1) 2 q.2.2.2.2.2.1) 3 q.2.2.2.2.2.2.1) 4 q.2.2.2.2.2.2.2.1) (hm_up (hm_up (hm_up (hm_up LeZ 0 q.2.2.2.2.2.2.2.2.1) 1 q.2.2.2.2.2.2.2.2.2.1) 2 q.2.2.2.2.2.2.2.2.2.2.1) 3 q.2.2.2.2.2.2.2.2.2.2.2.1) (hm_up (hm_up (hm_up BrA 0 q.1) 1 q.2.1) 2 q.2.2.1) (hm_up (hm_up (hm_up (hm_up (hm_up (hm_up ShR 0 q.2.2.2.2.2.2.2.2.2.2.2.2.1) 1 q.2.2.2.2.2.2.2.2.2.2.2.2.2.1) 2 q.2.2.2.2.2.2.2.2.2.2.2.2.2.2.1) 3 q.2.2.2.2.2.2.2.2.2.2.2.2.2.2.2.1) 4 q.2.2.2.2.2.2.2.2.2.2.2.2.2.2.2.2.1) 5 q.2.2.2.2.2.2.2.2.2.2.2.2.2.2.2.2.2.1) (hm_up (hm_up ShZ 0 q.2.2.2.2.2.2.2.2.2.2.2.2.2.2.2.2.2.2.1) 1 q.2.2.2.2.2.2.2.2.2.2.2.2.2.2.2.2.2.2.2.1) SuA SuJ] : List va_W).flatten := by
  refine hm_ofv [(0, .ref (a 0 0))] (by decide) (own := RX7) rfl (Nat.le_of_ble_eq_true rfl) rfl rfl ?_
  intro p e s m args below meth c AA S hr hlk X ls hl
  have hx := S.1
  have hb := S.2.1
  have hown := S.2.2.2.1
  have hts := S.2.2.2.2
  have X := X.to (ws' := ([[(a 0 0, .inr (7, [.ref (a 1 0), .ref (a 2 0), .ref (a 3 0), .ref (a 4 0), .ref (a 5 0), .ref (a 6 0), .ref (a 7 0), .ref (a 8 0), .ref (a 9 0), .ref (a 10 0), .int (Z 0), .int (Z 1)]))], hm_row g (a 1 0) (a 1 1) 200 (R 0), hm_wSc g (a 2) ScR, hm_wSe g (a 3) SeR SeA, hm_row g (a 4 0) (a 4 1) 100 (R 1), hm_row g (a 5 0) (a 5 1) 6 (R 2), hm_row g (a 6 0) (a 6 1) 6 (R 3), hm_wLe g (a 7) LeR LeZ, hm_wBr g (a 8) BrA, hm_wSh g (a 9) ShR ShZ, hm_wSu g (a 10) SuA SuJ] : List va_W).flatten) rfl
  unfold f_X7_freshen at hF
  refine lv_aload_n hx hb dX7_freshen_0 rfl (lv_at hl 0 rfl) ?_
  refine hm_get S X hf_X7_69 0 rfl rfl dX7_freshen_1 ?_
  refine lv_if_eq (tgt := 62) hx hb dX7_freshen_4 (by decide) (fun c4 => ?_) (fun c4 => ?_)
  · have hF := hm_if hF c4
    obtain rfl := Option.some.inj hF
    exact hm_rv S hr hlk X rfl dX7_freshen_62
  · have hF := hm_nf hF c4
    refine lv_aload_n hx hb dX7_freshen_7 rfl (lv_at hl 0 rfl) ?_
    refine hm_get S X hf_X7_44 0 rfl rfl dX7_freshen_8 ?_
    refine lv_aload_n hx hb dX7_freshen_11 rfl (lv_at hl 0 rfl) ?_
    refine hm_get S X hf_X7_21 0 rfl rfl dX7_freshen_12 ?_
    refine lv_aload_n hx hb dX7_freshen_15 rfl (lv_at hl 0 rfl) ?_
    refine hm_get S X hf_X7_28 0 rfl rfl dX7_freshen_16 ?_
    obtain ⟨t1, ht1, hF⟩ := hm_bd hF
    refine hm_vv (As := [.ref ((a 2) 0), .ref ((a 3) 0)]) S X mw_X1_take hw_2_224 (c_X1_take l g (a 7) LeR LeZ (a 2) ScR (a 3) SeR SeA t1 ht1) (hm_cq (n := 11) [7, 2, 3] [0, 1, 4, 5, 6, 8, 9, 10] rfl (by decide +kernel) rfl rfl) (hm_cq (bs := [[(a 0 0, .inr (7, [.ref (a 1 0), .ref (a 2 0), .ref (a 3 0), .ref (a 4 0), .ref (a 5 0), .ref (a 6 0), .ref (a 7 0), .ref (a 8 0), .ref (a 9 0), .ref (a 10 0), .int (Z 0), .int (Z 1)]))], hm_row g (a 1 0) (a 1 1) 200 (R 0), hm_wSc g (a 2) ScR, hm_wSe g (a 3) SeR SeA, hm_row g (a 4 0) (a 4 1) 100 (R 1), hm_row g (a 5 0) (a 5 1) 6 (R 2), hm_row g (a 6 0) (a 6 1) 6 (R 3), hm_wLe g (a 7) (hm_up (hm_up (hm_up (hm_up (hm_up LeR 0 t1.1) 1 t1.2.1) 2 t1.2.2.1) 3 t1.2.2.2.1) 4 t1.2.2.2.2.1) (hm_up (hm_up (hm_up (hm_up LeZ 0 t1.2.2.2.2.2.1) 1 t1.2.2.2.2.2.2.1) 2 t1.2.2.2.2.2.2.2.1) 3 t1.2.2.2.2.2.2.2.2), hm_wBr g (a 8) BrA, hm_wSh g (a 9) ShR ShZ, hm_wSu g (a 10) SuA SuJ]) (n := 11) [7, 2, 3] [0, 1, 4, 5, 6, 8, 9, 10] rfl (by decide +kernel) rfl rfl) rfl rfl rfl ⟨rfl, rfl, Nat.le_of_ble_eq_true rfl, Nat.le_of_ble_eq_true rfl⟩ rfl hl.1 rfl (Nat.le_of_ble_eq_true rfl) dX7_freshen_19 ⟨Nat.zero_le _, Nat.zero_le _⟩ (fun H locs X => ?_)
    have X := X.to (ws' := ([[(a 0 0, .inr (7, [.ref (a 1 0), .ref (a 2 0), .ref (a 3 0), .ref (a 4 0), .ref (a 5 0), .ref (a 6 0), .ref (a 7 0), .ref (a 8 0), .ref (a 9 0), .ref (a 10 0), .int (Z 0), .int (Z 1)]))], hm_row g (a 1 0) (a 1 1) 200 (R 0), hm_wSc g (a 2) ScR, hm_wSe g (a 3) SeR SeA, hm_row g (a 4 0) (a 4 1) 100 (R 1), hm_row g (a 5 0) (a 5 1) 6 (R 2), hm_row g (a 6 0) (a 6 1) 6 (R 3), hm_wLe g (a 7) (hm_up (hm_up (hm_up (hm_up (hm_up LeR 0 t1.1) 1 t1.2.1) 2 t1.2.2.1) 3 t1.2.2.2.1) 4 t1.2.2.2.2.1) (hm_up (hm_up (hm_up (hm_up LeZ 0 t1.2.2.2.2.2.1) 1 t1.2.2.2.2.2.2.1) 2 t1.2.2.2.2.2.2.2.1) 3 t1.2.2.2.2.2.2.2.2), hm_wBr g (a 8) BrA, hm_wSh g (a 9) ShR ShZ, hm_wSu g (a 10) SuA SuJ] : List va_W).flatten) rfl
    refine lv_aload_n hx hb dX7_freshen_22 rfl (lv_at hl 0 rfl) ?_
    refine hm_get S X hf_X7_51 0 rfl rfl dX7_freshen_23 ?_
    refine lv_aload_n hx hb dX7_freshen_26 rfl (lv_at hl 0 rfl) ?_
    refine hm_get S X hf_X7_44 0 rfl rfl dX7_freshen_27 ?_
    refine lv_aload_n hx hb dX7_freshen_30 rfl (lv_at hl 0 rfl) ?_
    refine hm_get S X hf_X7_28 0 rfl rfl dX7_freshen_31 ?_
    refine lv_bipush (v := 35) hx hb dX7_freshen_34 (by decide) ?_
    obtain ⟨t2, ht2, hF⟩ := hm_bd hF
    refine hm_vi (As := [.int 35]) S X mw_X4_get hw_2_159 (c_X4_get l g (a 3) SeR SeA 35 t2 ht2) (hm_mid [[(a 0 0, .inr (7, [.ref (a 1 0), .ref (a 2 0), .ref (a 3 0), .ref (a 4 0), .ref (a 5 0), .ref (a 6 0), .ref (a 7 0), .ref (a 8 0), .ref (a 9 0), .ref (a 10 0), .int (Z 0), .int (Z 1)]))], hm_row g (a 1 0) (a 1 1) 200 (R 0), hm_wSc g (a 2) ScR] [hm_row g (a 4 0) (a 4 1) 100 (R 1), hm_row g (a 5 0) (a 5 1) 6 (R 2), hm_row g (a 6 0) (a 6 1) 6 (R 3), hm_wLe g (a 7) (hm_up (hm_up (hm_up (hm_up (hm_up LeR 0 t1.1) 1 t1.2.1) 2 t1.2.2.1) 3 t1.2.2.2.1) 4 t1.2.2.2.2.1) (hm_up (hm_up (hm_up (hm_up LeZ 0 t1.2.2.2.2.2.1) 1 t1.2.2.2.2.2.2.1) 2 t1.2.2.2.2.2.2.2.1) 3 t1.2.2.2.2.2.2.2.2), hm_wBr g (a 8) BrA, hm_wSh g (a 9) ShR ShZ, hm_wSu g (a 10) SuA SuJ]) (hm_mid [[(a 0 0, .inr (7, [.ref (a 1 0), .ref (a 2 0), .ref (a 3 0), .ref (a 4 0), .ref (a 5 0), .ref (a 6 0), .ref (a 7 0), .ref (a 8 0), .ref (a 9 0), .ref (a 10 0), .int (Z 0), .int (Z 1)]))], hm_row g (a 1 0) (a 1 1) 200 (R 0), hm_wSc g (a 2) ScR] [hm_row g (a 4 0) (a 4 1) 100 (R 1), hm_row g (a 5 0) (a 5 1) 6 (R 2), hm_row g (a 6 0) (a 6 1) 6 (R 3), hm_wLe g (a 7) (hm_up (hm_up (hm_up (hm_up (hm_up LeR 0 t1.1) 1 t1.2.1) 2 t1.2.2.1) 3 t1.2.2.2.1) 4 t1.2.2.2.2.1) (hm_up (hm_up (hm_up (hm_up LeZ 0 t1.2.2.2.2.2.1) 1 t1.2.2.2.2.2.2.1) 2 t1.2.2.2.2.2.2.2.1) 3 t1.2.2.2.2.2.2.2.2), hm_wBr g (a 8) BrA, hm_wSh g (a 9) ShR ShZ, hm_wSu g (a 10) SuA SuJ] (b := hm_wSe g (a 3) SeR SeA)) rfl rfl rfl ⟨rfl, rfl, Nat.le_of_ble_eq_true rfl, Nat.le_of_ble_eq_true rfl⟩ rfl hl.1 rfl (Nat.le_of_ble_eq_true rfl) dX7_freshen_36 ⟨Nat.zero_le _, Nat.zero_le _⟩ (fun H locs X => ?_)
    have X := X.to (ws' := ([[(a 0 0, .inr (7, [.ref (a 1 0), .ref (a 2 0), .ref (a 3 0), .ref (a 4 0), .ref (a 5 0), .ref (a 6 0), .ref (a 7 0), .ref (a 8 0), .ref (a 9 0), .ref (a 10 0), .int (Z 0), .int (Z 1)]))], hm_row g (a 1 0) (a 1 1) 200 (R 0), hm_wSc g (a 2) ScR, hm_wSe g (a 3) SeR SeA, hm_row g (a 4 0) (a 4 1) 100 (R 1), hm_row g (a 5 0) (a 5 1) 6 (R 2), hm_row g (a 6 0) (a 6 1) 6 (R 3), hm_wLe g (a 7) (hm_up (hm_up (hm_up (hm_up (hm_up LeR 0 t1.1) 1 t1.2.1) 2 t1.2.2.1) 3 t1.2.2.2.1) 4 t1.2.2.2.2.1) (hm_up (hm_up (hm_up (hm_up LeZ 0 t1.2.2.2.2.2.1) 1 t1.2.2.2.2.2.2.1) 2 t1.2.2.2.2.2.2.2.1) 3 t1.2.2.2.2.2.2.2.2), hm_wBr g (a 8) BrA, hm_wSh g (a 9) ShR ShZ, hm_wSu g (a 10) SuA SuJ] : List va_W).flatten) rfl
    obtain ⟨t3, ht3, hF⟩ := hm_bd hF
    refine hm_vv (As := [.ref ((a 7) 0), .int t2]) S X mw_X0_solve hw_3_12 (c_X0_solve l g (a 8) BrA (a 7) (hm_up (hm_up (hm_up (hm_up (hm_up LeR 0 t1.1) 1 t1.2.1) 2 t1.2.2.1) 3 t1.2.2.2.1) 4 t1.2.2.2.2.1) (hm_up (hm_up (hm_up (hm_up LeZ 0 t1.2.2.2.2.2.1) 1 t1.2.2.2.2.2.2.1) 2 t1.2.2.2.2.2.2.2.1) 3 t1.2.2.2.2.2.2.2.2) t2 t3 ht3) (hm_cq (n := 11) [8, 7] [0, 1, 2, 3, 4, 5, 6, 9, 10] rfl (by decide +kernel) rfl rfl) (hm_cq (bs := [[(a 0 0, .inr (7, [.ref (a 1 0), .ref (a 2 0), .ref (a 3 0), .ref (a 4 0), .ref (a 5 0), .ref (a 6 0), .ref (a 7 0), .ref (a 8 0), .ref (a 9 0), .ref (a 10 0), .int (Z 0), .int (Z 1)]))], hm_row g (a 1 0) (a 1 1) 200 (R 0), hm_wSc g (a 2) ScR, hm_wSe g (a 3) SeR SeA, hm_row g (a 4 0) (a 4 1) 100 (R 1), hm_row g (a 5 0) (a 5 1) 6 (R 2), hm_row g (a 6 0) (a 6 1) 6 (R 3), hm_wLe g (a 7) (hm_up (hm_up (hm_up (hm_up (hm_up LeR 0 t1.1) 1 t1.2.1) 2 t1.2.2.1) 3 t1.2.2.2.1) 4 t1.2.2.2.2.1) (hm_up (hm_up (hm_up (hm_up LeZ 0 t1.2.2.2.2.2.1) 1 t1.2.2.2.2.2.2.1) 2 t1.2.2.2.2.2.2.2.1) 3 t1.2.2.2.2.2.2.2.2), hm_wBr g (a 8) (hm_up (hm_up (hm_up BrA 0 t3.1) 1 t3.2.1) 2 t3.2.2), hm_wSh g (a 9) ShR ShZ, hm_wSu g (a 10) SuA SuJ]) (n := 11) [8, 7] [0, 1, 2, 3, 4, 5, 6, 9, 10] rfl (by decide +kernel) rfl rfl) rfl rfl rfl ⟨rfl, rfl, Nat.le_of_ble_eq_true rfl, Nat.le_of_ble_eq_true rfl⟩ rfl hl.1 rfl (Nat.le_of_ble_eq_true rfl) dX7_freshen_39 ⟨Nat.zero_le _, Nat.zero_le _⟩ (fun H locs X => ?_)
    have X := X.to (ws' := ([[(a 0 0, .inr (7, [.ref (a 1 0), .ref (a 2 0), .ref (a 3 0), .ref (a 4 0), .ref (a 5 0), .ref (a 6 0), .ref (a 7 0), .ref (a 8 0), .ref (a 9 0), .ref (a 10 0), .int (Z 0), .int (Z 1)]))], hm_row g (a 1 0) (a 1 1) 200 (R 0), hm_wSc g (a 2) ScR, hm_wSe g (a 3) SeR SeA, hm_row g (a 4 0) (a 4 1) 100 (R 1), hm_row g (a 5 0) (a 5 1) 6 (R 2), hm_row g (a 6 0) (a 6 1) 6 (R 3), hm_wLe g (a 7) (hm_up (hm_up (hm_up (hm_up (hm_up LeR 0 t1.1) 1 t1.2.1) 2 t1.2.2.1) 3 t1.2.2.2.1) 4 t1.2.2.2.2.1) (hm_up (hm_up (hm_up (hm_up LeZ 0 t1.2.2.2.2.2.1) 1 t1.2.2.2.2.2.2.1) 2 t1.2.2.2.2.2.2.2.1) 3 t1.2.2.2.2.2.2.2.2), hm_wBr g (a 8) (hm_up (hm_up (hm_up BrA 0 t3.1) 1 t3.2.1) 2 t3.2.2), hm_wSh g (a 9) ShR ShZ, hm_wSu g (a 10) SuA SuJ] : List va_W).flatten) rfl
    refine lv_aload_n hx hb dX7_freshen_42 rfl (lv_at hl 0 rfl) ?_
    refine hm_get S X hf_X7_58 0 rfl rfl dX7_freshen_43 ?_
    refine lv_aload_n hx hb dX7_freshen_46 rfl (lv_at hl 0 rfl) ?_
    refine hm_get S X hf_X7_44 0 rfl rfl dX7_freshen_47 ?_
    refine lv_aload_n hx hb dX7_freshen_50 rfl (lv_at hl 0 rfl) ?_
    refine hm_get S X hf_X7_51 0 rfl rfl dX7_freshen_51 ?_
    obtain ⟨t4, ht4, hF⟩ := hm_bd hF
    refine hm_vv (As := [.ref ((a 7) 0), .ref ((a 8) 0)]) S X mw_X5_lay hw_3_42 (c_X5_lay l g (a 9) ShR ShZ (a 7) (hm_up (hm_up (hm_up (hm_up (hm_up LeR 0 t1.1) 1 t1.2.1) 2 t1.2.2.1) 3 t1.2.2.2.1) 4 t1.2.2.2.2.1) (hm_up (hm_up (hm_up (hm_up LeZ 0 t1.2.2.2.2.2.1) 1 t1.2.2.2.2.2.2.1) 2 t1.2.2.2.2.2.2.2.1) 3 t1.2.2.2.2.2.2.2.2) (a 8) (hm_up (hm_up (hm_up BrA 0 t3.1) 1 t3.2.1) 2 t3.2.2) t4 ht4) (hm_cq (n := 11) [9, 7, 8] [0, 1, 2, 3, 4, 5, 6, 10] rfl (by decide +kernel) rfl rfl) (hm_cq (bs := [[(a 0 0, .inr (7, [.ref (a 1 0), .ref (a 2 0), .ref (a 3 0), .ref (a 4 0), .ref (a 5 0), .ref (a 6 0), .ref (a 7 0), .ref (a 8 0), .ref (a 9 0), .ref (a 10 0), .int (Z 0), .int (Z 1)]))], hm_row g (a 1 0) (a 1 1) 200 (R 0), hm_wSc g (a 2) ScR, hm_wSe g (a 3) SeR SeA, hm_row g (a 4 0) (a 4 1) 100 (R 1), hm_row g (a 5 0) (a 5 1) 6 (R 2), hm_row g (a 6 0) (a 6 1) 6 (R 3), hm_wLe g (a 7) (hm_up (hm_up (hm_up (hm_up (hm_up LeR 0 t1.1) 1 t1.2.1) 2 t1.2.2.1) 3 t1.2.2.2.1) 4 t1.2.2.2.2.1) (hm_up (hm_up (hm_up (hm_up LeZ 0 t1.2.2.2.2.2.1) 1 t1.2.2.2.2.2.2.1) 2 t1.2.2.2.2.2.2.2.1) 3 t1.2.2.2.2.2.2.2.2), hm_wBr g (a 8) (hm_up (hm_up (hm_up BrA 0 t3.1) 1 t3.2.1) 2 t3.2.2), hm_wSh g (a 9) (hm_up (hm_up (hm_up (hm_up (hm_up (hm_up ShR 0 t4.1) 1 t4.2.1) 2 t4.2.2.1) 3 t4.2.2.2.1) 4 t4.2.2.2.2.1) 5 t4.2.2.2.2.2.1) (hm_up (hm_up ShZ 0 t4.2.2.2.2.2.2.1) 1 t4.2.2.2.2.2.2.2), hm_wSu g (a 10) SuA SuJ]) (n := 11) [9, 7, 8] [0, 1, 2, 3, 4, 5, 6, 10] rfl (by decide +kernel) rfl rfl) rfl rfl rfl ⟨rfl, rfl, Nat.le_of_ble_eq_true rfl, Nat.le_of_ble_eq_true rfl⟩ rfl hl.1 rfl (Nat.le_of_ble_eq_true rfl) dX7_freshen_54 ⟨Nat.zero_le _, Nat.zero_le _⟩ (fun H locs X => ?_)
    have X := X.to (ws' := ([[(a 0 0, .inr (7, [.ref (a 1 0), .ref (a 2 0), .ref (a 3 0), .ref (a 4 0), .ref (a 5 0), .ref (a 6 0), .ref (a 7 0), .ref (a 8 0), .ref (a 9 0), .ref (a 10 0), .int (Z 0), .int (Z 1)]))], hm_row g (a 1 0) (a 1 1) 200 (R 0), hm_wSc g (a 2) ScR, hm_wSe g (a 3) SeR SeA, hm_row g (a 4 0) (a 4 1) 100 (R 1), hm_row g (a 5 0) (a 5 1) 6 (R 2), hm_row g (a 6 0) (a 6 1) 6 (R 3), hm_wLe g (a 7) (hm_up (hm_up (hm_up (hm_up (hm_up LeR 0 t1.1) 1 t1.2.1) 2 t1.2.2.1) 3 t1.2.2.2.1) 4 t1.2.2.2.2.1) (hm_up (hm_up (hm_up (hm_up LeZ 0 t1.2.2.2.2.2.1) 1 t1.2.2.2.2.2.2.1) 2 t1.2.2.2.2.2.2.2.1) 3 t1.2.2.2.2.2.2.2.2), hm_wBr g (a 8) (hm_up (hm_up (hm_up BrA 0 t3.1) 1 t3.2.1) 2 t3.2.2), hm_wSh g (a 9) (hm_up (hm_up (hm_up (hm_up (hm_up (hm_up ShR 0 t4.1) 1 t4.2.1) 2 t4.2.2.1) 3 t4.2.2.2.1) 4 t4.2.2.2.2.1) 5 t4.2.2.2.2.2.1) (hm_up (hm_up ShZ 0 t4.2.2.2.2.2.2.1) 1 t4.2.2.2.2.2.2.2), hm_wSu g (a 10) SuA SuJ] : List va_W).flatten) rfl
    refine lv_aload_n hx hb dX7_freshen_57 rfl (lv_at hl 0 rfl) ?_
    refine lv_iconst (v := 0) hx hb dX7_freshen_58 (by decide) ?_
    refine hm_put S X hf_X7_69 hg_X7_sheetStale 0 rfl (hm_nb (Or.inl rfl)) (hm_fb (Or.inl rfl)) (Nat.le_of_ble_eq_true rfl) dX7_freshen_59 (fun H locs X => ?_)
    have X := X.to (ws' := ([[(a 0 0, .inr (7, [.ref (a 1 0), .ref (a 2 0), .ref (a 3 0), .ref (a 4 0), .ref (a 5 0), .ref (a 6 0), .ref (a 7 0), .ref (a 8 0), .ref (a 9 0), .ref (a 10 0), .int 0, .int (Z 1)]))], hm_row g (a 1 0) (a 1 1) 200 (R 0), hm_wSc g (a 2) ScR, hm_wSe g (a 3) SeR SeA, hm_row g (a 4 0) (a 4 1) 100 (R 1), hm_row g (a 5 0) (a 5 1) 6 (R 2), hm_row g (a 6 0) (a 6 1) 6 (R 3), hm_wLe g (a 7) (hm_up (hm_up (hm_up (hm_up (hm_up LeR 0 t1.1) 1 t1.2.1) 2 t1.2.2.1) 3 t1.2.2.2.1) 4 t1.2.2.2.2.1) (hm_up (hm_up (hm_up (hm_up LeZ 0 t1.2.2.2.2.2.1) 1 t1.2.2.2.2.2.2.1) 2 t1.2.2.2.2.2.2.2.1) 3 t1.2.2.2.2.2.2.2.2), hm_wBr g (a 8) (hm_up (hm_up (hm_up BrA 0 t3.1) 1 t3.2.1) 2 t3.2.2), hm_wSh g (a 9) (hm_up (hm_up (hm_up (hm_up (hm_up (hm_up ShR 0 t4.1) 1 t4.2.1) 2 t4.2.2.1) 3 t4.2.2.2.1) 4 t4.2.2.2.2.1) 5 t4.2.2.2.2.2.1) (hm_up (hm_up ShZ 0 t4.2.2.2.2.2.2.1) 1 t4.2.2.2.2.2.2.2), hm_wSu g (a 10) SuA SuJ] : List va_W).flatten) rfl
    obtain rfl := Option.some.inj hF
    exact hm_rv S hr hlk X rfl dX7_freshen_62
def f_X7_page (Z_0 : Int32) (ScR_0 : hm_SR) (ScR_1 : hm_SR) (SeA_0 : Nat → Int32) (LeR_0 : hm_SR) (LeR_1 : hm_SR) (LeR_2 : hm_SR) (LeR_3 : hm_SR) (LeR_4 : hm_SR) (LeZ_0 : Int32) (LeZ_1 : Int32) (LeZ_2 : Int32) (LeZ_3 : Int32) (BrA_0 : Nat → Int32) (BrA_1 : Nat → Int32) (BrA_2 : Nat → Int32) (ShR_0 : hm_SR) (ShR_1 : hm_SR) (ShR_2 : hm_SR) (ShR_3 : hm_SR) (ShR_4 : hm_SR) (ShR_5 : hm_SR) (ShZ_0 : Int32) (ShZ_1 : Int32) (x0 : Int32)  : Option (Int32 × (Nat → Int32) × (Nat → Int32) × (Nat → Int32) × hm_SR × hm_SR × hm_SR × hm_SR × hm_SR × Int32 × Int32 × Int32 × Int32 × hm_SR × hm_SR × hm_SR × hm_SR × hm_SR × hm_SR × Int32 × Int32 × Int32) :=
  if x0 < 0 then (
  some ((-1), BrA_0, BrA_1, BrA_2, LeR_0, LeR_1, LeR_2, LeR_3, LeR_4, LeZ_0, LeZ_1, LeZ_2, LeZ_3, ShR_0, ShR_1, ShR_2, ShR_3, ShR_4, ShR_5, ShZ_0, ShZ_1, Z_0))
  else (
  if x0 ≤ 5 then (
  (f_X7_freshen Z_0 ScR_0 ScR_1 SeA_0 LeR_0 LeR_1 LeR_2 LeR_3 LeR_4 LeZ_0 LeZ_1 LeZ_2 LeZ_3 BrA_0 BrA_1 BrA_2 ShR_0 ShR_1 ShR_2 ShR_3 ShR_4 ShR_5 ShZ_0 ShZ_1).bind fun t1 =>
  (f_X5_isThere t1.2.2.2.2.2.2.2.2.2.2.2.2.2.2.2.2.2.2.1).bind fun t2 =>
  if t2 = 0 then (
  some ((-9), t1.1, t1.2.1, t1.2.2.1, t1.2.2.2.1, t1.2.2.2.2.1, t1.2.2.2.2.2.1, t1.2.2.2.2.2.2.1, t1.2.2.2.2.2.2.2.1, t1.2.2.2.2.2.2.2.2.1, t1.2.2.2.2.2.2.2.2.2.1, t1.2.2.2.2.2.2.2.2.2.2.1, t1.2.2.2.2.2.2.2.2.2.2.2.1, t1.2.2.2.2.2.2.2.2.2.2.2.2.1, t1.2.2.2.2.2.2.2.2.2.2.2.2.2.1, t1.2.2.2.2.2.2.2.2.2.2.2.2.2.2.1, t1.2.2.2.2.2.2.2.2.2.2.2.2.2.2.2.1, t1.2.2.2.2.2.2.2.2.2.2.2.2.2.2.2.2.1, t1.2.2.2.2.2.2.2.2.2.2.2.2.2.2.2.2.2.1, t1.2.2.2.2.2.2.2.2.2.2.2.2.2.2.2.2.2.2.1, t1.2.2.2.2.2.2.2.2.2.2.2.2.2.2.2.2.2.2.2.1, t1.2.2.2.2.2.2.2.2.2.2.2.2.2.2.2.2.2.2.2.2))
  else (
  if x0 = 0 then (
  (f_X5_cost t1.2.2.2.2.2.2.2.2.2.2.2.2.2.2.2.2.2.2.2.1).bind fun t3 =>
  some (t3, t1.1, t1.2.1, t1.2.2.1, t1.2.2.2.1, t1.2.2.2.2.1, t1.2.2.2.2.2.1, t1.2.2.2.2.2.2.1, t1.2.2.2.2.2.2.2.1, t1.2.2.2.2.2.2.2.2.1, t1.2.2.2.2.2.2.2.2.2.1, t1.2.2.2.2.2.2.2.2.2.2.1, t1.2.2.2.2.2.2.2.2.2.2.2.1, t1.2.2.2.2.2.2.2.2.2.2.2.2.1, t1.2.2.2.2.2.2.2.2.2.2.2.2.2.1, t1.2.2.2.2.2.2.2.2.2.2.2.2.2.2.1, t1.2.2.2.2.2.2.2.2.2.2.2.2.2.2.2.1, t1.2.2.2.2.2.2.2.2.2.2.2.2.2.2.2.2.1, t1.2.2.2.2.2.2.2.2.2.2.2.2.2.2.2.2.2.1, t1.2.2.2.2.2.2.2.2.2.2.2.2.2.2.2.2.2.2.1, t1.2.2.2.2.2.2.2.2.2.2.2.2.2.2.2.2.2.2.2.1, t1.2.2.2.2.2.2.2.2.2.2.2.2.2.2.2.2.2.2.2.2))
  else (
  if x0 = 1 then (
  (f_X5_lineCount t1.2.2.2.2.2.2.2.2.2.2.2.2.1).bind fun t4 =>
  some (t4, t1.1, t1.2.1, t1.2.2.1, t1.2.2.2.1, t1.2.2.2.2.1, t1.2.2.2.2.2.1, t1.2.2.2.2.2.2.1, t1.2.2.2.2.2.2.2.1, t1.2.2.2.2.2.2.2.2.1, t1.2.2.2.2.2.2.2.2.2.1, t1.2.2.2.2.2.2.2.2.2.2.1, t1.2.2.2.2.2.2.2.2.2.2.2.1, t1.2.2.2.2.2.2.2.2.2.2.2.2.1, t1.2.2.2.2.2.2.2.2.2.2.2.2.2.1, t1.2.2.2.2.2.2.2.2.2.2.2.2.2.2.1, t1.2.2.2.2.2.2.2.2.2.2.2.2.2.2.2.1, t1.2.2.2.2.2.2.2.2.2.2.2.2.2.2.2.2.1, t1.2.2.2.2.2.2.2.2.2.2.2.2.2.2.2.2.2.1, t1.2.2.2.2.2.2.2.2.2.2.2.2.2.2.2.2.2.2.1, t1.2.2.2.2.2.2.2.2.2.2.2.2.2.2.2.2.2.2.2.1, t1.2.2.2.2.2.2.2.2.2.2.2.2.2.2.2.2.2.2.2.2))
  else (
  if x0 = 2 then (
  (f_X5_slashEnds t1.2.2.2.2.2.2.2.2.2.2.2.2.1 t1.2.2.2.2.2.1).bind fun t5 =>
  some (t5, t1.1, t1.2.1, t1.2.2.1, t1.2.2.2.1, t1.2.2.2.2.1, t1.2.2.2.2.2.1, t1.2.2.2.2.2.2.1, t1.2.2.2.2.2.2.2.1, t1.2.2.2.2.2.2.2.2.1, t1.2.2.2.2.2.2.2.2.2.1, t1.2.2.2.2.2.2.2.2.2.2.1, t1.2.2.2.2.2.2.2.2.2.2.2.1, t1.2.2.2.2.2.2.2.2.2.2.2.2.1, t1.2.2.2.2.2.2.2.2.2.2.2.2.2.1, t1.2.2.2.2.2.2.2.2.2.2.2.2.2.2.1, t1.2.2.2.2.2.2.2.2.2.2.2.2.2.2.2.1, t1.2.2.2.2.2.2.2.2.2.2.2.2.2.2.2.2.1, t1.2.2.2.2.2.2.2.2.2.2.2.2.2.2.2.2.2.1, t1.2.2.2.2.2.2.2.2.2.2.2.2.2.2.2.2.2.2.1, t1.2.2.2.2.2.2.2.2.2.2.2.2.2.2.2.2.2.2.2.1, t1.2.2.2.2.2.2.2.2.2.2.2.2.2.2.2.2.2.2.2.2))
  else (
  if x0 = 3 then (
  (f_X5_rough t1.2.2.2.2.2.2.2.2.2.2.2.2.1 t1.2.2.2.1 t1.2.2.2.2.1 t1.2.2.2.2.2.2.1 t1.2.2.2.2.2.2.2.1 t1.2.2.2.2.2.2.2.2.2.1).bind fun t6 =>
  some (t6, t1.1, t1.2.1, t1.2.2.1, t1.2.2.2.1, t1.2.2.2.2.1, t1.2.2.2.2.2.1, t1.2.2.2.2.2.2.1, t1.2.2.2.2.2.2.2.1, t1.2.2.2.2.2.2.2.2.1, t1.2.2.2.2.2.2.2.2.2.1, t1.2.2.2.2.2.2.2.2.2.2.1, t1.2.2.2.2.2.2.2.2.2.2.2.1, t1.2.2.2.2.2.2.2.2.2.2.2.2.1, t1.2.2.2.2.2.2.2.2.2.2.2.2.2.1, t1.2.2.2.2.2.2.2.2.2.2.2.2.2.2.1, t1.2.2.2.2.2.2.2.2.2.2.2.2.2.2.2.1, t1.2.2.2.2.2.2.2.2.2.2.2.2.2.2.2.2.1, t1.2.2.2.2.2.2.2.2.2.2.2.2.2.2.2.2.2.1, t1.2.2.2.2.2.2.2.2.2.2.2.2.2.2.2.2.2.2.1, t1.2.2.2.2.2.2.2.2.2.2.2.2.2.2.2.2.2.2.2.1, t1.2.2.2.2.2.2.2.2.2.2.2.2.2.2.2.2.2.2.2.2))
  else (
  if x0 = 4 then (
  (f_X5_springs t1.2.2.2.2.2.2.2.2.2.2.2.2.2.2.2.2.2.1).bind fun t7 =>
  some (t7, t1.1, t1.2.1, t1.2.2.1, t1.2.2.2.1, t1.2.2.2.2.1, t1.2.2.2.2.2.1, t1.2.2.2.2.2.2.1, t1.2.2.2.2.2.2.2.1, t1.2.2.2.2.2.2.2.2.1, t1.2.2.2.2.2.2.2.2.2.1, t1.2.2.2.2.2.2.2.2.2.2.1, t1.2.2.2.2.2.2.2.2.2.2.2.1, t1.2.2.2.2.2.2.2.2.2.2.2.2.1, t1.2.2.2.2.2.2.2.2.2.2.2.2.2.1, t1.2.2.2.2.2.2.2.2.2.2.2.2.2.2.1, t1.2.2.2.2.2.2.2.2.2.2.2.2.2.2.2.1, t1.2.2.2.2.2.2.2.2.2.2.2.2.2.2.2.2.1, t1.2.2.2.2.2.2.2.2.2.2.2.2.2.2.2.2.2.1, t1.2.2.2.2.2.2.2.2.2.2.2.2.2.2.2.2.2.2.1, t1.2.2.2.2.2.2.2.2.2.2.2.2.2.2.2.2.2.2.2.1, t1.2.2.2.2.2.2.2.2.2.2.2.2.2.2.2.2.2.2.2.2))
  else (
  (f_X5_longest t1.2.2.2.2.2.2.2.2.2.2.2.2.2.2.2.2.1).bind fun t8 =>
  some (t8, t1.1, t1.2.1, t1.2.2.1, t1.2.2.2.1, t1.2.2.2.2.1, t1.2.2.2.2.2.1, t1.2.2.2.2.2.2.1, t1.2.2.2.2.2.2.2.1, t1.2.2.2.2.2.2.2.2.1, t1.2.2.2.2.2.2.2.2.2.1, t1.2.2.2.2.2.2.2.2.2.2.1, t1.2.2.2.2.2.2.2.2.2.2.2.1, t1.2.2.2.2.2.2.2.2.2.2.2.2.1, t1.2.2.2.2.2.2.2.2.2.2.2.2.2.1, t1.2.2.2.2.2.2.2.2.2.2.2.2.2.2.1, t1.2.2.2.2.2.2.2.2.2.2.2.2.2.2.2.1, t1.2.2.2.2.2.2.2.2.2.2.2.2.2.2.2.2.1, t1.2.2.2.2.2.2.2.2.2.2.2.2.2.2.2.2.2.1, t1.2.2.2.2.2.2.2.2.2.2.2.2.2.2.2.2.2.2.1, t1.2.2.2.2.2.2.2.2.2.2.2.2.2.2.2.2.2.2.2.1, t1.2.2.2.2.2.2.2.2.2.2.2.2.2.2.2.2.2.2.2.2))))))))
  else (
  some ((-1), BrA_0, BrA_1, BrA_2, LeR_0, LeR_1, LeR_2, LeR_3, LeR_4, LeZ_0, LeZ_1, LeZ_2, LeZ_3, ShR_0, ShR_1, ShR_2, ShR_3, ShR_4, ShR_5, ShZ_0, ShZ_1, Z_0)))
abbrev rm_X7_page : Room := { frames := 6, cells := 0, slots := 0, locals := 140 }
set_option maxHeartbeats 4000000 in
set_option maxRecDepth 100000 in
theorem c_X7_page (l : Launch) (g : hm_G) (a : Nat → Nat → Nat) (R : Nat → hm_SR) (Z : Nat → Int32) (ScR : Nat → hm_SR) (SeR : Nat → hm_SR) (SeA : Nat → Nat → Int32) (LeR : Nat → hm_SR) (LeZ : Nat → Int32) (BrA : Nat → Nat → Int32) (ShR : Nat → hm_SR) (ShZ : Nat → Int32) (SuA : Nat → Nat → Int32) (SuJ : Nat → Nat → Int64) (x0 : Int32) (q : Int32 × (Nat → Int32) × (Nat → Int32) × (Nat → Int32) × hm_SR × hm_SR × hm_SR × hm_SR × hm_SR × Int32 × Int32 × Int32 × Int32 × hm_SR × hm_SR × hm_SR × hm_SR × hm_SR × hm_SR × Int32 × Int32 × Int32) (hF : f_X7_page (Z 0) (ScR 0) (ScR 1) (SeA 0) (LeR 0) (LeR 1) (LeR 2) (LeR 3) (LeR 4) (LeZ 0) (LeZ 1) (LeZ 2) (LeZ 3) (BrA 0) (BrA 1) (BrA 2) (ShR 0) (ShR 1) (ShR 2) (ShR 3) (ShR 4) (ShR 5) (ShZ 0) (ShZ 1) x0 = some q) : hm_Mi l yX7_page (Cond.code yX7_page cX7_page 2 (some .int) :: hm_W) rm_X7_page g [.ref (a 0 0), .int x0] ([hm_wHM g a R Z ScR SeR SeA LeR LeZ BrA ShR ShZ SuA SuJ] : List va_W).flatten ([hm_wHM g a R (hm_up Z 0 q.2.2.2.2.2.2.2.2.2.2.2.2.2.2.2.2.2.2.2.2.2) ScR SeR SeA (hm_up (hm_up (hm_up (hm_up (hm_up LeR 0 q.2.2.2.2.1) 1 q.2.2.2.2.2.1) 2 q.2.2.2.2.2.2.1) 3 q.2.2.2.2.2.2.2.1) 4 q.2.2.2.2.2.2.2.2.1) (hm_up (hm_up (hm_up (hm_up LeZ 0 q.2.2.2.2.2.2.2.2.2.1) 1 q.2.2.2.2.2.2.2.2.2.2.1) 2 q.2.2.2.2.2.2.2.2.2.2.2.1) 3 q.2.2.2.2.2.2.2.2.2.2.2.2.1) (hm_up (hm_up (hm_up BrA 0 q.2.1) 1 q.2.2.1) 2 q.2.2.2.1) (hm_up (hm_up (hm_up (hm_up (hm_up (hm_up ShR 0 q.2.2.2.2.2.2.2.2.2.2.2.2.2.1) 1 q.2.2.2.2.2.2.2.2.2.2.2.2.2.2.1) 2 q.2.2.2.2.2.2.2.2.2.2.2.2.2.2.2.1) 3 q.2.2.2.2.2.2.2.2.2.2.2.2.2.2.2.2.1) 4 q.2.2.2.2.2.2.2.2.2.2.2.2.2.2.2.2.2.1) 5 q.2.2.2.2.2.2.2.2.2.2.2.2.2.2.2.2.2.2.1) (hm_up (hm_up ShZ 0 q.2.2.2.2.2.2.2.2.2.2.2.2.2.2.2.2.2.2.2.1) 1 q.2.2.2.2.2.2.2.2.2.2.2.2.2.2.2.2.2.2.2.2.1) SuA SuJ] : List va_W).flatten q.1 := by
  refine hm_ofi [(0, .ref (a 0 0)), (1, .int x0)] (by decide) (own := RX7) rfl (Nat.le_of_ble_eq_true rfl) rfl rfl ?_
  intro p e s m args below meth c AA S hr hlk X ls hl
  have hx := S.1
  have hb := S.2.1
  have hown := S.2.2.2.1
  have hts := S.2.2.2.2
  have X := X.to (ws' := ([[(a 0 0, .inr (7, [.ref (a 1 0), .ref (a 2 0), .ref (a 3 0), .ref (a 4 0), .ref (a 5 0), .ref (a 6 0), .ref (a 7 0), .ref (a 8 0), .ref (a 9 0), .ref (a 10 0), .int (Z 0), .int (Z 1)]))], hm_row g (a 1 0) (a 1 1) 200 (R 0), hm_wSc g (a 2) ScR, hm_wSe g (a 3) SeR SeA, hm_row g (a 4 0) (a 4 1) 100 (R 1), hm_row g (a 5 0) (a 5 1) 6 (R 2), hm_row g (a 6 0) (a 6 1) 6 (R 3), hm_wLe g (a 7) LeR LeZ, hm_wBr g (a 8) BrA, hm_wSh g (a 9) ShR ShZ, hm_wSu g (a 10) SuA SuJ] : List va_W).flatten) rfl
  unfold f_X7_page at hF
  refine lv_iload_n hx hb dX7_page_0 rfl (lv_at hl 1 rfl) ?_
  refine lv_if_lt (tgt := 9) hx hb dX7_page_1 (by decide) (fun c1 => ?_) (fun c1 => ?_)
  · have hF := hm_if hF c1
    refine lv_iconst (v := (-1)) hx hb dX7_page_9 (by decide) ?_
    obtain rfl := Option.some.inj hF
    exact hm_ri S hr hlk X rfl rfl dX7_page_10
  · have hF := hm_nf hF c1
    refine lv_iload_n hx hb dX7_page_4 rfl (lv_at hl 1 rfl) ?_
    refine lv_iconst (v := 5) hx hb dX7_page_5 (by decide) ?_
    refine lv_icmp_le (tgt := 11) hx hb dX7_page_6 (by decide) (fun c6 => ?_) (fun c6 => ?_)
    · have hF := hm_if hF c6
      refine lv_aload_n hx hb dX7_page_11 rfl (lv_at hl 0 rfl) ?_
      obtain ⟨t1, ht1, hF⟩ := hm_bd hF
      refine hm_vv (As := []) S X mw_X7_freshen hw_2_220 (c_X7_freshen l g a R Z ScR SeR SeA LeR LeZ BrA ShR ShZ SuA SuJ t1 ht1) (hm_cq (n := 11) [0, 1, 2, 3, 4, 5, 6, 7, 8, 9, 10] [] rfl (by decide +kernel) rfl rfl) (hm_cq (bs := [[(a 0 0, .inr (7, [.ref (a 1 0), .ref (a 2 0), .ref (a 3 0), .ref (a 4 0), .ref (a 5 0), .ref (a 6 0), .ref (a 7 0), .ref (a 8 0), .ref (a 9 0), .ref (a 10 0), .int t1.2.2.2.2.2.2.2.2.2.2.2.2.2.2.2.2.2.2.2.2, .int (Z 1)]))], hm_row g (a 1 0) (a 1 1) 200 (R 0), hm_wSc g (a 2) ScR, hm_wSe g (a 3) SeR SeA, hm_row g (a 4 0) (a 4 1) 100 (R 1), hm_row g (a 5 0) (a 5 1) 6 (R 2), hm_row g (a 6 0) (a 6 1) 6 (R 3), hm_wLe g (a 7) (hm_up (hm_up (hm_up (hm_up (hm_up LeR 0 t1.2.2.2.1) 1 t1.2.2.2.2.1) 2 t1.2.2.2.2.2.1) 3 t1.2.2.2.2.2.2.1) 4 t1.2.2.2.2.2.2.2.1) (hm_up (hm_up (hm_up (hm_up LeZ 0 t1.2.2.2.2.2.2.2.2.1) 1 t1.2.2.2.2.2.2.2.2.2.1) 2 t1.2.2.2.2.2.2.2.2.2.2.1) 3 t1.2.2.2.2.2.2.2.2.2.2.2.1), hm_wBr g (a 8) (hm_up (hm_up (hm_up BrA 0 t1.1) 1 t1.2.1) 2 t1.2.2.1), hm_wSh g (a 9) (hm_up (hm_up (hm_up (hm_up (hm_up (hm_up ShR 0 t1.2.2.2.2.2.2.2.2.2.2.2.2.1) 1 t1.2.2.2.2.2.2.2.2.2.2.2.2.2.1) 2 t1.2.2.2.2.2.2.2.2.2.2.2.2.2.2.1) 3 t1.2.2.2.2.2.2.2.2.2.2.2.2.2.2.2.1) 4 t1.2.2.2.2.2.2.2.2.2.2.2.2.2.2.2.2.1) 5 t1.2.2.2.2.2.2.2.2.2.2.2.2.2.2.2.2.2.1) (hm_up (hm_up ShZ 0 t1.2.2.2.2.2.2.2.2.2.2.2.2.2.2.2.2.2.2.1) 1 t1.2.2.2.2.2.2.2.2.2.2.2.2.2.2.2.2.2.2.2.1), hm_wSu g (a 10) SuA SuJ]) (n := 11) [0, 1, 2, 3, 4, 5, 6, 7, 8, 9, 10] [] rfl (by decide +kernel) rfl rfl) rfl rfl rfl ⟨rfl, rfl, Nat.le_of_ble_eq_true rfl, Nat.le_of_ble_eq_true rfl⟩ rfl hl.1 rfl (Nat.le_of_ble_eq_true rfl) dX7_page_12 ⟨Nat.zero_le _, Nat.zero_le _⟩ (fun H locs X => ?_)
      have X := X.to (ws' := ([[(a 0 0, .inr (7, [.ref (a 1 0), .ref (a 2 0), .ref (a 3 0), .ref (a 4 0), .ref (a 5 0), .ref (a 6 0), .ref (a 7 0), .ref (a 8 0), .ref (a 9 0), .ref (a 10 0), .int t1.2.2.2.2.2.2.2.2.2.2.2.2.2.2.2.2.2.2.2.2, .int (Z 1)]))], hm_row g (a 1 0) (a 1 1) 200 (R 0), hm_wSc g (a 2) ScR, hm_wSe g (a 3) SeR SeA, hm_row g (a 4 0) (a 4 1) 100 (R 1), hm_row g (a 5 0) (a 5 1) 6 (R 2), hm_row g (a 6 0) (a 6 1) 6 (R 3), hm_wLe g (a 7) (hm_up (hm_up (hm_up (hm_up (hm_up LeR 0 t1.2.2.2.1) 1 t1.2.2.2.2.1) 2 t1.2.2.2.2.2.1) 3 t1.2.2.2.2.2.2.1) 4 t1.2.2.2.2.2.2.2.1) (hm_up (hm_up (hm_up (hm_up LeZ 0 t1.2.2.2.2.2.2.2.2.1) 1 t1.2.2.2.2.2.2.2.2.2.1) 2 t1.2.2.2.2.2.2.2.2.2.2.1) 3 t1.2.2.2.2.2.2.2.2.2.2.2.1), hm_wBr g (a 8) (hm_up (hm_up (hm_up BrA 0 t1.1) 1 t1.2.1) 2 t1.2.2.1), hm_wSh g (a 9) (hm_up (hm_up (hm_up (hm_up (hm_up (hm_up ShR 0 t1.2.2.2.2.2.2.2.2.2.2.2.2.1) 1 t1.2.2.2.2.2.2.2.2.2.2.2.2.2.1) 2 t1.2.2.2.2.2.2.2.2.2.2.2.2.2.2.1) 3 t1.2.2.2.2.2.2.2.2.2.2.2.2.2.2.2.1) 4 t1.2.2.2.2.2.2.2.2.2.2.2.2.2.2.2.2.1) 5 t1.2.2.2.2.2.2.2.2.2.2.2.2.2.2.2.2.2.1) (hm_up (hm_up ShZ 0 t1.2.2.2.2.2.2.2.2.2.2.2.2.2.2.2.2.2.2.1) 1 t1.2.2.2.2.2.2.2.2.2.2.2.2.2.2.2.2.2.2.2.1), hm_wSu g (a 10) SuA SuJ] : List va_W).flatten) rfl
      refine lv_aload_n hx hb dX7_page_15 rfl (lv_at hl 0 rfl) ?_
      refine hm_get S X hf_X7_58 0 rfl rfl dX7_page_16 ?_
      obtain ⟨t2, ht2, hF⟩ := hm_bd hF
      refine hm_vi (As := []) S X mw_X5_isThere hw_3_120 (c_X5_isThere l g (a 9) (hm_up (hm_up (hm_up (hm_up (hm_up (hm_up ShR 0 t1.2.2.2.2.2.2.2.2.2.2.2.2.1) 1 t1.2.2.2.2.2.2.2.2.2.2.2.2.2.1) 2 t1.2.2.2.2.2.2.2.2.2.2.2.2.2.2.1) 3 t1.2.2.2.2.2.2.2.2.2.2.2.2.2.2.2.1) 4 t1.2.2.2.2.2.2.2.2.2.2.2.2.2.2.2.2.1) 5 t1.2.2.2.2.2.2.2.2.2.2.2.2.2.2.2.2.2.1) (hm_up (hm_up ShZ 0 t1.2.2.2.2.2.2.2.2.2.2.2.2.2.2.2.2.2.2.1) 1 t1.2.2.2.2.2.2.2.2.2.2.2.2.2.2.2.2.2.2.2.1) t2 ht2) (hm_mid [[(a 0 0, .inr (7, [.ref (a 1 0), .ref (a 2 0), .ref (a 3 0), .ref (a 4 0), .ref (a 5 0), .ref (a 6 0), .ref (a 7 0), .ref (a 8 0), .ref (a 9 0), .ref (a 10 0), .int t1.2.2.2.2.2.2.2.2.2.2.2.2.2.2.2.2.2.2.2.2, .int (Z 1)]))], hm_row g (a 1 0) (a 1 1) 200 (R 0), hm_wSc g (a 2) ScR, hm_wSe g (a 3) SeR SeA, hm_row g (a 4 0) (a 4 1) 100 (R 1), hm_row g (a 5 0) (a 5 1) 6 (R 2), hm_row g (a 6 0) (a 6 1) 6 (R 3), hm_wLe g (a 7) (hm_up (hm_up (hm_up (hm_up (hm_up LeR 0 t1.2.2.2.1) 1 t1.2.2.2.2.1) 2 t1.2.2.2.2.2.1) 3 t1.2.2.2.2.2.2.1) 4 t1.2.2.2.2.2.2.2.1) (hm_up (hm_up (hm_up (hm_up LeZ 0 t1.2.2.2.2.2.2.2.2.1) 1 t1.2.2.2.2.2.2.2.2.2.1) 2 t1.2.2.2.2.2.2.2.2.2.2.1) 3 t1.2.2.2.2.2.2.2.2.2.2.2.1), hm_wBr g (a 8) (hm_up (hm_up (hm_up BrA 0 t1.1) 1 t1.2.1) 2 t1.2.2.1)] [hm_wSu g (a 10) SuA SuJ]) (hm_mid [[(a 0 0, .inr (7, [.ref (a 1 0), .ref (a 2 0), .ref (a 3 0), .ref (a 4 0), .ref (a 5 0), .ref (a 6 0), .ref (a 7 0), .ref (a 8 0), .ref (a 9 0), .ref (a 10 0), .int t1.2.2.2.2.2.2.2.2.2.2.2.2.2.2.2.2.2.2.2.2, .int (Z 1)]))], hm_row g (a 1 0) (a 1 1) 200 (R 0), hm_wSc g (a 2) ScR, hm_wSe g (a 3) SeR SeA, hm_row g (a 4 0) (a 4 1) 100 (R 1), hm_row g (a 5 0) (a 5 1) 6 (R 2), hm_row g (a 6 0) (a 6 1) 6 (R 3), hm_wLe g (a 7) (hm_up (hm_up (hm_up (hm_up (hm_up LeR 0 t1.2.2.2.1) 1 t1.2.2.2.2.1) 2 t1.2.2.2.2.2.1) 3 t1.2.2.2.2.2.2.1) 4 t1.2.2.2.2.2.2.2.1) (hm_up (hm_up (hm_up (hm_up LeZ 0 t1.2.2.2.2.2.2.2.2.1) 1 t1.2.2.2.2.2.2.2.2.2.1) 2 t1.2.2.2.2.2.2.2.2.2.2.1) 3 t1.2.2.2.2.2.2.2.2.2.2.2.1), hm_wBr g (a 8) (hm_up (hm_up (hm_up BrA 0 t1.1) 1 t1.2.1) 2 t1.2.2.1)] [hm_wSu g (a 10) SuA SuJ] (b := hm_wSh g (a 9) (hm_up (hm_up (hm_up (hm_up (hm_up (hm_up ShR 0 t1.2.2.2.2.2.2.2.2.2.2.2.2.1) 1 t1.2.2.2.2.2.2.2.2.2.2.2.2.2.1) 2 t1.2.2.2.2.2.2.2.2.2.2.2.2.2.2.1) 3 t1.2.2.2.2.2.2.2.2.2.2.2.2.2.2.2.1) 4 t1.2.2.2.2.2.2.2.2.2.2.2.2.2.2.2.2.1) 5 t1.2.2.2.2.2.2.2.2.2.2.2.2.2.2.2.2.2.1) (hm_up (hm_up ShZ 0 t1.2.2.2.2.2.2.2.2.2.2.2.2.2.2.2.2.2.2.1) 1 t1.2.2.2.2.2.2.2.2.2.2.2.2.2.2.2.2.2.2.2.1))) rfl rfl rfl ⟨rfl, rfl, Nat.le_of_ble_eq_true rfl, Nat.le_of_ble_eq_true rfl⟩ rfl hl.1 rfl (Nat.le_of_ble_eq_true rfl) dX7_page_19 ⟨Nat.zero_le _, Nat.zero_le _⟩ (fun H locs X => ?_)
      have X := X.to (ws' := ([[(a 0 0, .inr (7, [.ref (a 1 0), .ref (a 2 0), .ref (a 3 0), .ref (a 4 0), .ref (a 5 0), .ref (a 6 0), .ref (a 7 0), .ref (a 8 0), .ref (a 9 0), .ref (a 10 0), .int t1.2.2.2.2.2.2.2.2.2.2.2.2.2.2.2.2.2.2.2.2, .int (Z 1)]))], hm_row g (a 1 0) (a 1 1) 200 (R 0), hm_wSc g (a 2) ScR, hm_wSe g (a 3) SeR SeA, hm_row g (a 4 0) (a 4 1) 100 (R 1), hm_row g (a 5 0) (a 5 1) 6 (R 2), hm_row g (a 6 0) (a 6 1) 6 (R 3), hm_wLe g (a 7) (hm_up (hm_up (hm_up (hm_up (hm_up LeR 0 t1.2.2.2.1) 1 t1.2.2.2.2.1) 2 t1.2.2.2.2.2.1) 3 t1.2.2.2.2.2.2.1) 4 t1.2.2.2.2.2.2.2.1) (hm_up (hm_up (hm_up (hm_up LeZ 0 t1.2.2.2.2.2.2.2.2.1) 1 t1.2.2.2.2.2.2.2.2.2.1) 2 t1.2.2.2.2.2.2.2.2.2.2.1) 3 t1.2.2.2.2.2.2.2.2.2.2.2.1), hm_wBr g (a 8) (hm_up (hm_up (hm_up BrA 0 t1.1) 1 t1.2.1) 2 t1.2.2.1), hm_wSh g (a 9) (hm_up (hm_up (hm_up (hm_up (hm_up (hm_up ShR 0 t1.2.2.2.2.2.2.2.2.2.2.2.2.1) 1 t1.2.2.2.2.2.2.2.2.2.2.2.2.2.1) 2 t1.2.2.2.2.2.2.2.2.2.2.2.2.2.2.1) 3 t1.2.2.2.2.2.2.2.2.2.2.2.2.2.2.2.1) 4 t1.2.2.2.2.2.2.2.2.2.2.2.2.2.2.2.2.1) 5 t1.2.2.2.2.2.2.2.2.2.2.2.2.2.2.2.2.2.1) (hm_up (hm_up ShZ 0 t1.2.2.2.2.2.2.2.2.2.2.2.2.2.2.2.2.2.2.1) 1 t1.2.2.2.2.2.2.2.2.2.2.2.2.2.2.2.2.2.2.2.1), hm_wSu g (a 10) SuA SuJ] : List va_W).flatten) rfl
      refine lv_if_ne (tgt := 28) hx hb dX7_page_22 (by decide) (fun c22 => ?_) (fun c22 => ?_)
      · have hF := hm_nf hF c22
        refine lv_iload_n hx hb dX7_page_28 rfl (lv_at hl 1 rfl) ?_
        by_cases c29_0 : x0 = 0
        · have hF := hm_if hF c29_0
          refine hm_tabIn (off := 35) (tgt := 64) (k := 0) hx hb dX7_page_29 c29_0 (by decide) (by decide) (by decide) rfl (by decide) ?_
          refine lv_aload_n hx hb dX7_page_64 rfl (lv_at hl 0 rfl) ?_
          refine hm_get S X hf_X7_58 0 rfl rfl dX7_page_65 ?_
          obtain ⟨t3, ht3, hF⟩ := hm_bd hF
          refine hm_vi (As := []) S X mw_X5_cost hw_3_124 (c_X5_cost l g (a 9) (hm_up (hm_up (hm_up (hm_up (hm_up (hm_up ShR 0 t1.2.2.2.2.2.2.2.2.2.2.2.2.1) 1 t1.2.2.2.2.2.2.2.2.2.2.2.2.2.1) 2 t1.2.2.2.2.2.2.2.2.2.2.2.2.2.2.1) 3 t1.2.2.2.2.2.2.2.2.2.2.2.2.2.2.2.1) 4 t1.2.2.2.2.2.2.2.2.2.2.2.2.2.2.2.2.1) 5 t1.2.2.2.2.2.2.2.2.2.2.2.2.2.2.2.2.2.1) (hm_up (hm_up ShZ 0 t1.2.2.2.2.2.2.2.2.2.2.2.2.2.2.2.2.2.2.1) 1 t1.2.2.2.2.2.2.2.2.2.2.2.2.2.2.2.2.2.2.2.1) t3 ht3) (hm_mid [[(a 0 0, .inr (7, [.ref (a 1 0), .ref (a 2 0), .ref (a 3 0), .ref (a 4 0), .ref (a 5 0), .ref (a 6 0), .ref (a 7 0), .ref (a 8 0), .ref (a 9 0), .ref (a 10 0), .int t1.2.2.2.2.2.2.2.2.2.2.2.2.2.2.2.2.2.2.2.2, .int (Z 1)]))], hm_row g (a 1 0) (a 1 1) 200 (R 0), hm_wSc g (a 2) ScR, hm_wSe g (a 3) SeR SeA, hm_row g (a 4 0) (a 4 1) 100 (R 1), hm_row g (a 5 0) (a 5 1) 6 (R 2), hm_row g (a 6 0) (a 6 1) 6 (R 3), hm_wLe g (a 7) (hm_up (hm_up (hm_up (hm_up (hm_up LeR 0 t1.2.2.2.1) 1 t1.2.2.2.2.1) 2 t1.2.2.2.2.2.1) 3 t1.2.2.2.2.2.2.1) 4 t1.2.2.2.2.2.2.2.1) (hm_up (hm_up (hm_up (hm_up LeZ 0 t1.2.2.2.2.2.2.2.2.1) 1 t1.2.2.2.2.2.2.2.2.2.1) 2 t1.2.2.2.2.2.2.2.2.2.2.1) 3 t1.2.2.2.2.2.2.2.2.2.2.2.1), hm_wBr g (a 8) (hm_up (hm_up (hm_up BrA 0 t1.1) 1 t1.2.1) 2 t1.2.2.1)] [hm_wSu g (a 10) SuA SuJ]) (hm_mid [[(a 0 0, .inr (7, [.ref (a 1 0), .ref (a 2 0), .ref (a 3 0), .ref (a 4 0), .ref (a 5 0), .ref (a 6 0), .ref (a 7 0), .ref (a 8 0), .ref (a 9 0), .ref (a 10 0), .int t1.2.2.2.2.2.2.2.2.2.2.2.2.2.2.2.2.2.2.2.2, .int (Z 1)]))], hm_row g (a 1 0) (a 1 1) 200 (R 0), hm_wSc g (a 2) ScR, hm_wSe g (a 3) SeR SeA, hm_row g (a 4 0) (a 4 1) 100 (R 1), hm_row g (a 5 0) (a 5 1) 6 (R 2), hm_row g (a 6 0) (a 6 1) 6 (R 3), hm_wLe g (a 7) (hm_up (hm_up (hm_up (hm_up (hm_up LeR 0 t1.2.2.2.1) 1 t1.2.2.2.2.1) 2 t1.2.2.2.2.2.1) 3 t1.2.2.2.2.2.2.1) 4 t1.2.2.2.2.2.2.2.1) (hm_up (hm_up (hm_up (hm_up LeZ 0 t1.2.2.2.2.2.2.2.2.1) 1 t1.2.2.2.2.2.2.2.2.2.1) 2 t1.2.2.2.2.2.2.2.2.2.2.1) 3 t1.2.2.2.2.2.2.2.2.2.2.2.1), hm_wBr g (a 8) (hm_up (hm_up (hm_up BrA 0 t1.1) 1 t1.2.1) 2 t1.2.2.1)] [hm_wSu g (a 10) SuA SuJ] (b := hm_wSh g (a 9) (hm_up (hm_up (hm_up (hm_up (hm_up (hm_up ShR 0 t1.2.2.2.2.2.2.2.2.2.2.2.2.1) 1 t1.2.2.2.2.2.2.2.2.2.2.2.2.2.1) 2 t1.2.2.2.2.2.2.2.2.2.2.2.2.2.2.1) 3 t1.2.2.2.2.2.2.2.2.2.2.2.2.2.2.2.1) 4 t1.2.2.2.2.2.2.2.2.2.2.2.2.2.2.2.2.1) 5 t1.2.2.2.2.2.2.2.2.2.2.2.2.2.2.2.2.2.1) (hm_up (hm_up ShZ 0 t1.2.2.2.2.2.2.2.2.2.2.2.2.2.2.2.2.2.2.1) 1 t1.2.2.2.2.2.2.2.2.2.2.2.2.2.2.2.2.2.2.2.1))) rfl rfl rfl ⟨rfl, rfl, Nat.le_of_ble_eq_true rfl, Nat.le_of_ble_eq_true rfl⟩ rfl hl.1 rfl (Nat.le_of_ble_eq_true rfl) dX7_page_68 ⟨Nat.zero_le _, Nat.zero_le _⟩ (fun H locs X => ?_)
          have X := X.to (ws' := ([[(a 0 0, .inr (7, [.ref (a 1 0), .ref (a 2 0), .ref (a 3 0), .ref (a 4 0), .ref (a 5 0), .ref (a 6 0), .ref (a 7 0), .ref (a 8 0), .ref (a 9 0), .ref (a 10 0), .int t1.2.2.2.2.2.2.2.2.2.2.2.2.2.2.2.2.2.2.2.2, .int (Z 1)]))], hm_row g (a 1 0) (a 1 1) 200 (R 0), hm_wSc g (a 2) ScR, hm_wSe g (a 3) SeR SeA, hm_row g (a 4 0) (a 4 1) 100 (R 1), hm_row g (a 5 0) (a 5 1) 6 (R 2), hm_row g (a 6 0) (a 6 1) 6 (R 3), hm_wLe g (a 7) (hm_up (hm_up (hm_up (hm_up (hm_up LeR 0 t1.2.2.2.1) 1 t1.2.2.2.2.1) 2 t1.2.2.2.2.2.1) 3 t1.2.2.2.2.2.2.1) 4 t1.2.2.2.2.2.2.2.1) (hm_up (hm_up (hm_up (hm_up LeZ 0 t1.2.2.2.2.2.2.2.2.1) 1 t1.2.2.2.2.2.2.2.2.2.1) 2 t1.2.2.2.2.2.2.2.2.2.2.1) 3 t1.2.2.2.2.2.2.2.2.2.2.2.1), hm_wBr g (a 8) (hm_up (hm_up (hm_up BrA 0 t1.1) 1 t1.2.1) 2 t1.2.2.1), hm_wSh g (a 9) (hm_up (hm_up (hm_up (hm_up (hm_up (hm_up ShR 0 t1.2.2.2.2.2.2.2.2.2.2.2.2.1) 1 t1.2.2.2.2.2.2.2.2.2.2.2.2.2.1) 2 t1.2.2.2.2.2.2.2.2.2.2.2.2.2.2.1) 3 t1.2.2.2.2.2.2.2.2.2.2.2.2.2.2.2.1) 4 t1.2.2.2.2.2.2.2.2.2.2.2.2.2.2.2.2.1) 5 t1.2.2.2.2.2.2.2.2.2.2.2.2.2.2.2.2.2.1) (hm_up (hm_up ShZ 0 t1.2.2.2.2.2.2.2.2.2.2.2.2.2.2.2.2.2.2.1) 1 t1.2.2.2.2.2.2.2.2.2.2.2.2.2.2.2.2.2.2.2.1), hm_wSu g (a 10) SuA SuJ] : List va_W).flatten) rfl
          obtain rfl := Option.some.inj hF
          exact hm_ri S hr hlk X rfl rfl dX7_page_71
        · have hF := hm_nf hF c29_0
          by_cases c29_1 : x0 = 1
          · have hF := hm_if hF c29_1
            refine hm_tabIn (off := 43) (tgt := 72) (k := 1) hx hb dX7_page_29 c29_1 (by decide) (by decide) (by decide) rfl (by decide) ?_
            refine lv_aload_n hx hb dX7_page_72 rfl (lv_at hl 0 rfl) ?_
            refine hm_get S X hf_X7_58 0 rfl rfl dX7_page_73 ?_
            obtain ⟨t4, ht4, hF⟩ := hm_bd hF
            refine hm_vi (As := []) S X mw_X5_lineCount hw_3_128 (c_X5_lineCount l g (a 9) (hm_up (hm_up (hm_up (hm_up (hm_up (hm_up ShR 0 t1.2.2.2.2.2.2.2.2.2.2.2.2.1) 1 t1.2.2.2.2.2.2.2.2.2.2.2.2.2.1) 2 t1.2.2.2.2.2.2.2.2.2.2.2.2.2.2.1) 3 t1.2.2.2.2.2.2.2.2.2.2.2.2.2.2.2.1) 4 t1.2.2.2.2.2.2.2.2.2.2.2.2.2.2.2.2.1) 5 t1.2.2.2.2.2.2.2.2.2.2.2.2.2.2.2.2.2.1) (hm_up (hm_up ShZ 0 t1.2.2.2.2.2.2.2.2.2.2.2.2.2.2.2.2.2.2.1) 1 t1.2.2.2.2.2.2.2.2.2.2.2.2.2.2.2.2.2.2.2.1) t4 ht4) (hm_mid [[(a 0 0, .inr (7, [.ref (a 1 0), .ref (a 2 0), .ref (a 3 0), .ref (a 4 0), .ref (a 5 0), .ref (a 6 0), .ref (a 7 0), .ref (a 8 0), .ref (a 9 0), .ref (a 10 0), .int t1.2.2.2.2.2.2.2.2.2.2.2.2.2.2.2.2.2.2.2.2, .int (Z 1)]))], hm_row g (a 1 0) (a 1 1) 200 (R 0), hm_wSc g (a 2) ScR, hm_wSe g (a 3) SeR SeA, hm_row g (a 4 0) (a 4 1) 100 (R 1), hm_row g (a 5 0) (a 5 1) 6 (R 2), hm_row g (a 6 0) (a 6 1) 6 (R 3), hm_wLe g (a 7) (hm_up (hm_up (hm_up (hm_up (hm_up LeR 0 t1.2.2.2.1) 1 t1.2.2.2.2.1) 2 t1.2.2.2.2.2.1) 3 t1.2.2.2.2.2.2.1) 4 t1.2.2.2.2.2.2.2.1) (hm_up (hm_up (hm_up (hm_up LeZ 0 t1.2.2.2.2.2.2.2.2.1) 1 t1.2.2.2.2.2.2.2.2.2.1) 2 t1.2.2.2.2.2.2.2.2.2.2.1) 3 t1.2.2.2.2.2.2.2.2.2.2.2.1), hm_wBr g (a 8) (hm_up (hm_up (hm_up BrA 0 t1.1) 1 t1.2.1) 2 t1.2.2.1)] [hm_wSu g (a 10) SuA SuJ]) (hm_mid [[(a 0 0, .inr (7, [.ref (a 1 0), .ref (a 2 0), .ref (a 3 0), .ref (a 4 0), .ref (a 5 0), .ref (a 6 0), .ref (a 7 0), .ref (a 8 0), .ref (a 9 0), .ref (a 10 0), .int t1.2.2.2.2.2.2.2.2.2.2.2.2.2.2.2.2.2.2.2.2, .int (Z 1)]))], hm_row g (a 1 0) (a 1 1) 200 (R 0), hm_wSc g (a 2) ScR, hm_wSe g (a 3) SeR SeA, hm_row g (a 4 0) (a 4 1) 100 (R 1), hm_row g (a 5 0) (a 5 1) 6 (R 2), hm_row g (a 6 0) (a 6 1) 6 (R 3), hm_wLe g (a 7) (hm_up (hm_up (hm_up (hm_up (hm_up LeR 0 t1.2.2.2.1) 1 t1.2.2.2.2.1) 2 t1.2.2.2.2.2.1) 3 t1.2.2.2.2.2.2.1) 4 t1.2.2.2.2.2.2.2.1) (hm_up (hm_up (hm_up (hm_up LeZ 0 t1.2.2.2.2.2.2.2.2.1) 1 t1.2.2.2.2.2.2.2.2.2.1) 2 t1.2.2.2.2.2.2.2.2.2.2.1) 3 t1.2.2.2.2.2.2.2.2.2.2.2.1), hm_wBr g (a 8) (hm_up (hm_up (hm_up BrA 0 t1.1) 1 t1.2.1) 2 t1.2.2.1)] [hm_wSu g (a 10) SuA SuJ] (b := hm_wSh g (a 9) (hm_up (hm_up (hm_up (hm_up (hm_up (hm_up ShR 0 t1.2.2.2.2.2.2.2.2.2.2.2.2.1) 1 t1.2.2.2.2.2.2.2.2.2.2.2.2.2.1) 2 t1.2.2.2.2.2.2.2.2.2.2.2.2.2.2.1) 3 t1.2.2.2.2.2.2.2.2.2.2.2.2.2.2.2.1) 4 t1.2.2.2.2.2.2.2.2.2.2.2.2.2.2.2.2.1) 5 t1.2.2.2.2.2.2.2.2.2.2.2.2.2.2.2.2.2.1) (hm_up (hm_up ShZ 0 t1.2.2.2.2.2.2.2.2.2.2.2.2.2.2.2.2.2.2.1) 1 t1.2.2.2.2.2.2.2.2.2.2.2.2.2.2.2.2.2.2.2.1))) rfl rfl rfl ⟨rfl, rfl, Nat.le_of_ble_eq_true rfl, Nat.le_of_ble_eq_true rfl⟩ rfl hl.1 rfl (Nat.le_of_ble_eq_true rfl) dX7_page_76 ⟨Nat.zero_le _, Nat.zero_le _⟩ (fun H locs X => ?_)
            have X := X.to (ws' := ([[(a 0 0, .inr (7, [.ref (a 1 0), .ref (a 2 0), .ref (a 3 0), .ref (a 4 0), .ref (a 5 0), .ref (a 6 0), .ref (a 7 0), .ref (a 8 0), .ref (a 9 0), .ref (a 10 0), .int t1.2.2.2.2.2.2.2.2.2.2.2.2.2.2.2.2.2.2.2.2, .int (Z 1)]))], hm_row g (a 1 0) (a 1 1) 200 (R 0), hm_wSc g (a 2) ScR, hm_wSe g (a 3) SeR SeA, hm_row g (a 4 0) (a 4 1) 100 (R 1), hm_row g (a 5 0) (a 5 1) 6 (R 2), hm_row g (a 6 0) (a 6 1) 6 (R 3), hm_wLe g (a 7) (hm_up (hm_up (hm_up (hm_up (hm_up LeR 0 t1.2.2.2.1) 1 t1.2.2.2.2.1) 2 t1.2.2.2.2.2.1) 3 t1.2.2.2.2.2.2.1) 4 t1.2.2.2.2.2.2.2.1) (hm_up (hm_up (hm_up (hm_up LeZ 0 t1.2.2.2.2.2.2.2.2.1) 1 t1.2.2.2.2.2.2.2.2.2.1) 2 t1.2.2.2.2.2.2.2.2.2.2.1) 3 t1.2.2.2.2.2.2.2.2.2.2.2.1), hm_wBr g (a 8) (hm_up (hm_up (hm_up BrA 0 t1.1) 1 t1.2.1) 2 t1.2.2.1), hm_wSh g (a 9) (hm_up (hm_up (hm_up (hm_up (hm_up (hm_up ShR 0 t1.2.2.2.2.2.2.2.2.2.2.2.2.1) 1 t1.2.2.2.2.2.2.2.2.2.2.2.2.2.1) 2 t1.2.2.2.2.2.2.2.2.2.2.2.2.2.2.1) 3 t1.2.2.2.2.2.2.2.2.2.2.2.2.2.2.2.1) 4 t1.2.2.2.2.2.2.2.2.2.2.2.2.2.2.2.2.1) 5 t1.2.2.2.2.2.2.2.2.2.2.2.2.2.2.2.2.2.1) (hm_up (hm_up ShZ 0 t1.2.2.2.2.2.2.2.2.2.2.2.2.2.2.2.2.2.2.1) 1 t1.2.2.2.2.2.2.2.2.2.2.2.2.2.2.2.2.2.2.2.1), hm_wSu g (a 10) SuA SuJ] : List va_W).flatten) rfl
            obtain rfl := Option.some.inj hF
            exact hm_ri S hr hlk X rfl rfl dX7_page_79
          · have hF := hm_nf hF c29_1
            by_cases c29_2 : x0 = 2
            · have hF := hm_if hF c29_2
              refine hm_tabIn (off := 51) (tgt := 80) (k := 2) hx hb dX7_page_29 c29_2 (by decide) (by decide) (by decide) rfl (by decide) ?_
              refine lv_aload_n hx hb dX7_page_80 rfl (lv_at hl 0 rfl) ?_
              refine hm_get S X hf_X7_58 0 rfl rfl dX7_page_81 ?_
              refine lv_aload_n hx hb dX7_page_84 rfl (lv_at hl 0 rfl) ?_
              refine hm_get S X hf_X7_44 0 rfl rfl dX7_page_85 ?_
              obtain ⟨t5, ht5, hF⟩ := hm_bd hF
              refine hm_vi (As := [.ref ((a 7) 0)]) S X mw_X5_slashEnds hw_3_129 (c_X5_slashEnds l g (a 9) (hm_up (hm_up (hm_up (hm_up (hm_up (hm_up ShR 0 t1.2.2.2.2.2.2.2.2.2.2.2.2.1) 1 t1.2.2.2.2.2.2.2.2.2.2.2.2.2.1) 2 t1.2.2.2.2.2.2.2.2.2.2.2.2.2.2.1) 3 t1.2.2.2.2.2.2.2.2.2.2.2.2.2.2.2.1) 4 t1.2.2.2.2.2.2.2.2.2.2.2.2.2.2.2.2.1) 5 t1.2.2.2.2.2.2.2.2.2.2.2.2.2.2.2.2.2.1) (hm_up (hm_up ShZ 0 t1.2.2.2.2.2.2.2.2.2.2.2.2.2.2.2.2.2.2.1) 1 t1.2.2.2.2.2.2.2.2.2.2.2.2.2.2.2.2.2.2.2.1) (a 7) (hm_up (hm_up (hm_up (hm_up (hm_up LeR 0 t1.2.2.2.1) 1 t1.2.2.2.2.1) 2 t1.2.2.2.2.2.1) 3 t1.2.2.2.2.2.2.1) 4 t1.2.2.2.2.2.2.2.1) (hm_up (hm_up (hm_up (hm_up LeZ 0 t1.2.2.2.2.2.2.2.2.1) 1 t1.2.2.2.2.2.2.2.2.2.1) 2 t1.2.2.2.2.2.2.2.2.2.2.1) 3 t1.2.2.2.2.2.2.2.2.2.2.2.1) t5 ht5) (hm_cq (n := 11) [9, 7] [0, 1, 2, 3, 4, 5, 6, 8, 10] rfl (by decide +kernel) rfl rfl) (hm_cq (bs := [[(a 0 0, .inr (7, [.ref (a 1 0), .ref (a 2 0), .ref (a 3 0), .ref (a 4 0), .ref (a 5 0), .ref (a 6 0), .ref (a 7 0), .ref (a 8 0), .ref (a 9 0), .ref (a 10 0), .int t1.2.2.2.2.2.2.2.2.2.2.2.2.2.2.2.2.2.2.2.2, .int (Z 1)]))], hm_row g (a 1 0) (a 1 1) 200 (R 0), hm_wSc g (a 2) ScR, hm_wSe g (a 3) SeR SeA, hm_row g (a 4 0) (a 4 1) 100 (R 1), hm_row g (a 5 0) (a 5 1) 6 (R 2), hm_row g (a 6 0) (a 6 1) 6 (R 3), hm_wLe g (a 7) (hm_up (hm_up (hm_up (hm_up (hm_up LeR 0 t1.2.2.2.1) 1 t1.2.2.2.2.1) 2 t1.2.2.2.2.2.1) 3 t1.2.2.2.2.2.2.1) 4 t1.2.2.2.2.2.2.2.1) (hm_up (hm_up (hm_up (hm_up LeZ 0 t1.2.2.2.2.2.2.2.2.1) 1 t1.2.2.2.2.2.2.2.2.2.1) 2 t1.2.2.2.2.2.2.2.2.2.2.1) 3 t1.2.2.2.2.2.2.2.2.2.2.2.1), hm_wBr g (a 8) (hm_up (hm_up (hm_up BrA 0 t1.1) 1 t1.2.1) 2 t1.2.2.1), hm_wSh g (a 9) (hm_up (hm_up (hm_up (hm_up (hm_up (hm_up ShR 0 t1.2.2.2.2.2.2.2.2.2.2.2.2.1) 1 t1.2.2.2.2.2.2.2.2.2.2.2.2.2.1) 2 t1.2.2.2.2.2.2.2.2.2.2.2.2.2.2.1) 3 t1.2.2.2.2.2.2.2.2.2.2.2.2.2.2.2.1) 4 t1.2.2.2.2.2.2.2.2.2.2.2.2.2.2.2.2.1) 5 t1.2.2.2.2.2.2.2.2.2.2.2.2.2.2.2.2.2.1) (hm_up (hm_up ShZ 0 t1.2.2.2.2.2.2.2.2.2.2.2.2.2.2.2.2.2.2.1) 1 t1.2.2.2.2.2.2.2.2.2.2.2.2.2.2.2.2.2.2.2.1), hm_wSu g (a 10) SuA SuJ]) (n := 11) [9, 7] [0, 1, 2, 3, 4, 5, 6, 8, 10] rfl (by decide +kernel) rfl rfl) rfl rfl rfl ⟨rfl, rfl, Nat.le_of_ble_eq_true rfl, Nat.le_of_ble_eq_true rfl⟩ rfl hl.1 rfl (Nat.le_of_ble_eq_true rfl) dX7_page_88 ⟨Nat.zero_le _, Nat.zero_le _⟩ (fun H locs X => ?_)
              have X := X.to (ws' := ([[(a 0 0, .inr (7, [.ref (a 1 0), .ref (a 2 0), .ref (a 3 0), .ref (a 4 0), .ref (a 5 0), .ref (a 6 0), .ref (a 7 0), .ref (a 8 0), .ref (a 9 0), .ref (a 10 0), .int t1.2.2.2.2.2.2.2.2.2.2.2.2.2.2.2.2.2.2.2.2, .int (Z 1)]))], hm_row g (a 1 0) (a 1 1) 200 (R 0), hm_wSc g (a 2) ScR, hm_wSe g (a 3) SeR SeA, hm_row g (a 4 0) (a 4 1) 100 (R 1), hm_row g (a 5 0) (a 5 1) 6 (R 2), hm_row g (a 6 0) (a 6 1) 6 (R 3), hm_wLe g (a 7) (hm_up (hm_up (hm_up (hm_up (hm_up LeR 0 t1.2.2.2.1) 1 t1.2.2.2.2.1) 2 t1.2.2.2.2.2.1) 3 t1.2.2.2.2.2.2.1) 4 t1.2.2.2.2.2.2.2.1) (hm_up (hm_up (hm_up (hm_up LeZ 0 t1.2.2.2.2.2.2.2.2.1) 1 t1.2.2.2.2.2.2.2.2.2.1) 2 t1.2.2.2.2.2.2.2.2.2.2.1) 3 t1.2.2.2.2.2.2.2.2.2.2.2.1), hm_wBr g (a 8) (hm_up (hm_up (hm_up BrA 0 t1.1) 1 t1.2.1) 2 t1.2.2.1), hm_wSh g (a 9) (hm_up (hm_up (hm_up (hm_up (hm_up (hm_up ShR 0 t1.2.2.2.2.2.2.2.2.2.2.2.2.1) 1 t1.2.2.2.2.2.2.2.2.2.2.2.2.2.1) 2 t1.2.2.2.2.2.2.2.2.2.2.2.2.2.2.1) 3 t1.2.2.2.2.2.2.2.2.2.2.2.2.2.2.2.1) 4 t1.2.2.2.2.2.2.2.2.2.2.2.2.2.2.2.2.1) 5 t1.2.2.2.2.2.2.2.2.2.2.2.2.2.2.2.2.2.1) (hm_up (hm_up ShZ 0 t1.2.2.2.2.2.2.2.2.2.2.2.2.2.2.2.2.2.2.1) 1 t1.2.2.2.2.2.2.2.2.2.2.2.2.2.2.2.2.2.2.2.1), hm_wSu g (a 10) SuA SuJ] : List va_W).flatten) rfl
              obtain rfl := Option.some.inj hF
              exact hm_ri S hr hlk X rfl rfl dX7_page_91
            · have hF := hm_nf hF c29_2
              by_cases c29_3 : x0 = 3
              · have hF := hm_if hF c29_3
                refine hm_tabIn (off := 63) (tgt := 92) (k := 3) hx hb dX7_page_29 c29_3 (by decide) (by decide) (by decide) rfl (by decide) ?_
                refine lv_aload_n hx hb dX7_page_92 rfl (lv_at hl 0 rfl) ?_
                refine hm_get S X hf_X7_58 0 rfl rfl dX7_page_93 ?_
                refine lv_aload_n hx hb dX7_page_96 rfl (lv_at hl 0 rfl) ?_
                refine hm_get S X hf_X7_44 0 rfl rfl dX7_page_97 ?_
                obtain ⟨t6, ht6, hF⟩ := hm_bd hF
                refine hm_vi (As := [.ref ((a 7) 0)]) S X mw_X5_rough hw_3_133 (c_X5_rough l g (a 9) (hm_up (hm_up (hm_up (hm_up (hm_up (hm_up ShR 0 t1.2.2.2.2.2.2.2.2.2.2.2.2.1) 1 t1.2.2.2.2.2.2.2.2.2.2.2.2.2.1) 2 t1.2.2.2.2.2.2.2.2.2.2.2.2.2.2.1) 3 t1.2.2.2.2.2.2.2.2.2.2.2.2.2.2.2.1) 4 t1.2.2.2.2.2.2.2.2.2.2.2.2.2.2.2.2.1) 5 t1.2.2.2.2.2.2.2.2.2.2.2.2.2.2.2.2.2.1) (hm_up (hm_up ShZ 0 t1.2.2.2.2.2.2.2.2.2.2.2.2.2.2.2.2.2.2.1) 1 t1.2.2.2.2.2.2.2.2.2.2.2.2.2.2.2.2.2.2.2.1) (a 7) (hm_up (hm_up (hm_up (hm_up (hm_up LeR 0 t1.2.2.2.1) 1 t1.2.2.2.2.1) 2 t1.2.2.2.2.2.1) 3 t1.2.2.2.2.2.2.1) 4 t1.2.2.2.2.2.2.2.1) (hm_up (hm_up (hm_up (hm_up LeZ 0 t1.2.2.2.2.2.2.2.2.1) 1 t1.2.2.2.2.2.2.2.2.2.1) 2 t1.2.2.2.2.2.2.2.2.2.2.1) 3 t1.2.2.2.2.2.2.2.2.2.2.2.1) t6 ht6) (hm_cq (n := 11) [9, 7] [0, 1, 2, 3, 4, 5, 6, 8, 10] rfl (by decide +kernel) rfl rfl) (hm_cq (bs := [[(a 0 0, .inr (7, [.ref (a 1 0), .ref (a 2 0), .ref (a 3 0), .ref (a 4 0), .ref (a 5 0), .ref (a 6 0), .ref (a 7 0), .ref (a 8 0), .ref (a 9 0), .ref (a 10 0), .int t1.2.2.2.2.2.2.2.2.2.2.2.2.2.2.2.2.2.2.2.2, .int (Z 1)]))], hm_row g (a 1 0) (a 1 1) 200 (R 0), hm_wSc g (a 2) ScR, hm_wSe g (a 3) SeR SeA, hm_row g (a 4 0) (a 4 1) 100 (R 1), hm_row g (a 5 0) (a 5 1) 6 (R 2), hm_row g (a 6 0) (a 6 1) 6 (R 3), hm_wLe g (a 7) (hm_up (hm_up (hm_up (hm_up (hm_up LeR 0 t1.2.2.2.1) 1 t1.2.2.2.2.1) 2 t1.2.2.2.2.2.1) 3 t1.2.2.2.2.2.2.1) 4 t1.2.2.2.2.2.2.2.1) (hm_up (hm_up (hm_up (hm_up LeZ 0 t1.2.2.2.2.2.2.2.2.1) 1 t1.2.2.2.2.2.2.2.2.2.1) 2 t1.2.2.2.2.2.2.2.2.2.2.1) 3 t1.2.2.2.2.2.2.2.2.2.2.2.1), hm_wBr g (a 8) (hm_up (hm_up (hm_up BrA 0 t1.1) 1 t1.2.1) 2 t1.2.2.1), hm_wSh g (a 9) (hm_up (hm_up (hm_up (hm_up (hm_up (hm_up ShR 0 t1.2.2.2.2.2.2.2.2.2.2.2.2.1) 1 t1.2.2.2.2.2.2.2.2.2.2.2.2.2.1) 2 t1.2.2.2.2.2.2.2.2.2.2.2.2.2.2.1) 3 t1.2.2.2.2.2.2.2.2.2.2.2.2.2.2.2.1) 4 t1.2.2.2.2.2.2.2.2.2.2.2.2.2.2.2.2.1) 5 t1.2.2.2.2.2.2.2.2.2.2.2.2.2.2.2.2.2.1) (hm_up (hm_up ShZ 0 t1.2.2.2.2.2.2.2.2.2.2.2.2.2.2.2.2.2.2.1) 1 t1.2.2.2.2.2.2.2.2.2.2.2.2.2.2.2.2.2.2.2.1), hm_wSu g (a 10) SuA SuJ]) (n := 11) [9, 7] [0, 1, 2, 3, 4, 5, 6, 8, 10] rfl (by decide +kernel) rfl rfl) rfl rfl rfl ⟨rfl, rfl, Nat.le_of_ble_eq_true rfl, Nat.le_of_ble_eq_true rfl⟩ rfl hl.1 rfl (Nat.le_of_ble_eq_true rfl) dX7_page_100 ⟨Nat.zero_le _, Nat.zero_le _⟩ (fun H locs X => ?_)
                have X := X.to (ws' := ([[(a 0 0, .inr (7, [.ref (a 1 0), .ref (a 2 0), .ref (a 3 0), .ref (a 4 0), .ref (a 5 0), .ref (a 6 0), .ref (a 7 0), .ref (a 8 0), .ref (a 9 0), .ref (a 10 0), .int t1.2.2.2.2.2.2.2.2.2.2.2.2.2.2.2.2.2.2.2.2, .int (Z 1)]))], hm_row g (a 1 0) (a 1 1) 200 (R 0), hm_wSc g (a 2) ScR, hm_wSe g (a 3) SeR SeA, hm_row g (a 4 0) (a 4 1) 100 (R 1), hm_row g (a 5 0) (a 5 1) 6 (R 2), hm_row g (a 6 0) (a 6 1) 6 (R 3), hm_wLe g (a 7) (hm_up (hm_up (hm_up (hm_up (hm_up LeR 0 t1.2.2.2.1) 1 t1.2.2.2.2.1) 2 t1.2.2.2.2.2.1) 3 t1.2.2.2.2.2.2.1) 4 t1.2.2.2.2.2.2.2.1) (hm_up (hm_up (hm_up (hm_up LeZ 0 t1.2.2.2.2.2.2.2.2.1) 1 t1.2.2.2.2.2.2.2.2.2.1) 2 t1.2.2.2.2.2.2.2.2.2.2.1) 3 t1.2.2.2.2.2.2.2.2.2.2.2.1), hm_wBr g (a 8) (hm_up (hm_up (hm_up BrA 0 t1.1) 1 t1.2.1) 2 t1.2.2.1), hm_wSh g (a 9) (hm_up (hm_up (hm_up (hm_up (hm_up (hm_up ShR 0 t1.2.2.2.2.2.2.2.2.2.2.2.2.1) 1 t1.2.2.2.2.2.2.2.2.2.2.2.2.2.1) 2 t1.2.2.2.2.2.2.2.2.2.2.2.2.2.2.1) 3 t1.2.2.2.2.2.2.2.2.2.2.2.2.2.2.2.1) 4 t1.2.2.2.2.2.2.2.2.2.2.2.2.2.2.2.2.1) 5 t1.2.2.2.2.2.2.2.2.2.2.2.2.2.2.2.2.2.1) (hm_up (hm_up ShZ 0 t1.2.2.2.2.2.2.2.2.2.2.2.2.2.2.2.2.2.2.1) 1 t1.2.2.2.2.2.2.2.2.2.2.2.2.2.2.2.2.2.2.2.1), hm_wSu g (a 10) SuA SuJ] : List va_W).flatten) rfl
                obtain rfl := Option.some.inj hF
                exact hm_ri S hr hlk X rfl rfl dX7_page_103
              · have hF := hm_nf hF c29_3
                by_cases c29_4 : x0 = 4
                · have hF := hm_if hF c29_4
                  refine hm_tabIn (off := 75) (tgt := 104) (k := 4) hx hb dX7_page_29 c29_4 (by decide) (by decide) (by decide) rfl (by decide) ?_
                  refine lv_aload_n hx hb dX7_page_104 rfl (lv_at hl 0 rfl) ?_
                  refine hm_get S X hf_X7_58 0 rfl rfl dX7_page_105 ?_
                  obtain ⟨t7, ht7, hF⟩ := hm_bd hF
                  refine hm_vi (As := []) S X mw_X5_springs hw_3_149 (c_X5_springs l g (a 9) (hm_up (hm_up (hm_up (hm_up (hm_up (hm_up ShR 0 t1.2.2.2.2.2.2.2.2.2.2.2.2.1) 1 t1.2.2.2.2.2.2.2.2.2.2.2.2.2.1) 2 t1.2.2.2.2.2.2.2.2.2.2.2.2.2.2.1) 3 t1.2.2.2.2.2.2.2.2.2.2.2.2.2.2.2.1) 4 t1.2.2.2.2.2.2.2.2.2.2.2.2.2.2.2.2.1) 5 t1.2.2.2.2.2.2.2.2.2.2.2.2.2.2.2.2.2.1) (hm_up (hm_up ShZ 0 t1.2.2.2.2.2.2.2.2.2.2.2.2.2.2.2.2.2.2.1) 1 t1.2.2.2.2.2.2.2.2.2.2.2.2.2.2.2.2.2.2.2.1) t7 ht7) (hm_mid [[(a 0 0, .inr (7, [.ref (a 1 0), .ref (a 2 0), .ref (a 3 0), .ref (a 4 0), .ref (a 5 0), .ref (a 6 0), .ref (a 7 0), .ref (a 8 0), .ref (a 9 0), .ref (a 10 0), .int t1.2.2.2.2.2.2.2.2.2.2.2.2.2.2.2.2.2.2.2.2, .int (Z 1)]))], hm_row g (a 1 0) (a 1 1) 200 (R 0), hm_wSc g (a 2) ScR, hm_wSe g (a 3) SeR SeA, hm_row g (a 4 0) (a 4 1) 100 (R 1), hm_row g (a 5 0) (a 5 1) 6 (R 2), hm_row g (a 6 0) (a 6 1) 6 (R 3), hm_wLe g (a 7) (hm_up (hm_up (hm_up (hm_up (hm_up LeR 0 t1.2.2.2.1) 1 t1.2.2.2.2.1) 2 t1.2.2.2.2.2.1) 3 t1.2.2.2.2.2.2.1) 4 t1.2.2.2.2.2.2.2.1) (hm_up (hm_up (hm_up (hm_up LeZ 0 t1.2.2.2.2.2.2.2.2.1) 1 t1.2.2.2.2.2.2.2.2.2.1) 2 t1.2.2.2.2.2.2.2.2.2.2.1) 3 t1.2.2.2.2.2.2.2.2.2.2.2.1), hm_wBr g (a 8) (hm_up (hm_up (hm_up BrA 0 t1.1) 1 t1.2.1) 2 t1.2.2.1)] [hm_wSu g (a 10) SuA SuJ]) (hm_mid [[(a 0 0, .inr (7, [.ref (a 1 0), .ref (a 2 0), .ref (a 3 0), .ref (a 4 0), .ref (a 5 0), .ref (a 6 0), .ref (a 7 0), .ref (a 8 0), .ref (a 9 0), .ref (a 10 0), .int t1.2.2.2.2.2.2.2.2.2.2.2.2.2.2.2.2.2.2.2.2, .int (Z 1)]))], hm_row g (a 1 0) (a 1 1) 200 (R 0), hm_wSc g (a 2) ScR, hm_wSe g (a 3) SeR SeA, hm_row g (a 4 0) (a 4 1) 100 (R 1), hm_row g (a 5 0) (a 5 1) 6 (R 2), hm_row g (a 6 0) (a 6 1) 6 (R 3), hm_wLe g (a 7) (hm_up (hm_up (hm_up (hm_up (hm_up LeR 0 t1.2.2.2.1) 1 t1.2.2.2.2.1) 2 t1.2.2.2.2.2.1) 3 t1.2.2.2.2.2.2.1) 4 t1.2.2.2.2.2.2.2.1) (hm_up (hm_up (hm_up (hm_up LeZ 0 t1.2.2.2.2.2.2.2.2.1) 1 t1.2.2.2.2.2.2.2.2.2.1) 2 t1.2.2.2.2.2.2.2.2.2.2.1) 3 t1.2.2.2.2.2.2.2.2.2.2.2.1), hm_wBr g (a 8) (hm_up (hm_up (hm_up BrA 0 t1.1) 1 t1.2.1) 2 t1.2.2.1)] [hm_wSu g (a 10) SuA SuJ] (b := hm_wSh g (a 9) (hm_up (hm_up (hm_up (hm_up (hm_up (hm_up ShR 0 t1.2.2.2.2.2.2.2.2.2.2.2.2.1) 1 t1.2.2.2.2.2.2.2.2.2.2.2.2.2.1) 2 t1.2.2.2.2.2.2.2.2.2.2.2.2.2.2.1) 3 t1.2.2.2.2.2.2.2.2.2.2.2.2.2.2.2.1) 4 t1.2.2.2.2.2.2.2.2.2.2.2.2.2.2.2.2.1) 5 t1.2.2.2.2.2.2.2.2.2.2.2.2.2.2.2.2.2.1) (hm_up (hm_up ShZ 0 t1.2.2.2.2.2.2.2.2.2.2.2.2.2.2.2.2.2.2.1) 1 t1.2.2.2.2.2.2.2.2.2.2.2.2.2.2.2.2.2.2.2.1))) rfl rfl rfl ⟨rfl, rfl, Nat.le_of_ble_eq_true rfl, Nat.le_of_ble_eq_true rfl⟩ rfl hl.1 rfl (Nat.le_of_ble_eq_true rfl) dX7_page_108 ⟨Nat.zero_le _, Nat.zero_le _⟩ (fun H locs X => ?_)
                  have X := X.to (ws' := ([[(a 0 0, .inr (7, [.ref (a 1 0), .ref (a 2 0), .ref (a 3 0), .ref (a 4 0), .ref (a 5 0), .ref (a 6 0), .ref (a 7 0), .ref (a 8 0), .ref (a 9 0), .ref (a 10 0), .int t1.2.2.2.2.2.2.2.2.2.2.2.2.2.2.2.2.2.2.2.2, .int (Z 1)]))], hm_row g (a 1 0) (a 1 1) 200 (R 0), hm_wSc g (a 2) ScR, hm_wSe g (a 3) SeR SeA, hm_row g (a 4 0) (a 4 1) 100 (R 1), hm_row g (a 5 0) (a 5 1) 6 (R 2), hm_row g (a 6 0) (a 6 1) 6 (R 3), hm_wLe g (a 7) (hm_up (hm_up (hm_up (hm_up (hm_up LeR 0 t1.2.2.2.1) 1 t1.2.2.2.2.1) 2 t1.2.2.2.2.2.1) 3 t1.2.2.2.2.2.2.1) 4 t1.2.2.2.2.2.2.2.1) (hm_up (hm_up (hm_up (hm_up LeZ 0 t1.2.2.2.2.2.2.2.2.1) 1 t1.2.2.2.2.2.2.2.2.2.1) 2 t1.2.2.2.2.2.2.2.2.2.2.1) 3 t1.2.2.2.2.2.2.2.2.2.2.2.1), hm_wBr g (a 8) (hm_up (hm_up (hm_up BrA 0 t1.1) 1 t1.2.1) 2 t1.2.2.1), hm_wSh g (a 9) (hm_up (hm_up (hm_up (hm_up (hm_up (hm_up ShR 0 t1.2.2.2.2.2.2.2.2.2.2.2.2.1) 1 t1.2.2.2.2.2.2.2.2.2.2.2.2.2.1) 2 t1.2.2.2.2.2.2.2.2.2.2.2.2.2.2.1) 3 t1.2.2.2.2.2.2.2.2.2.2.2.2.2.2.2.1) 4 t1.2.2.2.2.2.2.2.2.2.2.2.2.2.2.2.2.1) 5 t1.2.2.2.2.2.2.2.2.2.2.2.2.2.2.2.2.2.1) (hm_up (hm_up ShZ 0 t1.2.2.2.2.2.2.2.2.2.2.2.2.2.2.2.2.2.2.1) 1 t1.2.2.2.2.2.2.2.2.2.2.2.2.2.2.2.2.2.2.2.1), hm_wSu g (a 10) SuA SuJ] : List va_W).flatten) rfl
                  obtain rfl := Option.some.inj hF
                  exact hm_ri S hr hlk X rfl rfl dX7_page_111
                · have hF := hm_nf hF c29_4
                  refine lv_tableOut (tgt := 112) hx hb dX7_page_29 (hm_out 0 4 [0, 1, 2, 3, 4] (by decide) (List.forall_mem_cons.mpr ⟨c29_0, List.forall_mem_cons.mpr ⟨c29_1, List.forall_mem_cons.mpr ⟨c29_2, List.forall_mem_cons.mpr ⟨c29_3, List.forall_mem_cons.mpr ⟨c29_4, fun _ h => absurd h List.not_mem_nil⟩⟩⟩⟩⟩)) (by decide) ?_
                  refine lv_aload_n hx hb dX7_page_112 rfl (lv_at hl 0 rfl) ?_
                  refine hm_get S X hf_X7_58 0 rfl rfl dX7_page_113 ?_
                  obtain ⟨t8, ht8, hF⟩ := hm_bd hF
                  refine hm_vi (As := []) S X mw_X5_longest hw_3_153 (c_X5_longest l g (a 9) (hm_up (hm_up (hm_up (hm_up (hm_up (hm_up ShR 0 t1.2.2.2.2.2.2.2.2.2.2.2.2.1) 1 t1.2.2.2.2.2.2.2.2.2.2.2.2.2.1) 2 t1.2.2.2.2.2.2.2.2.2.2.2.2.2.2.1) 3 t1.2.2.2.2.2.2.2.2.2.2.2.2.2.2.2.1) 4 t1.2.2.2.2.2.2.2.2.2.2.2.2.2.2.2.2.1) 5 t1.2.2.2.2.2.2.2.2.2.2.2.2.2.2.2.2.2.1) (hm_up (hm_up ShZ 0 t1.2.2.2.2.2.2.2.2.2.2.2.2.2.2.2.2.2.2.1) 1 t1.2.2.2.2.2.2.2.2.2.2.2.2.2.2.2.2.2.2.2.1) t8 ht8) (hm_mid [[(a 0 0, .inr (7, [.ref (a 1 0), .ref (a 2 0), .ref (a 3 0), .ref (a 4 0), .ref (a 5 0), .ref (a 6 0), .ref (a 7 0), .ref (a 8 0), .ref (a 9 0), .ref (a 10 0), .int t1.2.2.2.2.2.2.2.2.2.2.2.2.2.2.2.2.2.2.2.2, .int (Z 1)]))], hm_row g (a 1 0) (a 1 1) 200 (R 0), hm_wSc g (a 2) ScR, hm_wSe g (a 3) SeR SeA, hm_row g (a 4 0) (a 4 1) 100 (R 1), hm_row g (a 5 0) (a 5 1) 6 (R 2), hm_row g (a 6 0) (a 6 1) 6 (R 3), hm_wLe g (a 7) (hm_up (hm_up (hm_up (hm_up (hm_up LeR 0 t1.2.2.2.1) 1 t1.2.2.2.2.1) 2 t1.2.2.2.2.2.1) 3 t1.2.2.2.2.2.2.1) 4 t1.2.2.2.2.2.2.2.1) (hm_up (hm_up (hm_up (hm_up LeZ 0 t1.2.2.2.2.2.2.2.2.1) 1 t1.2.2.2.2.2.2.2.2.2.1) 2 t1.2.2.2.2.2.2.2.2.2.2.1) 3 t1.2.2.2.2.2.2.2.2.2.2.2.1), hm_wBr g (a 8) (hm_up (hm_up (hm_up BrA 0 t1.1) 1 t1.2.1) 2 t1.2.2.1)] [hm_wSu g (a 10) SuA SuJ]) (hm_mid [[(a 0 0, .inr (7, [.ref (a 1 0), .ref (a 2 0), .ref (a 3 0), .ref (a 4 0), .ref (a 5 0), .ref (a 6 0), .ref (a 7 0), .ref (a 8 0), .ref (a 9 0), .ref (a 10 0), .int t1.2.2.2.2.2.2.2.2.2.2.2.2.2.2.2.2.2.2.2.2, .int (Z 1)]))], hm_row g (a 1 0) (a 1 1) 200 (R 0), hm_wSc g (a 2) ScR, hm_wSe g (a 3) SeR SeA, hm_row g (a 4 0) (a 4 1) 100 (R 1), hm_row g (a 5 0) (a 5 1) 6 (R 2), hm_row g (a 6 0) (a 6 1) 6 (R 3), hm_wLe g (a 7) (hm_up (hm_up (hm_up (hm_up (hm_up LeR 0 t1.2.2.2.1) 1 t1.2.2.2.2.1) 2 t1.2.2.2.2.2.1) 3 t1.2.2.2.2.2.2.1) 4 t1.2.2.2.2.2.2.2.1) (hm_up (hm_up (hm_up (hm_up LeZ 0 t1.2.2.2.2.2.2.2.2.1) 1 t1.2.2.2.2.2.2.2.2.2.1) 2 t1.2.2.2.2.2.2.2.2.2.2.1) 3 t1.2.2.2.2.2.2.2.2.2.2.2.1), hm_wBr g (a 8) (hm_up (hm_up (hm_up BrA 0 t1.1) 1 t1.2.1) 2 t1.2.2.1)] [hm_wSu g (a 10) SuA SuJ] (b := hm_wSh g (a 9) (hm_up (hm_up (hm_up (hm_up (hm_up (hm_up ShR 0 t1.2.2.2.2.2.2.2.2.2.2.2.2.1) 1 t1.2.2.2.2.2.2.2.2.2.2.2.2.2.1) 2 t1.2.2.2.2.2.2.2.2.2.2.2.2.2.2.1) 3 t1.2.2.2.2.2.2.2.2.2.2.2.2.2.2.2.1) 4 t1.2.2.2.2.2.2.2.2.2.2.2.2.2.2.2.2.1) 5 t1.2.2.2.2.2.2.2.2.2.2.2.2.2.2.2.2.2.1) (hm_up (hm_up ShZ 0 t1.2.2.2.2.2.2.2.2.2.2.2.2.2.2.2.2.2.2.1) 1 t1.2.2.2.2.2.2.2.2.2.2.2.2.2.2.2.2.2.2.2.1))) rfl rfl rfl ⟨rfl, rfl, Nat.le_of_ble_eq_true rfl, Nat.le_of_ble_eq_true rfl⟩ rfl hl.1 rfl (Nat.le_of_ble_eq_true rfl) dX7_page_116 ⟨Nat.zero_le _, Nat.zero_le _⟩ (fun H locs X => ?_)
                  have X := X.to (ws' := ([[(a 0 0, .inr (7, [.ref (a 1 0), .ref (a 2 0), .ref (a 3 0), .ref (a 4 0), .ref (a 5 0), .ref (a 6 0), .ref (a 7 0), .ref (a 8 0), .ref (a 9 0), .ref (a 10 0), .int t1.2.2.2.2.2.2.2.2.2.2.2.2.2.2.2.2.2.2.2.2, .int (Z 1)]))], hm_row g (a 1 0) (a 1 1) 200 (R 0), hm_wSc g (a 2) ScR, hm_wSe g (a 3) SeR SeA, hm_row g (a 4 0) (a 4 1) 100 (R 1), hm_row g (a 5 0) (a 5 1) 6 (R 2), hm_row g (a 6 0) (a 6 1) 6 (R 3), hm_wLe g (a 7) (hm_up (hm_up (hm_up (hm_up (hm_up LeR 0 t1.2.2.2.1) 1 t1.2.2.2.2.1) 2 t1.2.2.2.2.2.1) 3 t1.2.2.2.2.2.2.1) 4 t1.2.2.2.2.2.2.2.1) (hm_up (hm_up (hm_up (hm_up LeZ 0 t1.2.2.2.2.2.2.2.2.1) 1 t1.2.2.2.2.2.2.2.2.2.1) 2 t1.2.2.2.2.2.2.2.2.2.2.1) 3 t1.2.2.2.2.2.2.2.2.2.2.2.1), hm_wBr g (a 8) (hm_up (hm_up (hm_up BrA 0 t1.1) 1 t1.2.1) 2 t1.2.2.1), hm_wSh g (a 9) (hm_up (hm_up (hm_up (hm_up (hm_up (hm_up ShR 0 t1.2.2.2.2.2.2.2.2.2.2.2.2.1) 1 t1.2.2.2.2.2.2.2.2.2.2.2.2.2.1) 2 t1.2.2.2.2.2.2.2.2.2.2.2.2.2.2.1) 3 t1.2.2.2.2.2.2.2.2.2.2.2.2.2.2.2.1) 4 t1.2.2.2.2.2.2.2.2.2.2.2.2.2.2.2.2.1) 5 t1.2.2.2.2.2.2.2.2.2.2.2.2.2.2.2.2.2.1) (hm_up (hm_up ShZ 0 t1.2.2.2.2.2.2.2.2.2.2.2.2.2.2.2.2.2.2.1) 1 t1.2.2.2.2.2.2.2.2.2.2.2.2.2.2.2.2.2.2.2.1), hm_wSu g (a 10) SuA SuJ] : List va_W).flatten) rfl
                  obtain rfl := Option.some.inj hF
                  exact hm_ri S hr hlk X rfl rfl dX7_page_119
      · have hF := hm_if hF c22
        refine lv_bipush (v := (-9)) hx hb dX7_page_25 (by decide) ?_
        obtain rfl := Option.some.inj hF
        exact hm_ri S hr hlk X rfl rfl dX7_page_27
    · have hF := hm_nf hF c6
      refine lv_iconst (v := (-1)) hx hb dX7_page_9 (by decide) ?_
      obtain rfl := Option.some.inj hF
      exact hm_ri S hr hlk X rfl rfl dX7_page_10
def f_X7_line (Z_0 : Int32) (ScR_0 : hm_SR) (ScR_1 : hm_SR) (SeA_0 : Nat → Int32) (LeR_0 : hm_SR) (LeR_1 : hm_SR) (LeR_2 : hm_SR) (LeR_3 : hm_SR) (LeR_4 : hm_SR) (LeZ_0 : Int32) (LeZ_1 : Int32) (LeZ_2 : Int32) (LeZ_3 : Int32) (BrA_0 : Nat → Int32) (BrA_1 : Nat → Int32) (BrA_2 : Nat → Int32) (ShR_0 : hm_SR) (ShR_1 : hm_SR) (ShR_2 : hm_SR) (ShR_3 : hm_SR) (ShR_4 : hm_SR) (ShR_5 : hm_SR) (ShZ_0 : Int32) (ShZ_1 : Int32) (x0 : Int32) (x1 : Int32)  : Option (Int32 × (Nat → Int32) × (Nat → Int32) × (Nat → Int32) × hm_SR × hm_SR × hm_SR × hm_SR × hm_SR × Int32 × Int32 × Int32 × Int32 × hm_SR × hm_SR × hm_SR × hm_SR × hm_SR × hm_SR × Int32 × Int32 × Int32) :=
  if x0 < 0 then (
  some ((-1), BrA_0, BrA_1, BrA_2, LeR_0, LeR_1, LeR_2, LeR_3, LeR_4, LeZ_0, LeZ_1, LeZ_2, LeZ_3, ShR_0, ShR_1, ShR_2, ShR_3, ShR_4, ShR_5, ShZ_0, ShZ_1, Z_0))
  else (
  if x1 < 0 then (
  some ((-1), BrA_0, BrA_1, BrA_2, LeR_0, LeR_1, LeR_2, LeR_3, LeR_4, LeZ_0, LeZ_1, LeZ_2, LeZ_3, ShR_0, ShR_1, ShR_2, ShR_3, ShR_4, ShR_5, ShZ_0, ShZ_1, Z_0))
  else (
  if x1 ≤ 6 then (
  (f_X7_freshen Z_0 ScR_0 ScR_1 SeA_0 LeR_0 LeR_1 LeR_2 LeR_3 LeR_4 LeZ_0 LeZ_1 LeZ_2 LeZ_3 BrA_0 BrA_1 BrA_2 ShR_0 ShR_1 ShR_2 ShR_3 ShR_4 ShR_5 ShZ_0 ShZ_1).bind fun t1 =>
  (f_X5_isThere t1.2.2.2.2.2.2.2.2.2.2.2.2.2.2.2.2.2.2.1).bind fun t2 =>
  if t2 = 0 then (
  some ((-9), t1.1, t1.2.1, t1.2.2.1, t1.2.2.2.1, t1.2.2.2.2.1, t1.2.2.2.2.2.1, t1.2.2.2.2.2.2.1, t1.2.2.2.2.2.2.2.1, t1.2.2.2.2.2.2.2.2.1, t1.2.2.2.2.2.2.2.2.2.1, t1.2.2.2.2.2.2.2.2.2.2.1, t1.2.2.2.2.2.2.2.2.2.2.2.1, t1.2.2.2.2.2.2.2.2.2.2.2.2.1, t1.2.2.2.2.2.2.2.2.2.2.2.2.2.1, t1.2.2.2.2.2.2.2.2.2.2.2.2.2.2.1, t1.2.2.2.2.2.2.2.2.2.2.2.2.2.2.2.1, t1.2.2.2.2.2.2.2.2.2.2.2.2.2.2.2.2.1, t1.2.2.2.2.2.2.2.2.2.2.2.2.2.2.2.2.2.1, t1.2.2.2.2.2.2.2.2.2.2.2.2.2.2.2.2.2.2.1, t1.2.2.2.2.2.2.2.2.2.2.2.2.2.2.2.2.2.2.2.1, t1.2.2.2.2.2.2.2.2.2.2.2.2.2.2.2.2.2.2.2.2))
  else (
  (f_X5_lineCount t1.2.2.2.2.2.2.2.2.2.2.2.2.1).bind fun t3 =>
  if x0 < t3 then (
  (f_X5_startOf t1.2.2.2.2.2.2.2.2.2.2.2.2.1 x0).bind fun t4 =>
  (f_X5_endOf t1.2.2.2.2.2.2.2.2.2.2.2.2.1 x0).bind fun t5 =>
  if x1 = 0 then (
  some (t5, t1.1, t1.2.1, t1.2.2.1, t1.2.2.2.1, t1.2.2.2.2.1, t1.2.2.2.2.2.1, t1.2.2.2.2.2.2.1, t1.2.2.2.2.2.2.2.1, t1.2.2.2.2.2.2.2.2.1, t1.2.2.2.2.2.2.2.2.2.1, t1.2.2.2.2.2.2.2.2.2.2.1, t1.2.2.2.2.2.2.2.2.2.2.2.1, t1.2.2.2.2.2.2.2.2.2.2.2.2.1, t1.2.2.2.2.2.2.2.2.2.2.2.2.2.1, t1.2.2.2.2.2.2.2.2.2.2.2.2.2.2.1, t1.2.2.2.2.2.2.2.2.2.2.2.2.2.2.2.1, t1.2.2.2.2.2.2.2.2.2.2.2.2.2.2.2.2.1, t1.2.2.2.2.2.2.2.2.2.2.2.2.2.2.2.2.2.1, t1.2.2.2.2.2.2.2.2.2.2.2.2.2.2.2.2.2.2.1, t1.2.2.2.2.2.2.2.2.2.2.2.2.2.2.2.2.2.2.2.1, t1.2.2.2.2.2.2.2.2.2.2.2.2.2.2.2.2.2.2.2.2))
  else (
  if x1 = 1 then (
  (f_X1_natural t1.2.2.2.1 t1.2.2.2.2.2.2.2.1 t4 t5).bind fun t6 =>
  some (t6, t1.1, t1.2.1, t1.2.2.1, t1.2.2.2.1, t1.2.2.2.2.1, t1.2.2.2.2.2.1, t1.2.2.2.2.2.2.1, t1.2.2.2.2.2.2.2.1, t1.2.2.2.2.2.2.2.2.1, t1.2.2.2.2.2.2.2.2.2.1, t1.2.2.2.2.2.2.2.2.2.2.1, t1.2.2.2.2.2.2.2.2.2.2.2.1, t1.2.2.2.2.2.2.2.2.2.2.2.2.1, t1.2.2.2.2.2.2.2.2.2.2.2.2.2.1, t1.2.2.2.2.2.2.2.2.2.2.2.2.2.2.1, t1.2.2.2.2.2.2.2.2.2.2.2.2.2.2.2.1, t1.2.2.2.2.2.2.2.2.2.2.2.2.2.2.2.2.1, t1.2.2.2.2.2.2.2.2.2.2.2.2.2.2.2.2.2.1, t1.2.2.2.2.2.2.2.2.2.2.2.2.2.2.2.2.2.2.1, t1.2.2.2.2.2.2.2.2.2.2.2.2.2.2.2.2.2.2.2.1, t1.2.2.2.2.2.2.2.2.2.2.2.2.2.2.2.2.2.2.2.2))
  else (
  if x1 = 2 then (
  (f_X1_hungAt t1.2.2.2.2.1 t5).bind fun t7 =>
  some (t7, t1.1, t1.2.1, t1.2.2.1, t1.2.2.2.1, t1.2.2.2.2.1, t1.2.2.2.2.2.1, t1.2.2.2.2.2.2.1, t1.2.2.2.2.2.2.2.1, t1.2.2.2.2.2.2.2.2.1, t1.2.2.2.2.2.2.2.2.2.1, t1.2.2.2.2.2.2.2.2.2.2.1, t1.2.2.2.2.2.2.2.2.2.2.2.1, t1.2.2.2.2.2.2.2.2.2.2.2.2.1, t1.2.2.2.2.2.2.2.2.2.2.2.2.2.1, t1.2.2.2.2.2.2.2.2.2.2.2.2.2.2.1, t1.2.2.2.2.2.2.2.2.2.2.2.2.2.2.2.1, t1.2.2.2.2.2.2.2.2.2.2.2.2.2.2.2.2.1, t1.2.2.2.2.2.2.2.2.2.2.2.2.2.2.2.2.2.1, t1.2.2.2.2.2.2.2.2.2.2.2.2.2.2.2.2.2.2.1, t1.2.2.2.2.2.2.2.2.2.2.2.2.2.2.2.2.2.2.2.1, t1.2.2.2.2.2.2.2.2.2.2.2.2.2.2.2.2.2.2.2.2))
  else (
  if x1 = 3 then (
  (f_X1_left t1.2.2.2.1 t1.2.2.2.2.1 t1.2.2.2.2.2.2.2.1 t1.2.2.2.2.2.2.2.2.2.1 t4 t5).bind fun t8 =>
  some (t8, t1.1, t1.2.1, t1.2.2.1, t1.2.2.2.1, t1.2.2.2.2.1, t1.2.2.2.2.2.1, t1.2.2.2.2.2.2.1, t1.2.2.2.2.2.2.2.1, t1.2.2.2.2.2.2.2.2.1, t1.2.2.2.2.2.2.2.2.2.1, t1.2.2.2.2.2.2.2.2.2.2.1, t1.2.2.2.2.2.2.2.2.2.2.2.1, t1.2.2.2.2.2.2.2.2.2.2.2.2.1, t1.2.2.2.2.2.2.2.2.2.2.2.2.2.1, t1.2.2.2.2.2.2.2.2.2.2.2.2.2.2.1, t1.2.2.2.2.2.2.2.2.2.2.2.2.2.2.2.1, t1.2.2.2.2.2.2.2.2.2.2.2.2.2.2.2.2.1, t1.2.2.2.2.2.2.2.2.2.2.2.2.2.2.2.2.2.1, t1.2.2.2.2.2.2.2.2.2.2.2.2.2.2.2.2.2.2.1, t1.2.2.2.2.2.2.2.2.2.2.2.2.2.2.2.2.2.2.2.1, t1.2.2.2.2.2.2.2.2.2.2.2.2.2.2.2.2.2.2.2.2))
  else (
  if x1 = 4 then (
  (f_X1_cost t1.2.2.2.1 t1.2.2.2.2.1 t1.2.2.2.2.2.1 t1.2.2.2.2.2.2.2.1 t1.2.2.2.2.2.2.2.2.2.1 t1.2.2.2.2.2.2.2.2.2.2.1 t1.2.2.2.2.2.2.2.2.2.2.2.1 t4 t5).bind fun t9 =>
  some (t9, t1.1, t1.2.1, t1.2.2.1, t1.2.2.2.1, t1.2.2.2.2.1, t1.2.2.2.2.2.1, t1.2.2.2.2.2.2.1, t1.2.2.2.2.2.2.2.1, t1.2.2.2.2.2.2.2.2.1, t1.2.2.2.2.2.2.2.2.2.1, t1.2.2.2.2.2.2.2.2.2.2.1, t1.2.2.2.2.2.2.2.2.2.2.2.1, t1.2.2.2.2.2.2.2.2.2.2.2.2.1, t1.2.2.2.2.2.2.2.2.2.2.2.2.2.1, t1.2.2.2.2.2.2.2.2.2.2.2.2.2.2.1, t1.2.2.2.2.2.2.2.2.2.2.2.2.2.2.2.1, t1.2.2.2.2.2.2.2.2.2.2.2.2.2.2.2.2.1, t1.2.2.2.2.2.2.2.2.2.2.2.2.2.2.2.2.2.1, t1.2.2.2.2.2.2.2.2.2.2.2.2.2.2.2.2.2.2.1, t1.2.2.2.2.2.2.2.2.2.2.2.2.2.2.2.2.2.2.2.1, t1.2.2.2.2.2.2.2.2.2.2.2.2.2.2.2.2.2.2.2.2))
  else (
  if x1 = 5 then (
  (f_X1_blanks t1.2.2.2.2.2.2.1 t4 t5).bind fun t10 =>
  some (t10, t1.1, t1.2.1, t1.2.2.1, t1.2.2.2.1, t1.2.2.2.2.1, t1.2.2.2.2.2.1, t1.2.2.2.2.2.2.1, t1.2.2.2.2.2.2.2.1, t1.2.2.2.2.2.2.2.2.1, t1.2.2.2.2.2.2.2.2.2.1, t1.2.2.2.2.2.2.2.2.2.2.1, t1.2.2.2.2.2.2.2.2.2.2.2.1, t1.2.2.2.2.2.2.2.2.2.2.2.2.1, t1.2.2.2.2.2.2.2.2.2.2.2.2.2.1, t1.2.2.2.2.2.2.2.2.2.2.2.2.2.2.1, t1.2.2.2.2.2.2.2.2.2.2.2.2.2.2.2.1, t1.2.2.2.2.2.2.2.2.2.2.2.2.2.2.2.2.1, t1.2.2.2.2.2.2.2.2.2.2.2.2.2.2.2.2.2.1, t1.2.2.2.2.2.2.2.2.2.2.2.2.2.2.2.2.2.2.1, t1.2.2.2.2.2.2.2.2.2.2.2.2.2.2.2.2.2.2.2.1, t1.2.2.2.2.2.2.2.2.2.2.2.2.2.2.2.2.2.2.2.2))
  else (
  (f_X1_natural t1.2.2.2.1 t1.2.2.2.2.2.2.2.1 t4 t5).bind fun t11 =>
  (f_X1_spread t1.2.2.2.1 t1.2.2.2.2.1 t1.2.2.2.2.2.2.1 t1.2.2.2.2.2.2.2.1 t1.2.2.2.2.2.2.2.2.2.1 t4 t5).bind fun t12 =>
  some ((t11 + t12), t1.1, t1.2.1, t1.2.2.1, t1.2.2.2.1, t1.2.2.2.2.1, t1.2.2.2.2.2.1, t1.2.2.2.2.2.2.1, t1.2.2.2.2.2.2.2.1, t1.2.2.2.2.2.2.2.2.1, t1.2.2.2.2.2.2.2.2.2.1, t1.2.2.2.2.2.2.2.2.2.2.1, t1.2.2.2.2.2.2.2.2.2.2.2.1, t1.2.2.2.2.2.2.2.2.2.2.2.2.1, t1.2.2.2.2.2.2.2.2.2.2.2.2.2.1, t1.2.2.2.2.2.2.2.2.2.2.2.2.2.2.1, t1.2.2.2.2.2.2.2.2.2.2.2.2.2.2.2.1, t1.2.2.2.2.2.2.2.2.2.2.2.2.2.2.2.2.1, t1.2.2.2.2.2.2.2.2.2.2.2.2.2.2.2.2.2.1, t1.2.2.2.2.2.2.2.2.2.2.2.2.2.2.2.2.2.2.1, t1.2.2.2.2.2.2.2.2.2.2.2.2.2.2.2.2.2.2.2.1, t1.2.2.2.2.2.2.2.2.2.2.2.2.2.2.2.2.2.2.2.2))))))))
  else (
  some ((-1), t1.1, t1.2.1, t1.2.2.1, t1.2.2.2.1, t1.2.2.2.2.1, t1.2.2.2.2.2.1, t1.2.2.2.2.2.2.1, t1.2.2.2.2.2.2.2.1, t1.2.2.2.2.2.2.2.2.1, t1.2.2.2.2.2.2.2.2.2.1, t1.2.2.2.2.2.2.2.2.2.2.1, t1.2.2.2.2.2.2.2.2.2.2.2.1, t1.2.2.2.2.2.2.2.2.2.2.2.2.1, t1.2.2.2.2.2.2.2.2.2.2.2.2.2.1, t1.2.2.2.2.2.2.2.2.2.2.2.2.2.2.1, t1.2.2.2.2.2.2.2.2.2.2.2.2.2.2.2.1, t1.2.2.2.2.2.2.2.2.2.2.2.2.2.2.2.2.1, t1.2.2.2.2.2.2.2.2.2.2.2.2.2.2.2.2.2.1, t1.2.2.2.2.2.2.2.2.2.2.2.2.2.2.2.2.2.2.1, t1.2.2.2.2.2.2.2.2.2.2.2.2.2.2.2.2.2.2.2.1, t1.2.2.2.2.2.2.2.2.2.2.2.2.2.2.2.2.2.2.2.2))))
  else (
  some ((-1), BrA_0, BrA_1, BrA_2, LeR_0, LeR_1, LeR_2, LeR_3, LeR_4, LeZ_0, LeZ_1, LeZ_2, LeZ_3, ShR_0, ShR_1, ShR_2, ShR_3, ShR_4, ShR_5, ShZ_0, ShZ_1, Z_0))))
abbrev rm_X7_line : Room := { frames := 6, cells := 0, slots := 0, locals := 140 }
set_option maxHeartbeats 4000000 in
set_option maxRecDepth 100000 in
theorem c_X7_line (l : Launch) (g : hm_G) (a : Nat → Nat → Nat) (R : Nat → hm_SR) (Z : Nat → Int32) (ScR : Nat → hm_SR) (SeR : Nat → hm_SR) (SeA : Nat → Nat → Int32) (LeR : Nat → hm_SR) (LeZ : Nat → Int32) (BrA : Nat → Nat → Int32) (ShR : Nat → hm_SR) (ShZ : Nat → Int32) (SuA : Nat → Nat → Int32) (SuJ : Nat → Nat → Int64) (x0 : Int32) (x1 : Int32) (q : Int32 × (Nat → Int32) × (Nat → Int32) × (Nat → Int32) × hm_SR × hm_SR × hm_SR × hm_SR × hm_SR × Int32 × Int32 × Int32 × Int32 × hm_SR × hm_SR × hm_SR × hm_SR × hm_SR × hm_SR × Int32 × Int32 × Int32) (hF : f_X7_line (Z 0) (ScR 0) (ScR 1) (SeA 0) (LeR 0) (LeR 1) (LeR 2) (LeR 3) (LeR 4) (LeZ 0) (LeZ 1) (LeZ 2) (LeZ 3) (BrA 0) (BrA 1) (BrA 2) (ShR 0) (ShR 1) (ShR 2) (ShR 3) (ShR 4) (ShR 5) (ShZ 0) (ShZ 1) x0 x1 = some q) : hm_Mi l yX7_line (Cond.code yX7_line cX7_line 5 (some .int) :: hm_W) rm_X7_line g [.ref (a 0 0), .int x0, .int x1] ([hm_wHM g a R Z ScR SeR SeA LeR LeZ BrA ShR ShZ SuA SuJ] : List va_W).flatten ([hm_wHM g a R (hm_up Z 0 q.2.2.2.2.2.2.2.2.2.2.2.2.2.2.2.2.2.2.2.2.2) ScR SeR SeA (hm_up (hm_up (hm_up (hm_up (hm_up LeR 0 q.2.2.2.2.1) 1 q.2.2.2.2.2.1) 2 q.2.2.2.2.2.2.1) 3 q.2.2.2.2.2.2.2.1) 4 q.2.2.2.2.2.2.2.2.1) (hm_up (hm_up (hm_up (hm_up LeZ 0 q.2.2.2.2.2.2.2.2.2.1) 1 q.2.2.2.2.2.2.2.2.2.2.1) 2 q.2.2.2.2.2.2.2.2.2.2.2.1) 3 q.2.2.2.2.2.2.2.2.2.2.2.2.1) (hm_up (hm_up (hm_up BrA 0 q.2.1) 1 q.2.2.1) 2 q.2.2.2.1) (hm_up (hm_up (hm_up (hm_up (hm_up (hm_up ShR 0 q.2.2.2.2.2.2.2.2.2.2.2.2.2.1) 1 q.2.2.2.2.2.2.2.2.2.2.2.2.2.2.1) 2 q.2.2.2.2.2.2.2.2.2.2.2.2.2.2.2.1) 3 q.2.2.2.2.2.2.2.2.2.2.2.2.2.2.2.2.1) 4 q.2.2.2.2.2.2.2.2.2.2.2.2.2.2.2.2.2.1) 5 q.2.2.2.2.2.2.2.2.2.2.2.2.2.2.2.2.2.2.1) (hm_up (hm_up ShZ 0 q.2.2.2.2.2.2.2.2.2.2.2.2.2.2.2.2.2.2.2.1) 1 q.2.2.2.2.2.2.2.2.2.2.2.2.2.2.2.2.2.2.2.2.1) SuA SuJ] : List va_W).flatten q.1 := by
  refine hm_ofi [(0, .ref (a 0 0)), (1, .int x0), (2, .int x1)] (by decide) (own := RX7) rfl (Nat.le_of_ble_eq_true rfl) rfl rfl ?_
  intro p e s m args below meth c AA S hr hlk X ls hl
  have hx := S.1
  have hb := S.2.1
  have hown := S.2.2.2.1
  have hts := S.2.2.2.2
  have X := X.to (ws' := ([[(a 0 0, .inr (7, [.ref (a 1 0), .ref (a 2 0), .ref (a 3 0), .ref (a 4 0), .ref (a 5 0), .ref (a 6 0), .ref (a 7 0), .ref (a 8 0), .ref (a 9 0), .ref (a 10 0), .int (Z 0), .int (Z 1)]))], hm_row g (a 1 0) (a 1 1) 200 (R 0), hm_wSc g (a 2) ScR, hm_wSe g (a 3) SeR SeA, hm_row g (a 4 0) (a 4 1) 100 (R 1), hm_row g (a 5 0) (a 5 1) 6 (R 2), hm_row g (a 6 0) (a 6 1) 6 (R 3), hm_wLe g (a 7) LeR LeZ, hm_wBr g (a 8) BrA, hm_wSh g (a 9) ShR ShZ, hm_wSu g (a 10) SuA SuJ] : List va_W).flatten) rfl
  unfold f_X7_line at hF
  refine lv_iload_n hx hb dX7_line_0 rfl (lv_at hl 1 rfl) ?_
  refine lv_if_lt (tgt := 14) hx hb dX7_line_1 (by decide) (fun c1 => ?_) (fun c1 => ?_)
  · have hF := hm_if hF c1
    refine lv_iconst (v := (-1)) hx hb dX7_line_14 (by decide) ?_
    obtain rfl := Option.some.inj hF
    exact hm_ri S hr hlk X rfl rfl dX7_line_15
  · have hF := hm_nf hF c1
    refine lv_iload_n hx hb dX7_line_4 rfl (lv_at hl 2 rfl) ?_
    refine lv_if_lt (tgt := 14) hx hb dX7_line_5 (by decide) (fun c5 => ?_) (fun c5 => ?_)
    · have hF := hm_if hF c5
      refine lv_iconst (v := (-1)) hx hb dX7_line_14 (by decide) ?_
      obtain rfl := Option.some.inj hF
      exact hm_ri S hr hlk X rfl rfl dX7_line_15
    · have hF := hm_nf hF c5
      refine lv_iload_n hx hb dX7_line_8 rfl (lv_at hl 2 rfl) ?_
      refine lv_bipush (v := 6) hx hb dX7_line_9 (by decide) ?_
      refine lv_icmp_le (tgt := 16) hx hb dX7_line_11 (by decide) (fun c11 => ?_) (fun c11 => ?_)
      · have hF := hm_if hF c11
        refine lv_aload_n hx hb dX7_line_16 rfl (lv_at hl 0 rfl) ?_
        obtain ⟨t1, ht1, hF⟩ := hm_bd hF
        refine hm_vv (As := []) S X mw_X7_freshen hw_2_220 (c_X7_freshen l g a R Z ScR SeR SeA LeR LeZ BrA ShR ShZ SuA SuJ t1 ht1) (hm_cq (n := 11) [0, 1, 2, 3, 4, 5, 6, 7, 8, 9, 10] [] rfl (by decide +kernel) rfl rfl) (hm_cq (bs := [[(a 0 0, .inr (7, [.ref (a 1 0), .ref (a 2 0), .ref (a 3 0), .ref (a 4 0), .ref (a 5 0), .ref (a 6 0), .ref (a 7 0), .ref (a 8 0), .ref (a 9 0), .ref (a 10 0), .int t1.2.2.2.2.2.2.2.2.2.2.2.2.2.2.2.2.2.2.2.2, .int (Z 1)]))], hm_row g (a 1 0) (a 1 1) 200 (R 0), hm_wSc g (a 2) ScR, hm_wSe g (a 3) SeR SeA, hm_row g (a 4 0) (a 4 1) 100 (R 1), hm_row g (a 5 0) (a 5 1) 6 (R 2), hm_row g (a 6 0) (a 6 1) 6 (R 3), hm_wLe g (a 7) (hm_up (hm_up (hm_up (hm_up (hm_up LeR 0 t1.2.2.2.1) 1 t1.2.2.2.2.1) 2 t1.2.2.2.2.2.1) 3 t1.2.2.2.2.2.2.1) 4 t1.2.2.2.2.2.2.2.1) (hm_up (hm_up (hm_up (hm_up LeZ 0 t1.2.2.2.2.2.2.2.2.1) 1 t1.2.2.2.2.2.2.2.2.2.1) 2 t1.2.2.2.2.2.2.2.2.2.2.1) 3 t1.2.2.2.2.2.2.2.2.2.2.2.1), hm_wBr g (a 8) (hm_up (hm_up (hm_up BrA 0 t1.1) 1 t1.2.1) 2 t1.2.2.1), hm_wSh g (a 9) (hm_up (hm_up (hm_up (hm_up (hm_up (hm_up ShR 0 t1.2.2.2.2.2.2.2.2.2.2.2.2.1) 1 t1.2.2.2.2.2.2.2.2.2.2.2.2.2.1) 2 t1.2.2.2.2.2.2.2.2.2.2.2.2.2.2.1) 3 t1.2.2.2.2.2.2.2.2.2.2.2.2.2.2.2.1) 4 t1.2.2.2.2.2.2.2.2.2.2.2.2.2.2.2.2.1) 5 t1.2.2.2.2.2.2.2.2.2.2.2.2.2.2.2.2.2.1) (hm_up (hm_up ShZ 0 t1.2.2.2.2.2.2.2.2.2.2.2.2.2.2.2.2.2.2.1) 1 t1.2.2.2.2.2.2.2.2.2.2.2.2.2.2.2.2.2.2.2.1), hm_wSu g (a 10) SuA SuJ]) (n := 11) [0, 1, 2, 3, 4, 5, 6, 7, 8, 9, 10] [] rfl (by decide +kernel) rfl rfl) rfl rfl rfl ⟨rfl, rfl, Nat.le_of_ble_eq_true rfl, Nat.le_of_ble_eq_true rfl⟩ rfl hl.1 rfl (Nat.le_of_ble_eq_true rfl) dX7_line_17 ⟨Nat.zero_le _, Nat.zero_le _⟩ (fun H locs X => ?_)
        have X := X.to (ws' := ([[(a 0 0, .inr (7, [.ref (a 1 0), .ref (a 2 0), .ref (a 3 0), .ref (a 4 0), .ref (a 5 0), .ref (a 6 0), .ref (a 7 0), .ref (a 8 0), .ref (a 9 0), .ref (a 10 0), .int t1.2.2.2.2.2.2.2.2.2.2.2.2.2.2.2.2.2.2.2.2, .int (Z 1)]))], hm_row g (a 1 0) (a 1 1) 200 (R 0), hm_wSc g (a 2) ScR, hm_wSe g (a 3) SeR SeA, hm_row g (a 4 0) (a 4 1) 100 (R 1), hm_row g (a 5 0) (a 5 1) 6 (R 2), hm_row g (a 6 0) (a 6 1) 6 (R 3), hm_wLe g (a 7) (hm_up (hm_up (hm_up (hm_up (hm_up LeR 0 t1.2.2.2.1) 1 t1.2.2.2.2.1) 2 t1.2.2.2.2.2.1) 3 t1.2.2.2.2.2.2.1) 4 t1.2.2.2.2.2.2.2.1) (hm_up (hm_up (hm_up (hm_up LeZ 0 t1.2.2.2.2.2.2.2.2.1) 1 t1.2.2.2.2.2.2.2.2.2.1) 2 t1.2.2.2.2.2.2.2.2.2.2.1) 3 t1.2.2.2.2.2.2.2.2.2.2.2.1), hm_wBr g (a 8) (hm_up (hm_up (hm_up BrA 0 t1.1) 1 t1.2.1) 2 t1.2.2.1), hm_wSh g (a 9) (hm_up (hm_up (hm_up (hm_up (hm_up (hm_up ShR 0 t1.2.2.2.2.2.2.2.2.2.2.2.2.1) 1 t1.2.2.2.2.2.2.2.2.2.2.2.2.2.1) 2 t1.2.2.2.2.2.2.2.2.2.2.2.2.2.2.1) 3 t1.2.2.2.2.2.2.2.2.2.2.2.2.2.2.2.1) 4 t1.2.2.2.2.2.2.2.2.2.2.2.2.2.2.2.2.1) 5 t1.2.2.2.2.2.2.2.2.2.2.2.2.2.2.2.2.2.1) (hm_up (hm_up ShZ 0 t1.2.2.2.2.2.2.2.2.2.2.2.2.2.2.2.2.2.2.1) 1 t1.2.2.2.2.2.2.2.2.2.2.2.2.2.2.2.2.2.2.2.1), hm_wSu g (a 10) SuA SuJ] : List va_W).flatten) rfl
        refine lv_aload_n hx hb dX7_line_20 rfl (lv_at hl 0 rfl) ?_
        refine hm_get S X hf_X7_58 0 rfl rfl dX7_line_21 ?_
        obtain ⟨t2, ht2, hF⟩ := hm_bd hF
        refine hm_vi (As := []) S X mw_X5_isThere hw_3_120 (c_X5_isThere l g (a 9) (hm_up (hm_up (hm_up (hm_up (hm_up (hm_up ShR 0 t1.2.2.2.2.2.2.2.2.2.2.2.2.1) 1 t1.2.2.2.2.2.2.2.2.2.2.2.2.2.1) 2 t1.2.2.2.2.2.2.2.2.2.2.2.2.2.2.1) 3 t1.2.2.2.2.2.2.2.2.2.2.2.2.2.2.2.1) 4 t1.2.2.2.2.2.2.2.2.2.2.2.2.2.2.2.2.1) 5 t1.2.2.2.2.2.2.2.2.2.2.2.2.2.2.2.2.2.1) (hm_up (hm_up ShZ 0 t1.2.2.2.2.2.2.2.2.2.2.2.2.2.2.2.2.2.2.1) 1 t1.2.2.2.2.2.2.2.2.2.2.2.2.2.2.2.2.2.2.2.1) t2 ht2) (hm_mid [[(a 0 0, .inr (7, [.ref (a 1 0), .ref (a 2 0), .ref (a 3 0), .ref (a 4 0), .ref (a 5 0), .ref (a 6 0), .ref (a 7 0), .ref (a 8 0), .ref (a 9 0), .ref (a 10 0), .int t1.2.2.2.2.2.2.2.2.2.2.2.2.2.2.2.2.2.2.2.2, .int (Z 1)]))], hm_row g (a 1 0) (a 1 1) 200 (R 0), hm_wSc g (a 2) ScR, hm_wSe g (a 3) SeR SeA, hm_row g (a 4 0) (a 4 1) 100 (R 1), hm_row g (a 5 0) (a 5 1) 6 (R 2), hm_row g (a 6 0) (a 6 1) 6 (R 3), hm_wLe g (a 7) (hm_up (hm_up (hm_up (hm_up (hm_up LeR 0 t1.2.2.2.1) 1 t1.2.2.2.2.1) 2 t1.2.2.2.2.2.1) 3 t1.2.2.2.2.2.2.1) 4 t1.2.2.2.2.2.2.2.1) (hm_up (hm_up (hm_up (hm_up LeZ 0 t1.2.2.2.2.2.2.2.2.1) 1 t1.2.2.2.2.2.2.2.2.2.1) 2 t1.2.2.2.2.2.2.2.2.2.2.1) 3 t1.2.2.2.2.2.2.2.2.2.2.2.1), hm_wBr g (a 8) (hm_up (hm_up (hm_up BrA 0 t1.1) 1 t1.2.1) 2 t1.2.2.1)] [hm_wSu g (a 10) SuA SuJ]) (hm_mid [[(a 0 0, .inr (7, [.ref (a 1 0), .ref (a 2 0), .ref (a 3 0), .ref (a 4 0), .ref (a 5 0), .ref (a 6 0), .ref (a 7 0), .ref (a 8 0), .ref (a 9 0), .ref (a 10 0), .int t1.2.2.2.2.2.2.2.2.2.2.2.2.2.2.2.2.2.2.2.2, .int (Z 1)]))], hm_row g (a 1 0) (a 1 1) 200 (R 0), hm_wSc g (a 2) ScR, hm_wSe g (a 3) SeR SeA, hm_row g (a 4 0) (a 4 1) 100 (R 1), hm_row g (a 5 0) (a 5 1) 6 (R 2), hm_row g (a 6 0) (a 6 1) 6 (R 3), hm_wLe g (a 7) (hm_up (hm_up (hm_up (hm_up (hm_up LeR 0 t1.2.2.2.1) 1 t1.2.2.2.2.1) 2 t1.2.2.2.2.2.1) 3 t1.2.2.2.2.2.2.1) 4 t1.2.2.2.2.2.2.2.1) (hm_up (hm_up (hm_up (hm_up LeZ 0 t1.2.2.2.2.2.2.2.2.1) 1 t1.2.2.2.2.2.2.2.2.2.1) 2 t1.2.2.2.2.2.2.2.2.2.2.1) 3 t1.2.2.2.2.2.2.2.2.2.2.2.1), hm_wBr g (a 8) (hm_up (hm_up (hm_up BrA 0 t1.1) 1 t1.2.1) 2 t1.2.2.1)] [hm_wSu g (a 10) SuA SuJ] (b := hm_wSh g (a 9) (hm_up (hm_up (hm_up (hm_up (hm_up (hm_up ShR 0 t1.2.2.2.2.2.2.2.2.2.2.2.2.1) 1 t1.2.2.2.2.2.2.2.2.2.2.2.2.2.1) 2 t1.2.2.2.2.2.2.2.2.2.2.2.2.2.2.1) 3 t1.2.2.2.2.2.2.2.2.2.2.2.2.2.2.2.1) 4 t1.2.2.2.2.2.2.2.2.2.2.2.2.2.2.2.2.1) 5 t1.2.2.2.2.2.2.2.2.2.2.2.2.2.2.2.2.2.1) (hm_up (hm_up ShZ 0 t1.2.2.2.2.2.2.2.2.2.2.2.2.2.2.2.2.2.2.1) 1 t1.2.2.2.2.2.2.2.2.2.2.2.2.2.2.2.2.2.2.2.1))) rfl rfl rfl ⟨rfl, rfl, Nat.le_of_ble_eq_true rfl, Nat.le_of_ble_eq_true rfl⟩ rfl hl.1 rfl (Nat.le_of_ble_eq_true rfl) dX7_line_24 ⟨Nat.zero_le _, Nat.zero_le _⟩ (fun H locs X => ?_)
        have X := X.to (ws' := ([[(a 0 0, .inr (7, [.ref (a 1 0), .ref (a 2 0), .ref (a 3 0), .ref (a 4 0), .ref (a 5 0), .ref (a 6 0), .ref (a 7 0), .ref (a 8 0), .ref (a 9 0), .ref (a 10 0), .int t1.2.2.2.2.2.2.2.2.2.2.2.2.2.2.2.2.2.2.2.2, .int (Z 1)]))], hm_row g (a 1 0) (a 1 1) 200 (R 0), hm_wSc g (a 2) ScR, hm_wSe g (a 3) SeR SeA, hm_row g (a 4 0) (a 4 1) 100 (R 1), hm_row g (a 5 0) (a 5 1) 6 (R 2), hm_row g (a 6 0) (a 6 1) 6 (R 3), hm_wLe g (a 7) (hm_up (hm_up (hm_up (hm_up (hm_up LeR 0 t1.2.2.2.1) 1 t1.2.2.2.2.1) 2 t1.2.2.2.2.2.1) 3 t1.2.2.2.2.2.2.1) 4 t1.2.2.2.2.2.2.2.1) (hm_up (hm_up (hm_up (hm_up LeZ 0 t1.2.2.2.2.2.2.2.2.1) 1 t1.2.2.2.2.2.2.2.2.2.1) 2 t1.2.2.2.2.2.2.2.2.2.2.1) 3 t1.2.2.2.2.2.2.2.2.2.2.2.1), hm_wBr g (a 8) (hm_up (hm_up (hm_up BrA 0 t1.1) 1 t1.2.1) 2 t1.2.2.1), hm_wSh g (a 9) (hm_up (hm_up (hm_up (hm_up (hm_up (hm_up ShR 0 t1.2.2.2.2.2.2.2.2.2.2.2.2.1) 1 t1.2.2.2.2.2.2.2.2.2.2.2.2.2.1) 2 t1.2.2.2.2.2.2.2.2.2.2.2.2.2.2.1) 3 t1.2.2.2.2.2.2.2.2.2.2.2.2.2.2.2.1) 4 t1.2.2.2.2.2.2.2.2.2.2.2.2.2.2.2.2.1) 5 t1.2.2.2.2.2.2.2.2.2.2.2.2.2.2.2.2.2.1) (hm_up (hm_up ShZ 0 t1.2.2.2.2.2.2.2.2.2.2.2.2.2.2.2.2.2.2.1) 1 t1.2.2.2.2.2.2.2.2.2.2.2.2.2.2.2.2.2.2.2.1), hm_wSu g (a 10) SuA SuJ] : List va_W).flatten) rfl
        refine lv_if_ne (tgt := 33) hx hb dX7_line_27 (by decide) (fun c27 => ?_) (fun c27 => ?_)
        · have hF := hm_nf hF c27
          refine lv_iload_n hx hb dX7_line_33 rfl (lv_at hl 1 rfl) ?_
          refine lv_aload_n hx hb dX7_line_34 rfl (lv_at hl 0 rfl) ?_
          refine hm_get S X hf_X7_58 0 rfl rfl dX7_line_35 ?_
          obtain ⟨t3, ht3, hF⟩ := hm_bd hF
          refine hm_vi (As := []) S X mw_X5_lineCount hw_3_128 (c_X5_lineCount l g (a 9) (hm_up (hm_up (hm_up (hm_up (hm_up (hm_up ShR 0 t1.2.2.2.2.2.2.2.2.2.2.2.2.1) 1 t1.2.2.2.2.2.2.2.2.2.2.2.2.2.1) 2 t1.2.2.2.2.2.2.2.2.2.2.2.2.2.2.1) 3 t1.2.2.2.2.2.2.2.2.2.2.2.2.2.2.2.1) 4 t1.2.2.2.2.2.2.2.2.2.2.2.2.2.2.2.2.1) 5 t1.2.2.2.2.2.2.2.2.2.2.2.2.2.2.2.2.2.1) (hm_up (hm_up ShZ 0 t1.2.2.2.2.2.2.2.2.2.2.2.2.2.2.2.2.2.2.1) 1 t1.2.2.2.2.2.2.2.2.2.2.2.2.2.2.2.2.2.2.2.1) t3 ht3) (hm_mid [[(a 0 0, .inr (7, [.ref (a 1 0), .ref (a 2 0), .ref (a 3 0), .ref (a 4 0), .ref (a 5 0), .ref (a 6 0), .ref (a 7 0), .ref (a 8 0), .ref (a 9 0), .ref (a 10 0), .int t1.2.2.2.2.2.2.2.2.2.2.2.2.2.2.2.2.2.2.2.2, .int (Z 1)]))], hm_row g (a 1 0) (a 1 1) 200 (R 0), hm_wSc g (a 2) ScR, hm_wSe g (a 3) SeR SeA, hm_row g (a 4 0) (a 4 1) 100 (R 1), hm_row g (a 5 0) (a 5 1) 6 (R 2), hm_row g (a 6 0) (a 6 1) 6 (R 3), hm_wLe g (a 7) (hm_up (hm_up (hm_up (hm_up (hm_up LeR 0 t1.2.2.2.1) 1 t1.2.2.2.2.1) 2 t1.2.2.2.2.2.1) 3 t1.2.2.2.2.2.2.1) 4 t1.2.2.2.2.2.2.2.1) (hm_up (hm_up (hm_up (hm_up LeZ 0 t1.2.2.2.2.2.2.2.2.1) 1 t1.2.2.2.2.2.2.2.2.2.1) 2 t1.2.2.2.2.2.2.2.2.2.2.1) 3 t1.2.2.2.2.2.2.2.2.2.2.2.1), hm_wBr g (a 8) (hm_up (hm_up (hm_up BrA 0 t1.1) 1 t1.2.1) 2 t1.2.2.1)] [hm_wSu g (a 10) SuA SuJ]) (hm_mid [[(a 0 0, .inr (7, [.ref (a 1 0), .ref (a 2 0), .ref (a 3 0), .ref (a 4 0), .ref (a 5 0), .ref (a 6 0), .ref (a 7 0), .ref (a 8 0), .ref (a 9 0), .ref (a 10 0), .int t1.2.2.2.2.2.2.2.2.2.2.2.2.2.2.2.2.2.2.2.2, .int (Z 1)]))], hm_row g (a 1 0) (a 1 1) 200 (R 0), hm_wSc g (a 2) ScR, hm_wSe g (a 3) SeR SeA, hm_row g (a 4 0) (a 4 1) 100 (R 1), hm_row g (a 5 0) (a 5 1) 6 (R 2), hm_row g (a 6 0) (a 6 1) 6 (R 3), hm_wLe g (a 7) (hm_up (hm_up (hm_up (hm_up (hm_up LeR 0 t1.2.2.2.1) 1 t1.2.2.2.2.1) 2 t1.2.2.2.2.2.1) 3 t1.2.2.2.2.2.2.1) 4 t1.2.2.2.2.2.2.2.1) (hm_up (hm_up (hm_up (hm_up LeZ 0 t1.2.2.2.2.2.2.2.2.1) 1 t1.2.2.2.2.2.2.2.2.2.1) 2 t1.2.2.2.2.2.2.2.2.2.2.1) 3 t1.2.2.2.2.2.2.2.2.2.2.2.1), hm_wBr g (a 8) (hm_up (hm_up (hm_up BrA 0 t1.1) 1 t1.2.1) 2 t1.2.2.1)] [hm_wSu g (a 10) SuA SuJ] (b := hm_wSh g (a 9) (hm_up (hm_up (hm_up (hm_up (hm_up (hm_up ShR 0 t1.2.2.2.2.2.2.2.2.2.2.2.2.1) 1 t1.2.2.2.2.2.2.2.2.2.2.2.2.2.1) 2 t1.2.2.2.2.2.2.2.2.2.2.2.2.2.2.1) 3 t1.2.2.2.2.2.2.2.2.2.2.2.2.2.2.2.1) 4 t1.2.2.2.2.2.2.2.2.2.2.2.2.2.2.2.2.1) 5 t1.2.2.2.2.2.2.2.2.2.2.2.2.2.2.2.2.2.1) (hm_up (hm_up ShZ 0 t1.2.2.2.2.2.2.2.2.2.2.2.2.2.2.2.2.2.2.1) 1 t1.2.2.2.2.2.2.2.2.2.2.2.2.2.2.2.2.2.2.2.1))) rfl rfl rfl ⟨rfl, rfl, Nat.le_of_ble_eq_true rfl, Nat.le_of_ble_eq_true rfl⟩ rfl hl.1 rfl (Nat.le_of_ble_eq_true rfl) dX7_line_38 ⟨Nat.zero_le _, Nat.zero_le _⟩ (fun H locs X => ?_)
          have X := X.to (ws' := ([[(a 0 0, .inr (7, [.ref (a 1 0), .ref (a 2 0), .ref (a 3 0), .ref (a 4 0), .ref (a 5 0), .ref (a 6 0), .ref (a 7 0), .ref (a 8 0), .ref (a 9 0), .ref (a 10 0), .int t1.2.2.2.2.2.2.2.2.2.2.2.2.2.2.2.2.2.2.2.2, .int (Z 1)]))], hm_row g (a 1 0) (a 1 1) 200 (R 0), hm_wSc g (a 2) ScR, hm_wSe g (a 3) SeR SeA, hm_row g (a 4 0) (a 4 1) 100 (R 1), hm_row g (a 5 0) (a 5 1) 6 (R 2), hm_row g (a 6 0) (a 6 1) 6 (R 3), hm_wLe g (a 7) (hm_up (hm_up (hm_up (hm_up (hm_up LeR 0 t1.2.2.2.1) 1 t1.2.2.2.2.1) 2 t1.2.2.2.2.2.1) 3 t1.2.2.2.2.2.2.1) 4 t1.2.2.2.2.2.2.2.1) (hm_up (hm_up (hm_up (hm_up LeZ 0 t1.2.2.2.2.2.2.2.2.1) 1 t1.2.2.2.2.2.2.2.2.2.1) 2 t1.2.2.2.2.2.2.2.2.2.2.1) 3 t1.2.2.2.2.2.2.2.2.2.2.2.1), hm_wBr g (a 8) (hm_up (hm_up (hm_up BrA 0 t1.1) 1 t1.2.1) 2 t1.2.2.1), hm_wSh g (a 9) (hm_up (hm_up (hm_up (hm_up (hm_up (hm_up ShR 0 t1.2.2.2.2.2.2.2.2.2.2.2.2.1) 1 t1.2.2.2.2.2.2.2.2.2.2.2.2.2.1) 2 t1.2.2.2.2.2.2.2.2.2.2.2.2.2.2.1) 3 t1.2.2.2.2.2.2.2.2.2.2.2.2.2.2.2.1) 4 t1.2.2.2.2.2.2.2.2.2.2.2.2.2.2.2.2.1) 5 t1.2.2.2.2.2.2.2.2.2.2.2.2.2.2.2.2.2.1) (hm_up (hm_up ShZ 0 t1.2.2.2.2.2.2.2.2.2.2.2.2.2.2.2.2.2.2.1) 1 t1.2.2.2.2.2.2.2.2.2.2.2.2.2.2.2.2.2.2.2.1), hm_wSu g (a 10) SuA SuJ] : List va_W).flatten) rfl
          refine lv_icmp_lt (tgt := 46) hx hb dX7_line_41 (by decide) (fun c41 => ?_) (fun c41 => ?_)
          · have hF := hm_if hF c41
            refine lv_aload_n hx hb dX7_line_46 rfl (lv_at hl 0 rfl) ?_
            refine hm_get S X hf_X7_58 0 rfl rfl dX7_line_47 ?_
            refine lv_iload_n hx hb dX7_line_50 rfl (lv_at hl 1 rfl) ?_
            obtain ⟨t4, ht4, hF⟩ := hm_bd hF
            refine hm_vi (As := [.int x0]) S X mw_X5_startOf hw_3_161 (c_X5_startOf l g (a 9) (hm_up (hm_up (hm_up (hm_up (hm_up (hm_up ShR 0 t1.2.2.2.2.2.2.2.2.2.2.2.2.1) 1 t1.2.2.2.2.2.2.2.2.2.2.2.2.2.1) 2 t1.2.2.2.2.2.2.2.2.2.2.2.2.2.2.1) 3 t1.2.2.2.2.2.2.2.2.2.2.2.2.2.2.2.1) 4 t1.2.2.2.2.2.2.2.2.2.2.2.2.2.2.2.2.1) 5 t1.2.2.2.2.2.2.2.2.2.2.2.2.2.2.2.2.2.1) (hm_up (hm_up ShZ 0 t1.2.2.2.2.2.2.2.2.2.2.2.2.2.2.2.2.2.2.1) 1 t1.2.2.2.2.2.2.2.2.2.2.2.2.2.2.2.2.2.2.2.1) x0 t4 ht4) (hm_mid [[(a 0 0, .inr (7, [.ref (a 1 0), .ref (a 2 0), .ref (a 3 0), .ref (a 4 0), .ref (a 5 0), .ref (a 6 0), .ref (a 7 0), .ref (a 8 0), .ref (a 9 0), .ref (a 10 0), .int t1.2.2.2.2.2.2.2.2.2.2.2.2.2.2.2.2.2.2.2.2, .int (Z 1)]))], hm_row g (a 1 0) (a 1 1) 200 (R 0), hm_wSc g (a 2) ScR, hm_wSe g (a 3) SeR SeA, hm_row g (a 4 0) (a 4 1) 100 (R 1), hm_row g (a 5 0) (a 5 1) 6 (R 2), hm_row g (a 6 0) (a 6 1) 6 (R 3), hm_wLe g (a 7) (hm_up (hm_up (hm_up (hm_up (hm_up LeR 0 t1.2.2.2.1) 1 t1.2.2.2.2.1) 2 t1.2.2.2.2.2.1) 3 t1.2.2.2.2.2.2.1) 4 t1.2.2.2.2.2.2.2.1) (hm_up (hm_up (hm_up (hm_up LeZ 0 t1.2.2.2.2.2.2.2.2.1) 1 t1.2.2.2.2.2.2.2.2.2.1) 2 t1.2.2.2.2.2.2.2.2.2.2.1) 3 t1.2.2.2.2.2.2.2.2.2.2.2.1), hm_wBr g (a 8) (hm_up (hm_up (hm_up BrA 0 t1.1) 1 t1.2.1) 2 t1.2.2.1)] [hm_wSu g (a 10) SuA SuJ]) (hm_mid [[(a 0 0, .inr (7, [.ref (a 1 0), .ref (a 2 0), .ref (a 3 0), .ref (a 4 0), .ref (a 5 0), .ref (a 6 0), .ref (a 7 0), .ref (a 8 0), .ref (a 9 0), .ref (a 10 0), .int t1.2.2.2.2.2.2.2.2.2.2.2.2.2.2.2.2.2.2.2.2, .int (Z 1)]))], hm_row g (a 1 0) (a 1 1) 200 (R 0), hm_wSc g (a 2) ScR, hm_wSe g (a 3) SeR SeA, hm_row g (a 4 0) (a 4 1) 100 (R 1), hm_row g (a 5 0) (a 5 1) 6 (R 2), hm_row g (a 6 0) (a 6 1) 6 (R 3), hm_wLe g (a 7) (hm_up (hm_up (hm_up (hm_up (hm_up LeR 0 t1.2.2.2.1) 1 t1.2.2.2.2.1) 2 t1.2.2.2.2.2.1) 3 t1.2.2.2.2.2.2.1) 4 t1.2.2.2.2.2.2.2.1) (hm_up (hm_up (hm_up (hm_up LeZ 0 t1.2.2.2.2.2.2.2.2.1) 1 t1.2.2.2.2.2.2.2.2.2.1) 2 t1.2.2.2.2.2.2.2.2.2.2.1) 3 t1.2.2.2.2.2.2.2.2.2.2.2.1), hm_wBr g (a 8) (hm_up (hm_up (hm_up BrA 0 t1.1) 1 t1.2.1) 2 t1.2.2.1)] [hm_wSu g (a 10) SuA SuJ] (b := hm_wSh g (a 9) (hm_up (hm_up (hm_up (hm_up (hm_up (hm_up ShR 0 t1.2.2.2.2.2.2.2.2.2.2.2.2.1) 1 t1.2.2.2.2.2.2.2.2.2.2.2.2.2.1) 2 t1.2.2.2.2.2.2.2.2.2.2.2.2.2.2.1) 3 t1.2.2.2.2.2.2.2.2.2.2.2.2.2.2.2.1) 4 t1.2.2.2.2.2.2.2.2.2.2.2.2.2.2.2.2.1) 5 t1.2.2.2.2.2.2.2.2.2.2.2.2.2.2.2.2.2.1) (hm_up (hm_up ShZ 0 t1.2.2.2.2.2.2.2.2.2.2.2.2.2.2.2.2.2.2.1) 1 t1.2.2.2.2.2.2.2.2.2.2.2.2.2.2.2.2.2.2.2.1))) rfl rfl rfl ⟨rfl, rfl, Nat.le_of_ble_eq_true rfl, Nat.le_of_ble_eq_true rfl⟩ rfl hl.1 rfl (Nat.le_of_ble_eq_true rfl) dX7_line_51 ⟨Nat.zero_le _, Nat.zero_le _⟩ (fun H locs X => ?_)
            have X := X.to (ws' := ([[(a 0 0, .inr (7, [.ref (a 1 0), .ref (a 2 0), .ref (a 3 0), .ref (a 4 0), .ref (a 5 0), .ref (a 6 0), .ref (a 7 0), .ref (a 8 0), .ref (a 9 0), .ref (a 10 0), .int t1.2.2.2.2.2.2.2.2.2.2.2.2.2.2.2.2.2.2.2.2, .int (Z 1)]))], hm_row g (a 1 0) (a 1 1) 200 (R 0), hm_wSc g (a 2) ScR, hm_wSe g (a 3) SeR SeA, hm_row g (a 4 0) (a 4 1) 100 (R 1), hm_row g (a 5 0) (a 5 1) 6 (R 2), hm_row g (a 6 0) (a 6 1) 6 (R 3), hm_wLe g (a 7) (hm_up (hm_up (hm_up (hm_up (hm_up LeR 0 t1.2.2.2.1) 1 t1.2.2.2.2.1) 2 t1.2.2.2.2.2.1) 3 t1.2.2.2.2.2.2.1) 4 t1.2.2.2.2.2.2.2.1) (hm_up (hm_up (hm_up (hm_up LeZ 0 t1.2.2.2.2.2.2.2.2.1) 1 t1.2.2.2.2.2.2.2.2.2.1) 2 t1.2.2.2.2.2.2.2.2.2.2.1) 3 t1.2.2.2.2.2.2.2.2.2.2.2.1), hm_wBr g (a 8) (hm_up (hm_up (hm_up BrA 0 t1.1) 1 t1.2.1) 2 t1.2.2.1), hm_wSh g (a 9) (hm_up (hm_up (hm_up (hm_up (hm_up (hm_up ShR 0 t1.2.2.2.2.2.2.2.2.2.2.2.2.1) 1 t1.2.2.2.2.2.2.2.2.2.2.2.2.2.1) 2 t1.2.2.2.2.2.2.2.2.2.2.2.2.2.2.1) 3 t1.2.2.2.2.2.2.2.2.2.2.2.2.2.2.2.1) 4 t1.2.2.2.2.2.2.2.2.2.2.2.2.2.2.2.2.1) 5 t1.2.2.2.2.2.2.2.2.2.2.2.2.2.2.2.2.2.1) (hm_up (hm_up ShZ 0 t1.2.2.2.2.2.2.2.2.2.2.2.2.2.2.2.2.2.2.1) 1 t1.2.2.2.2.2.2.2.2.2.2.2.2.2.2.2.2.2.2.2.1), hm_wSu g (a 10) SuA SuJ] : List va_W).flatten) rfl
            refine lv_istore_n (lv' := [(3, .int t4), (0, .ref (a 0 0)), (1, .int x0), (2, .int x1)]) hx hb dX7_line_54 rfl hl (by decide) rfl (fun ls hl => ?_)
            refine lv_aload_n hx hb dX7_line_55 rfl (lv_at hl 1 rfl) ?_
            refine hm_get S X hf_X7_58 0 rfl rfl dX7_line_56 ?_
            refine lv_iload_n hx hb dX7_line_59 rfl (lv_at hl 2 rfl) ?_
            obtain ⟨t5, ht5, hF⟩ := hm_bd hF
            refine hm_vi (As := [.int x0]) S X mw_X5_endOf hw_3_162 (c_X5_endOf l g (a 9) (hm_up (hm_up (hm_up (hm_up (hm_up (hm_up ShR 0 t1.2.2.2.2.2.2.2.2.2.2.2.2.1) 1 t1.2.2.2.2.2.2.2.2.2.2.2.2.2.1) 2 t1.2.2.2.2.2.2.2.2.2.2.2.2.2.2.1) 3 t1.2.2.2.2.2.2.2.2.2.2.2.2.2.2.2.1) 4 t1.2.2.2.2.2.2.2.2.2.2.2.2.2.2.2.2.1) 5 t1.2.2.2.2.2.2.2.2.2.2.2.2.2.2.2.2.2.1) (hm_up (hm_up ShZ 0 t1.2.2.2.2.2.2.2.2.2.2.2.2.2.2.2.2.2.2.1) 1 t1.2.2.2.2.2.2.2.2.2.2.2.2.2.2.2.2.2.2.2.1) x0 t5 ht5) (hm_mid [[(a 0 0, .inr (7, [.ref (a 1 0), .ref (a 2 0), .ref (a 3 0), .ref (a 4 0), .ref (a 5 0), .ref (a 6 0), .ref (a 7 0), .ref (a 8 0), .ref (a 9 0), .ref (a 10 0), .int t1.2.2.2.2.2.2.2.2.2.2.2.2.2.2.2.2.2.2.2.2, .int (Z 1)]))], hm_row g (a 1 0) (a 1 1) 200 (R 0), hm_wSc g (a 2) ScR, hm_wSe g (a 3) SeR SeA, hm_row g (a 4 0) (a 4 1) 100 (R 1), hm_row g (a 5 0) (a 5 1) 6 (R 2), hm_row g (a 6 0) (a 6 1) 6 (R 3), hm_wLe g (a 7) (hm_up (hm_up (hm_up (hm_up (hm_up LeR 0 t1.2.2.2.1) 1 t1.2.2.2.2.1) 2 t1.2.2.2.2.2.1) 3 t1.2.2.2.2.2.2.1) 4 t1.2.2.2.2.2.2.2.1) (hm_up (hm_up (hm_up (hm_up LeZ 0 t1.2.2.2.2.2.2.2.2.1) 1 t1.2.2.2.2.2.2.2.2.2.1) 2 t1.2.2.2.2.2.2.2.2.2.2.1) 3 t1.2.2.2.2.2.2.2.2.2.2.2.1), hm_wBr g (a 8) (hm_up (hm_up (hm_up BrA 0 t1.1) 1 t1.2.1) 2 t1.2.2.1)] [hm_wSu g (a 10) SuA SuJ]) (hm_mid [[(a 0 0, .inr (7, [.ref (a 1 0), .ref (a 2 0), .ref (a 3 0), .ref (a 4 0), .ref (a 5 0), .ref (a 6 0), .ref (a 7 0), .ref (a 8 0), .ref (a 9 0), .ref (a 10 0), .int t1.2.2.2.2.2.2.2.2.2.2.2.2.2.2.2.2.2.2.2.2, .int (Z 1)]))], hm_row g (a 1 0) (a 1 1) 200 (R 0), hm_wSc g (a 2) ScR, hm_wSe g (a 3) SeR SeA, hm_row g (a 4 0) (a 4 1) 100 (R 1), hm_row g (a 5 0) (a 5 1) 6 (R 2), hm_row g (a 6 0) (a 6 1) 6 (R 3), hm_wLe g (a 7) (hm_up (hm_up (hm_up (hm_up (hm_up LeR 0 t1.2.2.2.1) 1 t1.2.2.2.2.1) 2 t1.2.2.2.2.2.1) 3 t1.2.2.2.2.2.2.1) 4 t1.2.2.2.2.2.2.2.1) (hm_up (hm_up (hm_up (hm_up LeZ 0 t1.2.2.2.2.2.2.2.2.1) 1 t1.2.2.2.2.2.2.2.2.2.1) 2 t1.2.2.2.2.2.2.2.2.2.2.1) 3 t1.2.2.2.2.2.2.2.2.2.2.2.1), hm_wBr g (a 8) (hm_up (hm_up (hm_up BrA 0 t1.1) 1 t1.2.1) 2 t1.2.2.1)] [hm_wSu g (a 10) SuA SuJ] (b := hm_wSh g (a 9) (hm_up (hm_up (hm_up (hm_up (hm_up (hm_up ShR 0 t1.2.2.2.2.2.2.2.2.2.2.2.2.1) 1 t1.2.2.2.2.2.2.2.2.2.2.2.2.2.1) 2 t1.2.2.2.2.2.2.2.2.2.2.2.2.2.2.1) 3 t1.2.2.2.2.2.2.2.2.2.2.2.2.2.2.2.1) 4 t1.2.2.2.2.2.2.2.2.2.2.2.2.2.2.2.2.1) 5 t1.2.2.2.2.2.2.2.2.2.2.2.2.2.2.2.2.2.1) (hm_up (hm_up ShZ 0 t1.2.2.2.2.2.2.2.2.2.2.2.2.2.2.2.2.2.2.1) 1 t1.2.2.2.2.2.2.2.2.2.2.2.2.2.2.2.2.2.2.2.1))) rfl rfl rfl ⟨rfl, rfl, Nat.le_of_ble_eq_true rfl, Nat.le_of_ble_eq_true rfl⟩ rfl hl.1 rfl (Nat.le_of_ble_eq_true rfl) dX7_line_60 ⟨Nat.zero_le _, Nat.zero_le _⟩ (fun H locs X => ?_)
            have X := X.to (ws' := ([[(a 0 0, .inr (7, [.ref (a 1 0), .ref (a 2 0), .ref (a 3 0), .ref (a 4 0), .ref (a 5 0), .ref (a 6 0), .ref (a 7 0), .ref (a 8 0), .ref (a 9 0), .ref (a 10 0), .int t1.2.2.2.2.2.2.2.2.2.2.2.2.2.2.2.2.2.2.2.2, .int (Z 1)]))], hm_row g (a 1 0) (a 1 1) 200 (R 0), hm_wSc g (a 2) ScR, hm_wSe g (a 3) SeR SeA, hm_row g (a 4 0) (a 4 1) 100 (R 1), hm_row g (a 5 0) (a 5 1) 6 (R 2), hm_row g (a 6 0) (a 6 1) 6 (R 3), hm_wLe g (a 7) (hm_up (hm_up (hm_up (hm_up (hm_up LeR 0 t1.2.2.2.1) 1 t1.2.2.2.2.1) 2 t1.2.2.2.2.2.1) 3 t1.2.2.2.2.2.2.1) 4 t1.2.2.2.2.2.2.2.1) (hm_up (hm_up (hm_up (hm_up LeZ 0 t1.2.2.2.2.2.2.2.2.1) 1 t1.2.2.2.2.2.2.2.2.2.1) 2 t1.2.2.2.2.2.2.2.2.2.2.1) 3 t1.2.2.2.2.2.2.2.2.2.2.2.1), hm_wBr g (a 8) (hm_up (hm_up (hm_up BrA 0 t1.1) 1 t1.2.1) 2 t1.2.2.1), hm_wSh g (a 9) (hm_up (hm_up (hm_up (hm_up (hm_up (hm_up ShR 0 t1.2.2.2.2.2.2.2.2.2.2.2.2.1) 1 t1.2.2.2.2.2.2.2.2.2.2.2.2.2.1) 2 t1.2.2.2.2.2.2.2.2.2.2.2.2.2.2.1) 3 t1.2.2.2.2.2.2.2.2.2.2.2.2.2.2.2.1) 4 t1.2.2.2.2.2.2.2.2.2.2.2.2.2.2.2.2.1) 5 t1.2.2.2.2.2.2.2.2.2.2.2.2.2.2.2.2.2.1) (hm_up (hm_up ShZ 0 t1.2.2.2.2.2.2.2.2.2.2.2.2.2.2.2.2.2.2.1) 1 t1.2.2.2.2.2.2.2.2.2.2.2.2.2.2.2.2.2.2.2.1), hm_wSu g (a 10) SuA SuJ] : List va_W).flatten) rfl
            refine lv_istore (lv' := [(4, .int t5), (3, .int t4), (0, .ref (a 0 0)), (1, .int x0), (2, .int x1)]) hx hb dX7_line_63 hl (by decide) rfl (fun ls hl => ?_)
            refine lv_iload_n hx hb dX7_line_65 rfl (lv_at hl 4 rfl) ?_
            by_cases c66_0 : x1 = 0
            · have hF := hm_if hF c66_0
              refine hm_tabIn (off := 38) (tgt := 104) (k := 0) hx hb dX7_line_66 c66_0 (by decide) (by decide) (by decide) rfl (by decide) ?_
              refine lv_iload hx hb dX7_line_104 (lv_at hl 0 rfl) ?_
              obtain rfl := Option.some.inj hF
              exact hm_ri S hr hlk X rfl rfl dX7_line_106
            · have hF := hm_nf hF c66_0
              by_cases c66_1 : x1 = 1
              · have hF := hm_if hF c66_1
                refine hm_tabIn (off := 41) (tgt := 107) (k := 1) hx hb dX7_line_66 c66_1 (by decide) (by decide) (by decide) rfl (by decide) ?_
                refine lv_aload_n hx hb dX7_line_107 rfl (lv_at hl 2 rfl) ?_
                refine hm_get S X hf_X7_44 0 rfl rfl dX7_line_108 ?_
                refine lv_iload_n hx hb dX7_line_111 rfl (lv_at hl 1 rfl) ?_
                refine lv_iload hx hb dX7_line_112 (lv_at hl 0 rfl) ?_
                obtain ⟨t6, ht6, hF⟩ := hm_bd hF
                refine hm_vi (As := [.int t4, .int t5]) S X mw_X1_natural hw_3_163 (c_X1_natural l g (a 7) (hm_up (hm_up (hm_up (hm_up (hm_up LeR 0 t1.2.2.2.1) 1 t1.2.2.2.2.1) 2 t1.2.2.2.2.2.1) 3 t1.2.2.2.2.2.2.1) 4 t1.2.2.2.2.2.2.2.1) (hm_up (hm_up (hm_up (hm_up LeZ 0 t1.2.2.2.2.2.2.2.2.1) 1 t1.2.2.2.2.2.2.2.2.2.1) 2 t1.2.2.2.2.2.2.2.2.2.2.1) 3 t1.2.2.2.2.2.2.2.2.2.2.2.1) t4 t5 t6 ht6) (hm_mid [[(a 0 0, .inr (7, [.ref (a 1 0), .ref (a 2 0), .ref (a 3 0), .ref (a 4 0), .ref (a 5 0), .ref (a 6 0), .ref (a 7 0), .ref (a 8 0), .ref (a 9 0), .ref (a 10 0), .int t1.2.2.2.2.2.2.2.2.2.2.2.2.2.2.2.2.2.2.2.2, .int (Z 1)]))], hm_row g (a 1 0) (a 1 1) 200 (R 0), hm_wSc g (a 2) ScR, hm_wSe g (a 3) SeR SeA, hm_row g (a 4 0) (a 4 1) 100 (R 1), hm_row g (a 5 0) (a 5 1) 6 (R 2), hm_row g (a 6 0) (a 6 1) 6 (R 3)] [hm_wBr g (a 8) (hm_up (hm_up (hm_up BrA 0 t1.1) 1 t1.2.1) 2 t1.2.2.1), hm_wSh g (a 9) (hm_up (hm_up (hm_up (hm_up (hm_up (hm_up ShR 0 t1.2.2.2.2.2.2.2.2.2.2.2.2.1) 1 t1.2.2.2.2.2.2.2.2.2.2.2.2.2.1) 2 t1.2.2.2.2.2.2.2.2.2.2.2.2.2.2.1) 3 t1.2.2.2.2.2.2.2.2.2.2.2.2.2.2.2.1) 4 t1.2.2.2.2.2.2.2.2.2.2.2.2.2.2.2.2.1) 5 t1.2.2.2.2.2.2.2.2.2.2.2.2.2.2.2.2.2.1) (hm_up (hm_up ShZ 0 t1.2.2.2.2.2.2.2.2.2.2.2.2.2.2.2.2.2.2.1) 1 t1.2.2.2.2.2.2.2.2.2.2.2.2.2.2.2.2.2.2.2.1), hm_wSu g (a 10) SuA SuJ]) (hm_mid [[(a 0 0, .inr (7, [.ref (a 1 0), .ref (a 2 0), .ref (a 3 0), .ref (a 4 0), .ref (a 5 0), .ref (a 6 0), .ref (a 7 0), .ref (a 8 0), .ref (a 9 0), .ref (a 10 0), .int t1.2.2.2.2.2.2.2.2.2.2.2.2.2.2.2.2.2.2.2.2, .int (Z 1)]))], hm_row g (a 1 0) (a 1 1) 200 (R 0), hm_wSc g (a 2) ScR, hm_wSe g (a 3) SeR SeA, hm_row g (a 4 0) (a 4 1) 100 (R 1), hm_row g (a 5 0) (a 5 1) 6 (R 2), hm_row g (a 6 0) (a 6 1) 6 (R 3)] [hm_wBr g (a 8) (hm_up (hm_up (hm_up BrA 0 t1.1) 1 t1.2.1) 2 t1.2.2.1), hm_wSh g (a 9) (hm_up (hm_up (hm_up (hm_up (hm_up (hm_up ShR 0 t1.2.2.2.2.2.2.2.2.2.2.2.2.1) 1 t1.2.2.2.2.2.2.2.2.2.2.2.2.2.1) 2 t1.2.2.2.2.2.2.2.2.2.2.2.2.2.2.1) 3 t1.2.2.2.2.2.2.2.2.2.2.2.2.2.2.2.1) 4 t1.2.2.2.2.2.2.2.2.2.2.2.2.2.2.2.2.1) 5 t1.2.2.2.2.2.2.2.2.2.2.2.2.2.2.2.2.2.1) (hm_up (hm_up ShZ 0 t1.2.2.2.2.2.2.2.2.2.2.2.2.2.2.2.2.2.2.1) 1 t1.2.2.2.2.2.2.2.2.2.2.2.2.2.2.2.2.2.2.2.1), hm_wSu g (a 10) SuA SuJ] (b := hm_wLe g (a 7) (hm_up (hm_up (hm_up (hm_up (hm_up LeR 0 t1.2.2.2.1) 1 t1.2.2.2.2.1) 2 t1.2.2.2.2.2.1) 3 t1.2.2.2.2.2.2.1) 4 t1.2.2.2.2.2.2.2.1) (hm_up (hm_up (hm_up (hm_up LeZ 0 t1.2.2.2.2.2.2.2.2.1) 1 t1.2.2.2.2.2.2.2.2.2.1) 2 t1.2.2.2.2.2.2.2.2.2.2.1) 3 t1.2.2.2.2.2.2.2.2.2.2.2.1))) rfl rfl rfl ⟨rfl, rfl, Nat.le_of_ble_eq_true rfl, Nat.le_of_ble_eq_true rfl⟩ rfl hl.1 rfl (Nat.le_of_ble_eq_true rfl) dX7_line_114 ⟨Nat.zero_le _, Nat.zero_le _⟩ (fun H locs X => ?_)
                have X := X.to (ws' := ([[(a 0 0, .inr (7, [.ref (a 1 0), .ref (a 2 0), .ref (a 3 0), .ref (a 4 0), .ref (a 5 0), .ref (a 6 0), .ref (a 7 0), .ref (a 8 0), .ref (a 9 0), .ref (a 10 0), .int t1.2.2.2.2.2.2.2.2.2.2.2.2.2.2.2.2.2.2.2.2, .int (Z 1)]))], hm_row g (a 1 0) (a 1 1) 200 (R 0), hm_wSc g (a 2) ScR, hm_wSe g (a 3) SeR SeA, hm_row g (a 4 0) (a 4 1) 100 (R 1), hm_row g (a 5 0) (a 5 1) 6 (R 2), hm_row g (a 6 0) (a 6 1) 6 (R 3), hm_wLe g (a 7) (hm_up (hm_up (hm_up (hm_up (hm_up LeR 0 t1.2.2.2.1) 1 t1.2.2.2.2.1) 2 t1.2.2.2.2.2.1) 3 t1.2.2.2.2.2.2.1) 4 t1.2.2.2.2.2.2.2.1) (hm_up (hm_up (hm_up (hm_up LeZ 0 t1.2.2.2.2.2.2.2.2.1) 1 t1.2.2.2.2.2.2.2.2.2.1) 2 t1.2.2.2.2.2.2.2.2.2.2.1) 3 t1.2.2.2.2.2.2.2.2.2.2.2.1), hm_wBr g (a 8) (hm_up (hm_up (hm_up BrA 0 t1.1) 1 t1.2.1) 2 t1.2.2.1), hm_wSh g (a 9) (hm_up (hm_up (hm_up (hm_up (hm_up (hm_up ShR 0 t1.2.2.2.2.2.2.2.2.2.2.2.2.1) 1 t1.2.2.2.2.2.2.2.2.2.2.2.2.2.1) 2 t1.2.2.2.2.2.2.2.2.2.2.2.2.2.2.1) 3 t1.2.2.2.2.2.2.2.2.2.2.2.2.2.2.2.1) 4 t1.2.2.2.2.2.2.2.2.2.2.2.2.2.2.2.2.1) 5 t1.2.2.2.2.2.2.2.2.2.2.2.2.2.2.2.2.2.1) (hm_up (hm_up ShZ 0 t1.2.2.2.2.2.2.2.2.2.2.2.2.2.2.2.2.2.2.1) 1 t1.2.2.2.2.2.2.2.2.2.2.2.2.2.2.2.2.2.2.2.1), hm_wSu g (a 10) SuA SuJ] : List va_W).flatten) rfl
                obtain rfl := Option.some.inj hF
                exact hm_ri S hr hlk X rfl rfl dX7_line_117
              · have hF := hm_nf hF c66_1
                by_cases c66_2 : x1 = 2
                · have hF := hm_if hF c66_2
                  refine hm_tabIn (off := 52) (tgt := 118) (k := 2) hx hb dX7_line_66 c66_2 (by decide) (by decide) (by decide) rfl (by decide) ?_
                  refine lv_aload_n hx hb dX7_line_118 rfl (lv_at hl 2 rfl) ?_
                  refine hm_get S X hf_X7_44 0 rfl rfl dX7_line_119 ?_
                  refine lv_iload hx hb dX7_line_122 (lv_at hl 0 rfl) ?_
                  obtain ⟨t7, ht7, hF⟩ := hm_bd hF
                  refine hm_vi (As := [.int t5]) S X mw_X1_hungAt hw_3_164 (c_X1_hungAt l g (a 7) (hm_up (hm_up (hm_up (hm_up (hm_up LeR 0 t1.2.2.2.1) 1 t1.2.2.2.2.1) 2 t1.2.2.2.2.2.1) 3 t1.2.2.2.2.2.2.1) 4 t1.2.2.2.2.2.2.2.1) (hm_up (hm_up (hm_up (hm_up LeZ 0 t1.2.2.2.2.2.2.2.2.1) 1 t1.2.2.2.2.2.2.2.2.2.1) 2 t1.2.2.2.2.2.2.2.2.2.2.1) 3 t1.2.2.2.2.2.2.2.2.2.2.2.1) t5 t7 ht7) (hm_mid [[(a 0 0, .inr (7, [.ref (a 1 0), .ref (a 2 0), .ref (a 3 0), .ref (a 4 0), .ref (a 5 0), .ref (a 6 0), .ref (a 7 0), .ref (a 8 0), .ref (a 9 0), .ref (a 10 0), .int t1.2.2.2.2.2.2.2.2.2.2.2.2.2.2.2.2.2.2.2.2, .int (Z 1)]))], hm_row g (a 1 0) (a 1 1) 200 (R 0), hm_wSc g (a 2) ScR, hm_wSe g (a 3) SeR SeA, hm_row g (a 4 0) (a 4 1) 100 (R 1), hm_row g (a 5 0) (a 5 1) 6 (R 2), hm_row g (a 6 0) (a 6 1) 6 (R 3)] [hm_wBr g (a 8) (hm_up (hm_up (hm_up BrA 0 t1.1) 1 t1.2.1) 2 t1.2.2.1), hm_wSh g (a 9) (hm_up (hm_up (hm_up (hm_up (hm_up (hm_up ShR 0 t1.2.2.2.2.2.2.2.2.2.2.2.2.1) 1 t1.2.2.2.2.2.2.2.2.2.2.2.2.2.1) 2 t1.2.2.2.2.2.2.2.2.2.2.2.2.2.2.1) 3 t1.2.2.2.2.2.2.2.2.2.2.2.2.2.2.2.1) 4 t1.2.2.2.2.2.2.2.2.2.2.2.2.2.2.2.2.1) 5 t1.2.2.2.2.2.2.2.2.2.2.2.2.2.2.2.2.2.1) (hm_up (hm_up ShZ 0 t1.2.2.2.2.2.2.2.2.2.2.2.2.2.2.2.2.2.2.1) 1 t1.2.2.2.2.2.2.2.2.2.2.2.2.2.2.2.2.2.2.2.1), hm_wSu g (a 10) SuA SuJ]) (hm_mid [[(a 0 0, .inr (7, [.ref (a 1 0), .ref (a 2 0), .ref (a 3 0), .ref (a 4 0), .ref (a 5 0), .ref (a 6 0), .ref (a 7 0), .ref (a 8 0), .ref (a 9 0), .ref (a 10 0), .int t1.2.2.2.2.2.2.2.2.2.2.2.2.2.2.2.2.2.2.2.2, .int (Z 1)]))], hm_row g (a 1 0) (a 1 1) 200 (R 0), hm_wSc g (a 2) ScR, hm_wSe g (a 3) SeR SeA, hm_row g (a 4 0) (a 4 1) 100 (R 1), hm_row g (a 5 0) (a 5 1) 6 (R 2), hm_row g (a 6 0) (a 6 1) 6 (R 3)] [hm_wBr g (a 8) (hm_up (hm_up (hm_up BrA 0 t1.1) 1 t1.2.1) 2 t1.2.2.1), hm_wSh g (a 9) (hm_up (hm_up (hm_up (hm_up (hm_up (hm_up ShR 0 t1.2.2.2.2.2.2.2.2.2.2.2.2.1) 1 t1.2.2.2.2.2.2.2.2.2.2.2.2.2.1) 2 t1.2.2.2.2.2.2.2.2.2.2.2.2.2.2.1) 3 t1.2.2.2.2.2.2.2.2.2.2.2.2.2.2.2.1) 4 t1.2.2.2.2.2.2.2.2.2.2.2.2.2.2.2.2.1) 5 t1.2.2.2.2.2.2.2.2.2.2.2.2.2.2.2.2.2.1) (hm_up (hm_up ShZ 0 t1.2.2.2.2.2.2.2.2.2.2.2.2.2.2.2.2.2.2.1) 1 t1.2.2.2.2.2.2.2.2.2.2.2.2.2.2.2.2.2.2.2.1), hm_wSu g (a 10) SuA SuJ] (b := hm_wLe g (a 7) (hm_up (hm_up (hm_up (hm_up (hm_up LeR 0 t1.2.2.2.1) 1 t1.2.2.2.2.1) 2 t1.2.2.2.2.2.1) 3 t1.2.2.2.2.2.2.1) 4 t1.2.2.2.2.2.2.2.1) (hm_up (hm_up (hm_up (hm_up LeZ 0 t1.2.2.2.2.2.2.2.2.1) 1 t1.2.2.2.2.2.2.2.2.2.1) 2 t1.2.2.2.2.2.2.2.2.2.2.1) 3 t1.2.2.2.2.2.2.2.2.2.2.2.1))) rfl rfl rfl ⟨rfl, rfl, Nat.le_of_ble_eq_true rfl, Nat.le_of_ble_eq_true rfl⟩ rfl hl.1 rfl (Nat.le_of_ble_eq_true rfl) dX7_line_124 ⟨Nat.zero_le _, Nat.zero_le _⟩ (fun H locs X => ?_)
                  have X := X.to (ws' := ([[(a 0 0, .inr (7, [.ref (a 1 0), .ref (a 2 0), .ref (a 3 0), .ref (a 4 0), .ref (a 5 0), .ref (a 6 0), .ref (a 7 0), .ref (a 8 0), .ref (a 9 0), .ref (a 10 0), .int t1.2.2.2.2.2.2.2.2.2.2.2.2.2.2.2.2.2.2.2.2, .int (Z 1)]))], hm_row g (a 1 0) (a 1 1) 200 (R 0), hm_wSc g (a 2) ScR, hm_wSe g (a 3) SeR SeA, hm_row g (a 4 0) (a 4 1) 100 (R 1), hm_row g (a 5 0) (a 5 1) 6 (R 2), hm_row g (a 6 0) (a 6 1) 6 (R 3), hm_wLe g (a 7) (hm_up (hm_up (hm_up (hm_up (hm_up LeR 0 t1.2.2.2.1) 1 t1.2.2.2.2.1) 2 t1.2.2.2.2.2.1) 3 t1.2.2.2.2.2.2.1) 4 t1.2.2.2.2.2.2.2.1) (hm_up (hm_up (hm_up (hm_up LeZ 0 t1.2.2.2.2.2.2.2.2.1) 1 t1.2.2.2.2.2.2.2.2.2.1) 2 t1.2.2.2.2.2.2.2.2.2.2.1) 3 t1.2.2.2.2.2.2.2.2.2.2.2.1), hm_wBr g (a 8) (hm_up (hm_up (hm_up BrA 0 t1.1) 1 t1.2.1) 2 t1.2.2.1), hm_wSh g (a 9) (hm_up (hm_up (hm_up (hm_up (hm_up (hm_up ShR 0 t1.2.2.2.2.2.2.2.2.2.2.2.2.1) 1 t1.2.2.2.2.2.2.2.2.2.2.2.2.2.1) 2 t1.2.2.2.2.2.2.2.2.2.2.2.2.2.2.1) 3 t1.2.2.2.2.2.2.2.2.2.2.2.2.2.2.2.1) 4 t1.2.2.2.2.2.2.2.2.2.2.2.2.2.2.2.2.1) 5 t1.2.2.2.2.2.2.2.2.2.2.2.2.2.2.2.2.2.1) (hm_up (hm_up ShZ 0 t1.2.2.2.2.2.2.2.2.2.2.2.2.2.2.2.2.2.2.1) 1 t1.2.2.2.2.2.2.2.2.2.2.2.2.2.2.2.2.2.2.2.1), hm_wSu g (a 10) SuA SuJ] : List va_W).flatten) rfl
                  obtain rfl := Option.some.inj hF
                  exact hm_ri S hr hlk X rfl rfl dX7_line_127
                · have hF := hm_nf hF c66_2
                  by_cases c66_3 : x1 = 3
                  · have hF := hm_if hF c66_3
                    refine hm_tabIn (off := 62) (tgt := 128) (k := 3) hx hb dX7_line_66 c66_3 (by decide) (by decide) (by decide) rfl (by decide) ?_
                    refine lv_aload_n hx hb dX7_line_128 rfl (lv_at hl 2 rfl) ?_
                    refine hm_get S X hf_X7_44 0 rfl rfl dX7_line_129 ?_
                    refine lv_iload_n hx hb dX7_line_132 rfl (lv_at hl 1 rfl) ?_
                    refine lv_iload hx hb dX7_line_133 (lv_at hl 0 rfl) ?_
                    obtain ⟨t8, ht8, hF⟩ := hm_bd hF
                    refine hm_vi (As := [.int t4, .int t5]) S X mw_X1_left hw_3_168 (c_X1_left l g (a 7) (hm_up (hm_up (hm_up (hm_up (hm_up LeR 0 t1.2.2.2.1) 1 t1.2.2.2.2.1) 2 t1.2.2.2.2.2.1) 3 t1.2.2.2.2.2.2.1) 4 t1.2.2.2.2.2.2.2.1) (hm_up (hm_up (hm_up (hm_up LeZ 0 t1.2.2.2.2.2.2.2.2.1) 1 t1.2.2.2.2.2.2.2.2.2.1) 2 t1.2.2.2.2.2.2.2.2.2.2.1) 3 t1.2.2.2.2.2.2.2.2.2.2.2.1) t4 t5 t8 ht8) (hm_mid [[(a 0 0, .inr (7, [.ref (a 1 0), .ref (a 2 0), .ref (a 3 0), .ref (a 4 0), .ref (a 5 0), .ref (a 6 0), .ref (a 7 0), .ref (a 8 0), .ref (a 9 0), .ref (a 10 0), .int t1.2.2.2.2.2.2.2.2.2.2.2.2.2.2.2.2.2.2.2.2, .int (Z 1)]))], hm_row g (a 1 0) (a 1 1) 200 (R 0), hm_wSc g (a 2) ScR, hm_wSe g (a 3) SeR SeA, hm_row g (a 4 0) (a 4 1) 100 (R 1), hm_row g (a 5 0) (a 5 1) 6 (R 2), hm_row g (a 6 0) (a 6 1) 6 (R 3)] [hm_wBr g (a 8) (hm_up (hm_up (hm_up BrA 0 t1.1) 1 t1.2.1) 2 t1.2.2.1), hm_wSh g (a 9) (hm_up (hm_up (hm_up (hm_up (hm_up (hm_up ShR 0 t1.2.2.2.2.2.2.2.2.2.2.2.2.1) 1 t1.2.2.2.2.2.2.2.2.2.2.2.2.2.1) 2 t1.2.2.2.2.2.2.2.2.2.2.2.2.2.2.1) 3 t1.2.2.2.2.2.2.2.2.2.2.2.2.2.2.2.1) 4 t1.2.2.2.2.2.2.2.2.2.2.2.2.2.2.2.2.1) 5 t1.2.2.2.2.2.2.2.2.2.2.2.2.2.2.2.2.2.1) (hm_up (hm_up ShZ 0 t1.2.2.2.2.2.2.2.2.2.2.2.2.2.2.2.2.2.2.1) 1 t1.2.2.2.2.2.2.2.2.2.2.2.2.2.2.2.2.2.2.2.1), hm_wSu g (a 10) SuA SuJ]) (hm_mid [[(a 0 0, .inr (7, [.ref (a 1 0), .ref (a 2 0), .ref (a 3 0), .ref (a 4 0), .ref (a 5 0), .ref (a 6 0), .ref (a 7 0), .ref (a 8 0), .ref (a 9 0), .ref (a 10 0), .int t1.2.2.2.2.2.2.2.2.2.2.2.2.2.2.2.2.2.2.2.2, .int (Z 1)]))], hm_row g (a 1 0) (a 1 1) 200 (R 0), hm_wSc g (a 2) ScR, hm_wSe g (a 3) SeR SeA, hm_row g (a 4 0) (a 4 1) 100 (R 1), hm_row g (a 5 0) (a 5 1) 6 (R 2), hm_row g (a 6 0) (a 6 1) 6 (R 3)] [hm_wBr g (a 8) (hm_up (hm_up (hm_up BrA 0 t1.1) 1 t1.2.1) 2 t1.2.2.1), hm_wSh g (a 9) (hm_up (hm_up (hm_up (hm_up (hm_up (hm_up ShR 0 t1.2.2.2.2.2.2.2.2.2.2.2.2.1) 1 t1.2.2.2.2.2.2.2.2.2.2.2.2.2.1) 2 t1.2.2.2.2.2.2.2.2.2.2.2.2.2.2.1) 3 t1.2.2.2.2.2.2.2.2.2.2.2.2.2.2.2.1) 4 t1.2.2.2.2.2.2.2.2.2.2.2.2.2.2.2.2.1) 5 t1.2.2.2.2.2.2.2.2.2.2.2.2.2.2.2.2.2.1) (hm_up (hm_up ShZ 0 t1.2.2.2.2.2.2.2.2.2.2.2.2.2.2.2.2.2.2.1) 1 t1.2.2.2.2.2.2.2.2.2.2.2.2.2.2.2.2.2.2.2.1), hm_wSu g (a 10) SuA SuJ] (b := hm_wLe g (a 7) (hm_up (hm_up (hm_up (hm_up (hm_up LeR 0 t1.2.2.2.1) 1 t1.2.2.2.2.1) 2 t1.2.2.2.2.2.1) 3 t1.2.2.2.2.2.2.1) 4 t1.2.2.2.2.2.2.2.1) (hm_up (hm_up (hm_up (hm_up LeZ 0 t1.2.2.2.2.2.2.2.2.1) 1 t1.2.2.2.2.2.2.2.2.2.1) 2 t1.2.2.2.2.2.2.2.2.2.2.1) 3 t1.2.2.2.2.2.2.2.2.2.2.2.1))) rfl rfl rfl ⟨rfl, rfl, Nat.le_of_ble_eq_true rfl, Nat.le_of_ble_eq_true rfl⟩ rfl hl.1 rfl (Nat.le_of_ble_eq_true rfl) dX7_line_135 ⟨Nat.zero_le _, Nat.zero_le _⟩ (fun H locs X => ?_)
                    have X := X.to (ws' := ([[(a 0 0, .inr (7, [.ref (a 1 0), .ref (a 2 0), .ref (a 3 0), .ref (a 4 0), .ref (a 5 0), .ref (a 6 0), .ref (a 7 0), .ref (a 8 0), .ref (a 9 0), .ref (a 10 0), .int t1.2.2.2.2.2.2.2.2.2.2.2.2.2.2.2.2.2.2.2.2, .int (Z 1)]))], hm_row g (a 1 0) (a 1 1) 200 (R 0), hm_wSc g (a 2) ScR, hm_wSe g (a 3) SeR SeA, hm_row g (a 4 0) (a 4 1) 100 (R 1), hm_row g (a 5 0) (a 5 1) 6 (R 2), hm_row g (a 6 0) (a 6 1) 6 (R 3), hm_wLe g (a 7) (hm_up (hm_up (hm_up (hm_up (hm_up LeR 0 t1.2.2.2.1) 1 t1.2.2.2.2.1) 2 t1.2.2.2.2.2.1) 3 t1.2.2.2.2.2.2.1) 4 t1.2.2.2.2.2.2.2.1) (hm_up (hm_up (hm_up (hm_up LeZ 0 t1.2.2.2.2.2.2.2.2.1) 1 t1.2.2.2.2.2.2.2.2.2.1) 2 t1.2.2.2.2.2.2.2.2.2.2.1) 3 t1.2.2.2.2.2.2.2.2.2.2.2.1), hm_wBr g (a 8) (hm_up (hm_up (hm_up BrA 0 t1.1) 1 t1.2.1) 2 t1.2.2.1), hm_wSh g (a 9) (hm_up (hm_up (hm_up (hm_up (hm_up (hm_up ShR 0 t1.2.2.2.2.2.2.2.2.2.2.2.2.1) 1 t1.2.2.2.2.2.2.2.2.2.2.2.2.2.1) 2 t1.2.2.2.2.2.2.2.2.2.2.2.2.2.2.1) 3 t1.2.2.2.2.2.2.2.2.2.2.2.2.2.2.2.1) 4 t1.2.2.2.2.2.2.2.2.2.2.2.2.2.2.2.2.1) 5 t1.2.2.2.2.2.2.2.2.2.2.2.2.2.2.2.2.2.1) (hm_up (hm_up ShZ 0 t1.2.2.2.2.2.2.2.2.2.2.2.2.2.2.2.2.2.2.1) 1 t1.2.2.2.2.2.2.2.2.2.2.2.2.2.2.2.2.2.2.2.1), hm_wSu g (a 10) SuA SuJ] : List va_W).flatten) rfl
                    obtain rfl := Option.some.inj hF
                    exact hm_ri S hr hlk X rfl rfl dX7_line_138
                  · have hF := hm_nf hF c66_3
                    by_cases c66_4 : x1 = 4
                    · have hF := hm_if hF c66_4
                      refine hm_tabIn (off := 73) (tgt := 139) (k := 4) hx hb dX7_line_66 c66_4 (by decide) (by decide) (by decide) rfl (by decide) ?_
                      refine lv_aload_n hx hb dX7_line_139 rfl (lv_at hl 2 rfl) ?_
                      refine hm_get S X hf_X7_44 0 rfl rfl dX7_line_140 ?_
                      refine lv_iload_n hx hb dX7_line_143 rfl (lv_at hl 1 rfl) ?_
                      refine lv_iload hx hb dX7_line_144 (lv_at hl 0 rfl) ?_
                      obtain ⟨t9, ht9, hF⟩ := hm_bd hF
                      refine hm_vi (As := [.int t4, .int t5]) S X mw_X1_cost hw_3_169 (c_X1_cost l g (a 7) (hm_up (hm_up (hm_up (hm_up (hm_up LeR 0 t1.2.2.2.1) 1 t1.2.2.2.2.1) 2 t1.2.2.2.2.2.1) 3 t1.2.2.2.2.2.2.1) 4 t1.2.2.2.2.2.2.2.1) (hm_up (hm_up (hm_up (hm_up LeZ 0 t1.2.2.2.2.2.2.2.2.1) 1 t1.2.2.2.2.2.2.2.2.2.1) 2 t1.2.2.2.2.2.2.2.2.2.2.1) 3 t1.2.2.2.2.2.2.2.2.2.2.2.1) t4 t5 t9 ht9) (hm_mid [[(a 0 0, .inr (7, [.ref (a 1 0), .ref (a 2 0), .ref (a 3 0), .ref (a 4 0), .ref (a 5 0), .ref (a 6 0), .ref (a 7 0), .ref (a 8 0), .ref (a 9 0), .ref (a 10 0), .int t1.2.2.2.2.2.2.2.2.2.2.2.2.2.2.2.2.2.2.2.2, .int (Z 1)]))], hm_row g (a 1 0) (a 1 1) 200 (R 0), hm_wSc g (a 2) ScR, hm_wSe g (a 3) SeR SeA, hm_row g (a 4 0) (a 4 1) 100 (R 1), hm_row g (a 5 0) (a 5 1) 6 (R 2), hm_row g (a 6 0) (a 6 1) 6 (R 3)] [hm_wBr g (a 8) (hm_up (hm_up (hm_up BrA 0 t1.1) 1 t1.2.1) 2 t1.2.2.1), hm_wSh g (a 9) (hm_up (hm_up (hm_up (hm_up (hm_up (hm_up ShR 0 t1.2.2.2.2.2.2.2.2.2.2.2.2.1) 1 t1.2.2.2.2.2.2.2.2.2.2.2.2.2.1) 2 t1.2.2.2.2.2.2.2.2.2.2.2.2.2.2.1) 3 t1.2.2.2.2.2.2.2.2.2.2.2.2.2.2.2.1) 4 t1.2.2.2.2.2.2.2.2.2.2.2.2.2.2.2.2.1) 5 t1.2.2.2.2.2.2.2.2.2.2.2.2.2.2.2.2.2.1) (hm_up (hm_up ShZ 0 t1.2.2.2.2.2.2.2.2.2.2.2.2.2.2.2.2.2.2.1) 1 t1.2.2.2.2.2.2.2.2.2.2.2.2.2.2.2.2.2.2.2.1), hm_wSu g (a 10) SuA SuJ]) (hm_mid [[(a 0 0, .inr (7, [.ref (a 1 0), .ref (a 2 0), .ref (a 3 0), .ref (a 4 0), .ref (a 5 0), .ref (a 6 0), .ref (a 7 0), .ref (a 8 0), .ref (a 9 0), .ref (a 10 0), .int t1.2.2.2.2.2.2.2.2.2.2.2.2.2.2.2.2.2.2.2.2, .int (Z 1)]))], hm_row g (a 1 0) (a 1 1) 200 (R 0), hm_wSc g (a 2) ScR, hm_wSe g (a 3) SeR SeA, hm_row g (a 4 0) (a 4 1) 100 (R 1), hm_row g (a 5 0) (a 5 1) 6 (R 2), hm_row g (a 6 0) (a 6 1) 6 (R 3)] [hm_wBr g (a 8) (hm_up (hm_up (hm_up BrA 0 t1.1) 1 t1.2.1) 2 t1.2.2.1), hm_wSh g (a 9) (hm_up (hm_up (hm_up (hm_up (hm_up (hm_up ShR 0 t1.2.2.2.2.2.2.2.2.2.2.2.2.1) 1 t1.2.2.2.2.2.2.2.2.2.2.2.2.2.1) 2 t1.2.2.2.2.2.2.2.2.2.2.2.2.2.2.1) 3 t1.2.2.2.2.2.2.2.2.2.2.2.2.2.2.2.1) 4 t1.2.2.2.2.2.2.2.2.2.2.2.2.2.2.2.2.1) 5 t1.2.2.2.2.2.2.2.2.2.2.2.2.2.2.2.2.2.1) (hm_up (hm_up ShZ 0 t1.2.2.2.2.2.2.2.2.2.2.2.2.2.2.2.2.2.2.1) 1 t1.2.2.2.2.2.2.2.2.2.2.2.2.2.2.2.2.2.2.2.1), hm_wSu g (a 10) SuA SuJ] (b := hm_wLe g (a 7) (hm_up (hm_up (hm_up (hm_up (hm_up LeR 0 t1.2.2.2.1) 1 t1.2.2.2.2.1) 2 t1.2.2.2.2.2.1) 3 t1.2.2.2.2.2.2.1) 4 t1.2.2.2.2.2.2.2.1) (hm_up (hm_up (hm_up (hm_up LeZ 0 t1.2.2.2.2.2.2.2.2.1) 1 t1.2.2.2.2.2.2.2.2.2.1) 2 t1.2.2.2.2.2.2.2.2.2.2.1) 3 t1.2.2.2.2.2.2.2.2.2.2.2.1))) rfl rfl rfl ⟨rfl, rfl, Nat.le_of_ble_eq_true rfl, Nat.le_of_ble_eq_true rfl⟩ rfl hl.1 rfl (Nat.le_of_ble_eq_true rfl) dX7_line_146 ⟨Nat.zero_le _, Nat.zero_le _⟩ (fun H locs X => ?_)
                      have X := X.to (ws' := ([[(a 0 0, .inr (7, [.ref (a 1 0), .ref (a 2 0), .ref (a 3 0), .ref (a 4 0), .ref (a 5 0), .ref (a 6 0), .ref (a 7 0), .ref (a 8 0), .ref (a 9 0), .ref (a 10 0), .int t1.2.2.2.2.2.2.2.2.2.2.2.2.2.2.2.2.2.2.2.2, .int (Z 1)]))], hm_row g (a 1 0) (a 1 1) 200 (R 0), hm_wSc g (a 2) ScR, hm_wSe g (a 3) SeR SeA, hm_row g (a 4 0) (a 4 1) 100 (R 1), hm_row g (a 5 0) (a 5 1) 6 (R 2), hm_row g (a 6 0) (a 6 1) 6 (R 3), hm_wLe g (a 7) (hm_up (hm_up (hm_up (hm_up (hm_up LeR 0 t1.2.2.2.1) 1 t1.2.2.2.2.1) 2 t1.2.2.2.2.2.1) 3 t1.2.2.2.2.2.2.1) 4 t1.2.2.2.2.2.2.2.1) (hm_up (hm_up (hm_up (hm_up LeZ 0 t1.2.2.2.2.2.2.2.2.1) 1 t1.2.2.2.2.2.2.2.2.2.1) 2 t1.2.2.2.2.2.2.2.2.2.2.1) 3 t1.2.2.2.2.2.2.2.2.2.2.2.1), hm_wBr g (a 8) (hm_up (hm_up (hm_up BrA 0 t1.1) 1 t1.2.1) 2 t1.2.2.1), hm_wSh g (a 9) (hm_up (hm_up (hm_up (hm_up (hm_up (hm_up ShR 0 t1.2.2.2.2.2.2.2.2.2.2.2.2.1) 1 t1.2.2.2.2.2.2.2.2.2.2.2.2.2.1) 2 t1.2.2.2.2.2.2.2.2.2.2.2.2.2.2.1) 3 t1.2.2.2.2.2.2.2.2.2.2.2.2.2.2.2.1) 4 t1.2.2.2.2.2.2.2.2.2.2.2.2.2.2.2.2.1) 5 t1.2.2.2.2.2.2.2.2.2.2.2.2.2.2.2.2.2.1) (hm_up (hm_up ShZ 0 t1.2.2.2.2.2.2.2.2.2.2.2.2.2.2.2.2.2.2.1) 1 t1.2.2.2.2.2.2.2.2.2.2.2.2.2.2.2.2.2.2.2.1), hm_wSu g (a 10) SuA SuJ] : List va_W).flatten) rfl
                      obtain rfl := Option.some.inj hF
                      exact hm_ri S hr hlk X rfl rfl dX7_line_149
                    · have hF := hm_nf hF c66_4
                      by_cases c66_5 : x1 = 5
                      · have hF := hm_if hF c66_5
                        refine hm_tabIn (off := 84) (tgt := 150) (k := 5) hx hb dX7_line_66 c66_5 (by decide) (by decide) (by decide) rfl (by decide) ?_
                        refine lv_aload_n hx hb dX7_line_150 rfl (lv_at hl 2 rfl) ?_
                        refine hm_get S X hf_X7_44 0 rfl rfl dX7_line_151 ?_
                        refine lv_iload_n hx hb dX7_line_154 rfl (lv_at hl 1 rfl) ?_
                        refine lv_iload hx hb dX7_line_155 (lv_at hl 0 rfl) ?_
                        obtain ⟨t10, ht10, hF⟩ := hm_bd hF
                        refine hm_vi (As := [.int t4, .int t5]) S X mw_X1_blanks hw_3_175 (c_X1_blanks l g (a 7) (hm_up (hm_up (hm_up (hm_up (hm_up LeR 0 t1.2.2.2.1) 1 t1.2.2.2.2.1) 2 t1.2.2.2.2.2.1) 3 t1.2.2.2.2.2.2.1) 4 t1.2.2.2.2.2.2.2.1) (hm_up (hm_up (hm_up (hm_up LeZ 0 t1.2.2.2.2.2.2.2.2.1) 1 t1.2.2.2.2.2.2.2.2.2.1) 2 t1.2.2.2.2.2.2.2.2.2.2.1) 3 t1.2.2.2.2.2.2.2.2.2.2.2.1) t4 t5 t10 ht10) (hm_mid [[(a 0 0, .inr (7, [.ref (a 1 0), .ref (a 2 0), .ref (a 3 0), .ref (a 4 0), .ref (a 5 0), .ref (a 6 0), .ref (a 7 0), .ref (a 8 0), .ref (a 9 0), .ref (a 10 0), .int t1.2.2.2.2.2.2.2.2.2.2.2.2.2.2.2.2.2.2.2.2, .int (Z 1)]))], hm_row g (a 1 0) (a 1 1) 200 (R 0), hm_wSc g (a 2) ScR, hm_wSe g (a 3) SeR SeA, hm_row g (a 4 0) (a 4 1) 100 (R 1), hm_row g (a 5 0) (a 5 1) 6 (R 2), hm_row g (a 6 0) (a 6 1) 6 (R 3)] [hm_wBr g (a 8) (hm_up (hm_up (hm_up BrA 0 t1.1) 1 t1.2.1) 2 t1.2.2.1), hm_wSh g (a 9) (hm_up (hm_up (hm_up (hm_up (hm_up (hm_up ShR 0 t1.2.2.2.2.2.2.2.2.2.2.2.2.1) 1 t1.2.2.2.2.2.2.2.2.2.2.2.2.2.1) 2 t1.2.2.2.2.2.2.2.2.2.2.2.2.2.2.1) 3 t1.2.2.2.2.2.2.2.2.2.2.2.2.2.2.2.1) 4 t1.2.2.2.2.2.2.2.2.2.2.2.2.2.2.2.2.1) 5 t1.2.2.2.2.2.2.2.2.2.2.2.2.2.2.2.2.2.1) (hm_up (hm_up ShZ 0 t1.2.2.2.2.2.2.2.2.2.2.2.2.2.2.2.2.2.2.1) 1 t1.2.2.2.2.2.2.2.2.2.2.2.2.2.2.2.2.2.2.2.1), hm_wSu g (a 10) SuA SuJ]) (hm_mid [[(a 0 0, .inr (7, [.ref (a 1 0), .ref (a 2 0), .ref (a 3 0), .ref (a 4 0), .ref (a 5 0), .ref (a 6 0), .ref (a 7 0), .ref (a 8 0), .ref (a 9 0), .ref (a 10 0), .int t1.2.2.2.2.2.2.2.2.2.2.2.2.2.2.2.2.2.2.2.2, .int (Z 1)]))], hm_row g (a 1 0) (a 1 1) 200 (R 0), hm_wSc g (a 2) ScR, hm_wSe g (a 3) SeR SeA, hm_row g (a 4 0) (a 4 1) 100 (R 1), hm_row g (a 5 0) (a 5 1) 6 (R 2), hm_row g (a 6 0) (a 6 1) 6 (R 3)] [hm_wBr g (a 8) (hm_up (hm_up (hm_up BrA 0 t1.1) 1 t1.2.1) 2 t1.2.2.1), hm_wSh g (a 9) (hm_up (hm_up (hm_up (hm_up (hm_up (hm_up ShR 0 t1.2.2.2.2.2.2.2.2.2.2.2.2.1) 1 t1.2.2.2.2.2.2.2.2.2.2.2.2.2.1) 2 t1.2.2.2.2.2.2.2.2.2.2.2.2.2.2.1) 3 t1.2.2.2.2.2.2.2.2.2.2.2.2.2.2.2.1) 4 t1.2.2.2.2.2.2.2.2.2.2.2.2.2.2.2.2.1) 5 t1.2.2.2.2.2.2.2.2.2.2.2.2.2.2.2.2.2.1) (hm_up (hm_up ShZ 0 t1.2.2.2.2.2.2.2.2.2.2.2.2.2.2.2.2.2.2.1) 1 t1.2.2.2.2.2.2.2.2.2.2.2.2.2.2.2.2.2.2.2.1), hm_wSu g (a 10) SuA SuJ] (b := hm_wLe g (a 7) (hm_up (hm_up (hm_up (hm_up (hm_up LeR 0 t1.2.2.2.1) 1 t1.2.2.2.2.1) 2 t1.2.2.2.2.2.1) 3 t1.2.2.2.2.2.2.1) 4 t1.2.2.2.2.2.2.2.1) (hm_up (hm_up (hm_up (hm_up LeZ 0 t1.2.2.2.2.2.2.2.2.1) 1 t1.2.2.2.2.2.2.2.2.2.1) 2 t1.2.2.2.2.2.2.2.2.2.2.1) 3 t1.2.2.2.2.2.2.2.2.2.2.2.1))) rfl rfl rfl ⟨rfl, rfl, Nat.le_of_ble_eq_true rfl, Nat.le_of_ble_eq_true rfl⟩ rfl hl.1 rfl (Nat.le_of_ble_eq_true rfl) dX7_line_157 ⟨Nat.zero_le _, Nat.zero_le _⟩ (fun H locs X => ?_)
                        have X := X.to (ws' := ([[(a 0 0, .inr (7, [.ref (a 1 0), .ref (a 2 0), .ref (a 3 0), .ref (a 4 0), .ref (a 5 0), .ref (a 6 0), .ref (a 7 0), .ref (a 8 0), .ref (a 9 0), .ref (a 10 0), .int t1.2.2.2.2.2.2.2.2.2.2.2.2.2.2.2.2.2.2.2.2, .int (Z 1)]))], hm_row g (a 1 0) (a 1 1) 200 (R 0), hm_wSc g (a 2) ScR, hm_wSe g (a 3) SeR SeA, hm_row g (a 4 0) (a 4 1) 100 (R 1), hm_row g (a 5 0) (a 5 1) 6 (R 2), hm_row g (a 6 0) (a 6 1) 6 (R 3), hm_wLe g (a 7) (hm_up (hm_up (hm_up (hm_up (hm_up LeR 0 t1.2.2.2.1) 1 t1.2.2.2.2.1) 2 t1.2.2.2.2.2.1) 3 t1.2.2.2.2.2.2.1) 4 t1.2.2.2.2.2.2.2.1) (hm_up (hm_up (hm_up (hm_up LeZ 0 t1.2.2.2.2.2.2.2.2.1) 1 t1.2.2.2.2.2.2.2.2.2.1) 2 t1.2.2.2.2.2.2.2.2.2.2.1) 3 t1.2.2.2.2.2.2.2.2.2.2.2.1), hm_wBr g (a 8) (hm_up (hm_up (hm_up BrA 0 t1.1) 1 t1.2.1) 2 t1.2.2.1), hm_wSh g (a 9) (hm_up (hm_up (hm_up (hm_up (hm_up (hm_up ShR 0 t1.2.2.2.2.2.2.2.2.2.2.2.2.1) 1 t1.2.2.2.2.2.2.2.2.2.2.2.2.2.1) 2 t1.2.2.2.2.2.2.2.2.2.2.2.2.2.2.1) 3 t1.2.2.2.2.2.2.2.2.2.2.2.2.2.2.2.1) 4 t1.2.2.2.2.2.2.2.2.2.2.2.2.2.2.2.2.1) 5 t1.2.2.2.2.2.2.2.2.2.2.2.2.2.2.2.2.2.1) (hm_up (hm_up ShZ 0 t1.2.2.2.2.2.2.2.2.2.2.2.2.2.2.2.2.2.2.1) 1 t1.2.2.2.2.2.2.2.2.2.2.2.2.2.2.2.2.2.2.2.1), hm_wSu g (a 10) SuA SuJ] : List va_W).flatten) rfl
                        obtain rfl := Option.some.inj hF
                        exact hm_ri S hr hlk X rfl rfl dX7_line_160
                      · have hF := hm_nf hF c66_5
                        refine lv_tableOut (tgt := 161) hx hb dX7_line_66 (hm_out 0 5 [0, 1, 2, 3, 4, 5] (by decide) (List.forall_mem_cons.mpr ⟨c66_0, List.forall_mem_cons.mpr ⟨c66_1, List.forall_mem_cons.mpr ⟨c66_2, List.forall_mem_cons.mpr ⟨c66_3, List.forall_mem_cons.mpr ⟨c66_4, List.forall_mem_cons.mpr ⟨c66_5, fun _ h => absurd h List.not_mem_nil⟩⟩⟩⟩⟩⟩)) (by decide) ?_
                        refine lv_aload_n hx hb dX7_line_161 rfl (lv_at hl 2 rfl) ?_
                        refine hm_get S X hf_X7_44 0 rfl rfl dX7_line_162 ?_
                        refine lv_iload_n hx hb dX7_line_165 rfl (lv_at hl 1 rfl) ?_
                        refine lv_iload hx hb dX7_line_166 (lv_at hl 0 rfl) ?_
                        obtain ⟨t11, ht11, hF⟩ := hm_bd hF
                        refine hm_vi (As := [.int t4, .int t5]) S X mw_X1_natural hw_3_163 (c_X1_natural l g (a 7) (hm_up (hm_up (hm_up (hm_up (hm_up LeR 0 t1.2.2.2.1) 1 t1.2.2.2.2.1) 2 t1.2.2.2.2.2.1) 3 t1.2.2.2.2.2.2.1) 4 t1.2.2.2.2.2.2.2.1) (hm_up (hm_up (hm_up (hm_up LeZ 0 t1.2.2.2.2.2.2.2.2.1) 1 t1.2.2.2.2.2.2.2.2.2.1) 2 t1.2.2.2.2.2.2.2.2.2.2.1) 3 t1.2.2.2.2.2.2.2.2.2.2.2.1) t4 t5 t11 ht11) (hm_mid [[(a 0 0, .inr (7, [.ref (a 1 0), .ref (a 2 0), .ref (a 3 0), .ref (a 4 0), .ref (a 5 0), .ref (a 6 0), .ref (a 7 0), .ref (a 8 0), .ref (a 9 0), .ref (a 10 0), .int t1.2.2.2.2.2.2.2.2.2.2.2.2.2.2.2.2.2.2.2.2, .int (Z 1)]))], hm_row g (a 1 0) (a 1 1) 200 (R 0), hm_wSc g (a 2) ScR, hm_wSe g (a 3) SeR SeA, hm_row g (a 4 0) (a 4 1) 100 (R 1), hm_row g (a 5 0) (a 5 1) 6 (R 2), hm_row g (a 6 0) (a 6 1) 6 (R 3)] [hm_wBr g (a 8) (hm_up (hm_up (hm_up BrA 0 t1.1) 1 t1.2.1) 2 t1.2.2.1), hm_wSh g (a 9) (hm_up (hm_up (hm_up (hm_up (hm_up (hm_up ShR 0 t1.2.2.2.2.2.2.2.2.2.2.2.2.1) 1 t1.2.2.2.2.2.2.2.2.2.2.2.2.2.1) 2 t1.2.2.2.2.2.2.2.2.2.2.2.2.2.2.1) 3 t1.2.2.2.2.2.2.2.2.2.2.2.2.2.2.2.1) 4 t1.2.2.2.2.2.2.2.2.2.2.2.2.2.2.2.2.1) 5 t1.2.2.2.2.2.2.2.2.2.2.2.2.2.2.2.2.2.1) (hm_up (hm_up ShZ 0 t1.2.2.2.2.2.2.2.2.2.2.2.2.2.2.2.2.2.2.1) 1 t1.2.2.2.2.2.2.2.2.2.2.2.2.2.2.2.2.2.2.2.1), hm_wSu g (a 10) SuA SuJ]) (hm_mid [[(a 0 0, .inr (7, [.ref (a 1 0), .ref (a 2 0), .ref (a 3 0), .ref (a 4 0), .ref (a 5 0), .ref (a 6 0), .ref (a 7 0), .ref (a 8 0), .ref (a 9 0), .ref (a 10 0), .int t1.2.2.2.2.2.2.2.2.2.2.2.2.2.2.2.2.2.2.2.2, .int (Z 1)]))], hm_row g (a 1 0) (a 1 1) 200 (R 0), hm_wSc g (a 2) ScR, hm_wSe g (a 3) SeR SeA, hm_row g (a 4 0) (a 4 1) 100 (R 1), hm_row g (a 5 0) (a 5 1) 6 (R 2), hm_row g (a 6 0) (a 6 1) 6 (R 3)] [hm_wBr g (a 8) (hm_up (hm_up (hm_up BrA 0 t1.1) 1 t1.2.1) 2 t1.2.2.1), hm_wSh g (a 9) (hm_up (hm_up (hm_up (hm_up (hm_up (hm_up ShR 0 t1.2.2.2.2.2.2.2.2.2.2.2.2.1) 1 t1.2.2.2.2.2.2.2.2.2.2.2.2.2.1) 2 t1.2.2.2.2.2.2.2.2.2.2.2.2.2.2.1) 3 t1.2.2.2.2.2.2.2.2.2.2.2.2.2.2.2.1) 4 t1.2.2.2.2.2.2.2.2.2.2.2.2.2.2.2.2.1) 5 t1.2.2.2.2.2.2.2.2.2.2.2.2.2.2.2.2.2.1) (hm_up (hm_up ShZ 0 t1.2.2.2.2.2.2.2.2.2.2.2.2.2.2.2.2.2.2.1) 1 t1.2.2.2.2.2.2.2.2.2.2.2.2.2.2.2.2.2.2.2.1), hm_wSu g (a 10) SuA SuJ] (b := hm_wLe g (a 7) (hm_up (hm_up (hm_up (hm_up (hm_up LeR 0 t1.2.2.2.1) 1 t1.2.2.2.2.1) 2 t1.2.2.2.2.2.1) 3 t1.2.2.2.2.2.2.1) 4 t1.2.2.2.2.2.2.2.1) (hm_up (hm_up (hm_up (hm_up LeZ 0 t1.2.2.2.2.2.2.2.2.1) 1 t1.2.2.2.2.2.2.2.2.2.1) 2 t1.2.2.2.2.2.2.2.2.2.2.1) 3 t1.2.2.2.2.2.2.2.2.2.2.2.1))) rfl rfl rfl ⟨rfl, rfl, Nat.le_of_ble_eq_true rfl, Nat.le_of_ble_eq_true rfl⟩ rfl hl.1 rfl (Nat.le_of_ble_eq_true rfl) dX7_line_168 ⟨Nat.zero_le _, Nat.zero_le _⟩ (fun H locs X => ?_)
                        have X := X.to (ws' := ([[(a 0 0, .inr (7, [.ref (a 1 0), .ref (a 2 0), .ref (a 3 0), .ref (a 4 0), .ref (a 5 0), .ref (a 6 0), .ref (a 7 0), .ref (a 8 0), .ref (a 9 0), .ref (a 10 0), .int t1.2.2.2.2.2.2.2.2.2.2.2.2.2.2.2.2.2.2.2.2, .int (Z 1)]))], hm_row g (a 1 0) (a 1 1) 200 (R 0), hm_wSc g (a 2) ScR, hm_wSe g (a 3) SeR SeA, hm_row g (a 4 0) (a 4 1) 100 (R 1), hm_row g (a 5 0) (a 5 1) 6 (R 2), hm_row g (a 6 0) (a 6 1) 6 (R 3), hm_wLe g (a 7) (hm_up (hm_up (hm_up (hm_up (hm_up LeR 0 t1.2.2.2.1) 1 t1.2.2.2.2.1) 2 t1.2.2.2.2.2.1) 3 t1.2.2.2.2.2.2.1) 4 t1.2.2.2.2.2.2.2.1) (hm_up (hm_up (hm_up (hm_up LeZ 0 t1.2.2.2.2.2.2.2.2.1) 1 t1.2.2.2.2.2.2.2.2.2.1) 2 t1.2.2.2.2.2.2.2.2.2.2.1) 3 t1.2.2.2.2.2.2.2.2.2.2.2.1), hm_wBr g (a 8) (hm_up (hm_up (hm_up BrA 0 t1.1) 1 t1.2.1) 2 t1.2.2.1), hm_wSh g (a 9) (hm_up (hm_up (hm_up (hm_up (hm_up (hm_up ShR 0 t1.2.2.2.2.2.2.2.2.2.2.2.2.1) 1 t1.2.2.2.2.2.2.2.2.2.2.2.2.2.1) 2 t1.2.2.2.2.2.2.2.2.2.2.2.2.2.2.1) 3 t1.2.2.2.2.2.2.2.2.2.2.2.2.2.2.2.1) 4 t1.2.2.2.2.2.2.2.2.2.2.2.2.2.2.2.2.1) 5 t1.2.2.2.2.2.2.2.2.2.2.2.2.2.2.2.2.2.1) (hm_up (hm_up ShZ 0 t1.2.2.2.2.2.2.2.2.2.2.2.2.2.2.2.2.2.2.1) 1 t1.2.2.2.2.2.2.2.2.2.2.2.2.2.2.2.2.2.2.2.1), hm_wSu g (a 10) SuA SuJ] : List va_W).flatten) rfl
                        refine lv_aload_n hx hb dX7_line_171 rfl (lv_at hl 2 rfl) ?_
                        refine hm_get S X hf_X7_44 0 rfl rfl dX7_line_172 ?_
                        refine lv_iload_n hx hb dX7_line_175 rfl (lv_at hl 1 rfl) ?_
                        refine lv_iload hx hb dX7_line_176 (lv_at hl 0 rfl) ?_
                        obtain ⟨t12, ht12, hF⟩ := hm_bd hF
                        refine hm_vi (As := [.int t4, .int t5]) S X mw_X1_spread hw_3_176 (c_X1_spread l g (a 7) (hm_up (hm_up (hm_up (hm_up (hm_up LeR 0 t1.2.2.2.1) 1 t1.2.2.2.2.1) 2 t1.2.2.2.2.2.1) 3 t1.2.2.2.2.2.2.1) 4 t1.2.2.2.2.2.2.2.1) (hm_up (hm_up (hm_up (hm_up LeZ 0 t1.2.2.2.2.2.2.2.2.1) 1 t1.2.2.2.2.2.2.2.2.2.1) 2 t1.2.2.2.2.2.2.2.2.2.2.1) 3 t1.2.2.2.2.2.2.2.2.2.2.2.1) t4 t5 t12 ht12) (hm_mid [[(a 0 0, .inr (7, [.ref (a 1 0), .ref (a 2 0), .ref (a 3 0), .ref (a 4 0), .ref (a 5 0), .ref (a 6 0), .ref (a 7 0), .ref (a 8 0), .ref (a 9 0), .ref (a 10 0), .int t1.2.2.2.2.2.2.2.2.2.2.2.2.2.2.2.2.2.2.2.2, .int (Z 1)]))], hm_row g (a 1 0) (a 1 1) 200 (R 0), hm_wSc g (a 2) ScR, hm_wSe g (a 3) SeR SeA, hm_row g (a 4 0) (a 4 1) 100 (R 1), hm_row g (a 5 0) (a 5 1) 6 (R 2), hm_row g (a 6 0) (a 6 1) 6 (R 3)] [hm_wBr g (a 8) (hm_up (hm_up (hm_up BrA 0 t1.1) 1 t1.2.1) 2 t1.2.2.1), hm_wSh g (a 9) (hm_up (hm_up (hm_up (hm_up (hm_up (hm_up ShR 0 t1.2.2.2.2.2.2.2.2.2.2.2.2.1) 1 t1.2.2.2.2.2.2.2.2.2.2.2.2.2.1) 2 t1.2.2.2.2.2.2.2.2.2.2.2.2.2.2.1) 3 t1.2.2.2.2.2.2.2.2.2.2.2.2.2.2.2.1) 4 t1.2.2.2.2.2.2.2.2.2.2.2.2.2.2.2.2.1) 5 t1.2.2.2.2.2.2.2.2.2.2.2.2.2.2.2.2.2.1) (hm_up (hm_up ShZ 0 t1.2.2.2.2.2.2.2.2.2.2.2.2.2.2.2.2.2.2.1) 1 t1.2.2.2.2.2.2.2.2.2.2.2.2.2.2.2.2.2.2.2.1), hm_wSu g (a 10) SuA SuJ]) (hm_mid [[(a 0 0, .inr (7, [.ref (a 1 0), .ref (a 2 0), .ref (a 3 0), .ref (a 4 0), .ref (a 5 0), .ref (a 6 0), .ref (a 7 0), .ref (a 8 0), .ref (a 9 0), .ref (a 10 0), .int t1.2.2.2.2.2.2.2.2.2.2.2.2.2.2.2.2.2.2.2.2, .int (Z 1)]))], hm_row g (a 1 0) (a 1 1) 200 (R 0), hm_wSc g (a 2) ScR, hm_wSe g (a 3) SeR SeA, hm_row g (a 4 0) (a 4 1) 100 (R 1), hm_row g (a 5 0) (a 5 1) 6 (R 2), hm_row g (a 6 0) (a 6 1) 6 (R 3)] [hm_wBr g (a 8) (hm_up (hm_up (hm_up BrA 0 t1.1) 1 t1.2.1) 2 t1.2.2.1), hm_wSh g (a 9) (hm_up (hm_up (hm_up (hm_up (hm_up (hm_up ShR 0 t1.2.2.2.2.2.2.2.2.2.2.2.2.1) 1 t1.2.2.2.2.2.2.2.2.2.2.2.2.2.1) 2 t1.2.2.2.2.2.2.2.2.2.2.2.2.2.2.1) 3 t1.2.2.2.2.2.2.2.2.2.2.2.2.2.2.2.1) 4 t1.2.2.2.2.2.2.2.2.2.2.2.2.2.2.2.2.1) 5 t1.2.2.2.2.2.2.2.2.2.2.2.2.2.2.2.2.2.1) (hm_up (hm_up ShZ 0 t1.2.2.2.2.2.2.2.2.2.2.2.2.2.2.2.2.2.2.1) 1 t1.2.2.2.2.2.2.2.2.2.2.2.2.2.2.2.2.2.2.2.1), hm_wSu g (a 10) SuA SuJ] (b := hm_wLe g (a 7) (hm_up (hm_up (hm_up (hm_up (hm_up LeR 0 t1.2.2.2.1) 1 t1.2.2.2.2.1) 2 t1.2.2.2.2.2.1) 3 t1.2.2.2.2.2.2.1) 4 t1.2.2.2.2.2.2.2.1) (hm_up (hm_up (hm_up (hm_up LeZ 0 t1.2.2.2.2.2.2.2.2.1) 1 t1.2.2.2.2.2.2.2.2.2.1) 2 t1.2.2.2.2.2.2.2.2.2.2.1) 3 t1.2.2.2.2.2.2.2.2.2.2.2.1))) rfl rfl rfl ⟨rfl, rfl, Nat.le_of_ble_eq_true rfl, Nat.le_of_ble_eq_true rfl⟩ rfl hl.1 rfl (Nat.le_of_ble_eq_true rfl) dX7_line_178 ⟨Nat.zero_le _, Nat.zero_le _⟩ (fun H locs X => ?_)
                        have X := X.to (ws' := ([[(a 0 0, .inr (7, [.ref (a 1 0), .ref (a 2 0), .ref (a 3 0), .ref (a 4 0), .ref (a 5 0), .ref (a 6 0), .ref (a 7 0), .ref (a 8 0), .ref (a 9 0), .ref (a 10 0), .int t1.2.2.2.2.2.2.2.2.2.2.2.2.2.2.2.2.2.2.2.2, .int (Z 1)]))], hm_row g (a 1 0) (a 1 1) 200 (R 0), hm_wSc g (a 2) ScR, hm_wSe g (a 3) SeR SeA, hm_row g (a 4 0) (a 4 1) 100 (R 1), hm_row g (a 5 0) (a 5 1) 6 (R 2), hm_row g (a 6 0) (a 6 1) 6 (R 3), hm_wLe g (a 7) (hm_up (hm_up (hm_up (hm_up (hm_up LeR 0 t1.2.2.2.1) 1 t1.2.2.2.2.1) 2 t1.2.2.2.2.2.1) 3 t1.2.2.2.2.2.2.1) 4 t1.2.2.2.2.2.2.2.1) (hm_up (hm_up (hm_up (hm_up LeZ 0 t1.2.2.2.2.2.2.2.2.1) 1 t1.2.2.2.2.2.2.2.2.2.1) 2 t1.2.2.2.2.2.2.2.2.2.2.1) 3 t1.2.2.2.2.2.2.2.2.2.2.2.1), hm_wBr g (a 8) (hm_up (hm_up (hm_up BrA 0 t1.1) 1 t1.2.1) 2 t1.2.2.1), hm_wSh g (a 9) (hm_up (hm_up (hm_up (hm_up (hm_up (hm_up ShR 0 t1.2.2.2.2.2.2.2.2.2.2.2.2.1) 1 t1.2.2.2.2.2.2.2.2.2.2.2.2.2.1) 2 t1.2.2.2.2.2.2.2.2.2.2.2.2.2.2.1) 3 t1.2.2.2.2.2.2.2.2.2.2.2.2.2.2.2.1) 4 t1.2.2.2.2.2.2.2.2.2.2.2.2.2.2.2.2.1) 5 t1.2.2.2.2.2.2.2.2.2.2.2.2.2.2.2.2.2.1) (hm_up (hm_up ShZ 0 t1.2.2.2.2.2.2.2.2.2.2.2.2.2.2.2.2.2.2.1) 1 t1.2.2.2.2.2.2.2.2.2.2.2.2.2.2.2.2.2.2.2.1), hm_wSu g (a 10) SuA SuJ] : List va_W).flatten) rfl
                        refine lv_iadd hx hb dX7_line_181 ?_
                        obtain rfl := Option.some.inj hF
                        exact hm_ri S hr hlk X rfl rfl dX7_line_182
          · have hF := hm_nf hF c41
            refine lv_iconst (v := (-1)) hx hb dX7_line_44 (by decide) ?_
            obtain rfl := Option.some.inj hF
            exact hm_ri S hr hlk X rfl rfl dX7_line_45
        · have hF := hm_if hF c27
          refine lv_bipush (v := (-9)) hx hb dX7_line_30 (by decide) ?_
          obtain rfl := Option.some.inj hF
          exact hm_ri S hr hlk X rfl rfl dX7_line_32
      · have hF := hm_nf hF c11
        refine lv_iconst (v := (-1)) hx hb dX7_line_14 (by decide) ?_
        obtain rfl := Option.some.inj hF
        exact hm_ri S hr hlk X rfl rfl dX7_line_15
def f_X7_blank (Z_0 : Int32) (ScR_0 : hm_SR) (ScR_1 : hm_SR) (SeA_0 : Nat → Int32) (LeR_0 : hm_SR) (LeR_1 : hm_SR) (LeR_2 : hm_SR) (LeR_3 : hm_SR) (LeR_4 : hm_SR) (LeZ_0 : Int32) (LeZ_1 : Int32) (LeZ_2 : Int32) (LeZ_3 : Int32) (BrA_0 : Nat → Int32) (BrA_1 : Nat → Int32) (BrA_2 : Nat → Int32) (ShR_0 : hm_SR) (ShR_1 : hm_SR) (ShR_2 : hm_SR) (ShR_3 : hm_SR) (ShR_4 : hm_SR) (ShR_5 : hm_SR) (ShZ_0 : Int32) (ShZ_1 : Int32) (x0 : Int32) (x1 : Int32) (x2 : Int32)  : Option (Int32 × (Nat → Int32) × (Nat → Int32) × (Nat → Int32) × hm_SR × hm_SR × hm_SR × hm_SR × hm_SR × Int32 × Int32 × Int32 × Int32 × hm_SR × hm_SR × hm_SR × hm_SR × hm_SR × hm_SR × Int32 × Int32 × Int32) :=
  if x0 < 0 then (
  some ((-1), BrA_0, BrA_1, BrA_2, LeR_0, LeR_1, LeR_2, LeR_3, LeR_4, LeZ_0, LeZ_1, LeZ_2, LeZ_3, ShR_0, ShR_1, ShR_2, ShR_3, ShR_4, ShR_5, ShZ_0, ShZ_1, Z_0))
  else (
  if x1 < 0 then (
  some ((-1), BrA_0, BrA_1, BrA_2, LeR_0, LeR_1, LeR_2, LeR_3, LeR_4, LeZ_0, LeZ_1, LeZ_2, LeZ_3, ShR_0, ShR_1, ShR_2, ShR_3, ShR_4, ShR_5, ShZ_0, ShZ_1, Z_0))
  else (
  if x2 < 0 then (
  some ((-1), BrA_0, BrA_1, BrA_2, LeR_0, LeR_1, LeR_2, LeR_3, LeR_4, LeZ_0, LeZ_1, LeZ_2, LeZ_3, ShR_0, ShR_1, ShR_2, ShR_3, ShR_4, ShR_5, ShZ_0, ShZ_1, Z_0))
  else (
  if x2 ≤ 3 then (
  (f_X7_freshen Z_0 ScR_0 ScR_1 SeA_0 LeR_0 LeR_1 LeR_2 LeR_3 LeR_4 LeZ_0 LeZ_1 LeZ_2 LeZ_3 BrA_0 BrA_1 BrA_2 ShR_0 ShR_1 ShR_2 ShR_3 ShR_4 ShR_5 ShZ_0 ShZ_1).bind fun t1 =>
  (f_X5_isThere t1.2.2.2.2.2.2.2.2.2.2.2.2.2.2.2.2.2.2.1).bind fun t2 =>
  if t2 = 0 then (
  some ((-9), t1.1, t1.2.1, t1.2.2.1, t1.2.2.2.1, t1.2.2.2.2.1, t1.2.2.2.2.2.1, t1.2.2.2.2.2.2.1, t1.2.2.2.2.2.2.2.1, t1.2.2.2.2.2.2.2.2.1, t1.2.2.2.2.2.2.2.2.2.1, t1.2.2.2.2.2.2.2.2.2.2.1, t1.2.2.2.2.2.2.2.2.2.2.2.1, t1.2.2.2.2.2.2.2.2.2.2.2.2.1, t1.2.2.2.2.2.2.2.2.2.2.2.2.2.1, t1.2.2.2.2.2.2.2.2.2.2.2.2.2.2.1, t1.2.2.2.2.2.2.2.2.2.2.2.2.2.2.2.1, t1.2.2.2.2.2.2.2.2.2.2.2.2.2.2.2.2.1, t1.2.2.2.2.2.2.2.2.2.2.2.2.2.2.2.2.2.1, t1.2.2.2.2.2.2.2.2.2.2.2.2.2.2.2.2.2.2.1, t1.2.2.2.2.2.2.2.2.2.2.2.2.2.2.2.2.2.2.2.1, t1.2.2.2.2.2.2.2.2.2.2.2.2.2.2.2.2.2.2.2.2))
  else (
  (f_X5_lineCount t1.2.2.2.2.2.2.2.2.2.2.2.2.1).bind fun t3 =>
  if x0 < t3 then (
  (f_X5_blankCount t1.2.2.2.2.2.2.2.2.2.2.2.2.2.1 x0).bind fun t4 =>
  if x1 < t4 then (
  (f_X5_blankOf t1.2.2.2.2.2.2.2.2.2.2.2.2.2.1 t1.2.2.2.2.2.2.2.2.2.2.2.2.2.2.1 t1.2.2.2.2.2.2.2.2.2.2.2.2.2.2.2.1 t1.2.2.2.2.2.2.2.2.2.2.2.2.2.2.2.2.1 t1.2.2.2.2.2.2.2.2.2.2.2.2.2.2.2.2.2.1 x0 x1 x2).bind fun t5 =>
  some (t5, t1.1, t1.2.1, t1.2.2.1, t1.2.2.2.1, t1.2.2.2.2.1, t1.2.2.2.2.2.1, t1.2.2.2.2.2.2.1, t1.2.2.2.2.2.2.2.1, t1.2.2.2.2.2.2.2.2.1, t1.2.2.2.2.2.2.2.2.2.1, t1.2.2.2.2.2.2.2.2.2.2.1, t1.2.2.2.2.2.2.2.2.2.2.2.1, t1.2.2.2.2.2.2.2.2.2.2.2.2.1, t1.2.2.2.2.2.2.2.2.2.2.2.2.2.1, t1.2.2.2.2.2.2.2.2.2.2.2.2.2.2.1, t1.2.2.2.2.2.2.2.2.2.2.2.2.2.2.2.1, t1.2.2.2.2.2.2.2.2.2.2.2.2.2.2.2.2.1, t1.2.2.2.2.2.2.2.2.2.2.2.2.2.2.2.2.2.1, t1.2.2.2.2.2.2.2.2.2.2.2.2.2.2.2.2.2.2.1, t1.2.2.2.2.2.2.2.2.2.2.2.2.2.2.2.2.2.2.2.1, t1.2.2.2.2.2.2.2.2.2.2.2.2.2.2.2.2.2.2.2.2))
  else (
  some ((-9), t1.1, t1.2.1, t1.2.2.1, t1.2.2.2.1, t1.2.2.2.2.1, t1.2.2.2.2.2.1, t1.2.2.2.2.2.2.1, t1.2.2.2.2.2.2.2.1, t1.2.2.2.2.2.2.2.2.1, t1.2.2.2.2.2.2.2.2.2.1, t1.2.2.2.2.2.2.2.2.2.2.1, t1.2.2.2.2.2.2.2.2.2.2.2.1, t1.2.2.2.2.2.2.2.2.2.2.2.2.1, t1.2.2.2.2.2.2.2.2.2.2.2.2.2.1, t1.2.2.2.2.2.2.2.2.2.2.2.2.2.2.1, t1.2.2.2.2.2.2.2.2.2.2.2.2.2.2.2.1, t1.2.2.2.2.2.2.2.2.2.2.2.2.2.2.2.2.1, t1.2.2.2.2.2.2.2.2.2.2.2.2.2.2.2.2.2.1, t1.2.2.2.2.2.2.2.2.2.2.2.2.2.2.2.2.2.2.1, t1.2.2.2.2.2.2.2.2.2.2.2.2.2.2.2.2.2.2.2.1, t1.2.2.2.2.2.2.2.2.2.2.2.2.2.2.2.2.2.2.2.2)))
  else (
  some ((-1), t1.1, t1.2.1, t1.2.2.1, t1.2.2.2.1, t1.2.2.2.2.1, t1.2.2.2.2.2.1, t1.2.2.2.2.2.2.1, t1.2.2.2.2.2.2.2.1, t1.2.2.2.2.2.2.2.2.1, t1.2.2.2.2.2.2.2.2.2.1, t1.2.2.2.2.2.2.2.2.2.2.1, t1.2.2.2.2.2.2.2.2.2.2.2.1, t1.2.2.2.2.2.2.2.2.2.2.2.2.1, t1.2.2.2.2.2.2.2.2.2.2.2.2.2.1, t1.2.2.2.2.2.2.2.2.2.2.2.2.2.2.1, t1.2.2.2.2.2.2.2.2.2.2.2.2.2.2.2.1, t1.2.2.2.2.2.2.2.2.2.2.2.2.2.2.2.2.1, t1.2.2.2.2.2.2.2.2.2.2.2.2.2.2.2.2.2.1, t1.2.2.2.2.2.2.2.2.2.2.2.2.2.2.2.2.2.2.1, t1.2.2.2.2.2.2.2.2.2.2.2.2.2.2.2.2.2.2.2.1, t1.2.2.2.2.2.2.2.2.2.2.2.2.2.2.2.2.2.2.2.2))))
  else (
  some ((-1), BrA_0, BrA_1, BrA_2, LeR_0, LeR_1, LeR_2, LeR_3, LeR_4, LeZ_0, LeZ_1, LeZ_2, LeZ_3, ShR_0, ShR_1, ShR_2, ShR_3, ShR_4, ShR_5, ShZ_0, ShZ_1, Z_0)))))
abbrev rm_X7_blank : Room := { frames := 6, cells := 0, slots := 0, locals := 140 }
set_option maxHeartbeats 4000000 in
set_option maxRecDepth 100000 in
theorem c_X7_blank (l : Launch) (g : hm_G) (a : Nat → Nat → Nat) (R : Nat → hm_SR) (Z : Nat → Int32) (ScR : Nat → hm_SR) (SeR : Nat → hm_SR) (SeA : Nat → Nat → Int32) (LeR : Nat → hm_SR) (LeZ : Nat → Int32) (BrA : Nat → Nat → Int32) (ShR : Nat → hm_SR) (ShZ : Nat → Int32) (SuA : Nat → Nat → Int32) (SuJ : Nat → Nat → Int64) (x0 : Int32) (x1 : Int32) (x2 : Int32) (q : Int32 × (Nat → Int32) × (Nat → Int32) × (Nat → Int32) × hm_SR × hm_SR × hm_SR × hm_SR × hm_SR × Int32 × Int32 × Int32 × Int32 × hm_SR × hm_SR × hm_SR × hm_SR × hm_SR × hm_SR × Int32 × Int32 × Int32) (hF : f_X7_blank (Z 0) (ScR 0) (ScR 1) (SeA 0) (LeR 0) (LeR 1) (LeR 2) (LeR 3) (LeR 4) (LeZ 0) (LeZ 1) (LeZ 2) (LeZ 3) (BrA 0) (BrA 1) (BrA 2) (ShR 0) (ShR 1) (ShR 2) (ShR 3) (ShR 4) (ShR 5) (ShZ 0) (ShZ 1) x0 x1 x2 = some q) : hm_Mi l yX7_blank (Cond.code yX7_blank cX7_blank 4 (some .int) :: hm_W) rm_X7_blank g [.ref (a 0 0), .int x0, .int x1, .int x2] ([hm_wHM g a R Z ScR SeR SeA LeR LeZ BrA ShR ShZ SuA SuJ] : List va_W).flatten ([hm_wHM g a R (hm_up Z 0 q.2.2.2.2.2.2.2.2.2.2.2.2.2.2.2.2.2.2.2.2.2) ScR SeR SeA (hm_up (hm_up (hm_up (hm_up (hm_up LeR 0 q.2.2.2.2.1) 1 q.2.2.2.2.2.1) 2 q.2.2.2.2.2.2.1) 3 q.2.2.2.2.2.2.2.1) 4 q.2.2.2.2.2.2.2.2.1) (hm_up (hm_up (hm_up (hm_up LeZ 0 q.2.2.2.2.2.2.2.2.2.1) 1 q.2.2.2.2.2.2.2.2.2.2.1) 2 q.2.2.2.2.2.2.2.2.2.2.2.1) 3 q.2.2.2.2.2.2.2.2.2.2.2.2.1) (hm_up (hm_up (hm_up BrA 0 q.2.1) 1 q.2.2.1) 2 q.2.2.2.1) (hm_up (hm_up (hm_up (hm_up (hm_up (hm_up ShR 0 q.2.2.2.2.2.2.2.2.2.2.2.2.2.1) 1 q.2.2.2.2.2.2.2.2.2.2.2.2.2.2.1) 2 q.2.2.2.2.2.2.2.2.2.2.2.2.2.2.2.1) 3 q.2.2.2.2.2.2.2.2.2.2.2.2.2.2.2.2.1) 4 q.2.2.2.2.2.2.2.2.2.2.2.2.2.2.2.2.2.1) 5 q.2.2.2.2.2.2.2.2.2.2.2.2.2.2.2.2.2.2.1) (hm_up (hm_up ShZ 0 q.2.2.2.2.2.2.2.2.2.2.2.2.2.2.2.2.2.2.2.1) 1 q.2.2.2.2.2.2.2.2.2.2.2.2.2.2.2.2.2.2.2.2.1) SuA SuJ] : List va_W).flatten q.1 := by
  refine hm_ofi [(0, .ref (a 0 0)), (1, .int x0), (2, .int x1), (3, .int x2)] (by decide) (own := RX7) rfl (Nat.le_of_ble_eq_true rfl) rfl rfl ?_
  intro p e s m args below meth c AA S hr hlk X ls hl
  have hx := S.1
  have hb := S.2.1
  have hown := S.2.2.2.1
  have hts := S.2.2.2.2
  have X := X.to (ws' := ([[(a 0 0, .inr (7, [.ref (a 1 0), .ref (a 2 0), .ref (a 3 0), .ref (a 4 0), .ref (a 5 0), .ref (a 6 0), .ref (a 7 0), .ref (a 8 0), .ref (a 9 0), .ref (a 10 0), .int (Z 0), .int (Z 1)]))], hm_row g (a 1 0) (a 1 1) 200 (R 0), hm_wSc g (a 2) ScR, hm_wSe g (a 3) SeR SeA, hm_row g (a 4 0) (a 4 1) 100 (R 1), hm_row g (a 5 0) (a 5 1) 6 (R 2), hm_row g (a 6 0) (a 6 1) 6 (R 3), hm_wLe g (a 7) LeR LeZ, hm_wBr g (a 8) BrA, hm_wSh g (a 9) ShR ShZ, hm_wSu g (a 10) SuA SuJ] : List va_W).flatten) rfl
  unfold f_X7_blank at hF
  refine lv_iload_n hx hb dX7_blank_0 rfl (lv_at hl 1 rfl) ?_
  refine lv_if_lt (tgt := 17) hx hb dX7_blank_1 (by decide) (fun c1 => ?_) (fun c1 => ?_)
  · have hF := hm_if hF c1
    refine lv_iconst (v := (-1)) hx hb dX7_blank_17 (by decide) ?_
    obtain rfl := Option.some.inj hF
    exact hm_ri S hr hlk X rfl rfl dX7_blank_18
  · have hF := hm_nf hF c1
    refine lv_iload_n hx hb dX7_blank_4 rfl (lv_at hl 2 rfl) ?_
    refine lv_if_lt (tgt := 17) hx hb dX7_blank_5 (by decide) (fun c5 => ?_) (fun c5 => ?_)
    · have hF := hm_if hF c5
      refine lv_iconst (v := (-1)) hx hb dX7_blank_17 (by decide) ?_
      obtain rfl := Option.some.inj hF
      exact hm_ri S hr hlk X rfl rfl dX7_blank_18
    · have hF := hm_nf hF c5
      refine lv_iload_n hx hb dX7_blank_8 rfl (lv_at hl 3 rfl) ?_
      refine lv_if_lt (tgt := 17) hx hb dX7_blank_9 (by decide) (fun c9 => ?_) (fun c9 => ?_)
      · have hF := hm_if hF c9
        refine lv_iconst (v := (-1)) hx hb dX7_blank_17 (by decide) ?_
        obtain rfl := Option.some.inj hF
        exact hm_ri S hr hlk X rfl rfl dX7_blank_18
      · have hF := hm_nf hF c9
        refine lv_iload_n hx hb dX7_blank_12 rfl (lv_at hl 3 rfl) ?_
        refine lv_iconst (v := 3) hx hb dX7_blank_13 (by decide) ?_
        refine lv_icmp_le (tgt := 19) hx hb dX7_blank_14 (by decide) (fun c14 => ?_) (fun c14 => ?_)
        · have hF := hm_if hF c14
          refine lv_aload_n hx hb dX7_blank_19 rfl (lv_at hl 0 rfl) ?_
          obtain ⟨t1, ht1, hF⟩ := hm_bd hF
          refine hm_vv (As := []) S X mw_X7_freshen hw_2_220 (c_X7_freshen l g a R Z ScR SeR SeA LeR LeZ BrA ShR ShZ SuA SuJ t1 ht1) (hm_cq (n := 11) [0, 1, 2, 3, 4, 5, 6, 7, 8, 9, 10] [] rfl (by decide +kernel) rfl rfl) (hm_cq (bs := [[(a 0 0, .inr (7, [.ref (a 1 0), .ref (a 2 0), .ref (a 3 0), .ref (a 4 0), .ref (a 5 0), .ref (a 6 0), .ref (a 7 0), .ref (a 8 0), .ref (a 9 0), .ref (a 10 0), .int t1.2.2.2.2.2.2.2.2.2.2.2.2.2.2.2.2.2.2.2.2, .int (Z 1)]))], hm_row g (a 1 0) (a 1 1) 200 (R 0), hm_wSc g (a 2) ScR, hm_wSe g (a 3) SeR SeA, hm_row g (a 4 0) (a 4 1) 100 (R 1), hm_row g (a 5 0) (a 5 1) 6 (R 2), hm_row g (a 6 0) (a 6 1) 6 (R 3), hm_wLe g (a 7) (hm_up (hm_up (hm_up (hm_up (hm_up LeR 0 t1.2.2.2.1) 1 t1.2.2.2.2.1) 2 t1.2.2.2.2.2.1) 3 t1.2.2.2.2.2.2.1) 4 t1.2.2.2.2.2.2.2.1) (hm_up (hm_up (hm_up (hm_up LeZ 0 t1.2.2.2.2.2.2.2.2.1) 1 t1.2.2.2.2.2.2.2.2.2.1) 2 t1.2.2.2.2.2.2.2.2.2.2.1) 3 t1.2.2.2.2.2.2.2.2.2.2.2.1), hm_wBr g (a 8) (hm_up (hm_up (hm_up BrA 0 t1.1) 1 t1.2.1) 2 t1.2.2.1), hm_wSh g (a 9) (hm_up (hm_up (hm_up (hm_up (hm_up (hm_up ShR 0 t1.2.2.2.2.2.2.2.2.2.2.2.2.1) 1 t1.2.2.2.2.2.2.2.2.2.2.2.2.2.1) 2 t1.2.2.2.2.2.2.2.2.2.2.2.2.2.2.1) 3 t1.2.2.2.2.2.2.2.2.2.2.2.2.2.2.2.1) 4 t1.2.2.2.2.2.2.2.2.2.2.2.2.2.2.2.2.1) 5 t1.2.2.2.2.2.2.2.2.2.2.2.2.2.2.2.2.2.1) (hm_up (hm_up ShZ 0 t1.2.2.2.2.2.2.2.2.2.2.2.2.2.2.2.2.2.2.1) 1 t1.2.2.2.2.2.2.2.2.2.2.2.2.2.2.2.2.2.2.2.1), hm_wSu g (a 10) SuA SuJ]) (n := 11) [0, 1, 2, 3, 4, 5, 6, 7, 8, 9, 10] [] rfl (by decide +kernel) rfl rfl) rfl rfl rfl ⟨rfl, rfl, Nat.le_of_ble_eq_true rfl, Nat.le_of_ble_eq_true rfl⟩ rfl hl.1 rfl (Nat.le_of_ble_eq_true rfl) dX7_blank_20 ⟨Nat.zero_le _, Nat.zero_le _⟩ (fun H locs X => ?_)
          have X := X.to (ws' := ([[(a 0 0, .inr (7, [.ref (a 1 0), .ref (a 2 0), .ref (a 3 0), .ref (a 4 0), .ref (a 5 0), .ref (a 6 0), .ref (a 7 0), .ref (a 8 0), .ref (a 9 0), .ref (a 10 0), .int t1.2.2.2.2.2.2.2.2.2.2.2.2.2.2.2.2.2.2.2.2, .int (Z 1)]))], hm_row g (a 1 0) (a 1 1) 200 (R 0), hm_wSc g (a 2) ScR, hm_wSe g (a 3) SeR SeA, hm_row g (a 4 0) (a 4 1) 100 (R 1), hm_row g (a 5 0) (a 5 1) 6 (R 2), hm_row g (a 6 0) (a 6 1) 6 (R 3), hm_wLe g (a 7) (hm_up (hm_up (hm_up (hm_up (hm_up LeR 0 t1.2.2.2.1) 1 t1.2.2.2.2.1) 2 t1.2.2.2.2.2.1) 3 t1.2.2.2.2.2.2.1) 4 t1.2.2.2.2.2.2.2.1) (hm_up (hm_up (hm_up (hm_up LeZ 0 t1.2.2.2.2.2.2.2.2.1) 1 t1.2.2.2.2.2.2.2.2.2.1) 2 t1.2.2.2.2.2.2.2.2.2.2.1) 3 t1.2.2.2.2.2.2.2.2.2.2.2.1), hm_wBr g (a 8) (hm_up (hm_up (hm_up BrA 0 t1.1) 1 t1.2.1) 2 t1.2.2.1), hm_wSh g (a 9) (hm_up (hm_up (hm_up (hm_up (hm_up (hm_up ShR 0 t1.2.2.2.2.2.2.2.2.2.2.2.2.1) 1 t1.2.2.2.2.2.2.2.2.2.2.2.2.2.1) 2 t1.2.2.2.2.2.2.2.2.2.2.2.2.2.2.1) 3 t1.2.2.2.2.2.2.2.2.2.2.2.2.2.2.2.1) 4 t1.2.2.2.2.2.2.2.2.2.2.2.2.2.2.2.2.1) 5 t1.2.2.2.2.2.2.2.2.2.2.2.2.2.2.2.2.2.1) (hm_up (hm_up ShZ 0 t1.2.2.2.2.2.2.2.2.2.2.2.2.2.2.2.2.2.2.1) 1 t1.2.2.2.2.2.2.2.2.2.2.2.2.2.2.2.2.2.2.2.1), hm_wSu g (a 10) SuA SuJ] : List va_W).flatten) rfl
          refine lv_aload_n hx hb dX7_blank_23 rfl (lv_at hl 0 rfl) ?_
          refine hm_get S X hf_X7_58 0 rfl rfl dX7_blank_24 ?_
          obtain ⟨t2, ht2, hF⟩ := hm_bd hF
          refine hm_vi (As := []) S X mw_X5_isThere hw_3_120 (c_X5_isThere l g (a 9) (hm_up (hm_up (hm_up (hm_up (hm_up (hm_up ShR 0 t1.2.2.2.2.2.2.2.2.2.2.2.2.1) 1 t1.2.2.2.2.2.2.2.2.2.2.2.2.2.1) 2 t1.2.2.2.2.2.2.2.2.2.2.2.2.2.2.1) 3 t1.2.2.2.2.2.2.2.2.2.2.2.2.2.2.2.1) 4 t1.2.2.2.2.2.2.2.2.2.2.2.2.2.2.2.2.1) 5 t1.2.2.2.2.2.2.2.2.2.2.2.2.2.2.2.2.2.1) (hm_up (hm_up ShZ 0 t1.2.2.2.2.2.2.2.2.2.2.2.2.2.2.2.2.2.2.1) 1 t1.2.2.2.2.2.2.2.2.2.2.2.2.2.2.2.2.2.2.2.1) t2 ht2) (hm_mid [[(a 0 0, .inr (7, [.ref (a 1 0), .ref (a 2 0), .ref (a 3 0), .ref (a 4 0), .ref (a 5 0), .ref (a 6 0), .ref (a 7 0), .ref (a 8 0), .ref (a 9 0), .ref (a 10 0), .int t1.2.2.2.2.2.2.2.2.2.2.2.2.2.2.2.2.2.2.2.2, .int (Z 1)]))], hm_row g (a 1 0) (a 1 1) 200 (R 0), hm_wSc g (a 2) ScR, hm_wSe g (a 3) SeR SeA, hm_row g (a 4 0) (a 4 1) 100 (R 1), hm_row g (a 5 0) (a 5 1) 6 (R 2), hm_row g (a 6 0) (a 6 1) 6 (R 3), hm_wLe g (a 7) (hm_up (hm_up (hm_up (hm_up (hm_up LeR 0 t1.2.2.2.1) 1 t1.2.2.2.2.1) 2 t1.2.2.2.2.2.1) 3 t1.2.2.2.2.2.2.1) 4 t1.2.2.2.2.2.2.2.1) (hm_up (hm_up (hm_up (hm_up LeZ 0 t1.2.2.2.2.2.2.2.2.1) 1 t1.2.2.2.2.2.2.2.2.2.1) 2 t1.2.2.2.2.2.2.2.2.2.2.1) 3 t1.2.2.2.2.2.2.2.2.2.2.2.1), hm_wBr g (a 8) (hm_up (hm_up (hm_up BrA 0 t1.1) 1 t1.2.1) 2 t1.2.2.1)] [hm_wSu g (a 10) SuA SuJ]) (hm_mid [[(a 0 0, .inr (7, [.ref (a 1 0), .ref (a 2 0), .ref (a 3 0), .ref (a 4 0), .ref (a 5 0), .ref (a 6 0), .ref (a 7 0), .ref (a 8 0), .ref (a 9 0), .ref (a 10 0), .int t1.2.2.2.2.2.2.2.2.2.2.2.2.2.2.2.2.2.2.2.2, .int (Z 1)]))], hm_row g (a 1 0) (a 1 1) 200 (R 0), hm_wSc g (a 2) ScR, hm_wSe g (a 3) SeR SeA, hm_row g (a 4 0) (a 4 1) 100 (R 1), hm_row g (a 5 0) (a 5 1) 6 (R 2), hm_row g (a 6 0) (a 6 1) 6 (R 3), hm_wLe g (a 7) (hm_up (hm_up (hm_up (hm_up (hm_up LeR 0 t1.2.2.2.1) 1 t1.2.2.2.2.1) 2 t1.2.2.2.2.2.1) 3 t1.2.2.2.2.2.2.1) 4 t1.2.2.2.2.2.2.2.1) (hm_up (hm_up (hm_up (hm_up LeZ 0 t1.2.2.2.2.2.2.2.2.1) 1 t1.2.2.2.2.2.2.2.2.2.1) 2 t1.2.2.2.2.2.2.2.2.2.2.1) 3 t1.2.2.2.2.2.2.2.2.2.2.2.1), hm_wBr g (a 8) (hm_up (hm_up (hm_up BrA 0 t1.1) 1 t1.2.1) 2 t1.2.2.1)] [hm_wSu g (a 10) SuA SuJ] (b := hm_wSh g (a 9) (hm_up (hm_up (hm_up (hm_up (hm_up (hm_up ShR 0 t1.2.2.2.2.2.2.2.2.2.2.2.2.1) 1 t1.2.2.2.2.2.2.2.2.2.2.2.2.2.1) 2 t1.2.2.2.2.2.2.2.2.2.2.2.2.2.2.1) 3 t1.2.2.2.2.2.2.2.2.2.2.2.2.2.2.2.1) 4 t1.2.2.2.2.2.2.2.2.2.2.2.2.2.2.2.2.1) 5 t1.2.2.2.2.2.2.2.2.2.2.2.2.2.2.2.2.2.1) (hm_up (hm_up ShZ 0 t1.2.2.2.2.2.2.2.2.2.2.2.2.2.2.2.2.2.2.1) 1 t1.2.2.2.2.2.2.2.2.2.2.2.2.2.2.2.2.2.2.2.1))) rfl rfl rfl ⟨rfl, rfl, Nat.le_of_ble_eq_true rfl, Nat.le_of_ble_eq_true rfl⟩ rfl hl.1 rfl (Nat.le_of_ble_eq_true rfl) dX7_blank_27 ⟨Nat.zero_le _, Nat.zero_le _⟩ (fun H locs X => ?_)
          have X := X.to (ws' := ([[(a 0 0, .inr (7, [.ref (a 1 0), .ref (a 2 0), .ref (a 3 0), .ref (a 4 0), .ref (a 5 0), .ref (a 6 0), .ref (a 7 0), .ref (a 8 0), .ref (a 9 0), .ref (a 10 0), .int t1.2.2.2.2.2.2.2.2.2.2.2.2.2.2.2.2.2.2.2.2, .int (Z 1)]))], hm_row g (a 1 0) (a 1 1) 200 (R 0), hm_wSc g (a 2) ScR, hm_wSe g (a 3) SeR SeA, hm_row g (a 4 0) (a 4 1) 100 (R 1), hm_row g (a 5 0) (a 5 1) 6 (R 2), hm_row g (a 6 0) (a 6 1) 6 (R 3), hm_wLe g (a 7) (hm_up (hm_up (hm_up (hm_up (hm_up LeR 0 t1.2.2.2.1) 1 t1.2.2.2.2.1) 2 t1.2.2.2.2.2.1) 3 t1.2.2.2.2.2.2.1) 4 t1.2.2.2.2.2.2.2.1) (hm_up (hm_up (hm_up (hm_up LeZ 0 t1.2.2.2.2.2.2.2.2.1) 1 t1.2.2.2.2.2.2.2.2.2.1) 2 t1.2.2.2.2.2.2.2.2.2.2.1) 3 t1.2.2.2.2.2.2.2.2.2.2.2.1), hm_wBr g (a 8) (hm_up (hm_up (hm_up BrA 0 t1.1) 1 t1.2.1) 2 t1.2.2.1), hm_wSh g (a 9) (hm_up (hm_up (hm_up (hm_up (hm_up (hm_up ShR 0 t1.2.2.2.2.2.2.2.2.2.2.2.2.1) 1 t1.2.2.2.2.2.2.2.2.2.2.2.2.2.1) 2 t1.2.2.2.2.2.2.2.2.2.2.2.2.2.2.1) 3 t1.2.2.2.2.2.2.2.2.2.2.2.2.2.2.2.1) 4 t1.2.2.2.2.2.2.2.2.2.2.2.2.2.2.2.2.1) 5 t1.2.2.2.2.2.2.2.2.2.2.2.2.2.2.2.2.2.1) (hm_up (hm_up ShZ 0 t1.2.2.2.2.2.2.2.2.2.2.2.2.2.2.2.2.2.2.1) 1 t1.2.2.2.2.2.2.2.2.2.2.2.2.2.2.2.2.2.2.2.1), hm_wSu g (a 10) SuA SuJ] : List va_W).flatten) rfl
          refine lv_if_ne (tgt := 36) hx hb dX7_blank_30 (by decide) (fun c30 => ?_) (fun c30 => ?_)
          · have hF := hm_nf hF c30
            refine lv_iload_n hx hb dX7_blank_36 rfl (lv_at hl 1 rfl) ?_
            refine lv_aload_n hx hb dX7_blank_37 rfl (lv_at hl 0 rfl) ?_
            refine hm_get S X hf_X7_58 0 rfl rfl dX7_blank_38 ?_
            obtain ⟨t3, ht3, hF⟩ := hm_bd hF
            refine hm_vi (As := []) S X mw_X5_lineCount hw_3_128 (c_X5_lineCount l g (a 9) (hm_up (hm_up (hm_up (hm_up (hm_up (hm_up ShR 0 t1.2.2.2.2.2.2.2.2.2.2.2.2.1) 1 t1.2.2.2.2.2.2.2.2.2.2.2.2.2.1) 2 t1.2.2.2.2.2.2.2.2.2.2.2.2.2.2.1) 3 t1.2.2.2.2.2.2.2.2.2.2.2.2.2.2.2.1) 4 t1.2.2.2.2.2.2.2.2.2.2.2.2.2.2.2.2.1) 5 t1.2.2.2.2.2.2.2.2.2.2.2.2.2.2.2.2.2.1) (hm_up (hm_up ShZ 0 t1.2.2.2.2.2.2.2.2.2.2.2.2.2.2.2.2.2.2.1) 1 t1.2.2.2.2.2.2.2.2.2.2.2.2.2.2.2.2.2.2.2.1) t3 ht3) (hm_mid [[(a 0 0, .inr (7, [.ref (a 1 0), .ref (a 2 0), .ref (a 3 0), .ref (a 4 0), .ref (a 5 0), .ref (a 6 0), .ref (a 7 0), .ref (a 8 0), .ref (a 9 0), .ref (a 10 0), .int t1.2.2.2.2.2.2.2.2.2.2.2.2.2.2.2.2.2.2.2.2, .int (Z 1)]))], hm_row g (a 1 0) (a 1 1) 200 (R 0), hm_wSc g (a 2) ScR, hm_wSe g (a 3) SeR SeA, hm_row g (a 4 0) (a 4 1) 100 (R 1), hm_row g (a 5 0) (a 5 1) 6 (R 2), hm_row g (a 6 0) (a 6 1) 6 (R 3), hm_wLe g (a 7) (hm_up (hm_up (hm_up (hm_up (hm_up LeR 0 t1.2.2.2.1) 1 t1.2.2.2.2.1) 2 t1.2.2.2.2.2.1) 3 t1.2.2.2.2.2.2.1) 4 t1.2.2.2.2.2.2.2.1) (hm_up (hm_up (hm_up (hm_up LeZ 0 t1.2.2.2.2.2.2.2.2.1) 1 t1.2.2.2.2.2.2.2.2.2.1) 2 t1.2.2.2.2.2.2.2.2.2.2.1) 3 t1.2.2.2.2.2.2.2.2.2.2.2.1), hm_wBr g (a 8) (hm_up (hm_up (hm_up BrA 0 t1.1) 1 t1.2.1) 2 t1.2.2.1)] [hm_wSu g (a 10) SuA SuJ]) (hm_mid [[(a 0 0, .inr (7, [.ref (a 1 0), .ref (a 2 0), .ref (a 3 0), .ref (a 4 0), .ref (a 5 0), .ref (a 6 0), .ref (a 7 0), .ref (a 8 0), .ref (a 9 0), .ref (a 10 0), .int t1.2.2.2.2.2.2.2.2.2.2.2.2.2.2.2.2.2.2.2.2, .int (Z 1)]))], hm_row g (a 1 0) (a 1 1) 200 (R 0), hm_wSc g (a 2) ScR, hm_wSe g (a 3) SeR SeA, hm_row g (a 4 0) (a 4 1) 100 (R 1), hm_row g (a 5 0) (a 5 1) 6 (R 2), hm_row g (a 6 0) (a 6 1) 6 (R 3), hm_wLe g (a 7) (hm_up (hm_up (hm_up (hm_up (hm_up LeR 0 t1.2.2.2.1) 1 t1.2.2.2.2.1) 2 t1.2.2.2.2.2.1) 3 t1.2.2.2.2.2.2.1) 4 t1.2.2.2.2.2.2.2.1) (hm_up (hm_up (hm_up (hm_up LeZ 0 t1.2.2.2.2.2.2.2.2.1) 1 t1.2.2.2.2.2.2.2.2.2.1) 2 t1.2.2.2.2.2.2.2.2.2.2.1) 3 t1.2.2.2.2.2.2.2.2.2.2.2.1), hm_wBr g (a 8) (hm_up (hm_up (hm_up BrA 0 t1.1) 1 t1.2.1) 2 t1.2.2.1)] [hm_wSu g (a 10) SuA SuJ] (b := hm_wSh g (a 9) (hm_up (hm_up (hm_up (hm_up (hm_up (hm_up ShR 0 t1.2.2.2.2.2.2.2.2.2.2.2.2.1) 1 t1.2.2.2.2.2.2.2.2.2.2.2.2.2.1) 2 t1.2.2.2.2.2.2.2.2.2.2.2.2.2.2.1) 3 t1.2.2.2.2.2.2.2.2.2.2.2.2.2.2.2.1) 4 t1.2.2.2.2.2.2.2.2.2.2.2.2.2.2.2.2.1) 5 t1.2.2.2.2.2.2.2.2.2.2.2.2.2.2.2.2.2.1) (hm_up (hm_up ShZ 0 t1.2.2.2.2.2.2.2.2.2.2.2.2.2.2.2.2.2.2.1) 1 t1.2.2.2.2.2.2.2.2.2.2.2.2.2.2.2.2.2.2.2.1))) rfl rfl rfl ⟨rfl, rfl, Nat.le_of_ble_eq_true rfl, Nat.le_of_ble_eq_true rfl⟩ rfl hl.1 rfl (Nat.le_of_ble_eq_true rfl) dX7_blank_41 ⟨Nat.zero_le _, Nat.zero_le _⟩ (fun H locs X => ?_)
            have X := X.to (ws' := ([[(a 0 0, .inr (7, [.ref (a 1 0), .ref (a 2 0), .ref (a 3 0), .ref (a 4 0), .ref (a 5 0), .ref (a 6 0), .ref (a 7 0), .ref (a 8 0), .ref (a 9 0), .ref (a 10 0), .int t1.2.2.2.2.2.2.2.2.2.2.2.2.2.2.2.2.2.2.2.2, .int (Z 1)]))], hm_row g (a 1 0) (a 1 1) 200 (R 0), hm_wSc g (a 2) ScR, hm_wSe g (a 3) SeR SeA, hm_row g (a 4 0) (a 4 1) 100 (R 1), hm_row g (a 5 0) (a 5 1) 6 (R 2), hm_row g (a 6 0) (a 6 1) 6 (R 3), hm_wLe g (a 7) (hm_up (hm_up (hm_up (hm_up (hm_up LeR 0 t1.2.2.2.1) 1 t1.2.2.2.2.1) 2 t1.2.2.2.2.2.1) 3 t1.2.2.2.2.2.2.1) 4 t1.2.2.2.2.2.2.2.1) (hm_up (hm_up (hm_up (hm_up LeZ 0 t1.2.2.2.2.2.2.2.2.1) 1 t1.2.2.2.2.2.2.2.2.2.1) 2 t1.2.2.2.2.2.2.2.2.2.2.1) 3 t1.2.2.2.2.2.2.2.2.2.2.2.1), hm_wBr g (a 8) (hm_up (hm_up (hm_up BrA 0 t1.1) 1 t1.2.1) 2 t1.2.2.1), hm_wSh g (a 9) (hm_up (hm_up (hm_up (hm_up (hm_up (hm_up ShR 0 t1.2.2.2.2.2.2.2.2.2.2.2.2.1) 1 t1.2.2.2.2.2.2.2.2.2.2.2.2.2.1) 2 t1.2.2.2.2.2.2.2.2.2.2.2.2.2.2.1) 3 t1.2.2.2.2.2.2.2.2.2.2.2.2.2.2.2.1) 4 t1.2.2.2.2.2.2.2.2.2.2.2.2.2.2.2.2.1) 5 t1.2.2.2.2.2.2.2.2.2.2.2.2.2.2.2.2.2.1) (hm_up (hm_up ShZ 0 t1.2.2.2.2.2.2.2.2.2.2.2.2.2.2.2.2.2.2.1) 1 t1.2.2.2.2.2.2.2.2.2.2.2.2.2.2.2.2.2.2.2.1), hm_wSu g (a 10) SuA SuJ] : List va_W).flatten) rfl
            refine lv_icmp_lt (tgt := 49) hx hb dX7_blank_44 (by decide) (fun c44 => ?_) (fun c44 => ?_)
            · have hF := hm_if hF c44
              refine lv_iload_n hx hb dX7_blank_49 rfl (lv_at hl 2 rfl) ?_
              refine lv_aload_n hx hb dX7_blank_50 rfl (lv_at hl 0 rfl) ?_
              refine hm_get S X hf_X7_58 0 rfl rfl dX7_blank_51 ?_
              refine lv_iload_n hx hb dX7_blank_54 rfl (lv_at hl 1 rfl) ?_
              obtain ⟨t4, ht4, hF⟩ := hm_bd hF
              refine hm_vi (As := [.int x0]) S X mw_X5_blankCount hw_3_181 (c_X5_blankCount l g (a 9) (hm_up (hm_up (hm_up (hm_up (hm_up (hm_up ShR 0 t1.2.2.2.2.2.2.2.2.2.2.2.2.1) 1 t1.2.2.2.2.2.2.2.2.2.2.2.2.2.1) 2 t1.2.2.2.2.2.2.2.2.2.2.2.2.2.2.1) 3 t1.2.2.2.2.2.2.2.2.2.2.2.2.2.2.2.1) 4 t1.2.2.2.2.2.2.2.2.2.2.2.2.2.2.2.2.1) 5 t1.2.2.2.2.2.2.2.2.2.2.2.2.2.2.2.2.2.1) (hm_up (hm_up ShZ 0 t1.2.2.2.2.2.2.2.2.2.2.2.2.2.2.2.2.2.2.1) 1 t1.2.2.2.2.2.2.2.2.2.2.2.2.2.2.2.2.2.2.2.1) x0 t4 ht4) (hm_mid [[(a 0 0, .inr (7, [.ref (a 1 0), .ref (a 2 0), .ref (a 3 0), .ref (a 4 0), .ref (a 5 0), .ref (a 6 0), .ref (a 7 0), .ref (a 8 0), .ref (a 9 0), .ref (a 10 0), .int t1.2.2.2.2.2.2.2.2.2.2.2.2.2.2.2.2.2.2.2.2, .int (Z 1)]))], hm_row g (a 1 0) (a 1 1) 200 (R 0), hm_wSc g (a 2) ScR, hm_wSe g (a 3) SeR SeA, hm_row g (a 4 0) (a 4 1) 100 (R 1), hm_row g (a 5 0) (a 5 1) 6 (R 2), hm_row g (a 6 0) (a 6 1) 6 (R 3), hm_wLe g (a 7) (hm_up (hm_up (hm_up (hm_up (hm_up LeR 0 t1.2.2.2.1) 1 t1.2.2.2.2.1) 2 t1.2.2.2.2.2.1) 3 t1.2.2.2.2.2.2.1) 4 t1.2.2.2.2.2.2.2.1) (hm_up (hm_up (hm_up (hm_up LeZ 0 t1.2.2.2.2.2.2.2.2.1) 1 t1.2.2.2.2.2.2.2.2.2.1) 2 t1.2.2.2.2.2.2.2.2.2.2.1) 3 t1.2.2.2.2.2.2.2.2.2.2.2.1), hm_wBr g (a 8) (hm_up (hm_up (hm_up BrA 0 t1.1) 1 t1.2.1) 2 t1.2.2.1)] [hm_wSu g (a 10) SuA SuJ]) (hm_mid [[(a 0 0, .inr (7, [.ref (a 1 0), .ref (a 2 0), .ref (a 3 0), .ref (a 4 0), .ref (a 5 0), .ref (a 6 0), .ref (a 7 0), .ref (a 8 0), .ref (a 9 0), .ref (a 10 0), .int t1.2.2.2.2.2.2.2.2.2.2.2.2.2.2.2.2.2.2.2.2, .int (Z 1)]))], hm_row g (a 1 0) (a 1 1) 200 (R 0), hm_wSc g (a 2) ScR, hm_wSe g (a 3) SeR SeA, hm_row g (a 4 0) (a 4 1) 100 (R 1), hm_row g (a 5 0) (a 5 1) 6 (R 2), hm_row g (a 6 0) (a 6 1) 6 (R 3), hm_wLe g (a 7) (hm_up (hm_up (hm_up (hm_up (hm_up LeR 0 t1.2.2.2.1) 1 t1.2.2.2.2.1) 2 t1.2.2.2.2.2.1) 3 t1.2.2.2.2.2.2.1) 4 t1.2.2.2.2.2.2.2.1) (hm_up (hm_up (hm_up (hm_up LeZ 0 t1.2.2.2.2.2.2.2.2.1) 1 t1.2.2.2.2.2.2.2.2.2.1) 2 t1.2.2.2.2.2.2.2.2.2.2.1) 3 t1.2.2.2.2.2.2.2.2.2.2.2.1), hm_wBr g (a 8) (hm_up (hm_up (hm_up BrA 0 t1.1) 1 t1.2.1) 2 t1.2.2.1)] [hm_wSu g (a 10) SuA SuJ] (b := hm_wSh g (a 9) (hm_up (hm_up (hm_up (hm_up (hm_up (hm_up ShR 0 t1.2.2.2.2.2.2.2.2.2.2.2.2.1) 1 t1.2.2.2.2.2.2.2.2.2.2.2.2.2.1) 2 t1.2.2.2.2.2.2.2.2.2.2.2.2.2.2.1) 3 t1.2.2.2.2.2.2.2.2.2.2.2.2.2.2.2.1) 4 t1.2.2.2.2.2.2.2.2.2.2.2.2.2.2.2.2.1) 5 t1.2.2.2.2.2.2.2.2.2.2.2.2.2.2.2.2.2.1) (hm_up (hm_up ShZ 0 t1.2.2.2.2.2.2.2.2.2.2.2.2.2.2.2.2.2.2.1) 1 t1.2.2.2.2.2.2.2.2.2.2.2.2.2.2.2.2.2.2.2.1))) rfl rfl rfl ⟨rfl, rfl, Nat.le_of_ble_eq_true rfl, Nat.le_of_ble_eq_true rfl⟩ rfl hl.1 rfl (Nat.le_of_ble_eq_true rfl) dX7_blank_55 ⟨Nat.zero_le _, Nat.zero_le _⟩ (fun H locs X => ?_)
              have X := X.to (ws' := ([[(a 0 0, .inr (7, [.ref (a 1 0), .ref (a 2 0), .ref (a 3 0), .ref (a 4 0), .ref (a 5 0), .ref (a 6 0), .ref (a 7 0), .ref (a 8 0), .ref (a 9 0), .ref (a 10 0), .int t1.2.2.2.2.2.2.2.2.2.2.2.2.2.2.2.2.2.2.2.2, .int (Z 1)]))], hm_row g (a 1 0) (a 1 1) 200 (R 0), hm_wSc g (a 2) ScR, hm_wSe g (a 3) SeR SeA, hm_row g (a 4 0) (a 4 1) 100 (R 1), hm_row g (a 5 0) (a 5 1) 6 (R 2), hm_row g (a 6 0) (a 6 1) 6 (R 3), hm_wLe g (a 7) (hm_up (hm_up (hm_up (hm_up (hm_up LeR 0 t1.2.2.2.1) 1 t1.2.2.2.2.1) 2 t1.2.2.2.2.2.1) 3 t1.2.2.2.2.2.2.1) 4 t1.2.2.2.2.2.2.2.1) (hm_up (hm_up (hm_up (hm_up LeZ 0 t1.2.2.2.2.2.2.2.2.1) 1 t1.2.2.2.2.2.2.2.2.2.1) 2 t1.2.2.2.2.2.2.2.2.2.2.1) 3 t1.2.2.2.2.2.2.2.2.2.2.2.1), hm_wBr g (a 8) (hm_up (hm_up (hm_up BrA 0 t1.1) 1 t1.2.1) 2 t1.2.2.1), hm_wSh g (a 9) (hm_up (hm_up (hm_up (hm_up (hm_up (hm_up ShR 0 t1.2.2.2.2.2.2.2.2.2.2.2.2.1) 1 t1.2.2.2.2.2.2.2.2.2.2.2.2.2.1) 2 t1.2.2.2.2.2.2.2.2.2.2.2.2.2.2.1) 3 t1.2.2.2.2.2.2.2.2.2.2.2.2.2.2.2.1) 4 t1.2.2.2.2.2.2.2.2.2.2.2.2.2.2.2.2.1) 5 t1.2.2.2.2.2.2.2.2.2.2.2.2.2.2.2.2.2.1) (hm_up (hm_up ShZ 0 t1.2.2.2.2.2.2.2.2.2.2.2.2.2.2.2.2.2.2.1) 1 t1.2.2.2.2.2.2.2.2.2.2.2.2.2.2.2.2.2.2.2.1), hm_wSu g (a 10) SuA SuJ] : List va_W).flatten) rfl
              refine lv_icmp_lt (tgt := 64) hx hb dX7_blank_58 (by decide) (fun c58 => ?_) (fun c58 => ?_)
              · have hF := hm_if hF c58
                refine lv_aload_n hx hb dX7_blank_64 rfl (lv_at hl 0 rfl) ?_
                refine hm_get S X hf_X7_58 0 rfl rfl dX7_blank_65 ?_
                refine lv_iload_n hx hb dX7_blank_68 rfl (lv_at hl 1 rfl) ?_
                refine lv_iload_n hx hb dX7_blank_69 rfl (lv_at hl 2 rfl) ?_
                refine lv_iload_n hx hb dX7_blank_70 rfl (lv_at hl 3 rfl) ?_
                obtain ⟨t5, ht5, hF⟩ := hm_bd hF
                refine hm_vi (As := [.int x0, .int x1, .int x2]) S X mw_X5_blankOf hw_3_185 (c_X5_blankOf l g (a 9) (hm_up (hm_up (hm_up (hm_up (hm_up (hm_up ShR 0 t1.2.2.2.2.2.2.2.2.2.2.2.2.1) 1 t1.2.2.2.2.2.2.2.2.2.2.2.2.2.1) 2 t1.2.2.2.2.2.2.2.2.2.2.2.2.2.2.1) 3 t1.2.2.2.2.2.2.2.2.2.2.2.2.2.2.2.1) 4 t1.2.2.2.2.2.2.2.2.2.2.2.2.2.2.2.2.1) 5 t1.2.2.2.2.2.2.2.2.2.2.2.2.2.2.2.2.2.1) (hm_up (hm_up ShZ 0 t1.2.2.2.2.2.2.2.2.2.2.2.2.2.2.2.2.2.2.1) 1 t1.2.2.2.2.2.2.2.2.2.2.2.2.2.2.2.2.2.2.2.1) x0 x1 x2 t5 ht5) (hm_mid [[(a 0 0, .inr (7, [.ref (a 1 0), .ref (a 2 0), .ref (a 3 0), .ref (a 4 0), .ref (a 5 0), .ref (a 6 0), .ref (a 7 0), .ref (a 8 0), .ref (a 9 0), .ref (a 10 0), .int t1.2.2.2.2.2.2.2.2.2.2.2.2.2.2.2.2.2.2.2.2, .int (Z 1)]))], hm_row g (a 1 0) (a 1 1) 200 (R 0), hm_wSc g (a 2) ScR, hm_wSe g (a 3) SeR SeA, hm_row g (a 4 0) (a 4 1) 100 (R 1), hm_row g (a 5 0) (a 5 1) 6 (R 2), hm_row g (a 6 0) (a 6 1) 6 (R 3), hm_wLe g (a 7) (hm_up (hm_up (hm_up (hm_up (hm_up LeR 0 t1.2.2.2.1) 1 t1.2.2.2.2.1) 2 t1.2.2.2.2.2.1) 3 t1.2.2.2.2.2.2.1) 4 t1.2.2.2.2.2.2.2.1) (hm_up (hm_up (hm_up (hm_up LeZ 0 t1.2.2.2.2.2.2.2.2.1) 1 t1.2.2.2.2.2.2.2.2.2.1) 2 t1.2.2.2.2.2.2.2.2.2.2.1) 3 t1.2.2.2.2.2.2.2.2.2.2.2.1), hm_wBr g (a 8) (hm_up (hm_up (hm_up BrA 0 t1.1) 1 t1.2.1) 2 t1.2.2.1)] [hm_wSu g (a 10) SuA SuJ]) (hm_mid [[(a 0 0, .inr (7, [.ref (a 1 0), .ref (a 2 0), .ref (a 3 0), .ref (a 4 0), .ref (a 5 0), .ref (a 6 0), .ref (a 7 0), .ref (a 8 0), .ref (a 9 0), .ref (a 10 0), .int t1.2.2.2.2.2.2.2.2.2.2.2.2.2.2.2.2.2.2.2.2, .int (Z 1)]))], hm_row g (a 1 0) (a 1 1) 200 (R 0), hm_wSc g (a 2) ScR, hm_wSe g (a 3) SeR SeA, hm_row g (a 4 0) (a 4 1) 100 (R 1), hm_row g (a 5 0) (a 5 1) 6 (R 2), hm_row g (a 6 0) (a 6 1) 6 (R 3), hm_wLe g (a 7) (hm_up (hm_up (hm_up (hm_up (hm_up LeR 0 t1.2.2.2.1) 1 t1.2.2.2.2.1) 2 t1.2.2.2.2.2.1) 3 t1.2.2.2.2.2.2.1) 4 t1.2.2.2.2.2.2.2.1) (hm_up (hm_up (hm_up (hm_up LeZ 0 t1.2.2.2.2.2.2.2.2.1) 1 t1.2.2.2.2.2.2.2.2.2.1) 2 t1.2.2.2.2.2.2.2.2.2.2.1) 3 t1.2.2.2.2.2.2.2.2.2.2.2.1), hm_wBr g (a 8) (hm_up (hm_up (hm_up BrA 0 t1.1) 1 t1.2.1) 2 t1.2.2.1)] [hm_wSu g (a 10) SuA SuJ] (b := hm_wSh g (a 9) (hm_up (hm_up (hm_up (hm_up (hm_up (hm_up ShR 0 t1.2.2.2.2.2.2.2.2.2.2.2.2.1) 1 t1.2.2.2.2.2.2.2.2.2.2.2.2.2.1) 2 t1.2.2.2.2.2.2.2.2.2.2.2.2.2.2.1) 3 t1.2.2.2.2.2.2.2.2.2.2.2.2.2.2.2.1) 4 t1.2.2.2.2.2.2.2.2.2.2.2.2.2.2.2.2.1) 5 t1.2.2.2.2.2.2.2.2.2.2.2.2.2.2.2.2.2.1) (hm_up (hm_up ShZ 0 t1.2.2.2.2.2.2.2.2.2.2.2.2.2.2.2.2.2.2.1) 1 t1.2.2.2.2.2.2.2.2.2.2.2.2.2.2.2.2.2.2.2.1))) rfl rfl rfl ⟨rfl, rfl, Nat.le_of_ble_eq_true rfl, Nat.le_of_ble_eq_true rfl⟩ rfl hl.1 rfl (Nat.le_of_ble_eq_true rfl) dX7_blank_71 ⟨Nat.zero_le _, Nat.zero_le _⟩ (fun H locs X => ?_)
                have X := X.to (ws' := ([[(a 0 0, .inr (7, [.ref (a 1 0), .ref (a 2 0), .ref (a 3 0), .ref (a 4 0), .ref (a 5 0), .ref (a 6 0), .ref (a 7 0), .ref (a 8 0), .ref (a 9 0), .ref (a 10 0), .int t1.2.2.2.2.2.2.2.2.2.2.2.2.2.2.2.2.2.2.2.2, .int (Z 1)]))], hm_row g (a 1 0) (a 1 1) 200 (R 0), hm_wSc g (a 2) ScR, hm_wSe g (a 3) SeR SeA, hm_row g (a 4 0) (a 4 1) 100 (R 1), hm_row g (a 5 0) (a 5 1) 6 (R 2), hm_row g (a 6 0) (a 6 1) 6 (R 3), hm_wLe g (a 7) (hm_up (hm_up (hm_up (hm_up (hm_up LeR 0 t1.2.2.2.1) 1 t1.2.2.2.2.1) 2 t1.2.2.2.2.2.1) 3 t1.2.2.2.2.2.2.1) 4 t1.2.2.2.2.2.2.2.1) (hm_up (hm_up (hm_up (hm_up LeZ 0 t1.2.2.2.2.2.2.2.2.1) 1 t1.2.2.2.2.2.2.2.2.2.1) 2 t1.2.2.2.2.2.2.2.2.2.2.1) 3 t1.2.2.2.2.2.2.2.2.2.2.2.1), hm_wBr g (a 8) (hm_up (hm_up (hm_up BrA 0 t1.1) 1 t1.2.1) 2 t1.2.2.1), hm_wSh g (a 9) (hm_up (hm_up (hm_up (hm_up (hm_up (hm_up ShR 0 t1.2.2.2.2.2.2.2.2.2.2.2.2.1) 1 t1.2.2.2.2.2.2.2.2.2.2.2.2.2.1) 2 t1.2.2.2.2.2.2.2.2.2.2.2.2.2.2.1) 3 t1.2.2.2.2.2.2.2.2.2.2.2.2.2.2.2.1) 4 t1.2.2.2.2.2.2.2.2.2.2.2.2.2.2.2.2.1) 5 t1.2.2.2.2.2.2.2.2.2.2.2.2.2.2.2.2.2.1) (hm_up (hm_up ShZ 0 t1.2.2.2.2.2.2.2.2.2.2.2.2.2.2.2.2.2.2.1) 1 t1.2.2.2.2.2.2.2.2.2.2.2.2.2.2.2.2.2.2.2.1), hm_wSu g (a 10) SuA SuJ] : List va_W).flatten) rfl
                obtain rfl := Option.some.inj hF
                exact hm_ri S hr hlk X rfl rfl dX7_blank_74
              · have hF := hm_nf hF c58
                refine lv_bipush (v := (-9)) hx hb dX7_blank_61 (by decide) ?_
                obtain rfl := Option.some.inj hF
                exact hm_ri S hr hlk X rfl rfl dX7_blank_63
            · have hF := hm_nf hF c44
              refine lv_iconst (v := (-1)) hx hb dX7_blank_47 (by decide) ?_
              obtain rfl := Option.some.inj hF
              exact hm_ri S hr hlk X rfl rfl dX7_blank_48
          · have hF := hm_if hF c30
            refine lv_bipush (v := (-9)) hx hb dX7_blank_33 (by decide) ?_
            obtain rfl := Option.some.inj hF
            exact hm_ri S hr hlk X rfl rfl dX7_blank_35
        · have hF := hm_nf hF c14
          refine lv_iconst (v := (-1)) hx hb dX7_blank_17 (by decide) ?_
          obtain rfl := Option.some.inj hF
          exact hm_ri S hr hlk X rfl rfl dX7_blank_18
def f_X7_leftOf (Z_0 : Int32) (ScR_0 : hm_SR) (ScR_1 : hm_SR) (ScR_7 : hm_SR) (SeA_0 : Nat → Int32) (LeR_0 : hm_SR) (LeR_1 : hm_SR) (LeR_2 : hm_SR) (LeR_3 : hm_SR) (LeR_4 : hm_SR) (LeZ_0 : Int32) (LeZ_1 : Int32) (LeZ_2 : Int32) (LeZ_3 : Int32) (BrA_0 : Nat → Int32) (BrA_1 : Nat → Int32) (BrA_2 : Nat → Int32) (ShR_0 : hm_SR) (ShR_1 : hm_SR) (ShR_2 : hm_SR) (ShR_3 : hm_SR) (ShR_4 : hm_SR) (ShR_5 : hm_SR) (ShZ_0 : Int32) (ShZ_1 : Int32) (x0 : Int32) (x1 : Int32)  : Option (Int32 × (Nat → Int32) × (Nat → Int32) × (Nat → Int32) × hm_SR × hm_SR × hm_SR × hm_SR × hm_SR × Int32 × Int32 × Int32 × Int32 × hm_SR × hm_SR × hm_SR × hm_SR × hm_SR × hm_SR × Int32 × Int32 × Int32) :=
  if x0 < (-1) then (
  some ((-1000000), BrA_0, BrA_1, BrA_2, LeR_0, LeR_1, LeR_2, LeR_3, LeR_4, LeZ_0, LeZ_1, LeZ_2, LeZ_3, ShR_0, ShR_1, ShR_2, ShR_3, ShR_4, ShR_5, ShZ_0, ShZ_1, Z_0))
  else (
  if x1 ≤ x0 then (
  some ((-1000000), BrA_0, BrA_1, BrA_2, LeR_0, LeR_1, LeR_2, LeR_3, LeR_4, LeZ_0, LeZ_1, LeZ_2, LeZ_3, ShR_0, ShR_1, ShR_2, ShR_3, ShR_4, ShR_5, ShZ_0, ShZ_1, Z_0))
  else (
  (f_X7_isPlace ScR_7 x1).bind fun t1 =>
  if t1 = 0 then (
  some ((-1000000), BrA_0, BrA_1, BrA_2, LeR_0, LeR_1, LeR_2, LeR_3, LeR_4, LeZ_0, LeZ_1, LeZ_2, LeZ_3, ShR_0, ShR_1, ShR_2, ShR_3, ShR_4, ShR_5, ShZ_0, ShZ_1, Z_0))
  else (
  (f_X7_freshen Z_0 ScR_0 ScR_1 SeA_0 LeR_0 LeR_1 LeR_2 LeR_3 LeR_4 LeZ_0 LeZ_1 LeZ_2 LeZ_3 BrA_0 BrA_1 BrA_2 ShR_0 ShR_1 ShR_2 ShR_3 ShR_4 ShR_5 ShZ_0 ShZ_1).bind fun t2 =>
  (f_X1_left t2.2.2.2.1 t2.2.2.2.2.1 t2.2.2.2.2.2.2.2.1 t2.2.2.2.2.2.2.2.2.2.1 x0 x1).bind fun t3 =>
  some (t3, t2.1, t2.2.1, t2.2.2.1, t2.2.2.2.1, t2.2.2.2.2.1, t2.2.2.2.2.2.1, t2.2.2.2.2.2.2.1, t2.2.2.2.2.2.2.2.1, t2.2.2.2.2.2.2.2.2.1, t2.2.2.2.2.2.2.2.2.2.1, t2.2.2.2.2.2.2.2.2.2.2.1, t2.2.2.2.2.2.2.2.2.2.2.2.1, t2.2.2.2.2.2.2.2.2.2.2.2.2.1, t2.2.2.2.2.2.2.2.2.2.2.2.2.2.1, t2.2.2.2.2.2.2.2.2.2.2.2.2.2.2.1, t2.2.2.2.2.2.2.2.2.2.2.2.2.2.2.2.1, t2.2.2.2.2.2.2.2.2.2.2.2.2.2.2.2.2.1, t2.2.2.2.2.2.2.2.2.2.2.2.2.2.2.2.2.2.1, t2.2.2.2.2.2.2.2.2.2.2.2.2.2.2.2.2.2.2.1, t2.2.2.2.2.2.2.2.2.2.2.2.2.2.2.2.2.2.2.2.1, t2.2.2.2.2.2.2.2.2.2.2.2.2.2.2.2.2.2.2.2.2))))
abbrev rm_X7_leftOf : Room := { frames := 6, cells := 0, slots := 0, locals := 140 }
set_option maxHeartbeats 4000000 in
set_option maxRecDepth 100000 in
theorem c_X7_leftOf (l : Launch) (g : hm_G) (a : Nat → Nat → Nat) (R : Nat → hm_SR) (Z : Nat → Int32) (ScR : Nat → hm_SR) (SeR : Nat → hm_SR) (SeA : Nat → Nat → Int32) (LeR : Nat → hm_SR) (LeZ : Nat → Int32) (BrA : Nat → Nat → Int32) (ShR : Nat → hm_SR) (ShZ : Nat → Int32) (SuA : Nat → Nat → Int32) (SuJ : Nat → Nat → Int64) (x0 : Int32) (x1 : Int32) (q : Int32 × (Nat → Int32) × (Nat → Int32) × (Nat → Int32) × hm_SR × hm_SR × hm_SR × hm_SR × hm_SR × Int32 × Int32 × Int32 × Int32 × hm_SR × hm_SR × hm_SR × hm_SR × hm_SR × hm_SR × Int32 × Int32 × Int32) (hF : f_X7_leftOf (Z 0) (ScR 0) (ScR 1) (ScR 7) (SeA 0) (LeR 0) (LeR 1) (LeR 2) (LeR 3) (LeR 4) (LeZ 0) (LeZ 1) (LeZ 2) (LeZ 3) (BrA 0) (BrA 1) (BrA 2) (ShR 0) (ShR 1) (ShR 2) (ShR 3) (ShR 4) (ShR 5) (ShZ 0) (ShZ 1) x0 x1 = some q) : hm_Mi l yX7_leftOf (Cond.code yX7_leftOf cX7_leftOf 3 (some .int) :: hm_W) rm_X7_leftOf g [.ref (a 0 0), .int x0, .int x1] ([hm_wHM g a R Z ScR SeR SeA LeR LeZ BrA ShR ShZ SuA SuJ] : List va_W).flatten ([hm_wHM g a R (hm_up Z 0 q.2.2.2.2.2.2.2.2.2.2.2.2.2.2.2.2.2.2.2.2.2) ScR SeR SeA (hm_up (hm_up (hm_up (hm_up (hm_up LeR 0 q.2.2.2.2.1) 1 q.2.2.2.2.2.1) 2 q.2.2.2.2.2.2.1) 3 q.2.2.2.2.2.2.2.1) 4 q.2.2.2.2.2.2.2.2.1) (hm_up (hm_up (hm_up (hm_up LeZ 0 q.2.2.2.2.2.2.2.2.2.1) 1 q.2.2.2.2.2.2.2.2.2.2.1) 2 q.2.2.2.2.2.2.2.2.2.2.2.1) 3 q.2.2.2.2.2.2.2.2.2.2.2.2.1) (hm_up (hm_up (hm_up BrA 0 q.2.1) 1 q.2.2.1) 2 q.2.2.2.1) (hm_up (hm_up (hm_up (hm_up (hm_up (hm_up ShR 0 q.2.2.2.2.2.2.2.2.2.2.2.2.2.1) 1 q.2.2.2.2.2.2.2.2.2.2.2.2.2.2.1) 2 q.2.2.2.2.2.2.2.2.2.2.2.2.2.2.2.1) 3 q.2.2.2.2.2.2.2.2.2.2.2.2.2.2.2.2.1) 4 q.2.2.2.2.2.2.2.2.2.2.2.2.2.2.2.2.2.1) 5 q.2.2.2.2.2.2.2.2.2.2.2.2.2.2.2.2.2.2.1) (hm_up (hm_up ShZ 0 q.2.2.2.2.2.2.2.2.2.2.2.2.2.2.2.2.2.2.2.1) 1 q.2.2.2.2.2.2.2.2.2.2.2.2.2.2.2.2.2.2.2.2.1) SuA SuJ] : List va_W).flatten q.1 := by
  refine hm_ofi [(0, .ref (a 0 0)), (1, .int x0), (2, .int x1)] (by decide) (own := RX7) rfl (Nat.le_of_ble_eq_true rfl) rfl rfl ?_
  intro p e s m args below meth c AA S hr hlk X ls hl
  have hx := S.1
  have hb := S.2.1
  have hown := S.2.2.2.1
  have hts := S.2.2.2.2
  have X := X.to (ws' := ([[(a 0 0, .inr (7, [.ref (a 1 0), .ref (a 2 0), .ref (a 3 0), .ref (a 4 0), .ref (a 5 0), .ref (a 6 0), .ref (a 7 0), .ref (a 8 0), .ref (a 9 0), .ref (a 10 0), .int (Z 0), .int (Z 1)]))], hm_row g (a 1 0) (a 1 1) 200 (R 0), hm_wSc g (a 2) ScR, hm_wSe g (a 3) SeR SeA, hm_row g (a 4 0) (a 4 1) 100 (R 1), hm_row g (a 5 0) (a 5 1) 6 (R 2), hm_row g (a 6 0) (a 6 1) 6 (R 3), hm_wLe g (a 7) LeR LeZ, hm_wBr g (a 8) BrA, hm_wSh g (a 9) ShR ShZ, hm_wSu g (a 10) SuA SuJ] : List va_W).flatten) rfl
  unfold f_X7_leftOf at hF
  refine lv_iload_n hx hb dX7_leftOf_0 rfl (lv_at hl 1 rfl) ?_
  refine lv_iconst (v := (-1)) hx hb dX7_leftOf_1 (by decide) ?_
  refine lv_icmp_lt (tgt := 18) hx hb dX7_leftOf_2 (by decide) (fun c2 => ?_) (fun c2 => ?_)
  · have hF := hm_if hF c2
    refine lv_ldc (v := -1000000) hx hb hown (hts _ hw_3_193) dX7_leftOf_18 ?_
    obtain rfl := Option.some.inj hF
    exact hm_ri S hr hlk X rfl rfl dX7_leftOf_20
  · have hF := hm_nf hF c2
    refine lv_iload_n hx hb dX7_leftOf_5 rfl (lv_at hl 2 rfl) ?_
    refine lv_iload_n hx hb dX7_leftOf_6 rfl (lv_at hl 1 rfl) ?_
    refine lv_icmp_le (tgt := 18) hx hb dX7_leftOf_7 (by decide) (fun c7 => ?_) (fun c7 => ?_)
    · have hF := hm_if hF c7
      refine lv_ldc (v := -1000000) hx hb hown (hts _ hw_3_193) dX7_leftOf_18 ?_
      obtain rfl := Option.some.inj hF
      exact hm_ri S hr hlk X rfl rfl dX7_leftOf_20
    · have hF := hm_nf hF c7
      refine lv_aload_n hx hb dX7_leftOf_10 rfl (lv_at hl 0 rfl) ?_
      refine lv_iload_n hx hb dX7_leftOf_11 rfl (lv_at hl 2 rfl) ?_
      obtain ⟨t1, ht1, hF⟩ := hm_bd hF
      refine hm_vi (As := [.int x1]) S X mw_X7_isPlace hw_2_134 (c_X7_isPlace l g a R Z ScR SeR SeA LeR LeZ BrA ShR ShZ SuA SuJ x1 t1 ht1) (hm_cq (n := 11) [0, 1, 2, 3, 4, 5, 6, 7, 8, 9, 10] [] rfl (by decide +kernel) rfl rfl) (hm_cq (bs := [[(a 0 0, .inr (7, [.ref (a 1 0), .ref (a 2 0), .ref (a 3 0), .ref (a 4 0), .ref (a 5 0), .ref (a 6 0), .ref (a 7 0), .ref (a 8 0), .ref (a 9 0), .ref (a 10 0), .int (Z 0), .int (Z 1)]))], hm_row g (a 1 0) (a 1 1) 200 (R 0), hm_wSc g (a 2) ScR, hm_wSe g (a 3) SeR SeA, hm_row g (a 4 0) (a 4 1) 100 (R 1), hm_row g (a 5 0) (a 5 1) 6 (R 2), hm_row g (a 6 0) (a 6 1) 6 (R 3), hm_wLe g (a 7) LeR LeZ, hm_wBr g (a 8) BrA, hm_wSh g (a 9) ShR ShZ, hm_wSu g (a 10) SuA SuJ]) (n := 11) [0, 1, 2, 3, 4, 5, 6, 7, 8, 9, 10] [] rfl (by decide +kernel) rfl rfl) rfl rfl rfl ⟨rfl, rfl, Nat.le_of_ble_eq_true rfl, Nat.le_of_ble_eq_true rfl⟩ rfl hl.1 rfl (Nat.le_of_ble_eq_true rfl) dX7_leftOf_12 ⟨Nat.zero_le _, Nat.zero_le _⟩ (fun H locs X => ?_)
      have X := X.to (ws' := ([[(a 0 0, .inr (7, [.ref (a 1 0), .ref (a 2 0), .ref (a 3 0), .ref (a 4 0), .ref (a 5 0), .ref (a 6 0), .ref (a 7 0), .ref (a 8 0), .ref (a 9 0), .ref (a 10 0), .int (Z 0), .int (Z 1)]))], hm_row g (a 1 0) (a 1 1) 200 (R 0), hm_wSc g (a 2) ScR, hm_wSe g (a 3) SeR SeA, hm_row g (a 4 0) (a 4 1) 100 (R 1), hm_row g (a 5 0) (a 5 1) 6 (R 2), hm_row g (a 6 0) (a 6 1) 6 (R 3), hm_wLe g (a 7) LeR LeZ, hm_wBr g (a 8) BrA, hm_wSh g (a 9) ShR ShZ, hm_wSu g (a 10) SuA SuJ] : List va_W).flatten) rfl
      refine lv_if_ne (tgt := 21) hx hb dX7_leftOf_15 (by decide) (fun c15 => ?_) (fun c15 => ?_)
      · have hF := hm_nf hF c15
        refine lv_aload_n hx hb dX7_leftOf_21 rfl (lv_at hl 0 rfl) ?_
        obtain ⟨t2, ht2, hF⟩ := hm_bd hF
        refine hm_vv (As := []) S X mw_X7_freshen hw_2_220 (c_X7_freshen l g a R Z ScR SeR SeA LeR LeZ BrA ShR ShZ SuA SuJ t2 ht2) (hm_cq (n := 11) [0, 1, 2, 3, 4, 5, 6, 7, 8, 9, 10] [] rfl (by decide +kernel) rfl rfl) (hm_cq (bs := [[(a 0 0, .inr (7, [.ref (a 1 0), .ref (a 2 0), .ref (a 3 0), .ref (a 4 0), .ref (a 5 0), .ref (a 6 0), .ref (a 7 0), .ref (a 8 0), .ref (a 9 0), .ref (a 10 0), .int t2.2.2.2.2.2.2.2.2.2.2.2.2.2.2.2.2.2.2.2.2, .int (Z 1)]))], hm_row g (a 1 0) (a 1 1) 200 (R 0), hm_wSc g (a 2) ScR, hm_wSe g (a 3) SeR SeA, hm_row g (a 4 0) (a 4 1) 100 (R 1), hm_row g (a 5 0) (a 5 1) 6 (R 2), hm_row g (a 6 0) (a 6 1) 6 (R 3), hm_wLe g (a 7) (hm_up (hm_up (hm_up (hm_up (hm_up LeR 0 t2.2.2.2.1) 1 t2.2.2.2.2.1) 2 t2.2.2.2.2.2.1) 3 t2.2.2.2.2.2.2.1) 4 t2.2.2.2.2.2.2.2.1) (hm_up (hm_up (hm_up (hm_up LeZ 0 t2.2.2.2.2.2.2.2.2.1) 1 t2.2.2.2.2.2.2.2.2.2.1) 2 t2.2.2.2.2.2.2.2.2.2.2.1) 3 t2.2.2.2.2.2.2.2.2.2.2.2.1), hm_wBr g (a 8) (hm_up (hm_up (hm_up BrA 0 t2.1) 1 t2.2.1) 2 t2.2.2.1), hm_wSh g (a 9) (hm_up (hm_up (hm_up (hm_up (hm_up (hm_up ShR 0 t2.2.2.2.2.2.2.2.2.2.2.2.2.1) 1 t2.2.2.2.2.2.2.2.2.2.2.2.2.2.1) 2 t2.2.2.2.2.2.2.2.2.2.2.2.2.2.2.1) 3 t2.2.2.2.2.2.2.2.2.2.2.2.2.2.2.2.1) 4 t2.2.2.2.2.2.2.2.2.2.2.2.2.2.2.2.2.1) 5 t2.2.2.2.2.2.2.2.2.2.2.2.2.2.2.2.2.2.1) (hm_up (hm_up ShZ 0 t2.2.2.2.2.2.2.2.2.2.2.2.2.2.2.2.2.2.2.1) 1 t2.2.2.2.2.2.2.2.2.2.2.2.2.2.2.2.2.2.2.2.1), hm_wSu g (a 10) SuA SuJ]) (n := 11) [0, 1, 2, 3, 4, 5, 6, 7, 8, 9, 10] [] rfl (by decide +kernel) rfl rfl) rfl rfl rfl ⟨rfl, rfl, Nat.le_of_ble_eq_true rfl, Nat.le_of_ble_eq_true rfl⟩ rfl hl.1 rfl (Nat.le_of_ble_eq_true rfl) dX7_leftOf_22 ⟨Nat.zero_le _, Nat.zero_le _⟩ (fun H locs X => ?_)
        have X := X.to (ws' := ([[(a 0 0, .inr (7, [.ref (a 1 0), .ref (a 2 0), .ref (a 3 0), .ref (a 4 0), .ref (a 5 0), .ref (a 6 0), .ref (a 7 0), .ref (a 8 0), .ref (a 9 0), .ref (a 10 0), .int t2.2.2.2.2.2.2.2.2.2.2.2.2.2.2.2.2.2.2.2.2, .int (Z 1)]))], hm_row g (a 1 0) (a 1 1) 200 (R 0), hm_wSc g (a 2) ScR, hm_wSe g (a 3) SeR SeA, hm_row g (a 4 0) (a 4 1) 100 (R 1), hm_row g (a 5 0) (a 5 1) 6 (R 2), hm_row g (a 6 0) (a 6 1) 6 (R 3), hm_wLe g (a 7) (hm_up (hm_up (hm_up (hm_up (hm_up LeR 0 t2.2.2.2.1) 1 t2.2.2.2.2.1) 2 t2.2.2.2.2.2.1) 3 t2.2.2.2.2.2.2.1) 4 t2.2.2.2.2.2.2.2.1) (hm_up (hm_up (hm_up (hm_up LeZ 0 t2.2.2.2.2.2.2.2.2.1) 1 t2.2.2.2.2.2.2.2.2.2.1) 2 t2.2.2.2.2.2.2.2.2.2.2.1) 3 t2.2.2.2.2.2.2.2.2.2.2.2.1), hm_wBr g (a 8) (hm_up (hm_up (hm_up BrA 0 t2.1) 1 t2.2.1) 2 t2.2.2.1), hm_wSh g (a 9) (hm_up (hm_up (hm_up (hm_up (hm_up (hm_up ShR 0 t2.2.2.2.2.2.2.2.2.2.2.2.2.1) 1 t2.2.2.2.2.2.2.2.2.2.2.2.2.2.1) 2 t2.2.2.2.2.2.2.2.2.2.2.2.2.2.2.1) 3 t2.2.2.2.2.2.2.2.2.2.2.2.2.2.2.2.1) 4 t2.2.2.2.2.2.2.2.2.2.2.2.2.2.2.2.2.1) 5 t2.2.2.2.2.2.2.2.2.2.2.2.2.2.2.2.2.2.1) (hm_up (hm_up ShZ 0 t2.2.2.2.2.2.2.2.2.2.2.2.2.2.2.2.2.2.2.1) 1 t2.2.2.2.2.2.2.2.2.2.2.2.2.2.2.2.2.2.2.2.1), hm_wSu g (a 10) SuA SuJ] : List va_W).flatten) rfl
        refine lv_aload_n hx hb dX7_leftOf_25 rfl (lv_at hl 0 rfl) ?_
        refine hm_get S X hf_X7_44 0 rfl rfl dX7_leftOf_26 ?_
        refine lv_iload_n hx hb dX7_leftOf_29 rfl (lv_at hl 1 rfl) ?_
        refine lv_iload_n hx hb dX7_leftOf_30 rfl (lv_at hl 2 rfl) ?_
        obtain ⟨t3, ht3, hF⟩ := hm_bd hF
        refine hm_vi (As := [.int x0, .int x1]) S X mw_X1_left hw_3_168 (c_X1_left l g (a 7) (hm_up (hm_up (hm_up (hm_up (hm_up LeR 0 t2.2.2.2.1) 1 t2.2.2.2.2.1) 2 t2.2.2.2.2.2.1) 3 t2.2.2.2.2.2.2.1) 4 t2.2.2.2.2.2.2.2.1) (hm_up (hm_up (hm_up (hm_up LeZ 0 t2.2.2.2.2.2.2.2.2.1) 1 t2.2.2.2.2.2.2.2.2.2.1) 2 t2.2.2.2.2.2.2.2.2.2.2.1) 3 t2.2.2.2.2.2.2.2.2.2.2.2.1) x0 x1 t3 ht3) (hm_mid [[(a 0 0, .inr (7, [.ref (a 1 0), .ref (a 2 0), .ref (a 3 0), .ref (a 4 0), .ref (a 5 0), .ref (a 6 0), .ref (a 7 0), .ref (a 8 0), .ref (a 9 0), .ref (a 10 0), .int t2.2.2.2.2.2.2.2.2.2.2.2.2.2.2.2.2.2.2.2.2, .int (Z 1)]))], hm_row g (a 1 0) (a 1 1) 200 (R 0), hm_wSc g (a 2) ScR, hm_wSe g (a 3) SeR SeA, hm_row g (a 4 0) (a 4 1) 100 (R 1), hm_row g (a 5 0) (a 5 1) 6 (R 2), hm_row g (a 6 0) (a 6 1) 6 (R 3)] [hm_wBr g (a 8) (hm_up (hm_up (hm_up BrA 0 t2.1) 1 t2.2.1) 2 t2.2.2.1), hm_wSh g (a 9) (hm_up (hm_up (hm_up (hm_up (hm_up (hm_up ShR 0 t2.2.2.2.2.2.2.2.2.2.2.2.2.1) 1 t2.2.2.2.2.2.2.2.2.2.2.2.2.2.1) 2 t2.2.2.2.2.2.2.2.2.2.2.2.2.2.2.1) 3 t2.2.2.2.2.2.2.2.2.2.2.2.2.2.2.2.1) 4 t2.2.2.2.2.2.2.2.2.2.2.2.2.2.2.2.2.1) 5 t2.2.2.2.2.2.2.2.2.2.2.2.2.2.2.2.2.2.1) (hm_up (hm_up ShZ 0 t2.2.2.2.2.2.2.2.2.2.2.2.2.2.2.2.2.2.2.1) 1 t2.2.2.2.2.2.2.2.2.2.2.2.2.2.2.2.2.2.2.2.1), hm_wSu g (a 10) SuA SuJ]) (hm_mid [[(a 0 0, .inr (7, [.ref (a 1 0), .ref (a 2 0), .ref (a 3 0), .ref (a 4 0), .ref (a 5 0), .ref (a 6 0), .ref (a 7 0), .ref (a 8 0), .ref (a 9 0), .ref (a 10 0), .int t2.2.2.2.2.2.2.2.2.2.2.2.2.2.2.2.2.2.2.2.2, .int (Z 1)]))], hm_row g (a 1 0) (a 1 1) 200 (R 0), hm_wSc g (a 2) ScR, hm_wSe g (a 3) SeR SeA, hm_row g (a 4 0) (a 4 1) 100 (R 1), hm_row g (a 5 0) (a 5 1) 6 (R 2), hm_row g (a 6 0) (a 6 1) 6 (R 3)] [hm_wBr g (a 8) (hm_up (hm_up (hm_up BrA 0 t2.1) 1 t2.2.1) 2 t2.2.2.1), hm_wSh g (a 9) (hm_up (hm_up (hm_up (hm_up (hm_up (hm_up ShR 0 t2.2.2.2.2.2.2.2.2.2.2.2.2.1) 1 t2.2.2.2.2.2.2.2.2.2.2.2.2.2.1) 2 t2.2.2.2.2.2.2.2.2.2.2.2.2.2.2.1) 3 t2.2.2.2.2.2.2.2.2.2.2.2.2.2.2.2.1) 4 t2.2.2.2.2.2.2.2.2.2.2.2.2.2.2.2.2.1) 5 t2.2.2.2.2.2.2.2.2.2.2.2.2.2.2.2.2.2.1) (hm_up (hm_up ShZ 0 t2.2.2.2.2.2.2.2.2.2.2.2.2.2.2.2.2.2.2.1) 1 t2.2.2.2.2.2.2.2.2.2.2.2.2.2.2.2.2.2.2.2.1), hm_wSu g (a 10) SuA SuJ] (b := hm_wLe g (a 7) (hm_up (hm_up (hm_up (hm_up (hm_up LeR 0 t2.2.2.2.1) 1 t2.2.2.2.2.1) 2 t2.2.2.2.2.2.1) 3 t2.2.2.2.2.2.2.1) 4 t2.2.2.2.2.2.2.2.1) (hm_up (hm_up (hm_up (hm_up LeZ 0 t2.2.2.2.2.2.2.2.2.1) 1 t2.2.2.2.2.2.2.2.2.2.1) 2 t2.2.2.2.2.2.2.2.2.2.2.1) 3 t2.2.2.2.2.2.2.2.2.2.2.2.1))) rfl rfl rfl ⟨rfl, rfl, Nat.le_of_ble_eq_true rfl, Nat.le_of_ble_eq_true rfl⟩ rfl hl.1 rfl (Nat.le_of_ble_eq_true rfl) dX7_leftOf_31 ⟨Nat.zero_le _, Nat.zero_le _⟩ (fun H locs X => ?_)
        have X := X.to (ws' := ([[(a 0 0, .inr (7, [.ref (a 1 0), .ref (a 2 0), .ref (a 3 0), .ref (a 4 0), .ref (a 5 0), .ref (a 6 0), .ref (a 7 0), .ref (a 8 0), .ref (a 9 0), .ref (a 10 0), .int t2.2.2.2.2.2.2.2.2.2.2.2.2.2.2.2.2.2.2.2.2, .int (Z 1)]))], hm_row g (a 1 0) (a 1 1) 200 (R 0), hm_wSc g (a 2) ScR, hm_wSe g (a 3) SeR SeA, hm_row g (a 4 0) (a 4 1) 100 (R 1), hm_row g (a 5 0) (a 5 1) 6 (R 2), hm_row g (a 6 0) (a 6 1) 6 (R 3), hm_wLe g (a 7) (hm_up (hm_up (hm_up (hm_up (hm_up LeR 0 t2.2.2.2.1) 1 t2.2.2.2.2.1) 2 t2.2.2.2.2.2.1) 3 t2.2.2.2.2.2.2.1) 4 t2.2.2.2.2.2.2.2.1) (hm_up (hm_up (hm_up (hm_up LeZ 0 t2.2.2.2.2.2.2.2.2.1) 1 t2.2.2.2.2.2.2.2.2.2.1) 2 t2.2.2.2.2.2.2.2.2.2.2.1) 3 t2.2.2.2.2.2.2.2.2.2.2.2.1), hm_wBr g (a 8) (hm_up (hm_up (hm_up BrA 0 t2.1) 1 t2.2.1) 2 t2.2.2.1), hm_wSh g (a 9) (hm_up (hm_up (hm_up (hm_up (hm_up (hm_up ShR 0 t2.2.2.2.2.2.2.2.2.2.2.2.2.1) 1 t2.2.2.2.2.2.2.2.2.2.2.2.2.2.1) 2 t2.2.2.2.2.2.2.2.2.2.2.2.2.2.2.1) 3 t2.2.2.2.2.2.2.2.2.2.2.2.2.2.2.2.1) 4 t2.2.2.2.2.2.2.2.2.2.2.2.2.2.2.2.2.1) 5 t2.2.2.2.2.2.2.2.2.2.2.2.2.2.2.2.2.2.1) (hm_up (hm_up ShZ 0 t2.2.2.2.2.2.2.2.2.2.2.2.2.2.2.2.2.2.2.1) 1 t2.2.2.2.2.2.2.2.2.2.2.2.2.2.2.2.2.2.2.2.1), hm_wSu g (a 10) SuA SuJ] : List va_W).flatten) rfl
        obtain rfl := Option.some.inj hF
        exact hm_ri S hr hlk X rfl rfl dX7_leftOf_34
      · have hF := hm_if hF c15
        refine lv_ldc (v := -1000000) hx hb hown (hts _ hw_3_193) dX7_leftOf_18 ?_
        obtain rfl := Option.some.inj hF
        exact hm_ri S hr hlk X rfl rfl dX7_leftOf_20
def f_X7_lastOfDraft (R_1 : hm_SR)  : Option (Int32) :=
  (f_X2_size R_1).bind fun t1 =>
  if t1 = 0 then (
  some ((-1)))
  else (
  (f_X2_size R_1).bind fun t2 =>
  (f_X2_get 100 R_1 (t2 - 1)).bind fun t3 =>
  some (t3))
abbrev rm_X7_lastOfDraft : Room := { frames := 1, cells := 0, slots := 0, locals := 21 }
set_option maxHeartbeats 4000000 in
set_option maxRecDepth 100000 in
theorem c_X7_lastOfDraft (l : Launch) (g : hm_G) (a : Nat → Nat → Nat) (R : Nat → hm_SR) (Z : Nat → Int32) (ScR : Nat → hm_SR) (SeR : Nat → hm_SR) (SeA : Nat → Nat → Int32) (LeR : Nat → hm_SR) (LeZ : Nat → Int32) (BrA : Nat → Nat → Int32) (ShR : Nat → hm_SR) (ShZ : Nat → Int32) (SuA : Nat → Nat → Int32) (SuJ : Nat → Nat → Int64) (q : Int32) (hF : f_X7_lastOfDraft (R 1) = some q) : hm_Mi l yX7_lastOfDraft (Cond.code yX7_lastOfDraft cX7_lastOfDraft 1 (some .int) :: hm_W) rm_X7_lastOfDraft g [.ref (a 0 0)] ([hm_wHM g a R Z ScR SeR SeA LeR LeZ BrA ShR ShZ SuA SuJ] : List va_W).flatten ([hm_wHM g a R Z ScR SeR SeA LeR LeZ BrA ShR ShZ SuA SuJ] : List va_W).flatten q := by
  refine hm_ofi [(0, .ref (a 0 0))] (by decide) (own := RX7) rfl (Nat.le_of_ble_eq_true rfl) rfl rfl ?_
  intro p e s m args below meth c AA S hr hlk X ls hl
  have hx := S.1
  have hb := S.2.1
  have hown := S.2.2.2.1
  have hts := S.2.2.2.2
  have X := X.to (ws' := ([[(a 0 0, .inr (7, [.ref (a 1 0), .ref (a 2 0), .ref (a 3 0), .ref (a 4 0), .ref (a 5 0), .ref (a 6 0), .ref (a 7 0), .ref (a 8 0), .ref (a 9 0), .ref (a 10 0), .int (Z 0), .int (Z 1)]))], hm_row g (a 1 0) (a 1 1) 200 (R 0), hm_wSc g (a 2) ScR, hm_wSe g (a 3) SeR SeA, hm_row g (a 4 0) (a 4 1) 100 (R 1), hm_row g (a 5 0) (a 5 1) 6 (R 2), hm_row g (a 6 0) (a 6 1) 6 (R 3), hm_wLe g (a 7) LeR LeZ, hm_wBr g (a 8) BrA, hm_wSh g (a 9) ShR ShZ, hm_wSu g (a 10) SuA SuJ] : List va_W).flatten) rfl
  unfold f_X7_lastOfDraft at hF
  refine lv_aload_n hx hb dX7_lastOfDraft_0 rfl (lv_at hl 0 rfl) ?_
  refine hm_get S X hf_X7_32 0 rfl rfl dX7_lastOfDraft_1 ?_
  obtain ⟨t1, ht1, hF⟩ := hm_bd hF
  refine hm_vi (As := []) S X mw_X2_size hw_2_26 (c_X2_size l g (a 4 0) (a 4 1) 100 (R 1) t1 ht1) (hm_mid [[(a 0 0, .inr (7, [.ref (a 1 0), .ref (a 2 0), .ref (a 3 0), .ref (a 4 0), .ref (a 5 0), .ref (a 6 0), .ref (a 7 0), .ref (a 8 0), .ref (a 9 0), .ref (a 10 0), .int (Z 0), .int (Z 1)]))], hm_row g (a 1 0) (a 1 1) 200 (R 0), hm_wSc g (a 2) ScR, hm_wSe g (a 3) SeR SeA] [hm_row g (a 5 0) (a 5 1) 6 (R 2), hm_row g (a 6 0) (a 6 1) 6 (R 3), hm_wLe g (a 7) LeR LeZ, hm_wBr g (a 8) BrA, hm_wSh g (a 9) ShR ShZ, hm_wSu g (a 10) SuA SuJ]) (hm_mid [[(a 0 0, .inr (7, [.ref (a 1 0), .ref (a 2 0), .ref (a 3 0), .ref (a 4 0), .ref (a 5 0), .ref (a 6 0), .ref (a 7 0), .ref (a 8 0), .ref (a 9 0), .ref (a 10 0), .int (Z 0), .int (Z 1)]))], hm_row g (a 1 0) (a 1 1) 200 (R 0), hm_wSc g (a 2) ScR, hm_wSe g (a 3) SeR SeA] [hm_row g (a 5 0) (a 5 1) 6 (R 2), hm_row g (a 6 0) (a 6 1) 6 (R 3), hm_wLe g (a 7) LeR LeZ, hm_wBr g (a 8) BrA, hm_wSh g (a 9) ShR ShZ, hm_wSu g (a 10) SuA SuJ] (b := hm_row g (a 4 0) (a 4 1) 100 (R 1))) rfl rfl rfl ⟨rfl, rfl, Nat.le_of_ble_eq_true rfl, Nat.le_of_ble_eq_true rfl⟩ rfl hl.1 rfl (Nat.le_of_ble_eq_true rfl) dX7_lastOfDraft_4 ⟨Nat.zero_le _, Nat.zero_le _⟩ (fun H locs X => ?_)
  have X := X.to (ws' := ([[(a 0 0, .inr (7, [.ref (a 1 0), .ref (a 2 0), .ref (a 3 0), .ref (a 4 0), .ref (a 5 0), .ref (a 6 0), .ref (a 7 0), .ref (a 8 0), .ref (a 9 0), .ref (a 10 0), .int (Z 0), .int (Z 1)]))], hm_row g (a 1 0) (a 1 1) 200 (R 0), hm_wSc g (a 2) ScR, hm_wSe g (a 3) SeR SeA, hm_row g (a 4 0) (a 4 1) 100 (R 1), hm_row g (a 5 0) (a 5 1) 6 (R 2), hm_row g (a 6 0) (a 6 1) 6 (R 3), hm_wLe g (a 7) LeR LeZ, hm_wBr g (a 8) BrA, hm_wSh g (a 9) ShR ShZ, hm_wSu g (a 10) SuA SuJ] : List va_W).flatten) rfl
  refine lv_if_ne (tgt := 14) hx hb dX7_lastOfDraft_7 (by decide) (fun c7 => ?_) (fun c7 => ?_)
  · have hF := hm_nf hF c7
    refine lv_aload_n hx hb dX7_lastOfDraft_14 rfl (lv_at hl 0 rfl) ?_
    refine hm_get S X hf_X7_32 0 rfl rfl dX7_lastOfDraft_15 ?_
    refine lv_aload_n hx hb dX7_lastOfDraft_18 rfl (lv_at hl 0 rfl) ?_
    refine hm_get S X hf_X7_32 0 rfl rfl dX7_lastOfDraft_19 ?_
    obtain ⟨t2, ht2, hF⟩ := hm_bd hF
    refine hm_vi (As := []) S X mw_X2_size hw_2_26 (c_X2_size l g (a 4 0) (a 4 1) 100 (R 1) t2 ht2) (hm_mid [[(a 0 0, .inr (7, [.ref (a 1 0), .ref (a 2 0), .ref (a 3 0), .ref (a 4 0), .ref (a 5 0), .ref (a 6 0), .ref (a 7 0), .ref (a 8 0), .ref (a 9 0), .ref (a 10 0), .int (Z 0), .int (Z 1)]))], hm_row g (a 1 0) (a 1 1) 200 (R 0), hm_wSc g (a 2) ScR, hm_wSe g (a 3) SeR SeA] [hm_row g (a 5 0) (a 5 1) 6 (R 2), hm_row g (a 6 0) (a 6 1) 6 (R 3), hm_wLe g (a 7) LeR LeZ, hm_wBr g (a 8) BrA, hm_wSh g (a 9) ShR ShZ, hm_wSu g (a 10) SuA SuJ]) (hm_mid [[(a 0 0, .inr (7, [.ref (a 1 0), .ref (a 2 0), .ref (a 3 0), .ref (a 4 0), .ref (a 5 0), .ref (a 6 0), .ref (a 7 0), .ref (a 8 0), .ref (a 9 0), .ref (a 10 0), .int (Z 0), .int (Z 1)]))], hm_row g (a 1 0) (a 1 1) 200 (R 0), hm_wSc g (a 2) ScR, hm_wSe g (a 3) SeR SeA] [hm_row g (a 5 0) (a 5 1) 6 (R 2), hm_row g (a 6 0) (a 6 1) 6 (R 3), hm_wLe g (a 7) LeR LeZ, hm_wBr g (a 8) BrA, hm_wSh g (a 9) ShR ShZ, hm_wSu g (a 10) SuA SuJ] (b := hm_row g (a 4 0) (a 4 1) 100 (R 1))) rfl rfl rfl ⟨rfl, rfl, Nat.le_of_ble_eq_true rfl, Nat.le_of_ble_eq_true rfl⟩ rfl hl.1 rfl (Nat.le_of_ble_eq_true rfl) dX7_lastOfDraft_22 ⟨Nat.zero_le _, Nat.zero_le _⟩ (fun H locs X => ?_)
    have X := X.to (ws' := ([[(a 0 0, .inr (7, [.ref (a 1 0), .ref (a 2 0), .ref (a 3 0), .ref (a 4 0), .ref (a 5 0), .ref (a 6 0), .ref (a 7 0), .ref (a 8 0), .ref (a 9 0), .ref (a 10 0), .int (Z 0), .int (Z 1)]))], hm_row g (a 1 0) (a 1 1) 200 (R 0), hm_wSc g (a 2) ScR, hm_wSe g (a 3) SeR SeA, hm_row g (a 4 0) (a 4 1) 100 (R 1), hm_row g (a 5 0) (a 5 1) 6 (R 2), hm_row g (a 6 0) (a 6 1) 6 (R 3), hm_wLe g (a 7) LeR LeZ, hm_wBr g (a 8) BrA, hm_wSh g (a 9) ShR ShZ, hm_wSu g (a 10) SuA SuJ] : List va_W).flatten) rfl
    refine lv_iconst (v := 1) hx hb dX7_lastOfDraft_25 (by decide) ?_
    refine lv_isub hx hb dX7_lastOfDraft_26 ?_
    obtain ⟨t3, ht3, hF⟩ := hm_bd hF
    refine hm_vi (As := [.int (t2 - 1)]) S X mw_X2_get hw_2_42 (c_X2_get l g (a 4 0) (a 4 1) 100 (R 1) (t2 - 1) t3 ht3) (hm_mid [[(a 0 0, .inr (7, [.ref (a 1 0), .ref (a 2 0), .ref (a 3 0), .ref (a 4 0), .ref (a 5 0), .ref (a 6 0), .ref (a 7 0), .ref (a 8 0), .ref (a 9 0), .ref (a 10 0), .int (Z 0), .int (Z 1)]))], hm_row g (a 1 0) (a 1 1) 200 (R 0), hm_wSc g (a 2) ScR, hm_wSe g (a 3) SeR SeA] [hm_row g (a 5 0) (a 5 1) 6 (R 2), hm_row g (a 6 0) (a 6 1) 6 (R 3), hm_wLe g (a 7) LeR LeZ, hm_wBr g (a 8) BrA, hm_wSh g (a 9) ShR ShZ, hm_wSu g (a 10) SuA SuJ]) (hm_mid [[(a 0 0, .inr (7, [.ref (a 1 0), .ref (a 2 0), .ref (a 3 0), .ref (a 4 0), .ref (a 5 0), .ref (a 6 0), .ref (a 7 0), .ref (a 8 0), .ref (a 9 0), .ref (a 10 0), .int (Z 0), .int (Z 1)]))], hm_row g (a 1 0) (a 1 1) 200 (R 0), hm_wSc g (a 2) ScR, hm_wSe g (a 3) SeR SeA] [hm_row g (a 5 0) (a 5 1) 6 (R 2), hm_row g (a 6 0) (a 6 1) 6 (R 3), hm_wLe g (a 7) LeR LeZ, hm_wBr g (a 8) BrA, hm_wSh g (a 9) ShR ShZ, hm_wSu g (a 10) SuA SuJ] (b := hm_row g (a 4 0) (a 4 1) 100 (R 1))) rfl rfl rfl ⟨rfl, rfl, Nat.le_of_ble_eq_true rfl, Nat.le_of_ble_eq_true rfl⟩ rfl hl.1 rfl (Nat.le_of_ble_eq_true rfl) dX7_lastOfDraft_27 ⟨Nat.zero_le _, Nat.zero_le _⟩ (fun H locs X => ?_)
    have X := X.to (ws' := ([[(a 0 0, .inr (7, [.ref (a 1 0), .ref (a 2 0), .ref (a 3 0), .ref (a 4 0), .ref (a 5 0), .ref (a 6 0), .ref (a 7 0), .ref (a 8 0), .ref (a 9 0), .ref (a 10 0), .int (Z 0), .int (Z 1)]))], hm_row g (a 1 0) (a 1 1) 200 (R 0), hm_wSc g (a 2) ScR, hm_wSe g (a 3) SeR SeA, hm_row g (a 4 0) (a 4 1) 100 (R 1), hm_row g (a 5 0) (a 5 1) 6 (R 2), hm_row g (a 6 0) (a 6 1) 6 (R 3), hm_wLe g (a 7) LeR LeZ, hm_wBr g (a 8) BrA, hm_wSh g (a 9) ShR ShZ, hm_wSu g (a 10) SuA SuJ] : List va_W).flatten) rfl
    obtain rfl := Option.some.inj hF
    exact hm_ri S hr hlk X rfl rfl dX7_lastOfDraft_30
  · have hF := hm_if hF c7
    refine lv_iconst (v := (-1)) hx hb dX7_lastOfDraft_10 (by decide) ?_
    refine lv_goto (tgt := 30) hx hb dX7_lastOfDraft_11 (by decide) ?_
    obtain rfl := Option.some.inj hF
    exact hm_ri S hr hlk X rfl rfl dX7_lastOfDraft_30
def f_X7_puts (R_1 : hm_SR) (ScR_7 : hm_SR) (x0 : Int32)  : Option (Int32 × hm_SR) :=
  (f_X7_isPlace ScR_7 x0).bind fun t1 =>
  if t1 = 0 then (
  some ((-1), R_1))
  else (
  (f_X7_lastOfDraft R_1).bind fun t2 =>
  if t2 < x0 then (
  (f_X2_add 100 R_1 x0).bind fun t3 =>
  (f_X2_size t3.2).bind fun t4 =>
  some (t4, t3.2))
  else (
  some ((-1), R_1)))
abbrev rm_X7_puts : Room := { frames := 3, cells := 0, slots := 0, locals := 61 }
set_option maxHeartbeats 4000000 in
set_option maxRecDepth 100000 in
theorem c_X7_puts (l : Launch) (g : hm_G) (a : Nat → Nat → Nat) (R : Nat → hm_SR) (Z : Nat → Int32) (ScR : Nat → hm_SR) (SeR : Nat → hm_SR) (SeA : Nat → Nat → Int32) (LeR : Nat → hm_SR) (LeZ : Nat → Int32) (BrA : Nat → Nat → Int32) (ShR : Nat → hm_SR) (ShZ : Nat → Int32) (SuA : Nat → Nat → Int32) (SuJ : Nat → Nat → Int64) (x0 : Int32) (q : Int32 × hm_SR) (hF : f_X7_puts (R 1) (ScR 7) x0 = some q) : hm_Mi l yX7_puts (Cond.code yX7_puts cX7_puts 2 (some .int) :: hm_W) rm_X7_puts g [.ref (a 0 0), .int x0] ([hm_wHM g a R Z ScR SeR SeA LeR LeZ BrA ShR ShZ SuA SuJ] : List va_W).flatten ([hm_wHM g a (hm_up R 1 q.2) Z ScR SeR SeA LeR LeZ BrA ShR ShZ SuA SuJ] : List va_W).flatten q.1 := by
  refine hm_ofi [(0, .ref (a 0 0)), (1, .int x0)] (by decide) (own := RX7) rfl (Nat.le_of_ble_eq_true rfl) rfl rfl ?_
  intro p e s m args below meth c AA S hr hlk X ls hl
  have hx := S.1
  have hb := S.2.1
  have hown := S.2.2.2.1
  have hts := S.2.2.2.2
  have X := X.to (ws' := ([[(a 0 0, .inr (7, [.ref (a 1 0), .ref (a 2 0), .ref (a 3 0), .ref (a 4 0), .ref (a 5 0), .ref (a 6 0), .ref (a 7 0), .ref (a 8 0), .ref (a 9 0), .ref (a 10 0), .int (Z 0), .int (Z 1)]))], hm_row g (a 1 0) (a 1 1) 200 (R 0), hm_wSc g (a 2) ScR, hm_wSe g (a 3) SeR SeA, hm_row g (a 4 0) (a 4 1) 100 (R 1), hm_row g (a 5 0) (a 5 1) 6 (R 2), hm_row g (a 6 0) (a 6 1) 6 (R 3), hm_wLe g (a 7) LeR LeZ, hm_wBr g (a 8) BrA, hm_wSh g (a 9) ShR ShZ, hm_wSu g (a 10) SuA SuJ] : List va_W).flatten) rfl
  unfold f_X7_puts at hF
  refine lv_aload_n hx hb dX7_puts_0 rfl (lv_at hl 0 rfl) ?_
  refine lv_iload_n hx hb dX7_puts_1 rfl (lv_at hl 1 rfl) ?_
  obtain ⟨t1, ht1, hF⟩ := hm_bd hF
  refine hm_vi (As := [.int x0]) S X mw_X7_isPlace hw_2_134 (c_X7_isPlace l g a R Z ScR SeR SeA LeR LeZ BrA ShR ShZ SuA SuJ x0 t1 ht1) (hm_cq (n := 11) [0, 1, 2, 3, 4, 5, 6, 7, 8, 9, 10] [] rfl (by decide +kernel) rfl rfl) (hm_cq (bs := [[(a 0 0, .inr (7, [.ref (a 1 0), .ref (a 2 0), .ref (a 3 0), .ref (a 4 0), .ref (a 5 0), .ref (a 6 0), .ref (a 7 0), .ref (a 8 0), .ref (a 9 0), .ref (a 10 0), .int (Z 0), .int (Z 1)]))], hm_row g (a 1 0) (a 1 1) 200 (R 0), hm_wSc g (a 2) ScR, hm_wSe g (a 3) SeR SeA, hm_row g (a 4 0) (a 4 1) 100 (R 1), hm_row g (a 5 0) (a 5 1) 6 (R 2), hm_row g (a 6 0) (a 6 1) 6 (R 3), hm_wLe g (a 7) LeR LeZ, hm_wBr g (a 8) BrA, hm_wSh g (a 9) ShR ShZ, hm_wSu g (a 10) SuA SuJ]) (n := 11) [0, 1, 2, 3, 4, 5, 6, 7, 8, 9, 10] [] rfl (by decide +kernel) rfl rfl) rfl rfl rfl ⟨rfl, rfl, Nat.le_of_ble_eq_true rfl, Nat.le_of_ble_eq_true rfl⟩ rfl hl.1 rfl (Nat.le_of_ble_eq_true rfl) dX7_puts_2 ⟨Nat.zero_le _, Nat.zero_le _⟩ (fun H locs X => ?_)
  have X := X.to (ws' := ([[(a 0 0, .inr (7, [.ref (a 1 0), .ref (a 2 0), .ref (a 3 0), .ref (a 4 0), .ref (a 5 0), .ref (a 6 0), .ref (a 7 0), .ref (a 8 0), .ref (a 9 0), .ref (a 10 0), .int (Z 0), .int (Z 1)]))], hm_row g (a 1 0) (a 1 1) 200 (R 0), hm_wSc g (a 2) ScR, hm_wSe g (a 3) SeR SeA, hm_row g (a 4 0) (a 4 1) 100 (R 1), hm_row g (a 5 0) (a 5 1) 6 (R 2), hm_row g (a 6 0) (a 6 1) 6 (R 3), hm_wLe g (a 7) LeR LeZ, hm_wBr g (a 8) BrA, hm_wSh g (a 9) ShR ShZ, hm_wSu g (a 10) SuA SuJ] : List va_W).flatten) rfl
  refine lv_if_eq (tgt := 16) hx hb dX7_puts_5 (by decide) (fun c5 => ?_) (fun c5 => ?_)
  · have hF := hm_if hF c5
    refine lv_iconst (v := (-1)) hx hb dX7_puts_16 (by decide) ?_
    obtain rfl := Option.some.inj hF
    exact hm_ri S hr hlk X rfl rfl dX7_puts_17
  · have hF := hm_nf hF c5
    refine lv_iload_n hx hb dX7_puts_8 rfl (lv_at hl 1 rfl) ?_
    refine lv_aload_n hx hb dX7_puts_9 rfl (lv_at hl 0 rfl) ?_
    obtain ⟨t2, ht2, hF⟩ := hm_bd hF
    refine hm_vi (As := []) S X mw_X7_lastOfDraft hw_3_198 (c_X7_lastOfDraft l g a R Z ScR SeR SeA LeR LeZ BrA ShR ShZ SuA SuJ t2 ht2) (hm_cq (n := 11) [0, 1, 2, 3, 4, 5, 6, 7, 8, 9, 10] [] rfl (by decide +kernel) rfl rfl) (hm_cq (bs := [[(a 0 0, .inr (7, [.ref (a 1 0), .ref (a 2 0), .ref (a 3 0), .ref (a 4 0), .ref (a 5 0), .ref (a 6 0), .ref (a 7 0), .ref (a 8 0), .ref (a 9 0), .ref (a 10 0), .int (Z 0), .int (Z 1)]))], hm_row g (a 1 0) (a 1 1) 200 (R 0), hm_wSc g (a 2) ScR, hm_wSe g (a 3) SeR SeA, hm_row g (a 4 0) (a 4 1) 100 (R 1), hm_row g (a 5 0) (a 5 1) 6 (R 2), hm_row g (a 6 0) (a 6 1) 6 (R 3), hm_wLe g (a 7) LeR LeZ, hm_wBr g (a 8) BrA, hm_wSh g (a 9) ShR ShZ, hm_wSu g (a 10) SuA SuJ]) (n := 11) [0, 1, 2, 3, 4, 5, 6, 7, 8, 9, 10] [] rfl (by decide +kernel) rfl rfl) rfl rfl rfl ⟨rfl, rfl, Nat.le_of_ble_eq_true rfl, Nat.le_of_ble_eq_true rfl⟩ rfl hl.1 rfl (Nat.le_of_ble_eq_true rfl) dX7_puts_10 ⟨Nat.zero_le _, Nat.zero_le _⟩ (fun H locs X => ?_)
    have X := X.to (ws' := ([[(a 0 0, .inr (7, [.ref (a 1 0), .ref (a 2 0), .ref (a 3 0), .ref (a 4 0), .ref (a 5 0), .ref (a 6 0), .ref (a 7 0), .ref (a 8 0), .ref (a 9 0), .ref (a 10 0), .int (Z 0), .int (Z 1)]))], hm_row g (a 1 0) (a 1 1) 200 (R 0), hm_wSc g (a 2) ScR, hm_wSe g (a 3) SeR SeA, hm_row g (a 4 0) (a 4 1) 100 (R 1), hm_row g (a 5 0) (a 5 1) 6 (R 2), hm_row g (a 6 0) (a 6 1) 6 (R 3), hm_wLe g (a 7) LeR LeZ, hm_wBr g (a 8) BrA, hm_wSh g (a 9) ShR ShZ, hm_wSu g (a 10) SuA SuJ] : List va_W).flatten) rfl
    refine lv_icmp_gt (tgt := 18) hx hb dX7_puts_13 (by decide) (fun c13 => ?_) (fun c13 => ?_)
    · have hF := hm_if hF c13
      refine lv_aload_n hx hb dX7_puts_18 rfl (lv_at hl 0 rfl) ?_
      refine hm_get S X hf_X7_32 0 rfl rfl dX7_puts_19 ?_
      refine lv_iload_n hx hb dX7_puts_22 rfl (lv_at hl 1 rfl) ?_
      obtain ⟨t3, ht3, hF⟩ := hm_bd hF
      refine hm_vi (As := [.int x0]) S X mw_X2_add hw_2_22 (c_X2_add l g (a 4 0) (a 4 1) 100 (R 1) x0 t3 ht3) (hm_mid [[(a 0 0, .inr (7, [.ref (a 1 0), .ref (a 2 0), .ref (a 3 0), .ref (a 4 0), .ref (a 5 0), .ref (a 6 0), .ref (a 7 0), .ref (a 8 0), .ref (a 9 0), .ref (a 10 0), .int (Z 0), .int (Z 1)]))], hm_row g (a 1 0) (a 1 1) 200 (R 0), hm_wSc g (a 2) ScR, hm_wSe g (a 3) SeR SeA] [hm_row g (a 5 0) (a 5 1) 6 (R 2), hm_row g (a 6 0) (a 6 1) 6 (R 3), hm_wLe g (a 7) LeR LeZ, hm_wBr g (a 8) BrA, hm_wSh g (a 9) ShR ShZ, hm_wSu g (a 10) SuA SuJ]) (hm_mid [[(a 0 0, .inr (7, [.ref (a 1 0), .ref (a 2 0), .ref (a 3 0), .ref (a 4 0), .ref (a 5 0), .ref (a 6 0), .ref (a 7 0), .ref (a 8 0), .ref (a 9 0), .ref (a 10 0), .int (Z 0), .int (Z 1)]))], hm_row g (a 1 0) (a 1 1) 200 (R 0), hm_wSc g (a 2) ScR, hm_wSe g (a 3) SeR SeA] [hm_row g (a 5 0) (a 5 1) 6 (R 2), hm_row g (a 6 0) (a 6 1) 6 (R 3), hm_wLe g (a 7) LeR LeZ, hm_wBr g (a 8) BrA, hm_wSh g (a 9) ShR ShZ, hm_wSu g (a 10) SuA SuJ] (b := hm_row g (a 4 0) (a 4 1) 100 t3.2)) rfl rfl rfl ⟨rfl, rfl, Nat.le_of_ble_eq_true rfl, Nat.le_of_ble_eq_true rfl⟩ rfl hl.1 rfl (Nat.le_of_ble_eq_true rfl) dX7_puts_23 ⟨Nat.zero_le _, Nat.zero_le _⟩ (fun H locs X => ?_)
      have X := X.to (ws' := ([[(a 0 0, .inr (7, [.ref (a 1 0), .ref (a 2 0), .ref (a 3 0), .ref (a 4 0), .ref (a 5 0), .ref (a 6 0), .ref (a 7 0), .ref (a 8 0), .ref (a 9 0), .ref (a 10 0), .int (Z 0), .int (Z 1)]))], hm_row g (a 1 0) (a 1 1) 200 (R 0), hm_wSc g (a 2) ScR, hm_wSe g (a 3) SeR SeA, hm_row g (a 4 0) (a 4 1) 100 t3.2, hm_row g (a 5 0) (a 5 1) 6 (R 2), hm_row g (a 6 0) (a 6 1) 6 (R 3), hm_wLe g (a 7) LeR LeZ, hm_wBr g (a 8) BrA, hm_wSh g (a 9) ShR ShZ, hm_wSu g (a 10) SuA SuJ] : List va_W).flatten) rfl
      refine lv_pop hx hb dX7_puts_26 rfl ?_
      refine lv_aload_n hx hb dX7_puts_27 rfl (lv_at hl 0 rfl) ?_
      refine hm_get S X hf_X7_32 0 rfl rfl dX7_puts_28 ?_
      obtain ⟨t4, ht4, hF⟩ := hm_bd hF
      refine hm_vi (As := []) S X mw_X2_size hw_2_26 (c_X2_size l g (a 4 0) (a 4 1) 100 t3.2 t4 ht4) (hm_mid [[(a 0 0, .inr (7, [.ref (a 1 0), .ref (a 2 0), .ref (a 3 0), .ref (a 4 0), .ref (a 5 0), .ref (a 6 0), .ref (a 7 0), .ref (a 8 0), .ref (a 9 0), .ref (a 10 0), .int (Z 0), .int (Z 1)]))], hm_row g (a 1 0) (a 1 1) 200 (R 0), hm_wSc g (a 2) ScR, hm_wSe g (a 3) SeR SeA] [hm_row g (a 5 0) (a 5 1) 6 (R 2), hm_row g (a 6 0) (a 6 1) 6 (R 3), hm_wLe g (a 7) LeR LeZ, hm_wBr g (a 8) BrA, hm_wSh g (a 9) ShR ShZ, hm_wSu g (a 10) SuA SuJ]) (hm_mid [[(a 0 0, .inr (7, [.ref (a 1 0), .ref (a 2 0), .ref (a 3 0), .ref (a 4 0), .ref (a 5 0), .ref (a 6 0), .ref (a 7 0), .ref (a 8 0), .ref (a 9 0), .ref (a 10 0), .int (Z 0), .int (Z 1)]))], hm_row g (a 1 0) (a 1 1) 200 (R 0), hm_wSc g (a 2) ScR, hm_wSe g (a 3) SeR SeA] [hm_row g (a 5 0) (a 5 1) 6 (R 2), hm_row g (a 6 0) (a 6 1) 6 (R 3), hm_wLe g (a 7) LeR LeZ, hm_wBr g (a 8) BrA, hm_wSh g (a 9) ShR ShZ, hm_wSu g (a 10) SuA SuJ] (b := hm_row g (a 4 0) (a 4 1) 100 t3.2)) rfl rfl rfl ⟨rfl, rfl, Nat.le_of_ble_eq_true rfl, Nat.le_of_ble_eq_true rfl⟩ rfl hl.1 rfl (Nat.le_of_ble_eq_true rfl) dX7_puts_31 ⟨Nat.zero_le _, Nat.zero_le _⟩ (fun H locs X => ?_)
      have X := X.to (ws' := ([[(a 0 0, .inr (7, [.ref (a 1 0), .ref (a 2 0), .ref (a 3 0), .ref (a 4 0), .ref (a 5 0), .ref (a 6 0), .ref (a 7 0), .ref (a 8 0), .ref (a 9 0), .ref (a 10 0), .int (Z 0), .int (Z 1)]))], hm_row g (a 1 0) (a 1 1) 200 (R 0), hm_wSc g (a 2) ScR, hm_wSe g (a 3) SeR SeA, hm_row g (a 4 0) (a 4 1) 100 t3.2, hm_row g (a 5 0) (a 5 1) 6 (R 2), hm_row g (a 6 0) (a 6 1) 6 (R 3), hm_wLe g (a 7) LeR LeZ, hm_wBr g (a 8) BrA, hm_wSh g (a 9) ShR ShZ, hm_wSu g (a 10) SuA SuJ] : List va_W).flatten) rfl
      obtain rfl := Option.some.inj hF
      exact hm_ri S hr hlk X rfl rfl dX7_puts_34
    · have hF := hm_nf hF c13
      refine lv_iconst (v := (-1)) hx hb dX7_puts_16 (by decide) ?_
      obtain rfl := Option.some.inj hF
      exact hm_ri S hr hlk X rfl rfl dX7_puts_17
def f_X7_takes (R_1 : hm_SR)  : Option (Int32 × hm_SR) :=
  (f_X2_size R_1).bind fun t1 =>
  if t1 = 0 then (
  some ((-2), R_1))
  else (
  (f_X7_lastOfDraft R_1).bind fun t2 =>
  (f_X2_drop R_1).bind fun t3 =>
  some (t2, t3))
abbrev rm_X7_takes : Room := { frames := 2, cells := 0, slots := 0, locals := 41 }
set_option maxHeartbeats 4000000 in
set_option maxRecDepth 100000 in
theorem c_X7_takes (l : Launch) (g : hm_G) (a : Nat → Nat → Nat) (R : Nat → hm_SR) (Z : Nat → Int32) (ScR : Nat → hm_SR) (SeR : Nat → hm_SR) (SeA : Nat → Nat → Int32) (LeR : Nat → hm_SR) (LeZ : Nat → Int32) (BrA : Nat → Nat → Int32) (ShR : Nat → hm_SR) (ShZ : Nat → Int32) (SuA : Nat → Nat → Int32) (SuJ : Nat → Nat → Int64) (q : Int32 × hm_SR) (hF : f_X7_takes (R 1) = some q) : hm_Mi l yX7_takes (Cond.code yX7_takes cX7_takes 2 (some .int) :: hm_W) rm_X7_takes g [.ref (a 0 0)] ([hm_wHM g a R Z ScR SeR SeA LeR LeZ BrA ShR ShZ SuA SuJ] : List va_W).flatten ([hm_wHM g a (hm_up R 1 q.2) Z ScR SeR SeA LeR LeZ BrA ShR ShZ SuA SuJ] : List va_W).flatten q.1 := by
  refine hm_ofi [(0, .ref (a 0 0))] (by decide) (own := RX7) rfl (Nat.le_of_ble_eq_true rfl) rfl rfl ?_
  intro p e s m args below meth c AA S hr hlk X ls hl
  have hx := S.1
  have hb := S.2.1
  have hown := S.2.2.2.1
  have hts := S.2.2.2.2
  have X := X.to (ws' := ([[(a 0 0, .inr (7, [.ref (a 1 0), .ref (a 2 0), .ref (a 3 0), .ref (a 4 0), .ref (a 5 0), .ref (a 6 0), .ref (a 7 0), .ref (a 8 0), .ref (a 9 0), .ref (a 10 0), .int (Z 0), .int (Z 1)]))], hm_row g (a 1 0) (a 1 1) 200 (R 0), hm_wSc g (a 2) ScR, hm_wSe g (a 3) SeR SeA, hm_row g (a 4 0) (a 4 1) 100 (R 1), hm_row g (a 5 0) (a 5 1) 6 (R 2), hm_row g (a 6 0) (a 6 1) 6 (R 3), hm_wLe g (a 7) LeR LeZ, hm_wBr g (a 8) BrA, hm_wSh g (a 9) ShR ShZ, hm_wSu g (a 10) SuA SuJ] : List va_W).flatten) rfl
  unfold f_X7_takes at hF
  refine lv_aload_n hx hb dX7_takes_0 rfl (lv_at hl 0 rfl) ?_
  refine hm_get S X hf_X7_32 0 rfl rfl dX7_takes_1 ?_
  obtain ⟨t1, ht1, hF⟩ := hm_bd hF
  refine hm_vi (As := []) S X mw_X2_size hw_2_26 (c_X2_size l g (a 4 0) (a 4 1) 100 (R 1) t1 ht1) (hm_mid [[(a 0 0, .inr (7, [.ref (a 1 0), .ref (a 2 0), .ref (a 3 0), .ref (a 4 0), .ref (a 5 0), .ref (a 6 0), .ref (a 7 0), .ref (a 8 0), .ref (a 9 0), .ref (a 10 0), .int (Z 0), .int (Z 1)]))], hm_row g (a 1 0) (a 1 1) 200 (R 0), hm_wSc g (a 2) ScR, hm_wSe g (a 3) SeR SeA] [hm_row g (a 5 0) (a 5 1) 6 (R 2), hm_row g (a 6 0) (a 6 1) 6 (R 3), hm_wLe g (a 7) LeR LeZ, hm_wBr g (a 8) BrA, hm_wSh g (a 9) ShR ShZ, hm_wSu g (a 10) SuA SuJ]) (hm_mid [[(a 0 0, .inr (7, [.ref (a 1 0), .ref (a 2 0), .ref (a 3 0), .ref (a 4 0), .ref (a 5 0), .ref (a 6 0), .ref (a 7 0), .ref (a 8 0), .ref (a 9 0), .ref (a 10 0), .int (Z 0), .int (Z 1)]))], hm_row g (a 1 0) (a 1 1) 200 (R 0), hm_wSc g (a 2) ScR, hm_wSe g (a 3) SeR SeA] [hm_row g (a 5 0) (a 5 1) 6 (R 2), hm_row g (a 6 0) (a 6 1) 6 (R 3), hm_wLe g (a 7) LeR LeZ, hm_wBr g (a 8) BrA, hm_wSh g (a 9) ShR ShZ, hm_wSu g (a 10) SuA SuJ] (b := hm_row g (a 4 0) (a 4 1) 100 (R 1))) rfl rfl rfl ⟨rfl, rfl, Nat.le_of_ble_eq_true rfl, Nat.le_of_ble_eq_true rfl⟩ rfl hl.1 rfl (Nat.le_of_ble_eq_true rfl) dX7_takes_4 ⟨Nat.zero_le _, Nat.zero_le _⟩ (fun H locs X => ?_)
  have X := X.to (ws' := ([[(a 0 0, .inr (7, [.ref (a 1 0), .ref (a 2 0), .ref (a 3 0), .ref (a 4 0), .ref (a 5 0), .ref (a 6 0), .ref (a 7 0), .ref (a 8 0), .ref (a 9 0), .ref (a 10 0), .int (Z 0), .int (Z 1)]))], hm_row g (a 1 0) (a 1 1) 200 (R 0), hm_wSc g (a 2) ScR, hm_wSe g (a 3) SeR SeA, hm_row g (a 4 0) (a 4 1) 100 (R 1), hm_row g (a 5 0) (a 5 1) 6 (R 2), hm_row g (a 6 0) (a 6 1) 6 (R 3), hm_wLe g (a 7) LeR LeZ, hm_wBr g (a 8) BrA, hm_wSh g (a 9) ShR ShZ, hm_wSu g (a 10) SuA SuJ] : List va_W).flatten) rfl
  refine lv_if_ne (tgt := 13) hx hb dX7_takes_7 (by decide) (fun c7 => ?_) (fun c7 => ?_)
  · have hF := hm_nf hF c7
    refine lv_aload_n hx hb dX7_takes_13 rfl (lv_at hl 0 rfl) ?_
    obtain ⟨t2, ht2, hF⟩ := hm_bd hF
    refine hm_vi (As := []) S X mw_X7_lastOfDraft hw_3_198 (c_X7_lastOfDraft l g a R Z ScR SeR SeA LeR LeZ BrA ShR ShZ SuA SuJ t2 ht2) (hm_cq (n := 11) [0, 1, 2, 3, 4, 5, 6, 7, 8, 9, 10] [] rfl (by decide +kernel) rfl rfl) (hm_cq (bs := [[(a 0 0, .inr (7, [.ref (a 1 0), .ref (a 2 0), .ref (a 3 0), .ref (a 4 0), .ref (a 5 0), .ref (a 6 0), .ref (a 7 0), .ref (a 8 0), .ref (a 9 0), .ref (a 10 0), .int (Z 0), .int (Z 1)]))], hm_row g (a 1 0) (a 1 1) 200 (R 0), hm_wSc g (a 2) ScR, hm_wSe g (a 3) SeR SeA, hm_row g (a 4 0) (a 4 1) 100 (R 1), hm_row g (a 5 0) (a 5 1) 6 (R 2), hm_row g (a 6 0) (a 6 1) 6 (R 3), hm_wLe g (a 7) LeR LeZ, hm_wBr g (a 8) BrA, hm_wSh g (a 9) ShR ShZ, hm_wSu g (a 10) SuA SuJ]) (n := 11) [0, 1, 2, 3, 4, 5, 6, 7, 8, 9, 10] [] rfl (by decide +kernel) rfl rfl) rfl rfl rfl ⟨rfl, rfl, Nat.le_of_ble_eq_true rfl, Nat.le_of_ble_eq_true rfl⟩ rfl hl.1 rfl (Nat.le_of_ble_eq_true rfl) dX7_takes_14 ⟨Nat.zero_le _, Nat.zero_le _⟩ (fun H locs X => ?_)
    have X := X.to (ws' := ([[(a 0 0, .inr (7, [.ref (a 1 0), .ref (a 2 0), .ref (a 3 0), .ref (a 4 0), .ref (a 5 0), .ref (a 6 0), .ref (a 7 0), .ref (a 8 0), .ref (a 9 0), .ref (a 10 0), .int (Z 0), .int (Z 1)]))], hm_row g (a 1 0) (a 1 1) 200 (R 0), hm_wSc g (a 2) ScR, hm_wSe g (a 3) SeR SeA, hm_row g (a 4 0) (a 4 1) 100 (R 1), hm_row g (a 5 0) (a 5 1) 6 (R 2), hm_row g (a 6 0) (a 6 1) 6 (R 3), hm_wLe g (a 7) LeR LeZ, hm_wBr g (a 8) BrA, hm_wSh g (a 9) ShR ShZ, hm_wSu g (a 10) SuA SuJ] : List va_W).flatten) rfl
    refine lv_istore_n (lv' := [(1, .int t2), (0, .ref (a 0 0))]) hx hb dX7_takes_17 rfl hl (by decide) rfl (fun ls hl => ?_)
    refine lv_aload_n hx hb dX7_takes_18 rfl (lv_at hl 1 rfl) ?_
    refine hm_get S X hf_X7_32 0 rfl rfl dX7_takes_19 ?_
    obtain ⟨t3, ht3, hF⟩ := hm_bd hF
    refine hm_vv (As := []) S X mw_X2_drop hw_3_206 (c_X2_drop l g (a 4 0) (a 4 1) 100 (R 1) t3 ht3) (hm_mid [[(a 0 0, .inr (7, [.ref (a 1 0), .ref (a 2 0), .ref (a 3 0), .ref (a 4 0), .ref (a 5 0), .ref (a 6 0), .ref (a 7 0), .ref (a 8 0), .ref (a 9 0), .ref (a 10 0), .int (Z 0), .int (Z 1)]))], hm_row g (a 1 0) (a 1 1) 200 (R 0), hm_wSc g (a 2) ScR, hm_wSe g (a 3) SeR SeA] [hm_row g (a 5 0) (a 5 1) 6 (R 2), hm_row g (a 6 0) (a 6 1) 6 (R 3), hm_wLe g (a 7) LeR LeZ, hm_wBr g (a 8) BrA, hm_wSh g (a 9) ShR ShZ, hm_wSu g (a 10) SuA SuJ]) (hm_mid [[(a 0 0, .inr (7, [.ref (a 1 0), .ref (a 2 0), .ref (a 3 0), .ref (a 4 0), .ref (a 5 0), .ref (a 6 0), .ref (a 7 0), .ref (a 8 0), .ref (a 9 0), .ref (a 10 0), .int (Z 0), .int (Z 1)]))], hm_row g (a 1 0) (a 1 1) 200 (R 0), hm_wSc g (a 2) ScR, hm_wSe g (a 3) SeR SeA] [hm_row g (a 5 0) (a 5 1) 6 (R 2), hm_row g (a 6 0) (a 6 1) 6 (R 3), hm_wLe g (a 7) LeR LeZ, hm_wBr g (a 8) BrA, hm_wSh g (a 9) ShR ShZ, hm_wSu g (a 10) SuA SuJ] (b := hm_row g (a 4 0) (a 4 1) 100 t3)) rfl rfl rfl ⟨rfl, rfl, Nat.le_of_ble_eq_true rfl, Nat.le_of_ble_eq_true rfl⟩ rfl hl.1 rfl (Nat.le_of_ble_eq_true rfl) dX7_takes_22 ⟨Nat.zero_le _, Nat.zero_le _⟩ (fun H locs X => ?_)
    have X := X.to (ws' := ([[(a 0 0, .inr (7, [.ref (a 1 0), .ref (a 2 0), .ref (a 3 0), .ref (a 4 0), .ref (a 5 0), .ref (a 6 0), .ref (a 7 0), .ref (a 8 0), .ref (a 9 0), .ref (a 10 0), .int (Z 0), .int (Z 1)]))], hm_row g (a 1 0) (a 1 1) 200 (R 0), hm_wSc g (a 2) ScR, hm_wSe g (a 3) SeR SeA, hm_row g (a 4 0) (a 4 1) 100 t3, hm_row g (a 5 0) (a 5 1) 6 (R 2), hm_row g (a 6 0) (a 6 1) 6 (R 3), hm_wLe g (a 7) LeR LeZ, hm_wBr g (a 8) BrA, hm_wSh g (a 9) ShR ShZ, hm_wSu g (a 10) SuA SuJ] : List va_W).flatten) rfl
    refine lv_iload_n hx hb dX7_takes_25 rfl (lv_at hl 0 rfl) ?_
    obtain rfl := Option.some.inj hF
    exact hm_ri S hr hlk X rfl rfl dX7_takes_26
  · have hF := hm_if hF c7
    refine lv_bipush (v := (-2)) hx hb dX7_takes_10 (by decide) ?_
    obtain rfl := Option.some.inj hF
    exact hm_ri S hr hlk X rfl rfl dX7_takes_12
def f_X7_firstWrongLine_l46 (R_1 : hm_SR) (ScR_7 : hm_SR) (v1 : Int32) : Option (Int32) :=
  (f_X3_placeCount ScR_7).bind fun t2 =>
  if v1 = (t2 - 1) then (
  some ((-1)))
  else (
  (f_X2_size R_1).bind fun t3 =>
  some (t3))
def f_X7_firstWrongLine_l4 (R_1 : hm_SR) (ScR_7 : hm_SR) (LeR_0 : hm_SR) (LeR_1 : hm_SR) (LeR_4 : hm_SR) (LeZ_1 : Int32) : Nat → Int32 → Int32 → Option (Int32)
  | 0, _, _ => none
  | k + 1, v1, v2 =>
  (f_X2_size R_1).bind fun t1 =>
  if t1 ≤ v2 then (
  f_X7_firstWrongLine_l46 R_1 ScR_7 v1)
  else (
  (f_X2_get 100 R_1 v2).bind fun t4 =>
  (f_X1_left LeR_0 LeR_1 LeR_4 LeZ_1 v1 t4).bind fun t5 =>
  if (0 : Int32) ≤ t5 then (
  f_X7_firstWrongLine_l4 R_1 ScR_7 LeR_0 LeR_1 LeR_4 LeZ_1 k t4 (v2 + 1))
  else (
  some (v2)))
theorem f_X7_firstWrongLine_l4_s (R_1 : hm_SR) (ScR_7 : hm_SR) (LeR_0 : hm_SR) (LeR_1 : hm_SR) (LeR_4 : hm_SR) (LeZ_1 : Int32) (k : Nat) (v1 : Int32) (v2 : Int32) : f_X7_firstWrongLine_l4 R_1 ScR_7 LeR_0 LeR_1 LeR_4 LeZ_1 (k + 1) v1 v2 =
  (f_X2_size R_1).bind fun t1 =>
  if t1 ≤ v2 then (
  f_X7_firstWrongLine_l46 R_1 ScR_7 v1)
  else (
  (f_X2_get 100 R_1 v2).bind fun t4 =>
  (f_X1_left LeR_0 LeR_1 LeR_4 LeZ_1 v1 t4).bind fun t5 =>
  if (0 : Int32) ≤ t5 then (
  f_X7_firstWrongLine_l4 R_1 ScR_7 LeR_0 LeR_1 LeR_4 LeZ_1 k t4 (v2 + 1))
  else (
  some (v2))) := rfl
theorem f_X7_firstWrongLine_l4_z (R_1 : hm_SR) (ScR_7 : hm_SR) (LeR_0 : hm_SR) (LeR_1 : hm_SR) (LeR_4 : hm_SR) (LeZ_1 : Int32) (v1 : Int32) (v2 : Int32) : f_X7_firstWrongLine_l4 R_1 ScR_7 LeR_0 LeR_1 LeR_4 LeZ_1 0 v1 v2 = none := rfl
def f_X7_firstWrongLine (R_1 : hm_SR) (ScR_7 : hm_SR) (LeR_0 : hm_SR) (LeR_1 : hm_SR) (LeR_4 : hm_SR) (LeZ_1 : Int32)  : Option (Int32) :=
  f_X7_firstWrongLine_l4 R_1 ScR_7 LeR_0 LeR_1 LeR_4 LeZ_1 hm_fu (-1) 0
abbrev rm_X7_firstWrongLine : Room := { frames := 3, cells := 0, slots := 0, locals := 66 }
set_option maxHeartbeats 4000000 in
set_option maxRecDepth 100000 in
theorem c_X7_firstWrongLine (l : Launch) (g : hm_G) (a : Nat → Nat → Nat) (R : Nat → hm_SR) (Z : Nat → Int32) (ScR : Nat → hm_SR) (SeR : Nat → hm_SR) (SeA : Nat → Nat → Int32) (LeR : Nat → hm_SR) (LeZ : Nat → Int32) (BrA : Nat → Nat → Int32) (ShR : Nat → hm_SR) (ShZ : Nat → Int32) (SuA : Nat → Nat → Int32) (SuJ : Nat → Nat → Int64) (q : Int32) (hF : f_X7_firstWrongLine (R 1) (ScR 7) (LeR 0) (LeR 1) (LeR 4) (LeZ 1) = some q) : hm_Mi l yX7_firstWrongLine (Cond.code yX7_firstWrongLine cX7_firstWrongLine 4 (some .int) :: hm_W) rm_X7_firstWrongLine g [.ref (a 0 0)] ([hm_wHM g a R Z ScR SeR SeA LeR LeZ BrA ShR ShZ SuA SuJ] : List va_W).flatten ([hm_wHM g a R Z ScR SeR SeA LeR LeZ BrA ShR ShZ SuA SuJ] : List va_W).flatten q := by
  refine hm_ofi [(0, .ref (a 0 0))] (by decide) (own := RX7) rfl (Nat.le_of_ble_eq_true rfl) rfl rfl ?_
  intro p e s m args below meth c AA S hr hlk X ls hl
  have hx := S.1
  have hb := S.2.1
  have hown := S.2.2.2.1
  have hts := S.2.2.2.2
  have X := X.to (ws' := ([[(a 0 0, .inr (7, [.ref (a 1 0), .ref (a 2 0), .ref (a 3 0), .ref (a 4 0), .ref (a 5 0), .ref (a 6 0), .ref (a 7 0), .ref (a 8 0), .ref (a 9 0), .ref (a 10 0), .int (Z 0), .int (Z 1)]))], hm_row g (a 1 0) (a 1 1) 200 (R 0), hm_wSc g (a 2) ScR, hm_wSe g (a 3) SeR SeA, hm_row g (a 4 0) (a 4 1) 100 (R 1), hm_row g (a 5 0) (a 5 1) 6 (R 2), hm_row g (a 6 0) (a 6 1) 6 (R 3), hm_wLe g (a 7) LeR LeZ, hm_wBr g (a 8) BrA, hm_wSh g (a 9) ShR ShZ, hm_wSu g (a 10) SuA SuJ] : List va_W).flatten) rfl
  have hl46 : ∀ (v1 : Int32), f_X7_firstWrongLine_l46 (R 1) (ScR 7) v1 = some q → ∀ (H : Heap) (locs : List Loc), hm_X g AA s H locs ([[(a 0 0, .inr (7, [.ref (a 1 0), .ref (a 2 0), .ref (a 3 0), .ref (a 4 0), .ref (a 5 0), .ref (a 6 0), .ref (a 7 0), .ref (a 8 0), .ref (a 9 0), .ref (a 10 0), .int (Z 0), .int (Z 1)]))], hm_row g (a 1 0) (a 1 1) 200 (R 0), hm_wSc g (a 2) ScR, hm_wSe g (a 3) SeR SeA, hm_row g (a 4 0) (a 4 1) 100 (R 1), hm_row g (a 5 0) (a 5 1) 6 (R 2), hm_row g (a 6 0) (a 6 1) 6 (R 3), hm_wLe g (a 7) LeR LeZ, hm_wBr g (a 8) BrA, hm_wSh g (a 9) ShR ShZ, hm_wSu g (a 10) SuA SuJ] : List va_W).flatten → ∀ ls : Array Slot, lv_has ls 4 [(0, .ref (a 0 0)), (1, .int v1)] → W p l e rm_X7_firstWrongLine s m args below meth c H locs 0 0 (MQ below (hm_Qi g AA ([hm_wHM g a R Z ScR SeR SeA LeR LeZ BrA ShR ShZ SuA SuJ] : List va_W).flatten q) args s 0 0 AA) (F0 m 46 ls []) := by
    intro v1 hF H locs X ls hl
    unfold f_X7_firstWrongLine_l46 at hF
    refine lv_iload_n hx hb dX7_firstWrongLine_46 rfl (lv_at hl 1 rfl) ?_
    refine lv_aload_n hx hb dX7_firstWrongLine_47 rfl (lv_at hl 0 rfl) ?_
    refine hm_get S X hf_X7_21 0 rfl rfl dX7_firstWrongLine_48 ?_
    obtain ⟨t2, ht2, hF⟩ := hm_bd hF
    refine hm_vi (As := []) S X mw_X3_placeCount hw_2_138 (c_X3_placeCount l g (a 2) ScR t2 ht2) (hm_mid [[(a 0 0, .inr (7, [.ref (a 1 0), .ref (a 2 0), .ref (a 3 0), .ref (a 4 0), .ref (a 5 0), .ref (a 6 0), .ref (a 7 0), .ref (a 8 0), .ref (a 9 0), .ref (a 10 0), .int (Z 0), .int (Z 1)]))], hm_row g (a 1 0) (a 1 1) 200 (R 0)] [hm_wSe g (a 3) SeR SeA, hm_row g (a 4 0) (a 4 1) 100 (R 1), hm_row g (a 5 0) (a 5 1) 6 (R 2), hm_row g (a 6 0) (a 6 1) 6 (R 3), hm_wLe g (a 7) LeR LeZ, hm_wBr g (a 8) BrA, hm_wSh g (a 9) ShR ShZ, hm_wSu g (a 10) SuA SuJ]) (hm_mid [[(a 0 0, .inr (7, [.ref (a 1 0), .ref (a 2 0), .ref (a 3 0), .ref (a 4 0), .ref (a 5 0), .ref (a 6 0), .ref (a 7 0), .ref (a 8 0), .ref (a 9 0), .ref (a 10 0), .int (Z 0), .int (Z 1)]))], hm_row g (a 1 0) (a 1 1) 200 (R 0)] [hm_wSe g (a 3) SeR SeA, hm_row g (a 4 0) (a 4 1) 100 (R 1), hm_row g (a 5 0) (a 5 1) 6 (R 2), hm_row g (a 6 0) (a 6 1) 6 (R 3), hm_wLe g (a 7) LeR LeZ, hm_wBr g (a 8) BrA, hm_wSh g (a 9) ShR ShZ, hm_wSu g (a 10) SuA SuJ] (b := hm_wSc g (a 2) ScR)) rfl rfl rfl ⟨rfl, rfl, Nat.le_of_ble_eq_true rfl, Nat.le_of_ble_eq_true rfl⟩ rfl hl.1 rfl (Nat.le_of_ble_eq_true rfl) dX7_firstWrongLine_51 ⟨Nat.zero_le _, Nat.zero_le _⟩ (fun H locs X => ?_)
    have X := X.to (ws' := ([[(a 0 0, .inr (7, [.ref (a 1 0), .ref (a 2 0), .ref (a 3 0), .ref (a 4 0), .ref (a 5 0), .ref (a 6 0), .ref (a 7 0), .ref (a 8 0), .ref (a 9 0), .ref (a 10 0), .int (Z 0), .int (Z 1)]))], hm_row g (a 1 0) (a 1 1) 200 (R 0), hm_wSc g (a 2) ScR, hm_wSe g (a 3) SeR SeA, hm_row g (a 4 0) (a 4 1) 100 (R 1), hm_row g (a 5 0) (a 5 1) 6 (R 2), hm_row g (a 6 0) (a 6 1) 6 (R 3), hm_wLe g (a 7) LeR LeZ, hm_wBr g (a 8) BrA, hm_wSh g (a 9) ShR ShZ, hm_wSu g (a 10) SuA SuJ] : List va_W).flatten) rfl
    refine lv_iconst (v := 1) hx hb dX7_firstWrongLine_54 (by decide) ?_
    refine lv_isub hx hb dX7_firstWrongLine_55 ?_
    refine lv_icmp_ne (tgt := 63) hx hb dX7_firstWrongLine_56 (by decide) (fun c56 => ?_) (fun c56 => ?_)
    · have hF := hm_nf hF c56
      refine lv_aload_n hx hb dX7_firstWrongLine_63 rfl (lv_at hl 0 rfl) ?_
      refine hm_get S X hf_X7_32 0 rfl rfl dX7_firstWrongLine_64 ?_
      obtain ⟨t3, ht3, hF⟩ := hm_bd hF
      refine hm_vi (As := []) S X mw_X2_size hw_2_26 (c_X2_size l g (a 4 0) (a 4 1) 100 (R 1) t3 ht3) (hm_mid [[(a 0 0, .inr (7, [.ref (a 1 0), .ref (a 2 0), .ref (a 3 0), .ref (a 4 0), .ref (a 5 0), .ref (a 6 0), .ref (a 7 0), .ref (a 8 0), .ref (a 9 0), .ref (a 10 0), .int (Z 0), .int (Z 1)]))], hm_row g (a 1 0) (a 1 1) 200 (R 0), hm_wSc g (a 2) ScR, hm_wSe g (a 3) SeR SeA] [hm_row g (a 5 0) (a 5 1) 6 (R 2), hm_row g (a 6 0) (a 6 1) 6 (R 3), hm_wLe g (a 7) LeR LeZ, hm_wBr g (a 8) BrA, hm_wSh g (a 9) ShR ShZ, hm_wSu g (a 10) SuA SuJ]) (hm_mid [[(a 0 0, .inr (7, [.ref (a 1 0), .ref (a 2 0), .ref (a 3 0), .ref (a 4 0), .ref (a 5 0), .ref (a 6 0), .ref (a 7 0), .ref (a 8 0), .ref (a 9 0), .ref (a 10 0), .int (Z 0), .int (Z 1)]))], hm_row g (a 1 0) (a 1 1) 200 (R 0), hm_wSc g (a 2) ScR, hm_wSe g (a 3) SeR SeA] [hm_row g (a 5 0) (a 5 1) 6 (R 2), hm_row g (a 6 0) (a 6 1) 6 (R 3), hm_wLe g (a 7) LeR LeZ, hm_wBr g (a 8) BrA, hm_wSh g (a 9) ShR ShZ, hm_wSu g (a 10) SuA SuJ] (b := hm_row g (a 4 0) (a 4 1) 100 (R 1))) rfl rfl rfl ⟨rfl, rfl, Nat.le_of_ble_eq_true rfl, Nat.le_of_ble_eq_true rfl⟩ rfl hl.1 rfl (Nat.le_of_ble_eq_true rfl) dX7_firstWrongLine_67 ⟨Nat.zero_le _, Nat.zero_le _⟩ (fun H locs X => ?_)
      have X := X.to (ws' := ([[(a 0 0, .inr (7, [.ref (a 1 0), .ref (a 2 0), .ref (a 3 0), .ref (a 4 0), .ref (a 5 0), .ref (a 6 0), .ref (a 7 0), .ref (a 8 0), .ref (a 9 0), .ref (a 10 0), .int (Z 0), .int (Z 1)]))], hm_row g (a 1 0) (a 1 1) 200 (R 0), hm_wSc g (a 2) ScR, hm_wSe g (a 3) SeR SeA, hm_row g (a 4 0) (a 4 1) 100 (R 1), hm_row g (a 5 0) (a 5 1) 6 (R 2), hm_row g (a 6 0) (a 6 1) 6 (R 3), hm_wLe g (a 7) LeR LeZ, hm_wBr g (a 8) BrA, hm_wSh g (a 9) ShR ShZ, hm_wSu g (a 10) SuA SuJ] : List va_W).flatten) rfl
      obtain rfl := Option.some.inj hF
      exact hm_ri S hr hlk X rfl rfl dX7_firstWrongLine_70
    · have hF := hm_if hF c56
      refine lv_iconst (v := (-1)) hx hb dX7_firstWrongLine_59 (by decide) ?_
      refine lv_goto (tgt := 70) hx hb dX7_firstWrongLine_60 (by decide) ?_
      obtain rfl := Option.some.inj hF
      exact hm_ri S hr hlk X rfl rfl dX7_firstWrongLine_70
  have hl4 : ∀ (k4 : Nat) (v1 : Int32) (v2 : Int32), f_X7_firstWrongLine_l4 (R 1) (ScR 7) (LeR 0) (LeR 1) (LeR 4) (LeZ 1) k4 v1 v2 = some q → ∀ (H : Heap) (locs : List Loc), hm_X g AA s H locs ([[(a 0 0, .inr (7, [.ref (a 1 0), .ref (a 2 0), .ref (a 3 0), .ref (a 4 0), .ref (a 5 0), .ref (a 6 0), .ref (a 7 0), .ref (a 8 0), .ref (a 9 0), .ref (a 10 0), .int (Z 0), .int (Z 1)]))], hm_row g (a 1 0) (a 1 1) 200 (R 0), hm_wSc g (a 2) ScR, hm_wSe g (a 3) SeR SeA, hm_row g (a 4 0) (a 4 1) 100 (R 1), hm_row g (a 5 0) (a 5 1) 6 (R 2), hm_row g (a 6 0) (a 6 1) 6 (R 3), hm_wLe g (a 7) LeR LeZ, hm_wBr g (a 8) BrA, hm_wSh g (a 9) ShR ShZ, hm_wSu g (a 10) SuA SuJ] : List va_W).flatten → ∀ ls : Array Slot, lv_has ls 4 [(0, .ref (a 0 0)), (1, .int v1), (2, .int v2)] → W p l e rm_X7_firstWrongLine s m args below meth c H locs 0 0 (MQ below (hm_Qi g AA ([hm_wHM g a R Z ScR SeR SeA LeR LeZ BrA ShR ShZ SuA SuJ] : List va_W).flatten q) args s 0 0 AA) (F0 m 4 ls []) := by
    intro k4
    induction k4 with
    | zero =>
      intro v1 v2 hF
      rw [f_X7_firstWrongLine_l4_z] at hF
      cases hF
    | succ k4 ih4 =>
      intro v1 v2 hF H locs X ls hl
      rw [f_X7_firstWrongLine_l4_s] at hF
      refine lv_iload_n hx hb dX7_firstWrongLine_4 rfl (lv_at hl 2 rfl) ?_
      refine lv_aload_n hx hb dX7_firstWrongLine_5 rfl (lv_at hl 0 rfl) ?_
      refine hm_get S X hf_X7_32 0 rfl rfl dX7_firstWrongLine_6 ?_
      obtain ⟨t1, ht1, hF⟩ := hm_bd hF
      refine hm_vi (As := []) S X mw_X2_size hw_2_26 (c_X2_size l g (a 4 0) (a 4 1) 100 (R 1) t1 ht1) (hm_mid [[(a 0 0, .inr (7, [.ref (a 1 0), .ref (a 2 0), .ref (a 3 0), .ref (a 4 0), .ref (a 5 0), .ref (a 6 0), .ref (a 7 0), .ref (a 8 0), .ref (a 9 0), .ref (a 10 0), .int (Z 0), .int (Z 1)]))], hm_row g (a 1 0) (a 1 1) 200 (R 0), hm_wSc g (a 2) ScR, hm_wSe g (a 3) SeR SeA] [hm_row g (a 5 0) (a 5 1) 6 (R 2), hm_row g (a 6 0) (a 6 1) 6 (R 3), hm_wLe g (a 7) LeR LeZ, hm_wBr g (a 8) BrA, hm_wSh g (a 9) ShR ShZ, hm_wSu g (a 10) SuA SuJ]) (hm_mid [[(a 0 0, .inr (7, [.ref (a 1 0), .ref (a 2 0), .ref (a 3 0), .ref (a 4 0), .ref (a 5 0), .ref (a 6 0), .ref (a 7 0), .ref (a 8 0), .ref (a 9 0), .ref (a 10 0), .int (Z 0), .int (Z 1)]))], hm_row g (a 1 0) (a 1 1) 200 (R 0), hm_wSc g (a 2) ScR, hm_wSe g (a 3) SeR SeA] [hm_row g (a 5 0) (a 5 1) 6 (R 2), hm_row g (a 6 0) (a 6 1) 6 (R 3), hm_wLe g (a 7) LeR LeZ, hm_wBr g (a 8) BrA, hm_wSh g (a 9) ShR ShZ, hm_wSu g (a 10) SuA SuJ] (b := hm_row g (a 4 0) (a 4 1) 100 (R 1))) rfl rfl rfl ⟨rfl, rfl, Nat.le_of_ble_eq_true rfl, Nat.le_of_ble_eq_true rfl⟩ rfl hl.1 rfl (Nat.le_of_ble_eq_true rfl) dX7_firstWrongLine_9 ⟨Nat.zero_le _, Nat.zero_le _⟩ (fun H locs X => ?_)
      have X := X.to (ws' := ([[(a 0 0, .inr (7, [.ref (a 1 0), .ref (a 2 0), .ref (a 3 0), .ref (a 4 0), .ref (a 5 0), .ref (a 6 0), .ref (a 7 0), .ref (a 8 0), .ref (a 9 0), .ref (a 10 0), .int (Z 0), .int (Z 1)]))], hm_row g (a 1 0) (a 1 1) 200 (R 0), hm_wSc g (a 2) ScR, hm_wSe g (a 3) SeR SeA, hm_row g (a 4 0) (a 4 1) 100 (R 1), hm_row g (a 5 0) (a 5 1) 6 (R 2), hm_row g (a 6 0) (a 6 1) 6 (R 3), hm_wLe g (a 7) LeR LeZ, hm_wBr g (a 8) BrA, hm_wSh g (a 9) ShR ShZ, hm_wSu g (a 10) SuA SuJ] : List va_W).flatten) rfl
      refine lv_icmp_ge (tgt := 46) hx hb dX7_firstWrongLine_12 (by decide) (fun c12 => ?_) (fun c12 => ?_)
      · have hF := hm_if hF c12
        exact hl46 v1 hF _ _ X _ (lv_sub hl [0, 1] rfl)
      · have hF := hm_nf hF c12
        refine lv_aload_n hx hb dX7_firstWrongLine_15 rfl (lv_at hl 0 rfl) ?_
        refine hm_get S X hf_X7_32 0 rfl rfl dX7_firstWrongLine_16 ?_
        refine lv_iload_n hx hb dX7_firstWrongLine_19 rfl (lv_at hl 2 rfl) ?_
        obtain ⟨t4, ht4, hF⟩ := hm_bd hF
        refine hm_vi (As := [.int v2]) S X mw_X2_get hw_2_42 (c_X2_get l g (a 4 0) (a 4 1) 100 (R 1) v2 t4 ht4) (hm_mid [[(a 0 0, .inr (7, [.ref (a 1 0), .ref (a 2 0), .ref (a 3 0), .ref (a 4 0), .ref (a 5 0), .ref (a 6 0), .ref (a 7 0), .ref (a 8 0), .ref (a 9 0), .ref (a 10 0), .int (Z 0), .int (Z 1)]))], hm_row g (a 1 0) (a 1 1) 200 (R 0), hm_wSc g (a 2) ScR, hm_wSe g (a 3) SeR SeA] [hm_row g (a 5 0) (a 5 1) 6 (R 2), hm_row g (a 6 0) (a 6 1) 6 (R 3), hm_wLe g (a 7) LeR LeZ, hm_wBr g (a 8) BrA, hm_wSh g (a 9) ShR ShZ, hm_wSu g (a 10) SuA SuJ]) (hm_mid [[(a 0 0, .inr (7, [.ref (a 1 0), .ref (a 2 0), .ref (a 3 0), .ref (a 4 0), .ref (a 5 0), .ref (a 6 0), .ref (a 7 0), .ref (a 8 0), .ref (a 9 0), .ref (a 10 0), .int (Z 0), .int (Z 1)]))], hm_row g (a 1 0) (a 1 1) 200 (R 0), hm_wSc g (a 2) ScR, hm_wSe g (a 3) SeR SeA] [hm_row g (a 5 0) (a 5 1) 6 (R 2), hm_row g (a 6 0) (a 6 1) 6 (R 3), hm_wLe g (a 7) LeR LeZ, hm_wBr g (a 8) BrA, hm_wSh g (a 9) ShR ShZ, hm_wSu g (a 10) SuA SuJ] (b := hm_row g (a 4 0) (a 4 1) 100 (R 1))) rfl rfl rfl ⟨rfl, rfl, Nat.le_of_ble_eq_true rfl, Nat.le_of_ble_eq_true rfl⟩ rfl hl.1 rfl (Nat.le_of_ble_eq_true rfl) dX7_firstWrongLine_20 ⟨Nat.zero_le _, Nat.zero_le _⟩ (fun H locs X => ?_)
        have X := X.to (ws' := ([[(a 0 0, .inr (7, [.ref (a 1 0), .ref (a 2 0), .ref (a 3 0), .ref (a 4 0), .ref (a 5 0), .ref (a 6 0), .ref (a 7 0), .ref (a 8 0), .ref (a 9 0), .ref (a 10 0), .int (Z 0), .int (Z 1)]))], hm_row g (a 1 0) (a 1 1) 200 (R 0), hm_wSc g (a 2) ScR, hm_wSe g (a 3) SeR SeA, hm_row g (a 4 0) (a 4 1) 100 (R 1), hm_row g (a 5 0) (a 5 1) 6 (R 2), hm_row g (a 6 0) (a 6 1) 6 (R 3), hm_wLe g (a 7) LeR LeZ, hm_wBr g (a 8) BrA, hm_wSh g (a 9) ShR ShZ, hm_wSu g (a 10) SuA SuJ] : List va_W).flatten) rfl
        refine lv_istore_n (lv' := [(3, .int t4), (0, .ref (a 0 0)), (1, .int v1), (2, .int v2)]) hx hb dX7_firstWrongLine_23 rfl hl (by decide) rfl (fun ls hl => ?_)
        refine lv_aload_n hx hb dX7_firstWrongLine_24 rfl (lv_at hl 1 rfl) ?_
        refine hm_get S X hf_X7_44 0 rfl rfl dX7_firstWrongLine_25 ?_
        refine lv_iload_n hx hb dX7_firstWrongLine_28 rfl (lv_at hl 2 rfl) ?_
        refine lv_iload_n hx hb dX7_firstWrongLine_29 rfl (lv_at hl 0 rfl) ?_
        obtain ⟨t5, ht5, hF⟩ := hm_bd hF
        refine hm_vi (As := [.int v1, .int t4]) S X mw_X1_left hw_3_168 (c_X1_left l g (a 7) LeR LeZ v1 t4 t5 ht5) (hm_mid [[(a 0 0, .inr (7, [.ref (a 1 0), .ref (a 2 0), .ref (a 3 0), .ref (a 4 0), .ref (a 5 0), .ref (a 6 0), .ref (a 7 0), .ref (a 8 0), .ref (a 9 0), .ref (a 10 0), .int (Z 0), .int (Z 1)]))], hm_row g (a 1 0) (a 1 1) 200 (R 0), hm_wSc g (a 2) ScR, hm_wSe g (a 3) SeR SeA, hm_row g (a 4 0) (a 4 1) 100 (R 1), hm_row g (a 5 0) (a 5 1) 6 (R 2), hm_row g (a 6 0) (a 6 1) 6 (R 3)] [hm_wBr g (a 8) BrA, hm_wSh g (a 9) ShR ShZ, hm_wSu g (a 10) SuA SuJ]) (hm_mid [[(a 0 0, .inr (7, [.ref (a 1 0), .ref (a 2 0), .ref (a 3 0), .ref (a 4 0), .ref (a 5 0), .ref (a 6 0), .ref (a 7 0), .ref (a 8 0), .ref (a 9 0), .ref (a 10 0), .int (Z 0), .int (Z 1)]))], hm_row g (a 1 0) (a 1 1) 200 (R 0), hm_wSc g (a 2) ScR, hm_wSe g (a 3) SeR SeA, hm_row g (a 4 0) (a 4 1) 100 (R 1), hm_row g (a 5 0) (a 5 1) 6 (R 2), hm_row g (a 6 0) (a 6 1) 6 (R 3)] [hm_wBr g (a 8) BrA, hm_wSh g (a 9) ShR ShZ, hm_wSu g (a 10) SuA SuJ] (b := hm_wLe g (a 7) LeR LeZ)) rfl rfl rfl ⟨rfl, rfl, Nat.le_of_ble_eq_true rfl, Nat.le_of_ble_eq_true rfl⟩ rfl hl.1 rfl (Nat.le_of_ble_eq_true rfl) dX7_firstWrongLine_30 ⟨Nat.zero_le _, Nat.zero_le _⟩ (fun H locs X => ?_)
        have X := X.to (ws' := ([[(a 0 0, .inr (7, [.ref (a 1 0), .ref (a 2 0), .ref (a 3 0), .ref (a 4 0), .ref (a 5 0), .ref (a 6 0), .ref (a 7 0), .ref (a 8 0), .ref (a 9 0), .ref (a 10 0), .int (Z 0), .int (Z 1)]))], hm_row g (a 1 0) (a 1 1) 200 (R 0), hm_wSc g (a 2) ScR, hm_wSe g (a 3) SeR SeA, hm_row g (a 4 0) (a 4 1) 100 (R 1), hm_row g (a 5 0) (a 5 1) 6 (R 2), hm_row g (a 6 0) (a 6 1) 6 (R 3), hm_wLe g (a 7) LeR LeZ, hm_wBr g (a 8) BrA, hm_wSh g (a 9) ShR ShZ, hm_wSu g (a 10) SuA SuJ] : List va_W).flatten) rfl
        refine lv_if_ge (tgt := 38) hx hb dX7_firstWrongLine_33 (by decide) (fun c33 => ?_) (fun c33 => ?_)
        · have hF := hm_if hF c33
          refine lv_iload_n hx hb dX7_firstWrongLine_38 rfl (lv_at hl 0 rfl) ?_
          refine lv_istore_n (lv' := [(1, .int t4), (3, .int t4), (0, .ref (a 0 0)), (2, .int v2)]) hx hb dX7_firstWrongLine_39 rfl hl (by decide) rfl (fun ls hl => ?_)
          refine lv_iinc (v := (v2 + 1)) (lv' := [(2, .int (v2 + 1)), (1, .int t4), (3, .int t4), (0, .ref (a 0 0))]) hx hb dX7_firstWrongLine_40 hl (k := 3) rfl rfl (by decide) rfl (fun ls hl => ?_)
          refine lv_goto (tgt := 4) hx hb dX7_firstWrongLine_43 (by decide) ?_
          exact ih4 t4 (v2 + 1) hF _ _ X _ (lv_sub hl [3, 1, 0] rfl)
        · have hF := hm_nf hF c33
          refine lv_iload_n hx hb dX7_firstWrongLine_36 rfl (lv_at hl 3 rfl) ?_
          obtain rfl := Option.some.inj hF
          exact hm_ri S hr hlk X rfl rfl dX7_firstWrongLine_37
  unfold f_X7_firstWrongLine at hF
  refine lv_iconst (v := (-1)) hx hb dX7_firstWrongLine_0 (by decide) ?_
  refine lv_istore_n (lv' := [(1, .int (-1)), (0, .ref (a 0 0))]) hx hb dX7_firstWrongLine_1 rfl hl (by decide) rfl (fun ls hl => ?_)
  refine lv_iconst (v := 0) hx hb dX7_firstWrongLine_2 (by decide) ?_
  refine lv_istore_n (lv' := [(2, .int 0), (1, .int (-1)), (0, .ref (a 0 0))]) hx hb dX7_firstWrongLine_3 rfl hl (by decide) rfl (fun ls hl => ?_)
  exact hl4 hm_fu (-1) 0 hF _ _ X _ (lv_sub hl [2, 1, 0] rfl)
def f_X7_costOfDraft_l6 (R_1 : hm_SR) (LeR_0 : hm_SR) (LeR_1 : hm_SR) (LeR_2 : hm_SR) (LeR_4 : hm_SR) (LeZ_1 : Int32) (LeZ_2 : Int32) (LeZ_3 : Int32) : Nat → Int32 → Int32 → Int32 → Option (Int32)
  | 0, _, _, _ => none
  | k + 1, v1, v2, v3 =>
  (f_X2_size R_1).bind fun t1 =>
  if t1 ≤ v3 then (
  some (v1))
  else (
  (f_X2_get 100 R_1 v3).bind fun t2 =>
  (f_X1_cost LeR_0 LeR_1 LeR_2 LeR_4 LeZ_1 LeZ_2 LeZ_3 v2 t2).bind fun t3 =>
  f_X7_costOfDraft_l6 R_1 LeR_0 LeR_1 LeR_2 LeR_4 LeZ_1 LeZ_2 LeZ_3 k (v1 + t3) t2 (v3 + 1))
theorem f_X7_costOfDraft_l6_s (R_1 : hm_SR) (LeR_0 : hm_SR) (LeR_1 : hm_SR) (LeR_2 : hm_SR) (LeR_4 : hm_SR) (LeZ_1 : Int32) (LeZ_2 : Int32) (LeZ_3 : Int32) (k : Nat) (v1 : Int32) (v2 : Int32) (v3 : Int32) : f_X7_costOfDraft_l6 R_1 LeR_0 LeR_1 LeR_2 LeR_4 LeZ_1 LeZ_2 LeZ_3 (k + 1) v1 v2 v3 =
  (f_X2_size R_1).bind fun t1 =>
  if t1 ≤ v3 then (
  some (v1))
  else (
  (f_X2_get 100 R_1 v3).bind fun t2 =>
  (f_X1_cost LeR_0 LeR_1 LeR_2 LeR_4 LeZ_1 LeZ_2 LeZ_3 v2 t2).bind fun t3 =>
  f_X7_costOfDraft_l6 R_1 LeR_0 LeR_1 LeR_2 LeR_4 LeZ_1 LeZ_2 LeZ_3 k (v1 + t3) t2 (v3 + 1)) := rfl
theorem f_X7_costOfDraft_l6_z (R_1 : hm_SR) (LeR_0 : hm_SR) (LeR_1 : hm_SR) (LeR_2 : hm_SR) (LeR_4 : hm_SR) (LeZ_1 : Int32) (LeZ_2 : Int32) (LeZ_3 : Int32) (v1 : Int32) (v2 : Int32) (v3 : Int32) : f_X7_costOfDraft_l6 R_1 LeR_0 LeR_1 LeR_2 LeR_4 LeZ_1 LeZ_2 LeZ_3 0 v1 v2 v3 = none := rfl
def f_X7_costOfDraft (R_1 : hm_SR) (LeR_0 : hm_SR) (LeR_1 : hm_SR) (LeR_2 : hm_SR) (LeR_4 : hm_SR) (LeZ_1 : Int32) (LeZ_2 : Int32) (LeZ_3 : Int32)  : Option (Int32) :=
  f_X7_costOfDraft_l6 R_1 LeR_0 LeR_1 LeR_2 LeR_4 LeZ_1 LeZ_2 LeZ_3 hm_fu 0 (-1) 0
abbrev rm_X7_costOfDraft : Room := { frames := 4, cells := 0, slots := 0, locals := 88 }
set_option maxHeartbeats 4000000 in
set_option maxRecDepth 100000 in
theorem c_X7_costOfDraft (l : Launch) (g : hm_G) (a : Nat → Nat → Nat) (R : Nat → hm_SR) (Z : Nat → Int32) (ScR : Nat → hm_SR) (SeR : Nat → hm_SR) (SeA : Nat → Nat → Int32) (LeR : Nat → hm_SR) (LeZ : Nat → Int32) (BrA : Nat → Nat → Int32) (ShR : Nat → hm_SR) (ShZ : Nat → Int32) (SuA : Nat → Nat → Int32) (SuJ : Nat → Nat → Int64) (q : Int32) (hF : f_X7_costOfDraft (R 1) (LeR 0) (LeR 1) (LeR 2) (LeR 4) (LeZ 1) (LeZ 2) (LeZ 3) = some q) : hm_Mi l yX7_costOfDraft (Cond.code yX7_costOfDraft cX7_costOfDraft 5 (some .int) :: hm_W) rm_X7_costOfDraft g [.ref (a 0 0)] ([hm_wHM g a R Z ScR SeR SeA LeR LeZ BrA ShR ShZ SuA SuJ] : List va_W).flatten ([hm_wHM g a R Z ScR SeR SeA LeR LeZ BrA ShR ShZ SuA SuJ] : List va_W).flatten q := by
  refine hm_ofi [(0, .ref (a 0 0))] (by decide) (own := RX7) rfl (Nat.le_of_ble_eq_true rfl) rfl rfl ?_
  intro p e s m args below meth c AA S hr hlk X ls hl
  have hx := S.1
  have hb := S.2.1
  have hown := S.2.2.2.1
  have hts := S.2.2.2.2
  have X := X.to (ws' := ([[(a 0 0, .inr (7, [.ref (a 1 0), .ref (a 2 0), .ref (a 3 0), .ref (a 4 0), .ref (a 5 0), .ref (a 6 0), .ref (a 7 0), .ref (a 8 0), .ref (a 9 0), .ref (a 10 0), .int (Z 0), .int (Z 1)]))], hm_row g (a 1 0) (a 1 1) 200 (R 0), hm_wSc g (a 2) ScR, hm_wSe g (a 3) SeR SeA, hm_row g (a 4 0) (a 4 1) 100 (R 1), hm_row g (a 5 0) (a 5 1) 6 (R 2), hm_row g (a 6 0) (a 6 1) 6 (R 3), hm_wLe g (a 7) LeR LeZ, hm_wBr g (a 8) BrA, hm_wSh g (a 9) ShR ShZ, hm_wSu g (a 10) SuA SuJ] : List va_W).flatten) rfl
  have hl6 : ∀ (k6 : Nat) (v1 : Int32) (v2 : Int32) (v3 : Int32), f_X7_costOfDraft_l6 (R 1) (LeR 0) (LeR 1) (LeR 2) (LeR 4) (LeZ 1) (LeZ 2) (LeZ 3) k6 v1 v2 v3 = some q → ∀ (H : Heap) (locs : List Loc), hm_X g AA s H locs ([[(a 0 0, .inr (7, [.ref (a 1 0), .ref (a 2 0), .ref (a 3 0), .ref (a 4 0), .ref (a 5 0), .ref (a 6 0), .ref (a 7 0), .ref (a 8 0), .ref (a 9 0), .ref (a 10 0), .int (Z 0), .int (Z 1)]))], hm_row g (a 1 0) (a 1 1) 200 (R 0), hm_wSc g (a 2) ScR, hm_wSe g (a 3) SeR SeA, hm_row g (a 4 0) (a 4 1) 100 (R 1), hm_row g (a 5 0) (a 5 1) 6 (R 2), hm_row g (a 6 0) (a 6 1) 6 (R 3), hm_wLe g (a 7) LeR LeZ, hm_wBr g (a 8) BrA, hm_wSh g (a 9) ShR ShZ, hm_wSu g (a 10) SuA SuJ] : List va_W).flatten → ∀ ls : Array Slot, lv_has ls 5 [(0, .ref (a 0 0)), (1, .int v1), (2, .int v2), (3, .int v3)] → W p l e rm_X7_costOfDraft s m args below meth c H locs 0 0 (MQ below (hm_Qi g AA ([hm_wHM g a R Z ScR SeR SeA LeR LeZ BrA ShR ShZ SuA SuJ] : List va_W).flatten q) args s 0 0 AA) (F0 m 6 ls []) := by
    intro k6
    induction k6 with
    | zero =>
      intro v1 v2 v3 hF
      rw [f_X7_costOfDraft_l6_z] at hF
      cases hF
    | succ k6 ih6 =>
      intro v1 v2 v3 hF H locs X ls hl
      rw [f_X7_costOfDraft_l6_s] at hF
      refine lv_iload_n hx hb dX7_costOfDraft_6 rfl (lv_at hl 3 rfl) ?_
      refine lv_aload_n hx hb dX7_costOfDraft_7 rfl (lv_at hl 0 rfl) ?_
      refine hm_get S X hf_X7_32 0 rfl rfl dX7_costOfDraft_8 ?_
      obtain ⟨t1, ht1, hF⟩ := hm_bd hF
      refine hm_vi (As := []) S X mw_X2_size hw_2_26 (c_X2_size l g (a 4 0) (a 4 1) 100 (R 1) t1 ht1) (hm_mid [[(a 0 0, .inr (7, [.ref (a 1 0), .ref (a 2 0), .ref (a 3 0), .ref (a 4 0), .ref (a 5 0), .ref (a 6 0), .ref (a 7 0), .ref (a 8 0), .ref (a 9 0), .ref (a 10 0), .int (Z 0), .int (Z 1)]))], hm_row g (a 1 0) (a 1 1) 200 (R 0), hm_wSc g (a 2) ScR, hm_wSe g (a 3) SeR SeA] [hm_row g (a 5 0) (a 5 1) 6 (R 2), hm_row g (a 6 0) (a 6 1) 6 (R 3), hm_wLe g (a 7) LeR LeZ, hm_wBr g (a 8) BrA, hm_wSh g (a 9) ShR ShZ, hm_wSu g (a 10) SuA SuJ]) (hm_mid [[(a 0 0, .inr (7, [.ref (a 1 0), .ref (a 2 0), .ref (a 3 0), .ref (a 4 0), .ref (a 5 0), .ref (a 6 0), .ref (a 7 0), .ref (a 8 0), .ref (a 9 0), .ref (a 10 0), .int (Z 0), .int (Z 1)]))], hm_row g (a 1 0) (a 1 1) 200 (R 0), hm_wSc g (a 2) ScR, hm_wSe g (a 3) SeR SeA] [hm_row g (a 5 0) (a 5 1) 6 (R 2), hm_row g (a 6 0) (a 6 1) 6 (R 3), hm_wLe g (a 7) LeR LeZ, hm_wBr g (a 8) BrA, hm_wSh g (a 9) ShR ShZ, hm_wSu g (a 10) SuA SuJ] (b := hm_row g (a 4 0) (a 4 1) 100 (R 1))) rfl rfl rfl ⟨rfl, rfl, Nat.le_of_ble_eq_true rfl, Nat.le_of_ble_eq_true rfl⟩ rfl hl.1 rfl (Nat.le_of_ble_eq_true rfl) dX7_costOfDraft_11 ⟨Nat.zero_le _, Nat.zero_le _⟩ (fun H locs X => ?_)
      have X := X.to (ws' := ([[(a 0 0, .inr (7, [.ref (a 1 0), .ref (a 2 0), .ref (a 3 0), .ref (a 4 0), .ref (a 5 0), .ref (a 6 0), .ref (a 7 0), .ref (a 8 0), .ref (a 9 0), .ref (a 10 0), .int (Z 0), .int (Z 1)]))], hm_row g (a 1 0) (a 1 1) 200 (R 0), hm_wSc g (a 2) ScR, hm_wSe g (a 3) SeR SeA, hm_row g (a 4 0) (a 4 1) 100 (R 1), hm_row g (a 5 0) (a 5 1) 6 (R 2), hm_row g (a 6 0) (a 6 1) 6 (R 3), hm_wLe g (a 7) LeR LeZ, hm_wBr g (a 8) BrA, hm_wSh g (a 9) ShR ShZ, hm_wSu g (a 10) SuA SuJ] : List va_W).flatten) rfl
      refine lv_icmp_ge (tgt := 49) hx hb dX7_costOfDraft_14 (by decide) (fun c14 => ?_) (fun c14 => ?_)
      · have hF := hm_if hF c14
        refine lv_iload_n hx hb dX7_costOfDraft_49 rfl (lv_at hl 1 rfl) ?_
        obtain rfl := Option.some.inj hF
        exact hm_ri S hr hlk X rfl rfl dX7_costOfDraft_50
      · have hF := hm_nf hF c14
        refine lv_aload_n hx hb dX7_costOfDraft_17 rfl (lv_at hl 0 rfl) ?_
        refine hm_get S X hf_X7_32 0 rfl rfl dX7_costOfDraft_18 ?_
        refine lv_iload_n hx hb dX7_costOfDraft_21 rfl (lv_at hl 3 rfl) ?_
        obtain ⟨t2, ht2, hF⟩ := hm_bd hF
        refine hm_vi (As := [.int v3]) S X mw_X2_get hw_2_42 (c_X2_get l g (a 4 0) (a 4 1) 100 (R 1) v3 t2 ht2) (hm_mid [[(a 0 0, .inr (7, [.ref (a 1 0), .ref (a 2 0), .ref (a 3 0), .ref (a 4 0), .ref (a 5 0), .ref (a 6 0), .ref (a 7 0), .ref (a 8 0), .ref (a 9 0), .ref (a 10 0), .int (Z 0), .int (Z 1)]))], hm_row g (a 1 0) (a 1 1) 200 (R 0), hm_wSc g (a 2) ScR, hm_wSe g (a 3) SeR SeA] [hm_row g (a 5 0) (a 5 1) 6 (R 2), hm_row g (a 6 0) (a 6 1) 6 (R 3), hm_wLe g (a 7) LeR LeZ, hm_wBr g (a 8) BrA, hm_wSh g (a 9) ShR ShZ, hm_wSu g (a 10) SuA SuJ]) (hm_mid [[(a 0 0, .inr (7, [.ref (a 1 0), .ref (a 2 0), .ref (a 3 0), .ref (a 4 0), .ref (a 5 0), .ref (a 6 0), .ref (a 7 0), .ref (a 8 0), .ref (a 9 0), .ref (a 10 0), .int (Z 0), .int (Z 1)]))], hm_row g (a 1 0) (a 1 1) 200 (R 0), hm_wSc g (a 2) ScR, hm_wSe g (a 3) SeR SeA] [hm_row g (a 5 0) (a 5 1) 6 (R 2), hm_row g (a 6 0) (a 6 1) 6 (R 3), hm_wLe g (a 7) LeR LeZ, hm_wBr g (a 8) BrA, hm_wSh g (a 9) ShR ShZ, hm_wSu g (a 10) SuA SuJ] (b := hm_row g (a 4 0) (a 4 1) 100 (R 1))) rfl rfl rfl ⟨rfl, rfl, Nat.le_of_ble_eq_true rfl, Nat.le_of_ble_eq_true rfl⟩ rfl hl.1 rfl (Nat.le_of_ble_eq_true rfl) dX7_costOfDraft_22 ⟨Nat.zero_le _, Nat.zero_le _⟩ (fun H locs X => ?_)
        have X := X.to (ws' := ([[(a 0 0, .inr (7, [.ref (a 1 0), .ref (a 2 0), .ref (a 3 0), .ref (a 4 0), .ref (a 5 0), .ref (a 6 0), .ref (a 7 0), .ref (a 8 0), .ref (a 9 0), .ref (a 10 0), .int (Z 0), .int (Z 1)]))], hm_row g (a 1 0) (a 1 1) 200 (R 0), hm_wSc g (a 2) ScR, hm_wSe g (a 3) SeR SeA, hm_row g (a 4 0) (a 4 1) 100 (R 1), hm_row g (a 5 0) (a 5 1) 6 (R 2), hm_row g (a 6 0) (a 6 1) 6 (R 3), hm_wLe g (a 7) LeR LeZ, hm_wBr g (a 8) BrA, hm_wSh g (a 9) ShR ShZ, hm_wSu g (a 10) SuA SuJ] : List va_W).flatten) rfl
        refine lv_istore (lv' := [(4, .int t2), (0, .ref (a 0 0)), (1, .int v1), (2, .int v2), (3, .int v3)]) hx hb dX7_costOfDraft_25 hl (by decide) rfl (fun ls hl => ?_)
        refine lv_iload_n hx hb dX7_costOfDraft_27 rfl (lv_at hl 2 rfl) ?_
        refine lv_aload_n hx hb dX7_costOfDraft_28 rfl (lv_at hl 1 rfl) ?_
        refine hm_get S X hf_X7_44 0 rfl rfl dX7_costOfDraft_29 ?_
        refine lv_iload_n hx hb dX7_costOfDraft_32 rfl (lv_at hl 3 rfl) ?_
        refine lv_iload hx hb dX7_costOfDraft_33 (lv_at hl 0 rfl) ?_
        obtain ⟨t3, ht3, hF⟩ := hm_bd hF
        refine hm_vi (As := [.int v2, .int t2]) S X mw_X1_cost hw_3_169 (c_X1_cost l g (a 7) LeR LeZ v2 t2 t3 ht3) (hm_mid [[(a 0 0, .inr (7, [.ref (a 1 0), .ref (a 2 0), .ref (a 3 0), .ref (a 4 0), .ref (a 5 0), .ref (a 6 0), .ref (a 7 0), .ref (a 8 0), .ref (a 9 0), .ref (a 10 0), .int (Z 0), .int (Z 1)]))], hm_row g (a 1 0) (a 1 1) 200 (R 0), hm_wSc g (a 2) ScR, hm_wSe g (a 3) SeR SeA, hm_row g (a 4 0) (a 4 1) 100 (R 1), hm_row g (a 5 0) (a 5 1) 6 (R 2), hm_row g (a 6 0) (a 6 1) 6 (R 3)] [hm_wBr g (a 8) BrA, hm_wSh g (a 9) ShR ShZ, hm_wSu g (a 10) SuA SuJ]) (hm_mid [[(a 0 0, .inr (7, [.ref (a 1 0), .ref (a 2 0), .ref (a 3 0), .ref (a 4 0), .ref (a 5 0), .ref (a 6 0), .ref (a 7 0), .ref (a 8 0), .ref (a 9 0), .ref (a 10 0), .int (Z 0), .int (Z 1)]))], hm_row g (a 1 0) (a 1 1) 200 (R 0), hm_wSc g (a 2) ScR, hm_wSe g (a 3) SeR SeA, hm_row g (a 4 0) (a 4 1) 100 (R 1), hm_row g (a 5 0) (a 5 1) 6 (R 2), hm_row g (a 6 0) (a 6 1) 6 (R 3)] [hm_wBr g (a 8) BrA, hm_wSh g (a 9) ShR ShZ, hm_wSu g (a 10) SuA SuJ] (b := hm_wLe g (a 7) LeR LeZ)) rfl rfl rfl ⟨rfl, rfl, Nat.le_of_ble_eq_true rfl, Nat.le_of_ble_eq_true rfl⟩ rfl hl.1 rfl (Nat.le_of_ble_eq_true rfl) dX7_costOfDraft_35 ⟨Nat.zero_le _, Nat.zero_le _⟩ (fun H locs X => ?_)
        have X := X.to (ws' := ([[(a 0 0, .inr (7, [.ref (a 1 0), .ref (a 2 0), .ref (a 3 0), .ref (a 4 0), .ref (a 5 0), .ref (a 6 0), .ref (a 7 0), .ref (a 8 0), .ref (a 9 0), .ref (a 10 0), .int (Z 0), .int (Z 1)]))], hm_row g (a 1 0) (a 1 1) 200 (R 0), hm_wSc g (a 2) ScR, hm_wSe g (a 3) SeR SeA, hm_row g (a 4 0) (a 4 1) 100 (R 1), hm_row g (a 5 0) (a 5 1) 6 (R 2), hm_row g (a 6 0) (a 6 1) 6 (R 3), hm_wLe g (a 7) LeR LeZ, hm_wBr g (a 8) BrA, hm_wSh g (a 9) ShR ShZ, hm_wSu g (a 10) SuA SuJ] : List va_W).flatten) rfl
        refine lv_iadd hx hb dX7_costOfDraft_38 ?_
        refine lv_istore_n (lv' := [(1, .int (v1 + t3)), (4, .int t2), (0, .ref (a 0 0)), (2, .int v2), (3, .int v3)]) hx hb dX7_costOfDraft_39 rfl hl (by decide) rfl (fun ls hl => ?_)
        refine lv_iload hx hb dX7_costOfDraft_40 (lv_at hl 1 rfl) ?_
        refine lv_istore_n (lv' := [(2, .int t2), (1, .int (v1 + t3)), (4, .int t2), (0, .ref (a 0 0)), (3, .int v3)]) hx hb dX7_costOfDraft_42 rfl hl (by decide) rfl (fun ls hl => ?_)
        refine lv_iinc (v := (v3 + 1)) (lv' := [(3, .int (v3 + 1)), (2, .int t2), (1, .int (v1 + t3)), (4, .int t2), (0, .ref (a 0 0))]) hx hb dX7_costOfDraft_43 hl (k := 4) rfl rfl (by decide) rfl (fun ls hl => ?_)
        refine lv_goto (tgt := 6) hx hb dX7_costOfDraft_46 (by decide) ?_
        exact ih6 (v1 + t3) t2 (v3 + 1) hF _ _ X _ (lv_sub hl [4, 2, 1, 0] rfl)
  unfold f_X7_costOfDraft at hF
  refine lv_iconst (v := 0) hx hb dX7_costOfDraft_0 (by decide) ?_
  refine lv_istore_n (lv' := [(1, .int 0), (0, .ref (a 0 0))]) hx hb dX7_costOfDraft_1 rfl hl (by decide) rfl (fun ls hl => ?_)
  refine lv_iconst (v := (-1)) hx hb dX7_costOfDraft_2 (by decide) ?_
  refine lv_istore_n (lv' := [(2, .int (-1)), (1, .int 0), (0, .ref (a 0 0))]) hx hb dX7_costOfDraft_3 rfl hl (by decide) rfl (fun ls hl => ?_)
  refine lv_iconst (v := 0) hx hb dX7_costOfDraft_4 (by decide) ?_
  refine lv_istore_n (lv' := [(3, .int 0), (2, .int (-1)), (1, .int 0), (0, .ref (a 0 0))]) hx hb dX7_costOfDraft_5 rfl hl (by decide) rfl (fun ls hl => ?_)
  exact hl6 hm_fu 0 (-1) 0 hF _ _ X _ (lv_sub hl [3, 2, 1, 0] rfl)
def f_X7_judged_l29 (R_1 : hm_SR) (x0 : Int32) (s29_0 : Int32) (v2 : Int32) (wBrA_0 : Nat → Int32) (wBrA_1 : Nat → Int32) (wBrA_2 : Nat → Int32) (wLeR_0 : hm_SR) (wLeR_1 : hm_SR) (wLeR_2 : hm_SR) (wLeR_3 : hm_SR) (wLeR_4 : hm_SR) (wLeZ_0 : Int32) (wLeZ_1 : Int32) (wLeZ_2 : Int32) (wLeZ_3 : Int32) (wShR_0 : hm_SR) (wShR_1 : hm_SR) (wShR_2 : hm_SR) (wShR_3 : hm_SR) (wShR_4 : hm_SR) (wShR_5 : hm_SR) (wShZ_0 : Int32) (wShZ_1 : Int32) (wZ_0 : Int32) : Option (Int32 × (Nat → Int32) × (Nat → Int32) × (Nat → Int32) × hm_SR × hm_SR × hm_SR × hm_SR × hm_SR × Int32 × Int32 × Int32 × Int32 × hm_SR × hm_SR × hm_SR × hm_SR × hm_SR × hm_SR × Int32 × Int32 × Int32) :=
  if x0 = 0 then (
  if s29_0 = 0 then (
  (f_X2_size R_1).bind fun t5 =>
  if t5 ≤ v2 then (
  some (2, wBrA_0, wBrA_1, wBrA_2, wLeR_0, wLeR_1, wLeR_2, wLeR_3, wLeR_4, wLeZ_0, wLeZ_1, wLeZ_2, wLeZ_3, wShR_0, wShR_1, wShR_2, wShR_3, wShR_4, wShR_5, wShZ_0, wShZ_1, wZ_0))
  else (
  some (1, wBrA_0, wBrA_1, wBrA_2, wLeR_0, wLeR_1, wLeR_2, wLeR_3, wLeR_4, wLeZ_0, wLeZ_1, wLeZ_2, wLeZ_3, wShR_0, wShR_1, wShR_2, wShR_3, wShR_4, wShR_5, wShZ_0, wShZ_1, wZ_0)))
  else (
  some (0, wBrA_0, wBrA_1, wBrA_2, wLeR_0, wLeR_1, wLeR_2, wLeR_3, wLeR_4, wLeZ_0, wLeZ_1, wLeZ_2, wLeZ_3, wShR_0, wShR_1, wShR_2, wShR_3, wShR_4, wShR_5, wShZ_0, wShZ_1, wZ_0)))
  else (
  if x0 = 1 then (
  if s29_0 = 0 then (
  some (v2, wBrA_0, wBrA_1, wBrA_2, wLeR_0, wLeR_1, wLeR_2, wLeR_3, wLeR_4, wLeZ_0, wLeZ_1, wLeZ_2, wLeZ_3, wShR_0, wShR_1, wShR_2, wShR_3, wShR_4, wShR_5, wShZ_0, wShZ_1, wZ_0))
  else (
  some ((-9), wBrA_0, wBrA_1, wBrA_2, wLeR_0, wLeR_1, wLeR_2, wLeR_3, wLeR_4, wLeZ_0, wLeZ_1, wLeZ_2, wLeZ_3, wShR_0, wShR_1, wShR_2, wShR_3, wShR_4, wShR_5, wShZ_0, wShZ_1, wZ_0)))
  else (
  if s29_0 = 0 then (
  some ((-9), wBrA_0, wBrA_1, wBrA_2, wLeR_0, wLeR_1, wLeR_2, wLeR_3, wLeR_4, wLeZ_0, wLeZ_1, wLeZ_2, wLeZ_3, wShR_0, wShR_1, wShR_2, wShR_3, wShR_4, wShR_5, wShZ_0, wShZ_1, wZ_0))
  else (
  (f_X7_costOfDraft R_1 wLeR_0 wLeR_1 wLeR_2 wLeR_4 wLeZ_1 wLeZ_2 wLeZ_3).bind fun t3 =>
  (f_X5_cost wShZ_1).bind fun t4 =>
  some ((t3 - t4), wBrA_0, wBrA_1, wBrA_2, wLeR_0, wLeR_1, wLeR_2, wLeR_3, wLeR_4, wLeZ_0, wLeZ_1, wLeZ_2, wLeZ_3, wShR_0, wShR_1, wShR_2, wShR_3, wShR_4, wShR_5, wShZ_0, wShZ_1, wZ_0))))
def f_X7_judged (R_1 : hm_SR) (Z_0 : Int32) (ScR_0 : hm_SR) (ScR_1 : hm_SR) (ScR_7 : hm_SR) (SeA_0 : Nat → Int32) (LeR_0 : hm_SR) (LeR_1 : hm_SR) (LeR_2 : hm_SR) (LeR_3 : hm_SR) (LeR_4 : hm_SR) (LeZ_0 : Int32) (LeZ_1 : Int32) (LeZ_2 : Int32) (LeZ_3 : Int32) (BrA_0 : Nat → Int32) (BrA_1 : Nat → Int32) (BrA_2 : Nat → Int32) (ShR_0 : hm_SR) (ShR_1 : hm_SR) (ShR_2 : hm_SR) (ShR_3 : hm_SR) (ShR_4 : hm_SR) (ShR_5 : hm_SR) (ShZ_0 : Int32) (ShZ_1 : Int32) (x0 : Int32)  : Option (Int32 × (Nat → Int32) × (Nat → Int32) × (Nat → Int32) × hm_SR × hm_SR × hm_SR × hm_SR × hm_SR × Int32 × Int32 × Int32 × Int32 × hm_SR × hm_SR × hm_SR × hm_SR × hm_SR × hm_SR × Int32 × Int32 × Int32) :=
  if x0 < 0 then (
  some ((-1), BrA_0, BrA_1, BrA_2, LeR_0, LeR_1, LeR_2, LeR_3, LeR_4, LeZ_0, LeZ_1, LeZ_2, LeZ_3, ShR_0, ShR_1, ShR_2, ShR_3, ShR_4, ShR_5, ShZ_0, ShZ_1, Z_0))
  else (
  if x0 ≤ 2 then (
  (f_X7_freshen Z_0 ScR_0 ScR_1 SeA_0 LeR_0 LeR_1 LeR_2 LeR_3 LeR_4 LeZ_0 LeZ_1 LeZ_2 LeZ_3 BrA_0 BrA_1 BrA_2 ShR_0 ShR_1 ShR_2 ShR_3 ShR_4 ShR_5 ShZ_0 ShZ_1).bind fun t1 =>
  (f_X7_firstWrongLine R_1 ScR_7 t1.2.2.2.1 t1.2.2.2.2.1 t1.2.2.2.2.2.2.2.1 t1.2.2.2.2.2.2.2.2.2.1).bind fun t2 =>
  if (0 : Int32) ≤ t2 then (
  f_X7_judged_l29 R_1 x0 0 t2 t1.1 t1.2.1 t1.2.2.1 t1.2.2.2.1 t1.2.2.2.2.1 t1.2.2.2.2.2.1 t1.2.2.2.2.2.2.1 t1.2.2.2.2.2.2.2.1 t1.2.2.2.2.2.2.2.2.1 t1.2.2.2.2.2.2.2.2.2.1 t1.2.2.2.2.2.2.2.2.2.2.1 t1.2.2.2.2.2.2.2.2.2.2.2.1 t1.2.2.2.2.2.2.2.2.2.2.2.2.1 t1.2.2.2.2.2.2.2.2.2.2.2.2.2.1 t1.2.2.2.2.2.2.2.2.2.2.2.2.2.2.1 t1.2.2.2.2.2.2.2.2.2.2.2.2.2.2.2.1 t1.2.2.2.2.2.2.2.2.2.2.2.2.2.2.2.2.1 t1.2.2.2.2.2.2.2.2.2.2.2.2.2.2.2.2.2.1 t1.2.2.2.2.2.2.2.2.2.2.2.2.2.2.2.2.2.2.1 t1.2.2.2.2.2.2.2.2.2.2.2.2.2.2.2.2.2.2.2.1 t1.2.2.2.2.2.2.2.2.2.2.2.2.2.2.2.2.2.2.2.2)
  else (
  f_X7_judged_l29 R_1 x0 1 t2 t1.1 t1.2.1 t1.2.2.1 t1.2.2.2.1 t1.2.2.2.2.1 t1.2.2.2.2.2.1 t1.2.2.2.2.2.2.1 t1.2.2.2.2.2.2.2.1 t1.2.2.2.2.2.2.2.2.1 t1.2.2.2.2.2.2.2.2.2.1 t1.2.2.2.2.2.2.2.2.2.2.1 t1.2.2.2.2.2.2.2.2.2.2.2.1 t1.2.2.2.2.2.2.2.2.2.2.2.2.1 t1.2.2.2.2.2.2.2.2.2.2.2.2.2.1 t1.2.2.2.2.2.2.2.2.2.2.2.2.2.2.1 t1.2.2.2.2.2.2.2.2.2.2.2.2.2.2.2.1 t1.2.2.2.2.2.2.2.2.2.2.2.2.2.2.2.2.1 t1.2.2.2.2.2.2.2.2.2.2.2.2.2.2.2.2.2.1 t1.2.2.2.2.2.2.2.2.2.2.2.2.2.2.2.2.2.2.1 t1.2.2.2.2.2.2.2.2.2.2.2.2.2.2.2.2.2.2.2.1 t1.2.2.2.2.2.2.2.2.2.2.2.2.2.2.2.2.2.2.2.2))
  else (
  some ((-1), BrA_0, BrA_1, BrA_2, LeR_0, LeR_1, LeR_2, LeR_3, LeR_4, LeZ_0, LeZ_1, LeZ_2, LeZ_3, ShR_0, ShR_1, ShR_2, ShR_3, ShR_4, ShR_5, ShZ_0, ShZ_1, Z_0)))
abbrev rm_X7_judged : Room := { frames := 6, cells := 0, slots := 0, locals := 140 }
set_option maxHeartbeats 4000000 in
set_option maxRecDepth 100000 in
theorem c_X7_judged (l : Launch) (g : hm_G) (a : Nat → Nat → Nat) (R : Nat → hm_SR) (Z : Nat → Int32) (ScR : Nat → hm_SR) (SeR : Nat → hm_SR) (SeA : Nat → Nat → Int32) (LeR : Nat → hm_SR) (LeZ : Nat → Int32) (BrA : Nat → Nat → Int32) (ShR : Nat → hm_SR) (ShZ : Nat → Int32) (SuA : Nat → Nat → Int32) (SuJ : Nat → Nat → Int64) (x0 : Int32) (q : Int32 × (Nat → Int32) × (Nat → Int32) × (Nat → Int32) × hm_SR × hm_SR × hm_SR × hm_SR × hm_SR × Int32 × Int32 × Int32 × Int32 × hm_SR × hm_SR × hm_SR × hm_SR × hm_SR × hm_SR × Int32 × Int32 × Int32) (hF : f_X7_judged (R 1) (Z 0) (ScR 0) (ScR 1) (ScR 7) (SeA 0) (LeR 0) (LeR 1) (LeR 2) (LeR 3) (LeR 4) (LeZ 0) (LeZ 1) (LeZ 2) (LeZ 3) (BrA 0) (BrA 1) (BrA 2) (ShR 0) (ShR 1) (ShR 2) (ShR 3) (ShR 4) (ShR 5) (ShZ 0) (ShZ 1) x0 = some q) : hm_Mi l yX7_judged (Cond.code yX7_judged cX7_judged 4 (some .int) :: hm_W) rm_X7_judged g [.ref (a 0 0), .int x0] ([hm_wHM g a R Z ScR SeR SeA LeR LeZ BrA ShR ShZ SuA SuJ] : List va_W).flatten ([hm_wHM g a R (hm_up Z 0 q.2.2.2.2.2.2.2.2.2.2.2.2.2.2.2.2.2.2.2.2.2) ScR SeR SeA (hm_up (hm_up (hm_up (hm_up (hm_up LeR 0 q.2.2.2.2.1) 1 q.2.2.2.2.2.1) 2 q.2.2.2.2.2.2.1) 3 q.2.2.2.2.2.2.2.1) 4 q.2.2.2.2.2.2.2.2.1) (hm_up (hm_up (hm_up (hm_up LeZ 0 q.2.2.2.2.2.2.2.2.2.1) 1 q.2.2.2.2.2.2.2.2.2.2.1) 2 q.2.2.2.2.2.2.2.2.2.2.2.1) 3 q.2.2.2.2.2.2.2.2.2.2.2.2.1) (hm_up (hm_up (hm_up BrA 0 q.2.1) 1 q.2.2.1) 2 q.2.2.2.1) (hm_up (hm_up (hm_up (hm_up (hm_up (hm_up ShR 0 q.2.2.2.2.2.2.2.2.2.2.2.2.2.1) 1 q.2.2.2.2.2.2.2.2.2.2.2.2.2.2.1) 2 q.2.2.2.2.2.2.2.2.2.2.2.2.2.2.2.1) 3 q.2.2.2.2.2.2.2.2.2.2.2.2.2.2.2.2.1) 4 q.2.2.2.2.2.2.2.2.2.2.2.2.2.2.2.2.2.1) 5 q.2.2.2.2.2.2.2.2.2.2.2.2.2.2.2.2.2.2.1) (hm_up (hm_up ShZ 0 q.2.2.2.2.2.2.2.2.2.2.2.2.2.2.2.2.2.2.2.1) 1 q.2.2.2.2.2.2.2.2.2.2.2.2.2.2.2.2.2.2.2.2.1) SuA SuJ] : List va_W).flatten q.1 := by
  refine hm_ofi [(0, .ref (a 0 0)), (1, .int x0)] (by decide) (own := RX7) rfl (Nat.le_of_ble_eq_true rfl) rfl rfl ?_
  intro p e s m args below meth c AA S hr hlk X ls hl
  have hx := S.1
  have hb := S.2.1
  have hown := S.2.2.2.1
  have hts := S.2.2.2.2
  have X := X.to (ws' := ([[(a 0 0, .inr (7, [.ref (a 1 0), .ref (a 2 0), .ref (a 3 0), .ref (a 4 0), .ref (a 5 0), .ref (a 6 0), .ref (a 7 0), .ref (a 8 0), .ref (a 9 0), .ref (a 10 0), .int (Z 0), .int (Z 1)]))], hm_row g (a 1 0) (a 1 1) 200 (R 0), hm_wSc g (a 2) ScR, hm_wSe g (a 3) SeR SeA, hm_row g (a 4 0) (a 4 1) 100 (R 1), hm_row g (a 5 0) (a 5 1) 6 (R 2), hm_row g (a 6 0) (a 6 1) 6 (R 3), hm_wLe g (a 7) LeR LeZ, hm_wBr g (a 8) BrA, hm_wSh g (a 9) ShR ShZ, hm_wSu g (a 10) SuA SuJ] : List va_W).flatten) rfl
  have hl29 : ∀ (s29_0 : Int32) (v2 : Int32) (wBrA_0 : Nat → Int32) (wBrA_1 : Nat → Int32) (wBrA_2 : Nat → Int32) (wLeR_0 : hm_SR) (wLeR_1 : hm_SR) (wLeR_2 : hm_SR) (wLeR_3 : hm_SR) (wLeR_4 : hm_SR) (wLeZ_0 : Int32) (wLeZ_1 : Int32) (wLeZ_2 : Int32) (wLeZ_3 : Int32) (wShR_0 : hm_SR) (wShR_1 : hm_SR) (wShR_2 : hm_SR) (wShR_3 : hm_SR) (wShR_4 : hm_SR) (wShR_5 : hm_SR) (wShZ_0 : Int32) (wShZ_1 : Int32) (wZ_0 : Int32), f_X7_judged_l29 (R 1) x0 s29_0 v2 wBrA_0 wBrA_1 wBrA_2 wLeR_0 wLeR_1 wLeR_2 wLeR_3 wLeR_4 wLeZ_0 wLeZ_1 wLeZ_2 wLeZ_3 wShR_0 wShR_1 wShR_2 wShR_3 wShR_4 wShR_5 wShZ_0 wShZ_1 wZ_0 = some q → ∀ (H : Heap) (locs : List Loc), hm_X g AA s H locs ([[(a 0 0, .inr (7, [.ref (a 1 0), .ref (a 2 0), .ref (a 3 0), .ref (a 4 0), .ref (a 5 0), .ref (a 6 0), .ref (a 7 0), .ref (a 8 0), .ref (a 9 0), .ref (a 10 0), .int wZ_0, .int (Z 1)]))], hm_row g (a 1 0) (a 1 1) 200 (R 0), hm_wSc g (a 2) ScR, hm_wSe g (a 3) SeR SeA, hm_row g (a 4 0) (a 4 1) 100 (R 1), hm_row g (a 5 0) (a 5 1) 6 (R 2), hm_row g (a 6 0) (a 6 1) 6 (R 3), hm_wLe g (a 7) (hm_up (hm_up (hm_up (hm_up (hm_up LeR 0 wLeR_0) 1 wLeR_1) 2 wLeR_2) 3 wLeR_3) 4 wLeR_4) (hm_up (hm_up (hm_up (hm_up LeZ 0 wLeZ_0) 1 wLeZ_1) 2 wLeZ_2) 3 wLeZ_3), hm_wBr g (a 8) (hm_up (hm_up (hm_up BrA 0 wBrA_0) 1 wBrA_1) 2 wBrA_2), hm_wSh g (a 9) (hm_up (hm_up (hm_up (hm_up (hm_up (hm_up ShR 0 wShR_0) 1 wShR_1) 2 wShR_2) 3 wShR_3) 4 wShR_4) 5 wShR_5) (hm_up (hm_up ShZ 0 wShZ_0) 1 wShZ_1), hm_wSu g (a 10) SuA SuJ] : List va_W).flatten → ∀ ls : Array Slot, lv_has ls 4 [(0, .ref (a 0 0)), (1, .int x0), (2, .int v2)] → W p l e rm_X7_judged s m args below meth c H locs 0 0 (MQ below (hm_Qi g AA ([hm_wHM g a R (hm_up Z 0 q.2.2.2.2.2.2.2.2.2.2.2.2.2.2.2.2.2.2.2.2.2) ScR SeR SeA (hm_up (hm_up (hm_up (hm_up (hm_up LeR 0 q.2.2.2.2.1) 1 q.2.2.2.2.2.1) 2 q.2.2.2.2.2.2.1) 3 q.2.2.2.2.2.2.2.1) 4 q.2.2.2.2.2.2.2.2.1) (hm_up (hm_up (hm_up (hm_up LeZ 0 q.2.2.2.2.2.2.2.2.2.1) 1 q.2.2.2.2.2.2.2.2.2.2.1) 2 q.2.2.2.2.2.2.2.2.2.2.2.1) 3 q.2.2.2.2.2.2.2.2.2.2.2.2.1) (hm_up (hm_up (hm_up BrA 0 q.2.1) 1 q.2.2.1) 2 q.2.2.2.1) (hm_up (hm_up (hm_up (hm_up (hm_up (hm_up ShR 0 q.2.2.2.2.2.2.2.2.2.2.2.2.2.1) 1 q.2.2.2.2.2.2.2.2.2.2.2.2.2.2.1) 2 q.2.2.2.2.2.2.2.2.2.2.2.2.2.2.2.1) 3 q.2.2.2.2.2.2.2.2.2.2.2.2.2.2.2.2.1) 4 q.2.2.2.2.2.2.2.2.2.2.2.2.2.2.2.2.2.1) 5 q.2.2.2.2.2.2.2.2.2.2.2.2.2.2.2.2.2.2.1) (hm_up (hm_up ShZ 0 q.2.2.2.2.2.2.2.2.2.2.2.2.2.2.2.2.2.2.2.1) 1 q.2.2.2.2.2.2.2.2.2.2.2.2.2.2.2.2.2.2.2.2.1) SuA SuJ] : List va_W).flatten q.1) args s 0 0 AA) (F0 m 29 ls [.int s29_0]) := by
    intro s29_0 v2 wBrA_0 wBrA_1 wBrA_2 wLeR_0 wLeR_1 wLeR_2 wLeR_3 wLeR_4 wLeZ_0 wLeZ_1 wLeZ_2 wLeZ_3 wShR_0 wShR_1 wShR_2 wShR_3 wShR_4 wShR_5 wShZ_0 wShZ_1 wZ_0 hF H locs X ls hl
    unfold f_X7_judged_l29 at hF
    refine lv_istore_n (lv' := [(3, .int s29_0), (0, .ref (a 0 0)), (1, .int x0), (2, .int v2)]) hx hb dX7_judged_29 rfl hl (by decide) rfl (fun ls hl => ?_)
    refine lv_iload_n hx hb dX7_judged_30 rfl (lv_at hl 2 rfl) ?_
    refine lv_if_ne (tgt := 59) hx hb dX7_judged_31 (by decide) (fun c31 => ?_) (fun c31 => ?_)
    · have hF := hm_nf hF c31
      refine lv_iload_n hx hb dX7_judged_59 rfl (lv_at hl 2 rfl) ?_
      refine lv_iconst (v := 1) hx hb dX7_judged_60 (by decide) ?_
      refine lv_icmp_ne (tgt := 75) hx hb dX7_judged_61 (by decide) (fun c61 => ?_) (fun c61 => ?_)
      · have hF := hm_nf hF c61
        refine lv_iload_n hx hb dX7_judged_75 rfl (lv_at hl 0 rfl) ?_
        refine lv_if_eq (tgt := 94) hx hb dX7_judged_76 (by decide) (fun c76 => ?_) (fun c76 => ?_)
        · have hF := hm_if hF c76
          refine lv_bipush (v := (-9)) hx hb dX7_judged_94 (by decide) ?_
          obtain rfl := Option.some.inj hF
          exact hm_ri S hr hlk X rfl rfl dX7_judged_96
        · have hF := hm_nf hF c76
          refine lv_aload_n hx hb dX7_judged_79 rfl (lv_at hl 1 rfl) ?_
          obtain ⟨t3, ht3, hF⟩ := hm_bd hF
          refine hm_vi (As := []) S X mw_X7_costOfDraft hw_3_215 (c_X7_costOfDraft l g a R (hm_up Z 0 wZ_0) ScR SeR SeA (hm_up (hm_up (hm_up (hm_up (hm_up LeR 0 wLeR_0) 1 wLeR_1) 2 wLeR_2) 3 wLeR_3) 4 wLeR_4) (hm_up (hm_up (hm_up (hm_up LeZ 0 wLeZ_0) 1 wLeZ_1) 2 wLeZ_2) 3 wLeZ_3) (hm_up (hm_up (hm_up BrA 0 wBrA_0) 1 wBrA_1) 2 wBrA_2) (hm_up (hm_up (hm_up (hm_up (hm_up (hm_up ShR 0 wShR_0) 1 wShR_1) 2 wShR_2) 3 wShR_3) 4 wShR_4) 5 wShR_5) (hm_up (hm_up ShZ 0 wShZ_0) 1 wShZ_1) SuA SuJ t3 ht3) (hm_cq (n := 11) [0, 1, 2, 3, 4, 5, 6, 7, 8, 9, 10] [] rfl (by decide +kernel) rfl rfl) (hm_cq (bs := [[(a 0 0, .inr (7, [.ref (a 1 0), .ref (a 2 0), .ref (a 3 0), .ref (a 4 0), .ref (a 5 0), .ref (a 6 0), .ref (a 7 0), .ref (a 8 0), .ref (a 9 0), .ref (a 10 0), .int wZ_0, .int (Z 1)]))], hm_row g (a 1 0) (a 1 1) 200 (R 0), hm_wSc g (a 2) ScR, hm_wSe g (a 3) SeR SeA, hm_row g (a 4 0) (a 4 1) 100 (R 1), hm_row g (a 5 0) (a 5 1) 6 (R 2), hm_row g (a 6 0) (a 6 1) 6 (R 3), hm_wLe g (a 7) (hm_up (hm_up (hm_up (hm_up (hm_up LeR 0 wLeR_0) 1 wLeR_1) 2 wLeR_2) 3 wLeR_3) 4 wLeR_4) (hm_up (hm_up (hm_up (hm_up LeZ 0 wLeZ_0) 1 wLeZ_1) 2 wLeZ_2) 3 wLeZ_3), hm_wBr g (a 8) (hm_up (hm_up (hm_up BrA 0 wBrA_0) 1 wBrA_1) 2 wBrA_2), hm_wSh g (a 9) (hm_up (hm_up (hm_up (hm_up (hm_up (hm_up ShR 0 wShR_0) 1 wShR_1) 2 wShR_2) 3 wShR_3) 4 wShR_4) 5 wShR_5) (hm_up (hm_up ShZ 0 wShZ_0) 1 wShZ_1), hm_wSu g (a 10) SuA SuJ]) (n := 11) [0, 1, 2, 3, 4, 5, 6, 7, 8, 9, 10] [] rfl (by decide +kernel) rfl rfl) rfl rfl rfl ⟨rfl, rfl, Nat.le_of_ble_eq_true rfl, Nat.le_of_ble_eq_true rfl⟩ rfl hl.1 rfl (Nat.le_of_ble_eq_true rfl) dX7_judged_80 ⟨Nat.zero_le _, Nat.zero_le _⟩ (fun H locs X => ?_)
          have X := X.to (ws' := ([[(a 0 0, .inr (7, [.ref (a 1 0), .ref (a 2 0), .ref (a 3 0), .ref (a 4 0), .ref (a 5 0), .ref (a 6 0), .ref (a 7 0), .ref (a 8 0), .ref (a 9 0), .ref (a 10 0), .int wZ_0, .int (Z 1)]))], hm_row g (a 1 0) (a 1 1) 200 (R 0), hm_wSc g (a 2) ScR, hm_wSe g (a 3) SeR SeA, hm_row g (a 4 0) (a 4 1) 100 (R 1), hm_row g (a 5 0) (a 5 1) 6 (R 2), hm_row g (a 6 0) (a 6 1) 6 (R 3), hm_wLe g (a 7) (hm_up (hm_up (hm_up (hm_up (hm_up LeR 0 wLeR_0) 1 wLeR_1) 2 wLeR_2) 3 wLeR_3) 4 wLeR_4) (hm_up (hm_up (hm_up (hm_up LeZ 0 wLeZ_0) 1 wLeZ_1) 2 wLeZ_2) 3 wLeZ_3), hm_wBr g (a 8) (hm_up (hm_up (hm_up BrA 0 wBrA_0) 1 wBrA_1) 2 wBrA_2), hm_wSh g (a 9) (hm_up (hm_up (hm_up (hm_up (hm_up (hm_up ShR 0 wShR_0) 1 wShR_1) 2 wShR_2) 3 wShR_3) 4 wShR_4) 5 wShR_5) (hm_up (hm_up ShZ 0 wShZ_0) 1 wShZ_1), hm_wSu g (a 10) SuA SuJ] : List va_W).flatten) rfl
          refine lv_aload_n hx hb dX7_judged_83 rfl (lv_at hl 1 rfl) ?_
          refine hm_get S X hf_X7_58 0 rfl rfl dX7_judged_84 ?_
          obtain ⟨t4, ht4, hF⟩ := hm_bd hF
          refine hm_vi (As := []) S X mw_X5_cost hw_3_124 (c_X5_cost l g (a 9) (hm_up (hm_up (hm_up (hm_up (hm_up (hm_up ShR 0 wShR_0) 1 wShR_1) 2 wShR_2) 3 wShR_3) 4 wShR_4) 5 wShR_5) (hm_up (hm_up ShZ 0 wShZ_0) 1 wShZ_1) t4 ht4) (hm_mid [[(a 0 0, .inr (7, [.ref (a 1 0), .ref (a 2 0), .ref (a 3 0), .ref (a 4 0), .ref (a 5 0), .ref (a 6 0), .ref (a 7 0), .ref (a 8 0), .ref (a 9 0), .ref (a 10 0), .int wZ_0, .int (Z 1)]))], hm_row g (a 1 0) (a 1 1) 200 (R 0), hm_wSc g (a 2) ScR, hm_wSe g (a 3) SeR SeA, hm_row g (a 4 0) (a 4 1) 100 (R 1), hm_row g (a 5 0) (a 5 1) 6 (R 2), hm_row g (a 6 0) (a 6 1) 6 (R 3), hm_wLe g (a 7) (hm_up (hm_up (hm_up (hm_up (hm_up LeR 0 wLeR_0) 1 wLeR_1) 2 wLeR_2) 3 wLeR_3) 4 wLeR_4) (hm_up (hm_up (hm_up (hm_up LeZ 0 wLeZ_0) 1 wLeZ_1) 2 wLeZ_2) 3 wLeZ_3), hm_wBr g (a 8) (hm_up (hm_up (hm_up BrA 0 wBrA_0) 1 wBrA_1) 2 wBrA_2)] [hm_wSu g (a 10) SuA SuJ]) (hm_mid [[(a 0 0, .inr (7, [.ref (a 1 0), .ref (a 2 0), .ref (a 3 0), .ref (a 4 0), .ref (a 5 0), .ref (a 6 0), .ref (a 7 0), .ref (a 8 0), .ref (a 9 0), .ref (a 10 0), .int wZ_0, .int (Z 1)]))], hm_row g (a 1 0) (a 1 1) 200 (R 0), hm_wSc g (a 2) ScR, hm_wSe g (a 3) SeR SeA, hm_row g (a 4 0) (a 4 1) 100 (R 1), hm_row g (a 5 0) (a 5 1) 6 (R 2), hm_row g (a 6 0) (a 6 1) 6 (R 3), hm_wLe g (a 7) (hm_up (hm_up (hm_up (hm_up (hm_up LeR 0 wLeR_0) 1 wLeR_1) 2 wLeR_2) 3 wLeR_3) 4 wLeR_4) (hm_up (hm_up (hm_up (hm_up LeZ 0 wLeZ_0) 1 wLeZ_1) 2 wLeZ_2) 3 wLeZ_3), hm_wBr g (a 8) (hm_up (hm_up (hm_up BrA 0 wBrA_0) 1 wBrA_1) 2 wBrA_2)] [hm_wSu g (a 10) SuA SuJ] (b := hm_wSh g (a 9) (hm_up (hm_up (hm_up (hm_up (hm_up (hm_up ShR 0 wShR_0) 1 wShR_1) 2 wShR_2) 3 wShR_3) 4 wShR_4) 5 wShR_5) (hm_up (hm_up ShZ 0 wShZ_0) 1 wShZ_1))) rfl rfl rfl ⟨rfl, rfl, Nat.le_of_ble_eq_true rfl, Nat.le_of_ble_eq_true rfl⟩ rfl hl.1 rfl (Nat.le_of_ble_eq_true rfl) dX7_judged_87 ⟨Nat.zero_le _, Nat.zero_le _⟩ (fun H locs X => ?_)
          have X := X.to (ws' := ([[(a 0 0, .inr (7, [.ref (a 1 0), .ref (a 2 0), .ref (a 3 0), .ref (a 4 0), .ref (a 5 0), .ref (a 6 0), .ref (a 7 0), .ref (a 8 0), .ref (a 9 0), .ref (a 10 0), .int wZ_0, .int (Z 1)]))], hm_row g (a 1 0) (a 1 1) 200 (R 0), hm_wSc g (a 2) ScR, hm_wSe g (a 3) SeR SeA, hm_row g (a 4 0) (a 4 1) 100 (R 1), hm_row g (a 5 0) (a 5 1) 6 (R 2), hm_row g (a 6 0) (a 6 1) 6 (R 3), hm_wLe g (a 7) (hm_up (hm_up (hm_up (hm_up (hm_up LeR 0 wLeR_0) 1 wLeR_1) 2 wLeR_2) 3 wLeR_3) 4 wLeR_4) (hm_up (hm_up (hm_up (hm_up LeZ 0 wLeZ_0) 1 wLeZ_1) 2 wLeZ_2) 3 wLeZ_3), hm_wBr g (a 8) (hm_up (hm_up (hm_up BrA 0 wBrA_0) 1 wBrA_1) 2 wBrA_2), hm_wSh g (a 9) (hm_up (hm_up (hm_up (hm_up (hm_up (hm_up ShR 0 wShR_0) 1 wShR_1) 2 wShR_2) 3 wShR_3) 4 wShR_4) 5 wShR_5) (hm_up (hm_up ShZ 0 wShZ_0) 1 wShZ_1), hm_wSu g (a 10) SuA SuJ] : List va_W).flatten) rfl
          refine lv_isub hx hb dX7_judged_90 ?_
          refine lv_goto (tgt := 96) hx hb dX7_judged_91 (by decide) ?_
          obtain rfl := Option.some.inj hF
          exact hm_ri S hr hlk X rfl rfl dX7_judged_96
      · have hF := hm_if hF c61
        refine lv_iload_n hx hb dX7_judged_64 rfl (lv_at hl 0 rfl) ?_
        refine lv_if_eq (tgt := 73) hx hb dX7_judged_65 (by decide) (fun c65 => ?_) (fun c65 => ?_)
        · have hF := hm_if hF c65
          refine lv_iload_n hx hb dX7_judged_73 rfl (lv_at hl 3 rfl) ?_
          obtain rfl := Option.some.inj hF
          exact hm_ri S hr hlk X rfl rfl dX7_judged_74
        · have hF := hm_nf hF c65
          refine lv_bipush (v := (-9)) hx hb dX7_judged_68 (by decide) ?_
          refine lv_goto (tgt := 74) hx hb dX7_judged_70 (by decide) ?_
          obtain rfl := Option.some.inj hF
          exact hm_ri S hr hlk X rfl rfl dX7_judged_74
    · have hF := hm_if hF c31
      refine lv_iload_n hx hb dX7_judged_34 rfl (lv_at hl 0 rfl) ?_
      refine lv_if_eq (tgt := 42) hx hb dX7_judged_35 (by decide) (fun c35 => ?_) (fun c35 => ?_)
      · have hF := hm_if hF c35
        refine lv_iload_n hx hb dX7_judged_42 rfl (lv_at hl 3 rfl) ?_
        refine lv_aload_n hx hb dX7_judged_43 rfl (lv_at hl 1 rfl) ?_
        refine hm_get S X hf_X7_32 0 rfl rfl dX7_judged_44 ?_
        obtain ⟨t5, ht5, hF⟩ := hm_bd hF
        refine hm_vi (As := []) S X mw_X2_size hw_2_26 (c_X2_size l g (a 4 0) (a 4 1) 100 (R 1) t5 ht5) (hm_mid [[(a 0 0, .inr (7, [.ref (a 1 0), .ref (a 2 0), .ref (a 3 0), .ref (a 4 0), .ref (a 5 0), .ref (a 6 0), .ref (a 7 0), .ref (a 8 0), .ref (a 9 0), .ref (a 10 0), .int wZ_0, .int (Z 1)]))], hm_row g (a 1 0) (a 1 1) 200 (R 0), hm_wSc g (a 2) ScR, hm_wSe g (a 3) SeR SeA] [hm_row g (a 5 0) (a 5 1) 6 (R 2), hm_row g (a 6 0) (a 6 1) 6 (R 3), hm_wLe g (a 7) (hm_up (hm_up (hm_up (hm_up (hm_up LeR 0 wLeR_0) 1 wLeR_1) 2 wLeR_2) 3 wLeR_3) 4 wLeR_4) (hm_up (hm_up (hm_up (hm_up LeZ 0 wLeZ_0) 1 wLeZ_1) 2 wLeZ_2) 3 wLeZ_3), hm_wBr g (a 8) (hm_up (hm_up (hm_up BrA 0 wBrA_0) 1 wBrA_1) 2 wBrA_2), hm_wSh g (a 9) (hm_up (hm_up (hm_up (hm_up (hm_up (hm_up ShR 0 wShR_0) 1 wShR_1) 2 wShR_2) 3 wShR_3) 4 wShR_4) 5 wShR_5) (hm_up (hm_up ShZ 0 wShZ_0) 1 wShZ_1), hm_wSu g (a 10) SuA SuJ]) (hm_mid [[(a 0 0, .inr (7, [.ref (a 1 0), .ref (a 2 0), .ref (a 3 0), .ref (a 4 0), .ref (a 5 0), .ref (a 6 0), .ref (a 7 0), .ref (a 8 0), .ref (a 9 0), .ref (a 10 0), .int wZ_0, .int (Z 1)]))], hm_row g (a 1 0) (a 1 1) 200 (R 0), hm_wSc g (a 2) ScR, hm_wSe g (a 3) SeR SeA] [hm_row g (a 5 0) (a 5 1) 6 (R 2), hm_row g (a 6 0) (a 6 1) 6 (R 3), hm_wLe g (a 7) (hm_up (hm_up (hm_up (hm_up (hm_up LeR 0 wLeR_0) 1 wLeR_1) 2 wLeR_2) 3 wLeR_3) 4 wLeR_4) (hm_up (hm_up (hm_up (hm_up LeZ 0 wLeZ_0) 1 wLeZ_1) 2 wLeZ_2) 3 wLeZ_3), hm_wBr g (a 8) (hm_up (hm_up (hm_up BrA 0 wBrA_0) 1 wBrA_1) 2 wBrA_2), hm_wSh g (a 9) (hm_up (hm_up (hm_up (hm_up (hm_up (hm_up ShR 0 wShR_0) 1 wShR_1) 2 wShR_2) 3 wShR_3) 4 wShR_4) 5 wShR_5) (hm_up (hm_up ShZ 0 wShZ_0) 1 wShZ_1), hm_wSu g (a 10) SuA SuJ] (b := hm_row g (a 4 0) (a 4 1) 100 (R 1))) rfl rfl rfl ⟨rfl, rfl, Nat.le_of_ble_eq_true rfl, Nat.le_of_ble_eq_true rfl⟩ rfl hl.1 rfl (Nat.le_of_ble_eq_true rfl) dX7_judged_47 ⟨Nat.zero_le _, Nat.zero_le _⟩ (fun H locs X => ?_)
        have X := X.to (ws' := ([[(a 0 0, .inr (7, [.ref (a 1 0), .ref (a 2 0), .ref (a 3 0), .ref (a 4 0), .ref (a 5 0), .ref (a 6 0), .ref (a 7 0), .ref (a 8 0), .ref (a 9 0), .ref (a 10 0), .int wZ_0, .int (Z 1)]))], hm_row g (a 1 0) (a 1 1) 200 (R 0), hm_wSc g (a 2) ScR, hm_wSe g (a 3) SeR SeA, hm_row g (a 4 0) (a 4 1) 100 (R 1), hm_row g (a 5 0) (a 5 1) 6 (R 2), hm_row g (a 6 0) (a 6 1) 6 (R 3), hm_wLe g (a 7) (hm_up (hm_up (hm_up (hm_up (hm_up LeR 0 wLeR_0) 1 wLeR_1) 2 wLeR_2) 3 wLeR_3) 4 wLeR_4) (hm_up (hm_up (hm_up (hm_up LeZ 0 wLeZ_0) 1 wLeZ_1) 2 wLeZ_2) 3 wLeZ_3), hm_wBr g (a 8) (hm_up (hm_up (hm_up BrA 0 wBrA_0) 1 wBrA_1) 2 wBrA_2), hm_wSh g (a 9) (hm_up (hm_up (hm_up (hm_up (hm_up (hm_up ShR 0 wShR_0) 1 wShR_1) 2 wShR_2) 3 wShR_3) 4 wShR_4) 5 wShR_5) (hm_up (hm_up ShZ 0 wShZ_0) 1 wShZ_1), hm_wSu g (a 10) SuA SuJ] : List va_W).flatten) rfl
        refine lv_icmp_ge (tgt := 57) hx hb dX7_judged_50 (by decide) (fun c50 => ?_) (fun c50 => ?_)
        · have hF := hm_if hF c50
          refine lv_iconst (v := 2) hx hb dX7_judged_57 (by decide) ?_
          obtain rfl := Option.some.inj hF
          exact hm_ri S hr hlk X rfl rfl dX7_judged_58
        · have hF := hm_nf hF c50
          refine lv_iconst (v := 1) hx hb dX7_judged_53 (by decide) ?_
          refine lv_goto (tgt := 58) hx hb dX7_judged_54 (by decide) ?_
          obtain rfl := Option.some.inj hF
          exact hm_ri S hr hlk X rfl rfl dX7_judged_58
      · have hF := hm_nf hF c35
        refine lv_iconst (v := 0) hx hb dX7_judged_38 (by decide) ?_
        refine lv_goto (tgt := 58) hx hb dX7_judged_39 (by decide) ?_
        obtain rfl := Option.some.inj hF
        exact hm_ri S hr hlk X rfl rfl dX7_judged_58
  unfold f_X7_judged at hF
  refine lv_iload_n hx hb dX7_judged_0 rfl (lv_at hl 1 rfl) ?_
  refine lv_if_lt (tgt := 9) hx hb dX7_judged_1 (by decide) (fun c1 => ?_) (fun c1 => ?_)
  · have hF := hm_if hF c1
    refine lv_iconst (v := (-1)) hx hb dX7_judged_9 (by decide) ?_
    obtain rfl := Option.some.inj hF
    exact hm_ri S hr hlk X rfl rfl dX7_judged_10
  · have hF := hm_nf hF c1
    refine lv_iload_n hx hb dX7_judged_4 rfl (lv_at hl 1 rfl) ?_
    refine lv_iconst (v := 2) hx hb dX7_judged_5 (by decide) ?_
    refine lv_icmp_le (tgt := 11) hx hb dX7_judged_6 (by decide) (fun c6 => ?_) (fun c6 => ?_)
    · have hF := hm_if hF c6
      refine lv_aload_n hx hb dX7_judged_11 rfl (lv_at hl 0 rfl) ?_
      obtain ⟨t1, ht1, hF⟩ := hm_bd hF
      refine hm_vv (As := []) S X mw_X7_freshen hw_2_220 (c_X7_freshen l g a R Z ScR SeR SeA LeR LeZ BrA ShR ShZ SuA SuJ t1 ht1) (hm_cq (n := 11) [0, 1, 2, 3, 4, 5, 6, 7, 8, 9, 10] [] rfl (by decide +kernel) rfl rfl) (hm_cq (bs := [[(a 0 0, .inr (7, [.ref (a 1 0), .ref (a 2 0), .ref (a 3 0), .ref (a 4 0), .ref (a 5 0), .ref (a 6 0), .ref (a 7 0), .ref (a 8 0), .ref (a 9 0), .ref (a 10 0), .int t1.2.2.2.2.2.2.2.2.2.2.2.2.2.2.2.2.2.2.2.2, .int (Z 1)]))], hm_row g (a 1 0) (a 1 1) 200 (R 0), hm_wSc g (a 2) ScR, hm_wSe g (a 3) SeR SeA, hm_row g (a 4 0) (a 4 1) 100 (R 1), hm_row g (a 5 0) (a 5 1) 6 (R 2), hm_row g (a 6 0) (a 6 1) 6 (R 3), hm_wLe g (a 7) (hm_up (hm_up (hm_up (hm_up (hm_up LeR 0 t1.2.2.2.1) 1 t1.2.2.2.2.1) 2 t1.2.2.2.2.2.1) 3 t1.2.2.2.2.2.2.1) 4 t1.2.2.2.2.2.2.2.1) (hm_up (hm_up (hm_up (hm_up LeZ 0 t1.2.2.2.2.2.2.2.2.1) 1 t1.2.2.2.2.2.2.2.2.2.1) 2 t1.2.2.2.2.2.2.2.2.2.2.1) 3 t1.2.2.2.2.2.2.2.2.2.2.2.1), hm_wBr g (a 8) (hm_up (hm_up (hm_up BrA 0 t1.1) 1 t1.2.1) 2 t1.2.2.1), hm_wSh g (a 9) (hm_up (hm_up (hm_up (hm_up (hm_up (hm_up ShR 0 t1.2.2.2.2.2.2.2.2.2.2.2.2.1) 1 t1.2.2.2.2.2.2.2.2.2.2.2.2.2.1) 2 t1.2.2.2.2.2.2.2.2.2.2.2.2.2.2.1) 3 t1.2.2.2.2.2.2.2.2.2.2.2.2.2.2.2.1) 4 t1.2.2.2.2.2.2.2.2.2.2.2.2.2.2.2.2.1) 5 t1.2.2.2.2.2.2.2.2.2.2.2.2.2.2.2.2.2.1) (hm_up (hm_up ShZ 0 t1.2.2.2.2.2.2.2.2.2.2.2.2.2.2.2.2.2.2.1) 1 t1.2.2.2.2.2.2.2.2.2.2.2.2.2.2.2.2.2.2.2.1), hm_wSu g (a 10) SuA SuJ]) (n := 11) [0, 1, 2, 3, 4, 5, 6, 7, 8, 9, 10] [] rfl (by decide +kernel) rfl rfl) rfl rfl rfl ⟨rfl, rfl, Nat.le_of_ble_eq_true rfl, Nat.le_of_ble_eq_true rfl⟩ rfl hl.1 rfl (Nat.le_of_ble_eq_true rfl) dX7_judged_12 ⟨Nat.zero_le _, Nat.zero_le _⟩ (fun H locs X => ?_)
      have X := X.to (ws' := ([[(a 0 0, .inr (7, [.ref (a 1 0), .ref (a 2 0), .ref (a 3 0), .ref (a 4 0), .ref (a 5 0), .ref (a 6 0), .ref (a 7 0), .ref (a 8 0), .ref (a 9 0), .ref (a 10 0), .int t1.2.2.2.2.2.2.2.2.2.2.2.2.2.2.2.2.2.2.2.2, .int (Z 1)]))], hm_row g (a 1 0) (a 1 1) 200 (R 0), hm_wSc g (a 2) ScR, hm_wSe g (a 3) SeR SeA, hm_row g (a 4 0) (a 4 1) 100 (R 1), hm_row g (a 5 0) (a 5 1) 6 (R 2), hm_row g (a 6 0) (a 6 1) 6 (R 3), hm_wLe g (a 7) (hm_up (hm_up (hm_up (hm_up (hm_up LeR 0 t1.2.2.2.1) 1 t1.2.2.2.2.1) 2 t1.2.2.2.2.2.1) 3 t1.2.2.2.2.2.2.1) 4 t1.2.2.2.2.2.2.2.1) (hm_up (hm_up (hm_up (hm_up LeZ 0 t1.2.2.2.2.2.2.2.2.1) 1 t1.2.2.2.2.2.2.2.2.2.1) 2 t1.2.2.2.2.2.2.2.2.2.2.1) 3 t1.2.2.2.2.2.2.2.2.2.2.2.1), hm_wBr g (a 8) (hm_up (hm_up (hm_up BrA 0 t1.1) 1 t1.2.1) 2 t1.2.2.1), hm_wSh g (a 9) (hm_up (hm_up (hm_up (hm_up (hm_up (hm_up ShR 0 t1.2.2.2.2.2.2.2.2.2.2.2.2.1) 1 t1.2.2.2.2.2.2.2.2.2.2.2.2.2.1) 2 t1.2.2.2.2.2.2.2.2.2.2.2.2.2.2.1) 3 t1.2.2.2.2.2.2.2.2.2.2.2.2.2.2.2.1) 4 t1.2.2.2.2.2.2.2.2.2.2.2.2.2.2.2.2.1) 5 t1.2.2.2.2.2.2.2.2.2.2.2.2.2.2.2.2.2.1) (hm_up (hm_up ShZ 0 t1.2.2.2.2.2.2.2.2.2.2.2.2.2.2.2.2.2.2.1) 1 t1.2.2.2.2.2.2.2.2.2.2.2.2.2.2.2.2.2.2.2.1), hm_wSu g (a 10) SuA SuJ] : List va_W).flatten) rfl
      refine lv_aload_n hx hb dX7_judged_15 rfl (lv_at hl 0 rfl) ?_
      obtain ⟨t2, ht2, hF⟩ := hm_bd hF
      refine hm_vi (As := []) S X mw_X7_firstWrongLine hw_3_211 (c_X7_firstWrongLine l g a R (hm_up Z 0 t1.2.2.2.2.2.2.2.2.2.2.2.2.2.2.2.2.2.2.2.2) ScR SeR SeA (hm_up (hm_up (hm_up (hm_up (hm_up LeR 0 t1.2.2.2.1) 1 t1.2.2.2.2.1) 2 t1.2.2.2.2.2.1) 3 t1.2.2.2.2.2.2.1) 4 t1.2.2.2.2.2.2.2.1) (hm_up (hm_up (hm_up (hm_up LeZ 0 t1.2.2.2.2.2.2.2.2.1) 1 t1.2.2.2.2.2.2.2.2.2.1) 2 t1.2.2.2.2.2.2.2.2.2.2.1) 3 t1.2.2.2.2.2.2.2.2.2.2.2.1) (hm_up (hm_up (hm_up BrA 0 t1.1) 1 t1.2.1) 2 t1.2.2.1) (hm_up (hm_up (hm_up (hm_up (hm_up (hm_up ShR 0 t1.2.2.2.2.2.2.2.2.2.2.2.2.1) 1 t1.2.2.2.2.2.2.2.2.2.2.2.2.2.1) 2 t1.2.2.2.2.2.2.2.2.2.2.2.2.2.2.1) 3 t1.2.2.2.2.2.2.2.2.2.2.2.2.2.2.2.1) 4 t1.2.2.2.2.2.2.2.2.2.2.2.2.2.2.2.2.1) 5 t1.2.2.2.2.2.2.2.2.2.2.2.2.2.2.2.2.2.1) (hm_up (hm_up ShZ 0 t1.2.2.2.2.2.2.2.2.2.2.2.2.2.2.2.2.2.2.1) 1 t1.2.2.2.2.2.2.2.2.2.2.2.2.2.2.2.2.2.2.2.1) SuA SuJ t2 ht2) (hm_cq (n := 11) [0, 1, 2, 3, 4, 5, 6, 7, 8, 9, 10] [] rfl (by decide +kernel) rfl rfl) (hm_cq (bs := [[(a 0 0, .inr (7, [.ref (a 1 0), .ref (a 2 0), .ref (a 3 0), .ref (a 4 0), .ref (a 5 0), .ref (a 6 0), .ref (a 7 0), .ref (a 8 0), .ref (a 9 0), .ref (a 10 0), .int t1.2.2.2.2.2.2.2.2.2.2.2.2.2.2.2.2.2.2.2.2, .int (Z 1)]))], hm_row g (a 1 0) (a 1 1) 200 (R 0), hm_wSc g (a 2) ScR, hm_wSe g (a 3) SeR SeA, hm_row g (a 4 0) (a 4 1) 100 (R 1), hm_row g (a 5 0) (a 5 1) 6 (R 2), hm_row g (a 6 0) (a 6 1) 6 (R 3), hm_wLe g (a 7) (hm_up (hm_up (hm_up (hm_up (hm_up LeR 0 t1.2.2.2.1) 1 t1.2.2.2.2.1) 2 t1.2.2.2.2.2.1) 3 t1.2.2.2.2.2.2.1) 4 t1.2.2.2.2.2.2.2.1) (hm_up (hm_up (hm_up (hm_up LeZ 0 t1.2.2.2.2.2.2.2.2.1) 1 t1.2.2.2.2.2.2.2.2.2.1) 2 t1.2.2.2.2.2.2.2.2.2.2.1) 3 t1.2.2.2.2.2.2.2.2.2.2.2.1), hm_wBr g (a 8) (hm_up (hm_up (hm_up BrA 0 t1.1) 1 t1.2.1) 2 t1.2.2.1), hm_wSh g (a 9) (hm_up (hm_up (hm_up (hm_up (hm_up (hm_up ShR 0 t1.2.2.2.2.2.2.2.2.2.2.2.2.1) 1 t1.2.2.2.2.2.2.2.2.2.2.2.2.2.1) 2 t1.2.2.2.2.2.2.2.2.2.2.2.2.2.2.1) 3 t1.2.2.2.2.2.2.2.2.2.2.2.2.2.2.2.1) 4 t1.2.2.2.2.2.2.2.2.2.2.2.2.2.2.2.2.1) 5 t1.2.2.2.2.2.2.2.2.2.2.2.2.2.2.2.2.2.1) (hm_up (hm_up ShZ 0 t1.2.2.2.2.2.2.2.2.2.2.2.2.2.2.2.2.2.2.1) 1 t1.2.2.2.2.2.2.2.2.2.2.2.2.2.2.2.2.2.2.2.1), hm_wSu g (a 10) SuA SuJ]) (n := 11) [0, 1, 2, 3, 4, 5, 6, 7, 8, 9, 10] [] rfl (by decide +kernel) rfl rfl) rfl rfl rfl ⟨rfl, rfl, Nat.le_of_ble_eq_true rfl, Nat.le_of_ble_eq_true rfl⟩ rfl hl.1 rfl (Nat.le_of_ble_eq_true rfl) dX7_judged_16 ⟨Nat.zero_le _, Nat.zero_le _⟩ (fun H locs X => ?_)
      have X := X.to (ws' := ([[(a 0 0, .inr (7, [.ref (a 1 0), .ref (a 2 0), .ref (a 3 0), .ref (a 4 0), .ref (a 5 0), .ref (a 6 0), .ref (a 7 0), .ref (a 8 0), .ref (a 9 0), .ref (a 10 0), .int t1.2.2.2.2.2.2.2.2.2.2.2.2.2.2.2.2.2.2.2.2, .int (Z 1)]))], hm_row g (a 1 0) (a 1 1) 200 (R 0), hm_wSc g (a 2) ScR, hm_wSe g (a 3) SeR SeA, hm_row g (a 4 0) (a 4 1) 100 (R 1), hm_row g (a 5 0) (a 5 1) 6 (R 2), hm_row g (a 6 0) (a 6 1) 6 (R 3), hm_wLe g (a 7) (hm_up (hm_up (hm_up (hm_up (hm_up LeR 0 t1.2.2.2.1) 1 t1.2.2.2.2.1) 2 t1.2.2.2.2.2.1) 3 t1.2.2.2.2.2.2.1) 4 t1.2.2.2.2.2.2.2.1) (hm_up (hm_up (hm_up (hm_up LeZ 0 t1.2.2.2.2.2.2.2.2.1) 1 t1.2.2.2.2.2.2.2.2.2.1) 2 t1.2.2.2.2.2.2.2.2.2.2.1) 3 t1.2.2.2.2.2.2.2.2.2.2.2.1), hm_wBr g (a 8) (hm_up (hm_up (hm_up BrA 0 t1.1) 1 t1.2.1) 2 t1.2.2.1), hm_wSh g (a 9) (hm_up (hm_up (hm_up (hm_up (hm_up (hm_up ShR 0 t1.2.2.2.2.2.2.2.2.2.2.2.2.1) 1 t1.2.2.2.2.2.2.2.2.2.2.2.2.2.1) 2 t1.2.2.2.2.2.2.2.2.2.2.2.2.2.2.1) 3 t1.2.2.2.2.2.2.2.2.2.2.2.2.2.2.2.1) 4 t1.2.2.2.2.2.2.2.2.2.2.2.2.2.2.2.2.1) 5 t1.2.2.2.2.2.2.2.2.2.2.2.2.2.2.2.2.2.1) (hm_up (hm_up ShZ 0 t1.2.2.2.2.2.2.2.2.2.2.2.2.2.2.2.2.2.2.1) 1 t1.2.2.2.2.2.2.2.2.2.2.2.2.2.2.2.2.2.2.2.1), hm_wSu g (a 10) SuA SuJ] : List va_W).flatten) rfl
      refine lv_istore_n (lv' := [(2, .int t2), (0, .ref (a 0 0)), (1, .int x0)]) hx hb dX7_judged_19 rfl hl (by decide) rfl (fun ls hl => ?_)
      refine lv_iload_n hx hb dX7_judged_20 rfl (lv_at hl 0 rfl) ?_
      refine lv_if_ge (tgt := 28) hx hb dX7_judged_21 (by decide) (fun c21 => ?_) (fun c21 => ?_)
      · have hF := hm_if hF c21
        refine lv_iconst (v := 0) hx hb dX7_judged_28 (by decide) ?_
        exact hl29 0 t2 t1.1 t1.2.1 t1.2.2.1 t1.2.2.2.1 t1.2.2.2.2.1 t1.2.2.2.2.2.1 t1.2.2.2.2.2.2.1 t1.2.2.2.2.2.2.2.1 t1.2.2.2.2.2.2.2.2.1 t1.2.2.2.2.2.2.2.2.2.1 t1.2.2.2.2.2.2.2.2.2.2.1 t1.2.2.2.2.2.2.2.2.2.2.2.1 t1.2.2.2.2.2.2.2.2.2.2.2.2.1 t1.2.2.2.2.2.2.2.2.2.2.2.2.2.1 t1.2.2.2.2.2.2.2.2.2.2.2.2.2.2.1 t1.2.2.2.2.2.2.2.2.2.2.2.2.2.2.2.1 t1.2.2.2.2.2.2.2.2.2.2.2.2.2.2.2.2.1 t1.2.2.2.2.2.2.2.2.2.2.2.2.2.2.2.2.2.1 t1.2.2.2.2.2.2.2.2.2.2.2.2.2.2.2.2.2.2.1 t1.2.2.2.2.2.2.2.2.2.2.2.2.2.2.2.2.2.2.2.1 t1.2.2.2.2.2.2.2.2.2.2.2.2.2.2.2.2.2.2.2.2 hF _ _ X _ (lv_sub hl [1, 2, 0] rfl)
      · have hF := hm_nf hF c21
        refine lv_iconst (v := 1) hx hb dX7_judged_24 (by decide) ?_
        refine lv_goto (tgt := 29) hx hb dX7_judged_25 (by decide) ?_
        exact hl29 1 t2 t1.1 t1.2.1 t1.2.2.1 t1.2.2.2.1 t1.2.2.2.2.1 t1.2.2.2.2.2.1 t1.2.2.2.2.2.2.1 t1.2.2.2.2.2.2.2.1 t1.2.2.2.2.2.2.2.2.1 t1.2.2.2.2.2.2.2.2.2.1 t1.2.2.2.2.2.2.2.2.2.2.1 t1.2.2.2.2.2.2.2.2.2.2.2.1 t1.2.2.2.2.2.2.2.2.2.2.2.2.1 t1.2.2.2.2.2.2.2.2.2.2.2.2.2.1 t1.2.2.2.2.2.2.2.2.2.2.2.2.2.2.1 t1.2.2.2.2.2.2.2.2.2.2.2.2.2.2.2.1 t1.2.2.2.2.2.2.2.2.2.2.2.2.2.2.2.2.1 t1.2.2.2.2.2.2.2.2.2.2.2.2.2.2.2.2.2.1 t1.2.2.2.2.2.2.2.2.2.2.2.2.2.2.2.2.2.2.1 t1.2.2.2.2.2.2.2.2.2.2.2.2.2.2.2.2.2.2.2.1 t1.2.2.2.2.2.2.2.2.2.2.2.2.2.2.2.2.2.2.2.2 hF _ _ X _ (lv_sub hl [1, 2, 0] rfl)
    · have hF := hm_nf hF c6
      refine lv_iconst (v := (-1)) hx hb dX7_judged_9 (by decide) ?_
      obtain rfl := Option.some.inj hF
      exact hm_ri S hr hlk X rfl rfl dX7_judged_10
def f_X7_freshenSurvey (Z_1 : Int32) (LeR_0 : hm_SR) (LeR_1 : hm_SR) (LeR_2 : hm_SR) (LeR_4 : hm_SR) (LeZ_2 : Int32) (LeZ_3 : Int32) (BrA_0 : Nat → Int32) (BrA_1 : Nat → Int32) (BrA_2 : Nat → Int32) (SuA_0 : Nat → Int32) (SuJ_0 : Nat → Int64)  : Option ((Nat → Int32) × (Nat → Int32) × (Nat → Int32) × (Nat → Int32) × (Nat → Int64) × Int32) :=
  if Z_1 = 0 then (
  some (BrA_0, BrA_1, BrA_2, SuA_0, SuJ_0, Z_1))
  else (
  (f_X6_goThrough SuA_0 SuJ_0 LeR_0 LeR_1 LeR_2 LeR_4 LeZ_2 LeZ_3 BrA_0 BrA_1 BrA_2).bind fun t1 =>
  some (t1.2.1, t1.2.2.1, t1.2.2.2.1, t1.1, t1.2.2.2.2, 0))
abbrev rm_X7_freshenSurvey : Room := { frames := 5, cells := 0, slots := 0, locals := 124 }
set_option maxHeartbeats 4000000 in
set_option maxRecDepth 100000 in
theorem c_X7_freshenSurvey (l : Launch) (g : hm_G) (a : Nat → Nat → Nat) (R : Nat → hm_SR) (Z : Nat → Int32) (ScR : Nat → hm_SR) (SeR : Nat → hm_SR) (SeA : Nat → Nat → Int32) (LeR : Nat → hm_SR) (LeZ : Nat → Int32) (BrA : Nat → Nat → Int32) (ShR : Nat → hm_SR) (ShZ : Nat → Int32) (SuA : Nat → Nat → Int32) (SuJ : Nat → Nat → Int64) (q : (Nat → Int32) × (Nat → Int32) × (Nat → Int32) × (Nat → Int32) × (Nat → Int64) × Int32) (hF : f_X7_freshenSurvey (Z 1) (LeR 0) (LeR 1) (LeR 2) (LeR 4) (LeZ 2) (LeZ 3) (BrA 0) (BrA 1) (BrA 2) (SuA 0) (SuJ 0) = some q) : hm_Mv l yX7_freshenSurvey (Cond.code yX7_freshenSurvey cX7_freshenSurvey 1 none :: hm_W) rm_X7_freshenSurvey g [.ref (a 0 0)] ([hm_wHM g a R Z ScR SeR SeA LeR LeZ BrA ShR ShZ SuA SuJ] : List va_W).flatten ([hm_wHM g a R (hm_up Z 1 q.2.2.2.2.2) ScR SeR SeA LeR LeZ (hm_up (hm_up (hm_up BrA 0 q.1) 1 q.2.1) 2 q.2.2.1) ShR ShZ (hm_up SuA 0 q.2.2.2.1) (hm_up SuJ 0 q.2.2.2.2.1)] : List va_W).flatten := by
  refine hm_ofv [(0, .ref (a 0 0))] (by decide) (own := RX7) rfl (Nat.le_of_ble_eq_true rfl) rfl rfl ?_
  intro p e s m args below meth c AA S hr hlk X ls hl
  have hx := S.1
  have hb := S.2.1
  have hown := S.2.2.2.1
  have hts := S.2.2.2.2
  have X := X.to (ws' := ([[(a 0 0, .inr (7, [.ref (a 1 0), .ref (a 2 0), .ref (a 3 0), .ref (a 4 0), .ref (a 5 0), .ref (a 6 0), .ref (a 7 0), .ref (a 8 0), .ref (a 9 0), .ref (a 10 0), .int (Z 0), .int (Z 1)]))], hm_row g (a 1 0) (a 1 1) 200 (R 0), hm_wSc g (a 2) ScR, hm_wSe g (a 3) SeR SeA, hm_row g (a 4 0) (a 4 1) 100 (R 1), hm_row g (a 5 0) (a 5 1) 6 (R 2), hm_row g (a 6 0) (a 6 1) 6 (R 3), hm_wLe g (a 7) LeR LeZ, hm_wBr g (a 8) BrA, hm_wSh g (a 9) ShR ShZ, hm_wSu g (a 10) SuA SuJ] : List va_W).flatten) rfl
  unfold f_X7_freshenSurvey at hF
  refine lv_aload_n hx hb dX7_freshenSurvey_0 rfl (lv_at hl 0 rfl) ?_
  refine hm_get S X hf_X7_73 0 rfl rfl dX7_freshenSurvey_1 ?_
  refine lv_if_eq (tgt := 27) hx hb dX7_freshenSurvey_4 (by decide) (fun c4 => ?_) (fun c4 => ?_)
  · have hF := hm_if hF c4
    obtain rfl := Option.some.inj hF
    exact hm_rv S hr hlk X rfl dX7_freshenSurvey_27
  · have hF := hm_nf hF c4
    refine lv_aload_n hx hb dX7_freshenSurvey_7 rfl (lv_at hl 0 rfl) ?_
    refine hm_get S X hf_X7_65 0 rfl rfl dX7_freshenSurvey_8 ?_
    refine lv_aload_n hx hb dX7_freshenSurvey_11 rfl (lv_at hl 0 rfl) ?_
    refine hm_get S X hf_X7_44 0 rfl rfl dX7_freshenSurvey_12 ?_
    refine lv_aload_n hx hb dX7_freshenSurvey_15 rfl (lv_at hl 0 rfl) ?_
    refine hm_get S X hf_X7_51 0 rfl rfl dX7_freshenSurvey_16 ?_
    obtain ⟨t1, ht1, hF⟩ := hm_bd hF
    refine hm_vv (As := [.ref ((a 7) 0), .ref ((a 8) 0)]) S X mw_X6_goThrough hw_3_227 (c_X6_goThrough l g (a 10) SuA SuJ (a 7) LeR LeZ (a 8) BrA t1 ht1) (hm_cq (n := 11) [10, 7, 8] [0, 1, 2, 3, 4, 5, 6, 9] rfl (by decide +kernel) rfl rfl) (hm_cq (bs := [[(a 0 0, .inr (7, [.ref (a 1 0), .ref (a 2 0), .ref (a 3 0), .ref (a 4 0), .ref (a 5 0), .ref (a 6 0), .ref (a 7 0), .ref (a 8 0), .ref (a 9 0), .ref (a 10 0), .int (Z 0), .int (Z 1)]))], hm_row g (a 1 0) (a 1 1) 200 (R 0), hm_wSc g (a 2) ScR, hm_wSe g (a 3) SeR SeA, hm_row g (a 4 0) (a 4 1) 100 (R 1), hm_row g (a 5 0) (a 5 1) 6 (R 2), hm_row g (a 6 0) (a 6 1) 6 (R 3), hm_wLe g (a 7) LeR LeZ, hm_wBr g (a 8) (hm_up (hm_up (hm_up BrA 0 t1.2.1) 1 t1.2.2.1) 2 t1.2.2.2.1), hm_wSh g (a 9) ShR ShZ, hm_wSu g (a 10) (hm_up SuA 0 t1.1) (hm_up SuJ 0 t1.2.2.2.2)]) (n := 11) [10, 7, 8] [0, 1, 2, 3, 4, 5, 6, 9] rfl (by decide +kernel) rfl rfl) rfl rfl rfl ⟨rfl, rfl, Nat.le_of_ble_eq_true rfl, Nat.le_of_ble_eq_true rfl⟩ rfl hl.1 rfl (Nat.le_of_ble_eq_true rfl) dX7_freshenSurvey_19 ⟨Nat.zero_le _, Nat.zero_le _⟩ (fun H locs X => ?_)
    have X := X.to (ws' := ([[(a 0 0, .inr (7, [.ref (a 1 0), .ref (a 2 0), .ref (a 3 0), .ref (a 4 0), .ref (a 5 0), .ref (a 6 0), .ref (a 7 0), .ref (a 8 0), .ref (a 9 0), .ref (a 10 0), .int (Z 0), .int (Z 1)]))], hm_row g (a 1 0) (a 1 1) 200 (R 0), hm_wSc g (a 2) ScR, hm_wSe g (a 3) SeR SeA, hm_row g (a 4 0) (a 4 1) 100 (R 1), hm_row g (a 5 0) (a 5 1) 6 (R 2), hm_row g (a 6 0) (a 6 1) 6 (R 3), hm_wLe g (a 7) LeR LeZ, hm_wBr g (a 8) (hm_up (hm_up (hm_up BrA 0 t1.2.1) 1 t1.2.2.1) 2 t1.2.2.2.1), hm_wSh g (a 9) ShR ShZ, hm_wSu g (a 10) (hm_up SuA 0 t1.1) (hm_up SuJ 0 t1.2.2.2.2)] : List va_W).flatten) rfl
    refine lv_aload_n hx hb dX7_freshenSurvey_22 rfl (lv_at hl 0 rfl) ?_
    refine lv_iconst (v := 0) hx hb dX7_freshenSurvey_23 (by decide) ?_
    refine hm_put S X hf_X7_73 hg_X7_surveyStale 0 rfl (hm_nb (Or.inl rfl)) (hm_fb (Or.inl rfl)) (Nat.le_of_ble_eq_true rfl) dX7_freshenSurvey_24 (fun H locs X => ?_)
    have X := X.to (ws' := ([[(a 0 0, .inr (7, [.ref (a 1 0), .ref (a 2 0), .ref (a 3 0), .ref (a 4 0), .ref (a 5 0), .ref (a 6 0), .ref (a 7 0), .ref (a 8 0), .ref (a 9 0), .ref (a 10 0), .int (Z 0), .int 0]))], hm_row g (a 1 0) (a 1 1) 200 (R 0), hm_wSc g (a 2) ScR, hm_wSe g (a 3) SeR SeA, hm_row g (a 4 0) (a 4 1) 100 (R 1), hm_row g (a 5 0) (a 5 1) 6 (R 2), hm_row g (a 6 0) (a 6 1) 6 (R 3), hm_wLe g (a 7) LeR LeZ, hm_wBr g (a 8) (hm_up (hm_up (hm_up BrA 0 t1.2.1) 1 t1.2.2.1) 2 t1.2.2.2.1), hm_wSh g (a 9) ShR ShZ, hm_wSu g (a 10) (hm_up SuA 0 t1.1) (hm_up SuJ 0 t1.2.2.2.2)] : List va_W).flatten) rfl
    obtain rfl := Option.some.inj hF
    exact hm_rv S hr hlk X rfl dX7_freshenSurvey_27
def f_X7_alike (Z_0 : Int32) (Z_1 : Int32) (ScR_0 : hm_SR) (ScR_1 : hm_SR) (SeA_0 : Nat → Int32) (LeR_0 : hm_SR) (LeR_1 : hm_SR) (LeR_2 : hm_SR) (LeR_3 : hm_SR) (LeR_4 : hm_SR) (LeZ_0 : Int32) (LeZ_1 : Int32) (LeZ_2 : Int32) (LeZ_3 : Int32) (BrA_0 : Nat → Int32) (BrA_1 : Nat → Int32) (BrA_2 : Nat → Int32) (ShR_0 : hm_SR) (ShR_1 : hm_SR) (ShR_2 : hm_SR) (ShR_3 : hm_SR) (ShR_4 : hm_SR) (ShR_5 : hm_SR) (ShZ_0 : Int32) (ShZ_1 : Int32) (SuA_0 : Nat → Int32) (SuA_1 : Nat → Int32) (SuJ_0 : Nat → Int64) (x0 : Int32)  : Option (Int32 × (Nat → Int32) × (Nat → Int32) × (Nat → Int32) × hm_SR × hm_SR × hm_SR × hm_SR × hm_SR × Int32 × Int32 × Int32 × Int32 × hm_SR × hm_SR × hm_SR × hm_SR × hm_SR × hm_SR × Int32 × Int32 × (Nat → Int32) × (Nat → Int32) × (Nat → Int64) × Int32 × Int32) :=
  if x0 < 0 then (
  some ((-1), BrA_0, BrA_1, BrA_2, LeR_0, LeR_1, LeR_2, LeR_3, LeR_4, LeZ_0, LeZ_1, LeZ_2, LeZ_3, ShR_0, ShR_1, ShR_2, ShR_3, ShR_4, ShR_5, ShZ_0, ShZ_1, SuA_0, SuA_1, SuJ_0, Z_0, Z_1))
  else (
  if x0 ≤ 2 then (
  (f_X7_freshen Z_0 ScR_0 ScR_1 SeA_0 LeR_0 LeR_1 LeR_2 LeR_3 LeR_4 LeZ_0 LeZ_1 LeZ_2 LeZ_3 BrA_0 BrA_1 BrA_2 ShR_0 ShR_1 ShR_2 ShR_3 ShR_4 ShR_5 ShZ_0 ShZ_1).bind fun t1 =>
  (f_X5_isThere t1.2.2.2.2.2.2.2.2.2.2.2.2.2.2.2.2.2.2.1).bind fun t2 =>
  if t2 = 0 then (
  some ((-9), t1.1, t1.2.1, t1.2.2.1, t1.2.2.2.1, t1.2.2.2.2.1, t1.2.2.2.2.2.1, t1.2.2.2.2.2.2.1, t1.2.2.2.2.2.2.2.1, t1.2.2.2.2.2.2.2.2.1, t1.2.2.2.2.2.2.2.2.2.1, t1.2.2.2.2.2.2.2.2.2.2.1, t1.2.2.2.2.2.2.2.2.2.2.2.1, t1.2.2.2.2.2.2.2.2.2.2.2.2.1, t1.2.2.2.2.2.2.2.2.2.2.2.2.2.1, t1.2.2.2.2.2.2.2.2.2.2.2.2.2.2.1, t1.2.2.2.2.2.2.2.2.2.2.2.2.2.2.2.1, t1.2.2.2.2.2.2.2.2.2.2.2.2.2.2.2.2.1, t1.2.2.2.2.2.2.2.2.2.2.2.2.2.2.2.2.2.1, t1.2.2.2.2.2.2.2.2.2.2.2.2.2.2.2.2.2.2.1, t1.2.2.2.2.2.2.2.2.2.2.2.2.2.2.2.2.2.2.2.1, SuA_0, SuA_1, SuJ_0, t1.2.2.2.2.2.2.2.2.2.2.2.2.2.2.2.2.2.2.2.2, Z_1))
  else (
  (f_X7_freshenSurvey Z_1 t1.2.2.2.1 t1.2.2.2.2.1 t1.2.2.2.2.2.1 t1.2.2.2.2.2.2.2.1 t1.2.2.2.2.2.2.2.2.2.2.1 t1.2.2.2.2.2.2.2.2.2.2.2.1 t1.1 t1.2.1 t1.2.2.1 SuA_0 SuJ_0).bind fun t3 =>
  (f_X4_get SeA_0 35).bind fun t4 =>
  (f_X6_pickAlike t3.2.2.2.1 SuA_1 t3.2.2.2.2.1 t4).bind fun t5 =>
  (f_X6_picked t5 x0).bind fun t6 =>
  some (t6, t3.1, t3.2.1, t3.2.2.1, t1.2.2.2.1, t1.2.2.2.2.1, t1.2.2.2.2.2.1, t1.2.2.2.2.2.2.1, t1.2.2.2.2.2.2.2.1, t1.2.2.2.2.2.2.2.2.1, t1.2.2.2.2.2.2.2.2.2.1, t1.2.2.2.2.2.2.2.2.2.2.1, t1.2.2.2.2.2.2.2.2.2.2.2.1, t1.2.2.2.2.2.2.2.2.2.2.2.2.1, t1.2.2.2.2.2.2.2.2.2.2.2.2.2.1, t1.2.2.2.2.2.2.2.2.2.2.2.2.2.2.1, t1.2.2.2.2.2.2.2.2.2.2.2.2.2.2.2.1, t1.2.2.2.2.2.2.2.2.2.2.2.2.2.2.2.2.1, t1.2.2.2.2.2.2.2.2.2.2.2.2.2.2.2.2.2.1, t1.2.2.2.2.2.2.2.2.2.2.2.2.2.2.2.2.2.2.1, t1.2.2.2.2.2.2.2.2.2.2.2.2.2.2.2.2.2.2.2.1, t3.2.2.2.1, t5, t3.2.2.2.2.1, t1.2.2.2.2.2.2.2.2.2.2.2.2.2.2.2.2.2.2.2.2, t3.2.2.2.2.2)))
  else (
  some ((-1), BrA_0, BrA_1, BrA_2, LeR_0, LeR_1, LeR_2, LeR_3, LeR_4, LeZ_0, LeZ_1, LeZ_2, LeZ_3, ShR_0, ShR_1, ShR_2, ShR_3, ShR_4, ShR_5, ShZ_0, ShZ_1, SuA_0, SuA_1, SuJ_0, Z_0, Z_1)))
abbrev rm_X7_alike : Room := { frames := 6, cells := 0, slots := 0, locals := 144 }
set_option maxHeartbeats 4000000 in
set_option maxRecDepth 100000 in
theorem c_X7_alike (l : Launch) (g : hm_G) (a : Nat → Nat → Nat) (R : Nat → hm_SR) (Z : Nat → Int32) (ScR : Nat → hm_SR) (SeR : Nat → hm_SR) (SeA : Nat → Nat → Int32) (LeR : Nat → hm_SR) (LeZ : Nat → Int32) (BrA : Nat → Nat → Int32) (ShR : Nat → hm_SR) (ShZ : Nat → Int32) (SuA : Nat → Nat → Int32) (SuJ : Nat → Nat → Int64) (x0 : Int32) (q : Int32 × (Nat → Int32) × (Nat → Int32) × (Nat → Int32) × hm_SR × hm_SR × hm_SR × hm_SR × hm_SR × Int32 × Int32 × Int32 × Int32 × hm_SR × hm_SR × hm_SR × hm_SR × hm_SR × hm_SR × Int32 × Int32 × (Nat → Int32) × (Nat → Int32) × (Nat → Int64) × Int32 × Int32) (hF : f_X7_alike (Z 0) (Z 1) (ScR 0) (ScR 1) (SeA 0) (LeR 0) (LeR 1) (LeR 2) (LeR 3) (LeR 4) (LeZ 0) (LeZ 1) (LeZ 2) (LeZ 3) (BrA 0) (BrA 1) (BrA 2) (ShR 0) (ShR 1) (ShR 2) (ShR 3) (ShR 4) (ShR 5) (ShZ 0) (ShZ 1) (SuA 0) (SuA 1) (SuJ 0) x0 = some q) : hm_Mi l yX7_alike (Cond.code yX7_alike cX7_alike 2 (some .int) :: hm_W) rm_X7_alike g [.ref (a 0 0), .int x0] ([hm_wHM g a R Z ScR SeR SeA LeR LeZ BrA ShR ShZ SuA SuJ] : List va_W).flatten ([hm_wHM g a R (hm_up (hm_up Z 0 q.2.2.2.2.2.2.2.2.2.2.2.2.2.2.2.2.2.2.2.2.2.2.2.2.1) 1 q.2.2.2.2.2.2.2.2.2.2.2.2.2.2.2.2.2.2.2.2.2.2.2.2.2) ScR SeR SeA (hm_up (hm_up (hm_up (hm_up (hm_up LeR 0 q.2.2.2.2.1) 1 q.2.2.2.2.2.1) 2 q.2.2.2.2.2.2.1) 3 q.2.2.2.2.2.2.2.1) 4 q.2.2.2.2.2.2.2.2.1) (hm_up (hm_up (hm_up (hm_up LeZ 0 q.2.2.2.2.2.2.2.2.2.1) 1 q.2.2.2.2.2.2.2.2.2.2.1) 2 q.2.2.2.2.2.2.2.2.2.2.2.1) 3 q.2.2.2.2.2.2.2.2.2.2.2.2.1) (hm_up (hm_up (hm_up BrA 0 q.2.1) 1 q.2.2.1) 2 q.2.2.2.1) (hm_up (hm_up (hm_up (hm_up (hm_up (hm_up ShR 0 q.2.2.2.2.2.2.2.2.2.2.2.2.2.1) 1 q.2.2.2.2.2.2.2.2.2.2.2.2.2.2.1) 2 q.2.2.2.2.2.2.2.2.2.2.2.2.2.2.2.1) 3 q.2.2.2.2.2.2.2.2.2.2.2.2.2.2.2.2.1) 4 q.2.2.2.2.2.2.2.2.2.2.2.2.2.2.2.2.2.1) 5 q.2.2.2.2.2.2.2.2.2.2.2.2.2.2.2.2.2.2.1) (hm_up (hm_up ShZ 0 q.2.2.2.2.2.2.2.2.2.2.2.2.2.2.2.2.2.2.2.1) 1 q.2.2.2.2.2.2.2.2.2.2.2.2.2.2.2.2.2.2.2.2.1) (hm_up (hm_up SuA 0 q.2.2.2.2.2.2.2.2.2.2.2.2.2.2.2.2.2.2.2.2.2.1) 1 q.2.2.2.2.2.2.2.2.2.2.2.2.2.2.2.2.2.2.2.2.2.2.1) (hm_up SuJ 0 q.2.2.2.2.2.2.2.2.2.2.2.2.2.2.2.2.2.2.2.2.2.2.2.1)] : List va_W).flatten q.1 := by
  refine hm_ofi [(0, .ref (a 0 0)), (1, .int x0)] (by decide) (own := RX7) rfl (Nat.le_of_ble_eq_true rfl) rfl rfl ?_
  intro p e s m args below meth c AA S hr hlk X ls hl
  have hx := S.1
  have hb := S.2.1
  have hown := S.2.2.2.1
  have hts := S.2.2.2.2
  have X := X.to (ws' := ([[(a 0 0, .inr (7, [.ref (a 1 0), .ref (a 2 0), .ref (a 3 0), .ref (a 4 0), .ref (a 5 0), .ref (a 6 0), .ref (a 7 0), .ref (a 8 0), .ref (a 9 0), .ref (a 10 0), .int (Z 0), .int (Z 1)]))], hm_row g (a 1 0) (a 1 1) 200 (R 0), hm_wSc g (a 2) ScR, hm_wSe g (a 3) SeR SeA, hm_row g (a 4 0) (a 4 1) 100 (R 1), hm_row g (a 5 0) (a 5 1) 6 (R 2), hm_row g (a 6 0) (a 6 1) 6 (R 3), hm_wLe g (a 7) LeR LeZ, hm_wBr g (a 8) BrA, hm_wSh g (a 9) ShR ShZ, hm_wSu g (a 10) SuA SuJ] : List va_W).flatten) rfl
  unfold f_X7_alike at hF
  refine lv_iload_n hx hb dX7_alike_0 rfl (lv_at hl 1 rfl) ?_
  refine lv_if_lt (tgt := 9) hx hb dX7_alike_1 (by decide) (fun c1 => ?_) (fun c1 => ?_)
  · have hF := hm_if hF c1
    refine lv_iconst (v := (-1)) hx hb dX7_alike_9 (by decide) ?_
    obtain rfl := Option.some.inj hF
    exact hm_ri S hr hlk X rfl rfl dX7_alike_10
  · have hF := hm_nf hF c1
    refine lv_iload_n hx hb dX7_alike_4 rfl (lv_at hl 1 rfl) ?_
    refine lv_iconst (v := 2) hx hb dX7_alike_5 (by decide) ?_
    refine lv_icmp_le (tgt := 11) hx hb dX7_alike_6 (by decide) (fun c6 => ?_) (fun c6 => ?_)
    · have hF := hm_if hF c6
      refine lv_aload_n hx hb dX7_alike_11 rfl (lv_at hl 0 rfl) ?_
      obtain ⟨t1, ht1, hF⟩ := hm_bd hF
      refine hm_vv (As := []) S X mw_X7_freshen hw_2_220 (c_X7_freshen l g a R Z ScR SeR SeA LeR LeZ BrA ShR ShZ SuA SuJ t1 ht1) (hm_cq (n := 11) [0, 1, 2, 3, 4, 5, 6, 7, 8, 9, 10] [] rfl (by decide +kernel) rfl rfl) (hm_cq (bs := [[(a 0 0, .inr (7, [.ref (a 1 0), .ref (a 2 0), .ref (a 3 0), .ref (a 4 0), .ref (a 5 0), .ref (a 6 0), .ref (a 7 0), .ref (a 8 0), .ref (a 9 0), .ref (a 10 0), .int t1.2.2.2.2.2.2.2.2.2.2.2.2.2.2.2.2.2.2.2.2, .int (Z 1)]))], hm_row g (a 1 0) (a 1 1) 200 (R 0), hm_wSc g (a 2) ScR, hm_wSe g (a 3) SeR SeA, hm_row g (a 4 0) (a 4 1) 100 (R 1), hm_row g (a 5 0) (a 5 1) 6 (R 2), hm_row g (a 6 0) (a 6 1) 6 (R 3), hm_wLe g (a 7) (hm_up (hm_up (hm_up (hm_up (hm_up LeR 0 t1.2.2.2.1) 1 t1.2.2.2.2.1) 2 t1.2.2.2.2.2.1) 3 t1.2.2.2.2.2.2.1) 4 t1.2.2.2.2.2.2.2.1) (hm_up (hm_up (hm_up (hm_up LeZ 0 t1.2.2.2.2.2.2.2.2.1) 1 t1.2.2.2.2.2.2.2.2.2.1) 2 t1.2.2.2.2.2.2.2.2.2.2.1) 3 t1.2.2.2.2.2.2.2.2.2.2.2.1), hm_wBr g (a 8) (hm_up (hm_up (hm_up BrA 0 t1.1) 1 t1.2.1) 2 t1.2.2.1), hm_wSh g (a 9) (hm_up (hm_up (hm_up (hm_up (hm_up (hm_up ShR 0 t1.2.2.2.2.2.2.2.2.2.2.2.2.1) 1 t1.2.2.2.2.2.2.2.2.2.2.2.2.2.1) 2 t1.2.2.2.2.2.2.2.2.2.2.2.2.2.2.1) 3 t1.2.2.2.2.2.2.2.2.2.2.2.2.2.2.2.1) 4 t1.2.2.2.2.2.2.2.2.2.2.2.2.2.2.2.2.1) 5 t1.2.2.2.2.2.2.2.2.2.2.2.2.2.2.2.2.2.1) (hm_up (hm_up ShZ 0 t1.2.2.2.2.2.2.2.2.2.2.2.2.2.2.2.2.2.2.1) 1 t1.2.2.2.2.2.2.2.2.2.2.2.2.2.2.2.2.2.2.2.1), hm_wSu g (a 10) SuA SuJ]) (n := 11) [0, 1, 2, 3, 4, 5, 6, 7, 8, 9, 10] [] rfl (by decide +kernel) rfl rfl) rfl rfl rfl ⟨rfl, rfl, Nat.le_of_ble_eq_true rfl, Nat.le_of_ble_eq_true rfl⟩ rfl hl.1 rfl (Nat.le_of_ble_eq_true rfl) dX7_alike_12 ⟨Nat.zero_le _, Nat.zero_le _⟩ (fun H locs X => ?_)
      have X := X.to (ws' := ([[(a 0 0, .inr (7, [.ref (a 1 0), .ref (a 2 0), .ref (a 3 0), .ref (a 4 0), .ref (a 5 0), .ref (a 6 0), .ref (a 7 0), .ref (a 8 0), .ref (a 9 0), .ref (a 10 0), .int t1.2.2.2.2.2.2.2.2.2.2.2.2.2.2.2.2.2.2.2.2, .int (Z 1)]))], hm_row g (a 1 0) (a 1 1) 200 (R 0), hm_wSc g (a 2) ScR, hm_wSe g (a 3) SeR SeA, hm_row g (a 4 0) (a 4 1) 100 (R 1), hm_row g (a 5 0) (a 5 1) 6 (R 2), hm_row g (a 6 0) (a 6 1) 6 (R 3), hm_wLe g (a 7) (hm_up (hm_up (hm_up (hm_up (hm_up LeR 0 t1.2.2.2.1) 1 t1.2.2.2.2.1) 2 t1.2.2.2.2.2.1) 3 t1.2.2.2.2.2.2.1) 4 t1.2.2.2.2.2.2.2.1) (hm_up (hm_up (hm_up (hm_up LeZ 0 t1.2.2.2.2.2.2.2.2.1) 1 t1.2.2.2.2.2.2.2.2.2.1) 2 t1.2.2.2.2.2.2.2.2.2.2.1) 3 t1.2.2.2.2.2.2.2.2.2.2.2.1), hm_wBr g (a 8) (hm_up (hm_up (hm_up BrA 0 t1.1) 1 t1.2.1) 2 t1.2.2.1), hm_wSh g (a 9) (hm_up (hm_up (hm_up (hm_up (hm_up (hm_up ShR 0 t1.2.2.2.2.2.2.2.2.2.2.2.2.1) 1 t1.2.2.2.2.2.2.2.2.2.2.2.2.2.1) 2 t1.2.2.2.2.2.2.2.2.2.2.2.2.2.2.1) 3 t1.2.2.2.2.2.2.2.2.2.2.2.2.2.2.2.1) 4 t1.2.2.2.2.2.2.2.2.2.2.2.2.2.2.2.2.1) 5 t1.2.2.2.2.2.2.2.2.2.2.2.2.2.2.2.2.2.1) (hm_up (hm_up ShZ 0 t1.2.2.2.2.2.2.2.2.2.2.2.2.2.2.2.2.2.2.1) 1 t1.2.2.2.2.2.2.2.2.2.2.2.2.2.2.2.2.2.2.2.1), hm_wSu g (a 10) SuA SuJ] : List va_W).flatten) rfl
      refine lv_aload_n hx hb dX7_alike_15 rfl (lv_at hl 0 rfl) ?_
      refine hm_get S X hf_X7_58 0 rfl rfl dX7_alike_16 ?_
      obtain ⟨t2, ht2, hF⟩ := hm_bd hF
      refine hm_vi (As := []) S X mw_X5_isThere hw_3_120 (c_X5_isThere l g (a 9) (hm_up (hm_up (hm_up (hm_up (hm_up (hm_up ShR 0 t1.2.2.2.2.2.2.2.2.2.2.2.2.1) 1 t1.2.2.2.2.2.2.2.2.2.2.2.2.2.1) 2 t1.2.2.2.2.2.2.2.2.2.2.2.2.2.2.1) 3 t1.2.2.2.2.2.2.2.2.2.2.2.2.2.2.2.1) 4 t1.2.2.2.2.2.2.2.2.2.2.2.2.2.2.2.2.1) 5 t1.2.2.2.2.2.2.2.2.2.2.2.2.2.2.2.2.2.1) (hm_up (hm_up ShZ 0 t1.2.2.2.2.2.2.2.2.2.2.2.2.2.2.2.2.2.2.1) 1 t1.2.2.2.2.2.2.2.2.2.2.2.2.2.2.2.2.2.2.2.1) t2 ht2) (hm_mid [[(a 0 0, .inr (7, [.ref (a 1 0), .ref (a 2 0), .ref (a 3 0), .ref (a 4 0), .ref (a 5 0), .ref (a 6 0), .ref (a 7 0), .ref (a 8 0), .ref (a 9 0), .ref (a 10 0), .int t1.2.2.2.2.2.2.2.2.2.2.2.2.2.2.2.2.2.2.2.2, .int (Z 1)]))], hm_row g (a 1 0) (a 1 1) 200 (R 0), hm_wSc g (a 2) ScR, hm_wSe g (a 3) SeR SeA, hm_row g (a 4 0) (a 4 1) 100 (R 1), hm_row g (a 5 0) (a 5 1) 6 (R 2), hm_row g (a 6 0) (a 6 1) 6 (R 3), hm_wLe g (a 7) (hm_up (hm_up (hm_up (hm_up (hm_up LeR 0 t1.2.2.2.1) 1 t1.2.2.2.2.1) 2 t1.2.2.2.2.2.1) 3 t1.2.2.2.2.2.2.1) 4 t1.2.2.2.2.2.2.2.1) (hm_up (hm_up (hm_up (hm_up LeZ 0 t1.2.2.2.2.2.2.2.2.1) 1 t1.2.2.2.2.2.2.2.2.2.1) 2 t1.2.2.2.2.2.2.2.2.2.2.1) 3 t1.2.2.2.2.2.2.2.2.2.2.2.1), hm_wBr g (a 8) (hm_up (hm_up (hm_up BrA 0 t1.1) 1 t1.2.1) 2 t1.2.2.1)] [hm_wSu g (a 10) SuA SuJ]) (hm_mid [[(a 0 0, .inr (7, [.ref (a 1 0), .ref (a 2 0), .ref (a 3 0), .ref (a 4 0), .ref (a 5 0), .ref (a 6 0), .ref (a 7 0), .ref (a 8 0), .ref (a 9 0), .ref (a 10 0), .int t1.2.2.2.2.2.2.2.2.2.2.2.2.2.2.2.2.2.2.2.2, .int (Z 1)]))], hm_row g (a 1 0) (a 1 1) 200 (R 0), hm_wSc g (a 2) ScR, hm_wSe g (a 3) SeR SeA, hm_row g (a 4 0) (a 4 1) 100 (R 1), hm_row g (a 5 0) (a 5 1) 6 (R 2), hm_row g (a 6 0) (a 6 1) 6 (R 3), hm_wLe g (a 7) (hm_up (hm_up (hm_up (hm_up (hm_up LeR 0 t1.2.2.2.1) 1 t1.2.2.2.2.1) 2 t1.2.2.2.2.2.1) 3 t1.2.2.2.2.2.2.1) 4 t1.2.2.2.2.2.2.2.1) (hm_up (hm_up (hm_up (hm_up LeZ 0 t1.2.2.2.2.2.2.2.2.1) 1 t1.2.2.2.2.2.2.2.2.2.1) 2 t1.2.2.2.2.2.2.2.2.2.2.1) 3 t1.2.2.2.2.2.2.2.2.2.2.2.1), hm_wBr g (a 8) (hm_up (hm_up (hm_up BrA 0 t1.1) 1 t1.2.1) 2 t1.2.2.1)] [hm_wSu g (a 10) SuA SuJ] (b := hm_wSh g (a 9) (hm_up (hm_up (hm_up (hm_up (hm_up (hm_up ShR 0 t1.2.2.2.2.2.2.2.2.2.2.2.2.1) 1 t1.2.2.2.2.2.2.2.2.2.2.2.2.2.1) 2 t1.2.2.2.2.2.2.2.2.2.2.2.2.2.2.1) 3 t1.2.2.2.2.2.2.2.2.2.2.2.2.2.2.2.1) 4 t1.2.2.2.2.2.2.2.2.2.2.2.2.2.2.2.2.1) 5 t1.2.2.2.2.2.2.2.2.2.2.2.2.2.2.2.2.2.1) (hm_up (hm_up ShZ 0 t1.2.2.2.2.2.2.2.2.2.2.2.2.2.2.2.2.2.2.1) 1 t1.2.2.2.2.2.2.2.2.2.2.2.2.2.2.2.2.2.2.2.1))) rfl rfl rfl ⟨rfl, rfl, Nat.le_of_ble_eq_true rfl, Nat.le_of_ble_eq_true rfl⟩ rfl hl.1 rfl (Nat.le_of_ble_eq_true rfl) dX7_alike_19 ⟨Nat.zero_le _, Nat.zero_le _⟩ (fun H locs X => ?_)
      have X := X.to (ws' := ([[(a 0 0, .inr (7, [.ref (a 1 0), .ref (a 2 0), .ref (a 3 0), .ref (a 4 0), .ref (a 5 0), .ref (a 6 0), .ref (a 7 0), .ref (a 8 0), .ref (a 9 0), .ref (a 10 0), .int t1.2.2.2.2.2.2.2.2.2.2.2.2.2.2.2.2.2.2.2.2, .int (Z 1)]))], hm_row g (a 1 0) (a 1 1) 200 (R 0), hm_wSc g (a 2) ScR, hm_wSe g (a 3) SeR SeA, hm_row g (a 4 0) (a 4 1) 100 (R 1), hm_row g (a 5 0) (a 5 1) 6 (R 2), hm_row g (a 6 0) (a 6 1) 6 (R 3), hm_wLe g (a 7) (hm_up (hm_up (hm_up (hm_up (hm_up LeR 0 t1.2.2.2.1) 1 t1.2.2.2.2.1) 2 t1.2.2.2.2.2.1) 3 t1.2.2.2.2.2.2.1) 4 t1.2.2.2.2.2.2.2.1) (hm_up (hm_up (hm_up (hm_up LeZ 0 t1.2.2.2.2.2.2.2.2.1) 1 t1.2.2.2.2.2.2.2.2.2.1) 2 t1.2.2.2.2.2.2.2.2.2.2.1) 3 t1.2.2.2.2.2.2.2.2.2.2.2.1), hm_wBr g (a 8) (hm_up (hm_up (hm_up BrA 0 t1.1) 1 t1.2.1) 2 t1.2.2.1), hm_wSh g (a 9) (hm_up (hm_up (hm_up (hm_up (hm_up (hm_up ShR 0 t1.2.2.2.2.2.2.2.2.2.2.2.2.1) 1 t1.2.2.2.2.2.2.2.2.2.2.2.2.2.1) 2 t1.2.2.2.2.2.2.2.2.2.2.2.2.2.2.1) 3 t1.2.2.2.2.2.2.2.2.2.2.2.2.2.2.2.1) 4 t1.2.2.2.2.2.2.2.2.2.2.2.2.2.2.2.2.1) 5 t1.2.2.2.2.2.2.2.2.2.2.2.2.2.2.2.2.2.1) (hm_up (hm_up ShZ 0 t1.2.2.2.2.2.2.2.2.2.2.2.2.2.2.2.2.2.2.1) 1 t1.2.2.2.2.2.2.2.2.2.2.2.2.2.2.2.2.2.2.2.1), hm_wSu g (a 10) SuA SuJ] : List va_W).flatten) rfl
      refine lv_if_ne (tgt := 28) hx hb dX7_alike_22 (by decide) (fun c22 => ?_) (fun c22 => ?_)
      · have hF := hm_nf hF c22
        refine lv_aload_n hx hb dX7_alike_28 rfl (lv_at hl 0 rfl) ?_
        obtain ⟨t3, ht3, hF⟩ := hm_bd hF
        refine hm_vv (As := []) S X mw_X7_freshenSurvey hw_3_223 (c_X7_freshenSurvey l g a R (hm_up Z 0 t1.2.2.2.2.2.2.2.2.2.2.2.2.2.2.2.2.2.2.2.2) ScR SeR SeA (hm_up (hm_up (hm_up (hm_up (hm_up LeR 0 t1.2.2.2.1) 1 t1.2.2.2.2.1) 2 t1.2.2.2.2.2.1) 3 t1.2.2.2.2.2.2.1) 4 t1.2.2.2.2.2.2.2.1) (hm_up (hm_up (hm_up (hm_up LeZ 0 t1.2.2.2.2.2.2.2.2.1) 1 t1.2.2.2.2.2.2.2.2.2.1) 2 t1.2.2.2.2.2.2.2.2.2.2.1) 3 t1.2.2.2.2.2.2.2.2.2.2.2.1) (hm_up (hm_up (hm_up BrA 0 t1.1) 1 t1.2.1) 2 t1.2.2.1) (hm_up (hm_up (hm_up (hm_up (hm_up (hm_up ShR 0 t1.2.2.2.2.2.2.2.2.2.2.2.2.1) 1 t1.2.2.2.2.2.2.2.2.2.2.2.2.2.1) 2 t1.2.2.2.2.2.2.2.2.2.2.2.2.2.2.1) 3 t1.2.2.2.2.2.2.2.2.2.2.2.2.2.2.2.1) 4 t1.2.2.2.2.2.2.2.2.2.2.2.2.2.2.2.2.1) 5 t1.2.2.2.2.2.2.2.2.2.2.2.2.2.2.2.2.2.1) (hm_up (hm_up ShZ 0 t1.2.2.2.2.2.2.2.2.2.2.2.2.2.2.2.2.2.2.1) 1 t1.2.2.2.2.2.2.2.2.2.2.2.2.2.2.2.2.2.2.2.1) SuA SuJ t3 ht3) (hm_cq (n := 11) [0, 1, 2, 3, 4, 5, 6, 7, 8, 9, 10] [] rfl (by decide +kernel) rfl rfl) (hm_cq (bs := [[(a 0 0, .inr (7, [.ref (a 1 0), .ref (a 2 0), .ref (a 3 0), .ref (a 4 0), .ref (a 5 0), .ref (a 6 0), .ref (a 7 0), .ref (a 8 0), .ref (a 9 0), .ref (a 10 0), .int t1.2.2.2.2.2.2.2.2.2.2.2.2.2.2.2.2.2.2.2.2, .int t3.2.2.2.2.2]))], hm_row g (a 1 0) (a 1 1) 200 (R 0), hm_wSc g (a 2) ScR, hm_wSe g (a 3) SeR SeA, hm_row g (a 4 0) (a 4 1) 100 (R 1), hm_row g (a 5 0) (a 5 1) 6 (R 2), hm_row g (a 6 0) (a 6 1) 6 (R 3), hm_wLe g (a 7) (hm_up (hm_up (hm_up (hm_up (hm_up LeR 0 t1.2.2.2.1) 1 t1.2.2.2.2.1) 2 t1.2.2.2.2.2.1) 3 t1.2.2.2.2.2.2.1) 4 t1.2.2.2.2.2.2.2.1) (hm_up (hm_up (hm_up (hm_up LeZ 0 t1.2.2.2.2.2.2.2.2.1) 1 t1.2.2.2.2.2.2.2.2.2.1) 2 t1.2.2.2.2.2.2.2.2.2.2.1) 3 t1.2.2.2.2.2.2.2.2.2.2.2.1), hm_wBr g (a 8) (hm_up (hm_up (hm_up BrA 0 t3.1) 1 t3.2.1) 2 t3.2.2.1), hm_wSh g (a 9) (hm_up (hm_up (hm_up (hm_up (hm_up (hm_up ShR 0 t1.2.2.2.2.2.2.2.2.2.2.2.2.1) 1 t1.2.2.2.2.2.2.2.2.2.2.2.2.2.1) 2 t1.2.2.2.2.2.2.2.2.2.2.2.2.2.2.1) 3 t1.2.2.2.2.2.2.2.2.2.2.2.2.2.2.2.1) 4 t1.2.2.2.2.2.2.2.2.2.2.2.2.2.2.2.2.1) 5 t1.2.2.2.2.2.2.2.2.2.2.2.2.2.2.2.2.2.1) (hm_up (hm_up ShZ 0 t1.2.2.2.2.2.2.2.2.2.2.2.2.2.2.2.2.2.2.1) 1 t1.2.2.2.2.2.2.2.2.2.2.2.2.2.2.2.2.2.2.2.1), hm_wSu g (a 10) (hm_up SuA 0 t3.2.2.2.1) (hm_up SuJ 0 t3.2.2.2.2.1)]) (n := 11) [0, 1, 2, 3, 4, 5, 6, 7, 8, 9, 10] [] rfl (by decide +kernel) rfl rfl) rfl rfl rfl ⟨rfl, rfl, Nat.le_of_ble_eq_true rfl, Nat.le_of_ble_eq_true rfl⟩ rfl hl.1 rfl (Nat.le_of_ble_eq_true rfl) dX7_alike_29 ⟨Nat.zero_le _, Nat.zero_le _⟩ (fun H locs X => ?_)
        have X := X.to (ws' := ([[(a 0 0, .inr (7, [.ref (a 1 0), .ref (a 2 0), .ref (a 3 0), .ref (a 4 0), .ref (a 5 0), .ref (a 6 0), .ref (a 7 0), .ref (a 8 0), .ref (a 9 0), .ref (a 10 0), .int t1.2.2.2.2.2.2.2.2.2.2.2.2.2.2.2.2.2.2.2.2, .int t3.2.2.2.2.2]))], hm_row g (a 1 0) (a 1 1) 200 (R 0), hm_wSc g (a 2) ScR, hm_wSe g (a 3) SeR SeA, hm_row g (a 4 0) (a 4 1) 100 (R 1), hm_row g (a 5 0) (a 5 1) 6 (R 2), hm_row g (a 6 0) (a 6 1) 6 (R 3), hm_wLe g (a 7) (hm_up (hm_up (hm_up (hm_up (hm_up LeR 0 t1.2.2.2.1) 1 t1.2.2.2.2.1) 2 t1.2.2.2.2.2.1) 3 t1.2.2.2.2.2.2.1) 4 t1.2.2.2.2.2.2.2.1) (hm_up (hm_up (hm_up (hm_up LeZ 0 t1.2.2.2.2.2.2.2.2.1) 1 t1.2.2.2.2.2.2.2.2.2.1) 2 t1.2.2.2.2.2.2.2.2.2.2.1) 3 t1.2.2.2.2.2.2.2.2.2.2.2.1), hm_wBr g (a 8) (hm_up (hm_up (hm_up BrA 0 t3.1) 1 t3.2.1) 2 t3.2.2.1), hm_wSh g (a 9) (hm_up (hm_up (hm_up (hm_up (hm_up (hm_up ShR 0 t1.2.2.2.2.2.2.2.2.2.2.2.2.1) 1 t1.2.2.2.2.2.2.2.2.2.2.2.2.2.1) 2 t1.2.2.2.2.2.2.2.2.2.2.2.2.2.2.1) 3 t1.2.2.2.2.2.2.2.2.2.2.2.2.2.2.2.1) 4 t1.2.2.2.2.2.2.2.2.2.2.2.2.2.2.2.2.1) 5 t1.2.2.2.2.2.2.2.2.2.2.2.2.2.2.2.2.2.1) (hm_up (hm_up ShZ 0 t1.2.2.2.2.2.2.2.2.2.2.2.2.2.2.2.2.2.2.1) 1 t1.2.2.2.2.2.2.2.2.2.2.2.2.2.2.2.2.2.2.2.1), hm_wSu g (a 10) (hm_up SuA 0 t3.2.2.2.1) (hm_up SuJ 0 t3.2.2.2.2.1)] : List va_W).flatten) rfl
        refine lv_aload_n hx hb dX7_alike_32 rfl (lv_at hl 0 rfl) ?_
        refine hm_get S X hf_X7_65 0 rfl rfl dX7_alike_33 ?_
        refine lv_aload_n hx hb dX7_alike_36 rfl (lv_at hl 0 rfl) ?_
        refine hm_get S X hf_X7_28 0 rfl rfl dX7_alike_37 ?_
        refine lv_bipush (v := 35) hx hb dX7_alike_40 (by decide) ?_
        obtain ⟨t4, ht4, hF⟩ := hm_bd hF
        refine hm_vi (As := [.int 35]) S X mw_X4_get hw_2_159 (c_X4_get l g (a 3) SeR SeA 35 t4 ht4) (hm_mid [[(a 0 0, .inr (7, [.ref (a 1 0), .ref (a 2 0), .ref (a 3 0), .ref (a 4 0), .ref (a 5 0), .ref (a 6 0), .ref (a 7 0), .ref (a 8 0), .ref (a 9 0), .ref (a 10 0), .int t1.2.2.2.2.2.2.2.2.2.2.2.2.2.2.2.2.2.2.2.2, .int t3.2.2.2.2.2]))], hm_row g (a 1 0) (a 1 1) 200 (R 0), hm_wSc g (a 2) ScR] [hm_row g (a 4 0) (a 4 1) 100 (R 1), hm_row g (a 5 0) (a 5 1) 6 (R 2), hm_row g (a 6 0) (a 6 1) 6 (R 3), hm_wLe g (a 7) (hm_up (hm_up (hm_up (hm_up (hm_up LeR 0 t1.2.2.2.1) 1 t1.2.2.2.2.1) 2 t1.2.2.2.2.2.1) 3 t1.2.2.2.2.2.2.1) 4 t1.2.2.2.2.2.2.2.1) (hm_up (hm_up (hm_up (hm_up LeZ 0 t1.2.2.2.2.2.2.2.2.1) 1 t1.2.2.2.2.2.2.2.2.2.1) 2 t1.2.2.2.2.2.2.2.2.2.2.1) 3 t1.2.2.2.2.2.2.2.2.2.2.2.1), hm_wBr g (a 8) (hm_up (hm_up (hm_up BrA 0 t3.1) 1 t3.2.1) 2 t3.2.2.1), hm_wSh g (a 9) (hm_up (hm_up (hm_up (hm_up (hm_up (hm_up ShR 0 t1.2.2.2.2.2.2.2.2.2.2.2.2.1) 1 t1.2.2.2.2.2.2.2.2.2.2.2.2.2.1) 2 t1.2.2.2.2.2.2.2.2.2.2.2.2.2.2.1) 3 t1.2.2.2.2.2.2.2.2.2.2.2.2.2.2.2.1) 4 t1.2.2.2.2.2.2.2.2.2.2.2.2.2.2.2.2.1) 5 t1.2.2.2.2.2.2.2.2.2.2.2.2.2.2.2.2.2.1) (hm_up (hm_up ShZ 0 t1.2.2.2.2.2.2.2.2.2.2.2.2.2.2.2.2.2.2.1) 1 t1.2.2.2.2.2.2.2.2.2.2.2.2.2.2.2.2.2.2.2.1), hm_wSu g (a 10) (hm_up SuA 0 t3.2.2.2.1) (hm_up SuJ 0 t3.2.2.2.2.1)]) (hm_mid [[(a 0 0, .inr (7, [.ref (a 1 0), .ref (a 2 0), .ref (a 3 0), .ref (a 4 0), .ref (a 5 0), .ref (a 6 0), .ref (a 7 0), .ref (a 8 0), .ref (a 9 0), .ref (a 10 0), .int t1.2.2.2.2.2.2.2.2.2.2.2.2.2.2.2.2.2.2.2.2, .int t3.2.2.2.2.2]))], hm_row g (a 1 0) (a 1 1) 200 (R 0), hm_wSc g (a 2) ScR] [hm_row g (a 4 0) (a 4 1) 100 (R 1), hm_row g (a 5 0) (a 5 1) 6 (R 2), hm_row g (a 6 0) (a 6 1) 6 (R 3), hm_wLe g (a 7) (hm_up (hm_up (hm_up (hm_up (hm_up LeR 0 t1.2.2.2.1) 1 t1.2.2.2.2.1) 2 t1.2.2.2.2.2.1) 3 t1.2.2.2.2.2.2.1) 4 t1.2.2.2.2.2.2.2.1) (hm_up (hm_up (hm_up (hm_up LeZ 0 t1.2.2.2.2.2.2.2.2.1) 1 t1.2.2.2.2.2.2.2.2.2.1) 2 t1.2.2.2.2.2.2.2.2.2.2.1) 3 t1.2.2.2.2.2.2.2.2.2.2.2.1), hm_wBr g (a 8) (hm_up (hm_up (hm_up BrA 0 t3.1) 1 t3.2.1) 2 t3.2.2.1), hm_wSh g (a 9) (hm_up (hm_up (hm_up (hm_up (hm_up (hm_up ShR 0 t1.2.2.2.2.2.2.2.2.2.2.2.2.1) 1 t1.2.2.2.2.2.2.2.2.2.2.2.2.2.1) 2 t1.2.2.2.2.2.2.2.2.2.2.2.2.2.2.1) 3 t1.2.2.2.2.2.2.2.2.2.2.2.2.2.2.2.1) 4 t1.2.2.2.2.2.2.2.2.2.2.2.2.2.2.2.2.1) 5 t1.2.2.2.2.2.2.2.2.2.2.2.2.2.2.2.2.2.1) (hm_up (hm_up ShZ 0 t1.2.2.2.2.2.2.2.2.2.2.2.2.2.2.2.2.2.2.1) 1 t1.2.2.2.2.2.2.2.2.2.2.2.2.2.2.2.2.2.2.2.1), hm_wSu g (a 10) (hm_up SuA 0 t3.2.2.2.1) (hm_up SuJ 0 t3.2.2.2.2.1)] (b := hm_wSe g (a 3) SeR SeA)) rfl rfl rfl ⟨rfl, rfl, Nat.le_of_ble_eq_true rfl, Nat.le_of_ble_eq_true rfl⟩ rfl hl.1 rfl (Nat.le_of_ble_eq_true rfl) dX7_alike_42 ⟨Nat.zero_le _, Nat.zero_le _⟩ (fun H locs X => ?_)
        have X := X.to (ws' := ([[(a 0 0, .inr (7, [.ref (a 1 0), .ref (a 2 0), .ref (a 3 0), .ref (a 4 0), .ref (a 5 0), .ref (a 6 0), .ref (a 7 0), .ref (a 8 0), .ref (a 9 0), .ref (a 10 0), .int t1.2.2.2.2.2.2.2.2.2.2.2.2.2.2.2.2.2.2.2.2, .int t3.2.2.2.2.2]))], hm_row g (a 1 0) (a 1 1) 200 (R 0), hm_wSc g (a 2) ScR, hm_wSe g (a 3) SeR SeA, hm_row g (a 4 0) (a 4 1) 100 (R 1), hm_row g (a 5 0) (a 5 1) 6 (R 2), hm_row g (a 6 0) (a 6 1) 6 (R 3), hm_wLe g (a 7) (hm_up (hm_up (hm_up (hm_up (hm_up LeR 0 t1.2.2.2.1) 1 t1.2.2.2.2.1) 2 t1.2.2.2.2.2.1) 3 t1.2.2.2.2.2.2.1) 4 t1.2.2.2.2.2.2.2.1) (hm_up (hm_up (hm_up (hm_up LeZ 0 t1.2.2.2.2.2.2.2.2.1) 1 t1.2.2.2.2.2.2.2.2.2.1) 2 t1.2.2.2.2.2.2.2.2.2.2.1) 3 t1.2.2.2.2.2.2.2.2.2.2.2.1), hm_wBr g (a 8) (hm_up (hm_up (hm_up BrA 0 t3.1) 1 t3.2.1) 2 t3.2.2.1), hm_wSh g (a 9) (hm_up (hm_up (hm_up (hm_up (hm_up (hm_up ShR 0 t1.2.2.2.2.2.2.2.2.2.2.2.2.1) 1 t1.2.2.2.2.2.2.2.2.2.2.2.2.2.1) 2 t1.2.2.2.2.2.2.2.2.2.2.2.2.2.2.1) 3 t1.2.2.2.2.2.2.2.2.2.2.2.2.2.2.2.1) 4 t1.2.2.2.2.2.2.2.2.2.2.2.2.2.2.2.2.1) 5 t1.2.2.2.2.2.2.2.2.2.2.2.2.2.2.2.2.2.1) (hm_up (hm_up ShZ 0 t1.2.2.2.2.2.2.2.2.2.2.2.2.2.2.2.2.2.2.1) 1 t1.2.2.2.2.2.2.2.2.2.2.2.2.2.2.2.2.2.2.2.1), hm_wSu g (a 10) (hm_up SuA 0 t3.2.2.2.1) (hm_up SuJ 0 t3.2.2.2.2.1)] : List va_W).flatten) rfl
        obtain ⟨t5, ht5, hF⟩ := hm_bd hF
        refine hm_vv (As := [.int t4]) S X mw_X6_pickAlike hw_3_239 (c_X6_pickAlike l g (a 10) (hm_up SuA 0 t3.2.2.2.1) (hm_up SuJ 0 t3.2.2.2.2.1) t4 t5 ht5) (hm_mid [[(a 0 0, .inr (7, [.ref (a 1 0), .ref (a 2 0), .ref (a 3 0), .ref (a 4 0), .ref (a 5 0), .ref (a 6 0), .ref (a 7 0), .ref (a 8 0), .ref (a 9 0), .ref (a 10 0), .int t1.2.2.2.2.2.2.2.2.2.2.2.2.2.2.2.2.2.2.2.2, .int t3.2.2.2.2.2]))], hm_row g (a 1 0) (a 1 1) 200 (R 0), hm_wSc g (a 2) ScR, hm_wSe g (a 3) SeR SeA, hm_row g (a 4 0) (a 4 1) 100 (R 1), hm_row g (a 5 0) (a 5 1) 6 (R 2), hm_row g (a 6 0) (a 6 1) 6 (R 3), hm_wLe g (a 7) (hm_up (hm_up (hm_up (hm_up (hm_up LeR 0 t1.2.2.2.1) 1 t1.2.2.2.2.1) 2 t1.2.2.2.2.2.1) 3 t1.2.2.2.2.2.2.1) 4 t1.2.2.2.2.2.2.2.1) (hm_up (hm_up (hm_up (hm_up LeZ 0 t1.2.2.2.2.2.2.2.2.1) 1 t1.2.2.2.2.2.2.2.2.2.1) 2 t1.2.2.2.2.2.2.2.2.2.2.1) 3 t1.2.2.2.2.2.2.2.2.2.2.2.1), hm_wBr g (a 8) (hm_up (hm_up (hm_up BrA 0 t3.1) 1 t3.2.1) 2 t3.2.2.1), hm_wSh g (a 9) (hm_up (hm_up (hm_up (hm_up (hm_up (hm_up ShR 0 t1.2.2.2.2.2.2.2.2.2.2.2.2.1) 1 t1.2.2.2.2.2.2.2.2.2.2.2.2.2.1) 2 t1.2.2.2.2.2.2.2.2.2.2.2.2.2.2.1) 3 t1.2.2.2.2.2.2.2.2.2.2.2.2.2.2.2.1) 4 t1.2.2.2.2.2.2.2.2.2.2.2.2.2.2.2.2.1) 5 t1.2.2.2.2.2.2.2.2.2.2.2.2.2.2.2.2.2.1) (hm_up (hm_up ShZ 0 t1.2.2.2.2.2.2.2.2.2.2.2.2.2.2.2.2.2.2.1) 1 t1.2.2.2.2.2.2.2.2.2.2.2.2.2.2.2.2.2.2.2.1)] []) (hm_mid [[(a 0 0, .inr (7, [.ref (a 1 0), .ref (a 2 0), .ref (a 3 0), .ref (a 4 0), .ref (a 5 0), .ref (a 6 0), .ref (a 7 0), .ref (a 8 0), .ref (a 9 0), .ref (a 10 0), .int t1.2.2.2.2.2.2.2.2.2.2.2.2.2.2.2.2.2.2.2.2, .int t3.2.2.2.2.2]))], hm_row g (a 1 0) (a 1 1) 200 (R 0), hm_wSc g (a 2) ScR, hm_wSe g (a 3) SeR SeA, hm_row g (a 4 0) (a 4 1) 100 (R 1), hm_row g (a 5 0) (a 5 1) 6 (R 2), hm_row g (a 6 0) (a 6 1) 6 (R 3), hm_wLe g (a 7) (hm_up (hm_up (hm_up (hm_up (hm_up LeR 0 t1.2.2.2.1) 1 t1.2.2.2.2.1) 2 t1.2.2.2.2.2.1) 3 t1.2.2.2.2.2.2.1) 4 t1.2.2.2.2.2.2.2.1) (hm_up (hm_up (hm_up (hm_up LeZ 0 t1.2.2.2.2.2.2.2.2.1) 1 t1.2.2.2.2.2.2.2.2.2.1) 2 t1.2.2.2.2.2.2.2.2.2.2.1) 3 t1.2.2.2.2.2.2.2.2.2.2.2.1), hm_wBr g (a 8) (hm_up (hm_up (hm_up BrA 0 t3.1) 1 t3.2.1) 2 t3.2.2.1), hm_wSh g (a 9) (hm_up (hm_up (hm_up (hm_up (hm_up (hm_up ShR 0 t1.2.2.2.2.2.2.2.2.2.2.2.2.1) 1 t1.2.2.2.2.2.2.2.2.2.2.2.2.2.1) 2 t1.2.2.2.2.2.2.2.2.2.2.2.2.2.2.1) 3 t1.2.2.2.2.2.2.2.2.2.2.2.2.2.2.2.1) 4 t1.2.2.2.2.2.2.2.2.2.2.2.2.2.2.2.2.1) 5 t1.2.2.2.2.2.2.2.2.2.2.2.2.2.2.2.2.2.1) (hm_up (hm_up ShZ 0 t1.2.2.2.2.2.2.2.2.2.2.2.2.2.2.2.2.2.2.1) 1 t1.2.2.2.2.2.2.2.2.2.2.2.2.2.2.2.2.2.2.2.1)] [] (b := hm_wSu g (a 10) (hm_up (hm_up SuA 0 t3.2.2.2.1) 1 t5) (hm_up SuJ 0 t3.2.2.2.2.1))) rfl rfl rfl ⟨rfl, rfl, Nat.le_of_ble_eq_true rfl, Nat.le_of_ble_eq_true rfl⟩ rfl hl.1 rfl (Nat.le_of_ble_eq_true rfl) dX7_alike_45 ⟨Nat.zero_le _, Nat.zero_le _⟩ (fun H locs X => ?_)
        have X := X.to (ws' := ([[(a 0 0, .inr (7, [.ref (a 1 0), .ref (a 2 0), .ref (a 3 0), .ref (a 4 0), .ref (a 5 0), .ref (a 6 0), .ref (a 7 0), .ref (a 8 0), .ref (a 9 0), .ref (a 10 0), .int t1.2.2.2.2.2.2.2.2.2.2.2.2.2.2.2.2.2.2.2.2, .int t3.2.2.2.2.2]))], hm_row g (a 1 0) (a 1 1) 200 (R 0), hm_wSc g (a 2) ScR, hm_wSe g (a 3) SeR SeA, hm_row g (a 4 0) (a 4 1) 100 (R 1), hm_row g (a 5 0) (a 5 1) 6 (R 2), hm_row g (a 6 0) (a 6 1) 6 (R 3), hm_wLe g (a 7) (hm_up (hm_up (hm_up (hm_up (hm_up LeR 0 t1.2.2.2.1) 1 t1.2.2.2.2.1) 2 t1.2.2.2.2.2.1) 3 t1.2.2.2.2.2.2.1) 4 t1.2.2.2.2.2.2.2.1) (hm_up (hm_up (hm_up (hm_up LeZ 0 t1.2.2.2.2.2.2.2.2.1) 1 t1.2.2.2.2.2.2.2.2.2.1) 2 t1.2.2.2.2.2.2.2.2.2.2.1) 3 t1.2.2.2.2.2.2.2.2.2.2.2.1), hm_wBr g (a 8) (hm_up (hm_up (hm_up BrA 0 t3.1) 1 t3.2.1) 2 t3.2.2.1), hm_wSh g (a 9) (hm_up (hm_up (hm_up (hm_up (hm_up (hm_up ShR 0 t1.2.2.2.2.2.2.2.2.2.2.2.2.1) 1 t1.2.2.2.2.2.2.2.2.2.2.2.2.2.1) 2 t1.2.2.2.2.2.2.2.2.2.2.2.2.2.2.1) 3 t1.2.2.2.2.2.2.2.2.2.2.2.2.2.2.2.1) 4 t1.2.2.2.2.2.2.2.2.2.2.2.2.2.2.2.2.1) 5 t1.2.2.2.2.2.2.2.2.2.2.2.2.2.2.2.2.2.1) (hm_up (hm_up ShZ 0 t1.2.2.2.2.2.2.2.2.2.2.2.2.2.2.2.2.2.2.1) 1 t1.2.2.2.2.2.2.2.2.2.2.2.2.2.2.2.2.2.2.2.1), hm_wSu g (a 10) (hm_up (hm_up SuA 0 t3.2.2.2.1) 1 t5) (hm_up SuJ 0 t3.2.2.2.2.1)] : List va_W).flatten) rfl
        refine lv_aload_n hx hb dX7_alike_48 rfl (lv_at hl 0 rfl) ?_
        refine hm_get S X hf_X7_65 0 rfl rfl dX7_alike_49 ?_
        refine lv_iload_n hx hb dX7_alike_52 rfl (lv_at hl 1 rfl) ?_
        obtain ⟨t6, ht6, hF⟩ := hm_bd hF
        refine hm_vi (As := [.int x0]) S X mw_X6_picked hw_4_5 (c_X6_picked l g (a 10) (hm_up (hm_up SuA 0 t3.2.2.2.1) 1 t5) (hm_up SuJ 0 t3.2.2.2.2.1) x0 t6 ht6) (hm_mid [[(a 0 0, .inr (7, [.ref (a 1 0), .ref (a 2 0), .ref (a 3 0), .ref (a 4 0), .ref (a 5 0), .ref (a 6 0), .ref (a 7 0), .ref (a 8 0), .ref (a 9 0), .ref (a 10 0), .int t1.2.2.2.2.2.2.2.2.2.2.2.2.2.2.2.2.2.2.2.2, .int t3.2.2.2.2.2]))], hm_row g (a 1 0) (a 1 1) 200 (R 0), hm_wSc g (a 2) ScR, hm_wSe g (a 3) SeR SeA, hm_row g (a 4 0) (a 4 1) 100 (R 1), hm_row g (a 5 0) (a 5 1) 6 (R 2), hm_row g (a 6 0) (a 6 1) 6 (R 3), hm_wLe g (a 7) (hm_up (hm_up (hm_up (hm_up (hm_up LeR 0 t1.2.2.2.1) 1 t1.2.2.2.2.1) 2 t1.2.2.2.2.2.1) 3 t1.2.2.2.2.2.2.1) 4 t1.2.2.2.2.2.2.2.1) (hm_up (hm_up (hm_up (hm_up LeZ 0 t1.2.2.2.2.2.2.2.2.1) 1 t1.2.2.2.2.2.2.2.2.2.1) 2 t1.2.2.2.2.2.2.2.2.2.2.1) 3 t1.2.2.2.2.2.2.2.2.2.2.2.1), hm_wBr g (a 8) (hm_up (hm_up (hm_up BrA 0 t3.1) 1 t3.2.1) 2 t3.2.2.1), hm_wSh g (a 9) (hm_up (hm_up (hm_up (hm_up (hm_up (hm_up ShR 0 t1.2.2.2.2.2.2.2.2.2.2.2.2.1) 1 t1.2.2.2.2.2.2.2.2.2.2.2.2.2.1) 2 t1.2.2.2.2.2.2.2.2.2.2.2.2.2.2.1) 3 t1.2.2.2.2.2.2.2.2.2.2.2.2.2.2.2.1) 4 t1.2.2.2.2.2.2.2.2.2.2.2.2.2.2.2.2.1) 5 t1.2.2.2.2.2.2.2.2.2.2.2.2.2.2.2.2.2.1) (hm_up (hm_up ShZ 0 t1.2.2.2.2.2.2.2.2.2.2.2.2.2.2.2.2.2.2.1) 1 t1.2.2.2.2.2.2.2.2.2.2.2.2.2.2.2.2.2.2.2.1)] []) (hm_mid [[(a 0 0, .inr (7, [.ref (a 1 0), .ref (a 2 0), .ref (a 3 0), .ref (a 4 0), .ref (a 5 0), .ref (a 6 0), .ref (a 7 0), .ref (a 8 0), .ref (a 9 0), .ref (a 10 0), .int t1.2.2.2.2.2.2.2.2.2.2.2.2.2.2.2.2.2.2.2.2, .int t3.2.2.2.2.2]))], hm_row g (a 1 0) (a 1 1) 200 (R 0), hm_wSc g (a 2) ScR, hm_wSe g (a 3) SeR SeA, hm_row g (a 4 0) (a 4 1) 100 (R 1), hm_row g (a 5 0) (a 5 1) 6 (R 2), hm_row g (a 6 0) (a 6 1) 6 (R 3), hm_wLe g (a 7) (hm_up (hm_up (hm_up (hm_up (hm_up LeR 0 t1.2.2.2.1) 1 t1.2.2.2.2.1) 2 t1.2.2.2.2.2.1) 3 t1.2.2.2.2.2.2.1) 4 t1.2.2.2.2.2.2.2.1) (hm_up (hm_up (hm_up (hm_up LeZ 0 t1.2.2.2.2.2.2.2.2.1) 1 t1.2.2.2.2.2.2.2.2.2.1) 2 t1.2.2.2.2.2.2.2.2.2.2.1) 3 t1.2.2.2.2.2.2.2.2.2.2.2.1), hm_wBr g (a 8) (hm_up (hm_up (hm_up BrA 0 t3.1) 1 t3.2.1) 2 t3.2.2.1), hm_wSh g (a 9) (hm_up (hm_up (hm_up (hm_up (hm_up (hm_up ShR 0 t1.2.2.2.2.2.2.2.2.2.2.2.2.1) 1 t1.2.2.2.2.2.2.2.2.2.2.2.2.2.1) 2 t1.2.2.2.2.2.2.2.2.2.2.2.2.2.2.1) 3 t1.2.2.2.2.2.2.2.2.2.2.2.2.2.2.2.1) 4 t1.2.2.2.2.2.2.2.2.2.2.2.2.2.2.2.2.1) 5 t1.2.2.2.2.2.2.2.2.2.2.2.2.2.2.2.2.2.1) (hm_up (hm_up ShZ 0 t1.2.2.2.2.2.2.2.2.2.2.2.2.2.2.2.2.2.2.1) 1 t1.2.2.2.2.2.2.2.2.2.2.2.2.2.2.2.2.2.2.2.1)] [] (b := hm_wSu g (a 10) (hm_up (hm_up SuA 0 t3.2.2.2.1) 1 t5) (hm_up SuJ 0 t3.2.2.2.2.1))) rfl rfl rfl ⟨rfl, rfl, Nat.le_of_ble_eq_true rfl, Nat.le_of_ble_eq_true rfl⟩ rfl hl.1 rfl (Nat.le_of_ble_eq_true rfl) dX7_alike_53 ⟨Nat.zero_le _, Nat.zero_le _⟩ (fun H locs X => ?_)
        have X := X.to (ws' := ([[(a 0 0, .inr (7, [.ref (a 1 0), .ref (a 2 0), .ref (a 3 0), .ref (a 4 0), .ref (a 5 0), .ref (a 6 0), .ref (a 7 0), .ref (a 8 0), .ref (a 9 0), .ref (a 10 0), .int t1.2.2.2.2.2.2.2.2.2.2.2.2.2.2.2.2.2.2.2.2, .int t3.2.2.2.2.2]))], hm_row g (a 1 0) (a 1 1) 200 (R 0), hm_wSc g (a 2) ScR, hm_wSe g (a 3) SeR SeA, hm_row g (a 4 0) (a 4 1) 100 (R 1), hm_row g (a 5 0) (a 5 1) 6 (R 2), hm_row g (a 6 0) (a 6 1) 6 (R 3), hm_wLe g (a 7) (hm_up (hm_up (hm_up (hm_up (hm_up LeR 0 t1.2.2.2.1) 1 t1.2.2.2.2.1) 2 t1.2.2.2.2.2.1) 3 t1.2.2.2.2.2.2.1) 4 t1.2.2.2.2.2.2.2.1) (hm_up (hm_up (hm_up (hm_up LeZ 0 t1.2.2.2.2.2.2.2.2.1) 1 t1.2.2.2.2.2.2.2.2.2.1) 2 t1.2.2.2.2.2.2.2.2.2.2.1) 3 t1.2.2.2.2.2.2.2.2.2.2.2.1), hm_wBr g (a 8) (hm_up (hm_up (hm_up BrA 0 t3.1) 1 t3.2.1) 2 t3.2.2.1), hm_wSh g (a 9) (hm_up (hm_up (hm_up (hm_up (hm_up (hm_up ShR 0 t1.2.2.2.2.2.2.2.2.2.2.2.2.1) 1 t1.2.2.2.2.2.2.2.2.2.2.2.2.2.1) 2 t1.2.2.2.2.2.2.2.2.2.2.2.2.2.2.1) 3 t1.2.2.2.2.2.2.2.2.2.2.2.2.2.2.2.1) 4 t1.2.2.2.2.2.2.2.2.2.2.2.2.2.2.2.2.1) 5 t1.2.2.2.2.2.2.2.2.2.2.2.2.2.2.2.2.2.1) (hm_up (hm_up ShZ 0 t1.2.2.2.2.2.2.2.2.2.2.2.2.2.2.2.2.2.2.1) 1 t1.2.2.2.2.2.2.2.2.2.2.2.2.2.2.2.2.2.2.2.1), hm_wSu g (a 10) (hm_up (hm_up SuA 0 t3.2.2.2.1) 1 t5) (hm_up SuJ 0 t3.2.2.2.2.1)] : List va_W).flatten) rfl
        obtain rfl := Option.some.inj hF
        exact hm_ri S hr hlk X rfl rfl dX7_alike_56
      · have hF := hm_if hF c22
        refine lv_bipush (v := (-9)) hx hb dX7_alike_25 (by decide) ?_
        obtain rfl := Option.some.inj hF
        exact hm_ri S hr hlk X rfl rfl dX7_alike_27
    · have hF := hm_nf hF c6
      refine lv_iconst (v := (-1)) hx hb dX7_alike_9 (by decide) ?_
      obtain rfl := Option.some.inj hF
      exact hm_ri S hr hlk X rfl rfl dX7_alike_10
def f_X7_sees (R_2 : hm_SR) (R_3 : hm_SR) (ScR_1 : hm_SR) (x0 : Int32) (x1 : Int32)  : Option (Int32 × hm_SR × hm_SR) :=
  if x0 < 0 then (
  some ((-1), R_2, R_3))
  else (
  (f_X3_wordCount ScR_1).bind fun t1 =>
  if t1 ≤ x0 then (
  some ((-1), R_2, R_3))
  else (
  if x1 < 0 then (
  some ((-1), R_2, R_3))
  else (
  if x1 ≤ 1 then (
  (f_X2_size R_2).bind fun t2 =>
  if t2 < 6 then (
  (f_X2_add 6 R_2 x0).bind fun t3 =>
  (f_X2_add 6 R_3 x1).bind fun t4 =>
  (f_X2_size t3.2).bind fun t5 =>
  some (t5, t3.2, t4.2))
  else (
  some ((-3), R_2, R_3)))
  else (
  some ((-1), R_2, R_3)))))
abbrev rm_X7_sees : Room := { frames := 2, cells := 0, slots := 0, locals := 40 }
set_option maxHeartbeats 4000000 in
set_option maxRecDepth 100000 in
theorem c_X7_sees (l : Launch) (g : hm_G) (a : Nat → Nat → Nat) (R : Nat → hm_SR) (Z : Nat → Int32) (ScR : Nat → hm_SR) (SeR : Nat → hm_SR) (SeA : Nat → Nat → Int32) (LeR : Nat → hm_SR) (LeZ : Nat → Int32) (BrA : Nat → Nat → Int32) (ShR : Nat → hm_SR) (ShZ : Nat → Int32) (SuA : Nat → Nat → Int32) (SuJ : Nat → Nat → Int64) (x0 : Int32) (x1 : Int32) (q : Int32 × hm_SR × hm_SR) (hF : f_X7_sees (R 2) (R 3) (ScR 1) x0 x1 = some q) : hm_Mi l yX7_sees (Cond.code yX7_sees cX7_sees 3 (some .int) :: hm_W) rm_X7_sees g [.ref (a 0 0), .int x0, .int x1] ([hm_wHM g a R Z ScR SeR SeA LeR LeZ BrA ShR ShZ SuA SuJ] : List va_W).flatten ([hm_wHM g a (hm_up (hm_up R 2 q.2.1) 3 q.2.2) Z ScR SeR SeA LeR LeZ BrA ShR ShZ SuA SuJ] : List va_W).flatten q.1 := by
  refine hm_ofi [(0, .ref (a 0 0)), (1, .int x0), (2, .int x1)] (by decide) (own := RX7) rfl (Nat.le_of_ble_eq_true rfl) rfl rfl ?_
  intro p e s m args below meth c AA S hr hlk X ls hl
  have hx := S.1
  have hb := S.2.1
  have hown := S.2.2.2.1
  have hts := S.2.2.2.2
  have X := X.to (ws' := ([[(a 0 0, .inr (7, [.ref (a 1 0), .ref (a 2 0), .ref (a 3 0), .ref (a 4 0), .ref (a 5 0), .ref (a 6 0), .ref (a 7 0), .ref (a 8 0), .ref (a 9 0), .ref (a 10 0), .int (Z 0), .int (Z 1)]))], hm_row g (a 1 0) (a 1 1) 200 (R 0), hm_wSc g (a 2) ScR, hm_wSe g (a 3) SeR SeA, hm_row g (a 4 0) (a 4 1) 100 (R 1), hm_row g (a 5 0) (a 5 1) 6 (R 2), hm_row g (a 6 0) (a 6 1) 6 (R 3), hm_wLe g (a 7) LeR LeZ, hm_wBr g (a 8) BrA, hm_wSh g (a 9) ShR ShZ, hm_wSu g (a 10) SuA SuJ] : List va_W).flatten) rfl
  unfold f_X7_sees at hF
  refine lv_iload_n hx hb dX7_sees_0 rfl (lv_at hl 1 rfl) ?_
  refine lv_if_lt (tgt := 24) hx hb dX7_sees_1 (by decide) (fun c1 => ?_) (fun c1 => ?_)
  · have hF := hm_if hF c1
    refine lv_iconst (v := (-1)) hx hb dX7_sees_24 (by decide) ?_
    obtain rfl := Option.some.inj hF
    exact hm_ri S hr hlk X rfl rfl dX7_sees_25
  · have hF := hm_nf hF c1
    refine lv_iload_n hx hb dX7_sees_4 rfl (lv_at hl 1 rfl) ?_
    refine lv_aload_n hx hb dX7_sees_5 rfl (lv_at hl 0 rfl) ?_
    refine hm_get S X hf_X7_21 0 rfl rfl dX7_sees_6 ?_
    obtain ⟨t1, ht1, hF⟩ := hm_bd hF
    refine hm_vi (As := []) S X mw_X3_wordCount hw_2_101 (c_X3_wordCount l g (a 2) ScR t1 ht1) (hm_mid [[(a 0 0, .inr (7, [.ref (a 1 0), .ref (a 2 0), .ref (a 3 0), .ref (a 4 0), .ref (a 5 0), .ref (a 6 0), .ref (a 7 0), .ref (a 8 0), .ref (a 9 0), .ref (a 10 0), .int (Z 0), .int (Z 1)]))], hm_row g (a 1 0) (a 1 1) 200 (R 0)] [hm_wSe g (a 3) SeR SeA, hm_row g (a 4 0) (a 4 1) 100 (R 1), hm_row g (a 5 0) (a 5 1) 6 (R 2), hm_row g (a 6 0) (a 6 1) 6 (R 3), hm_wLe g (a 7) LeR LeZ, hm_wBr g (a 8) BrA, hm_wSh g (a 9) ShR ShZ, hm_wSu g (a 10) SuA SuJ]) (hm_mid [[(a 0 0, .inr (7, [.ref (a 1 0), .ref (a 2 0), .ref (a 3 0), .ref (a 4 0), .ref (a 5 0), .ref (a 6 0), .ref (a 7 0), .ref (a 8 0), .ref (a 9 0), .ref (a 10 0), .int (Z 0), .int (Z 1)]))], hm_row g (a 1 0) (a 1 1) 200 (R 0)] [hm_wSe g (a 3) SeR SeA, hm_row g (a 4 0) (a 4 1) 100 (R 1), hm_row g (a 5 0) (a 5 1) 6 (R 2), hm_row g (a 6 0) (a 6 1) 6 (R 3), hm_wLe g (a 7) LeR LeZ, hm_wBr g (a 8) BrA, hm_wSh g (a 9) ShR ShZ, hm_wSu g (a 10) SuA SuJ] (b := hm_wSc g (a 2) ScR)) rfl rfl rfl ⟨rfl, rfl, Nat.le_of_ble_eq_true rfl, Nat.le_of_ble_eq_true rfl⟩ rfl hl.1 rfl (Nat.le_of_ble_eq_true rfl) dX7_sees_9 ⟨Nat.zero_le _, Nat.zero_le _⟩ (fun H locs X => ?_)
    have X := X.to (ws' := ([[(a 0 0, .inr (7, [.ref (a 1 0), .ref (a 2 0), .ref (a 3 0), .ref (a 4 0), .ref (a 5 0), .ref (a 6 0), .ref (a 7 0), .ref (a 8 0), .ref (a 9 0), .ref (a 10 0), .int (Z 0), .int (Z 1)]))], hm_row g (a 1 0) (a 1 1) 200 (R 0), hm_wSc g (a 2) ScR, hm_wSe g (a 3) SeR SeA, hm_row g (a 4 0) (a 4 1) 100 (R 1), hm_row g (a 5 0) (a 5 1) 6 (R 2), hm_row g (a 6 0) (a 6 1) 6 (R 3), hm_wLe g (a 7) LeR LeZ, hm_wBr g (a 8) BrA, hm_wSh g (a 9) ShR ShZ, hm_wSu g (a 10) SuA SuJ] : List va_W).flatten) rfl
    refine lv_icmp_ge (tgt := 24) hx hb dX7_sees_12 (by decide) (fun c12 => ?_) (fun c12 => ?_)
    · have hF := hm_if hF c12
      refine lv_iconst (v := (-1)) hx hb dX7_sees_24 (by decide) ?_
      obtain rfl := Option.some.inj hF
      exact hm_ri S hr hlk X rfl rfl dX7_sees_25
    · have hF := hm_nf hF c12
      refine lv_iload_n hx hb dX7_sees_15 rfl (lv_at hl 2 rfl) ?_
      refine lv_if_lt (tgt := 24) hx hb dX7_sees_16 (by decide) (fun c16 => ?_) (fun c16 => ?_)
      · have hF := hm_if hF c16
        refine lv_iconst (v := (-1)) hx hb dX7_sees_24 (by decide) ?_
        obtain rfl := Option.some.inj hF
        exact hm_ri S hr hlk X rfl rfl dX7_sees_25
      · have hF := hm_nf hF c16
        refine lv_iload_n hx hb dX7_sees_19 rfl (lv_at hl 2 rfl) ?_
        refine lv_iconst (v := 1) hx hb dX7_sees_20 (by decide) ?_
        refine lv_icmp_le (tgt := 26) hx hb dX7_sees_21 (by decide) (fun c21 => ?_) (fun c21 => ?_)
        · have hF := hm_if hF c21
          refine lv_aload_n hx hb dX7_sees_26 rfl (lv_at hl 0 rfl) ?_
          refine hm_get S X hf_X7_35 0 rfl rfl dX7_sees_27 ?_
          obtain ⟨t2, ht2, hF⟩ := hm_bd hF
          refine hm_vi (As := []) S X mw_X2_size hw_2_26 (c_X2_size l g (a 5 0) (a 5 1) 6 (R 2) t2 ht2) (hm_mid [[(a 0 0, .inr (7, [.ref (a 1 0), .ref (a 2 0), .ref (a 3 0), .ref (a 4 0), .ref (a 5 0), .ref (a 6 0), .ref (a 7 0), .ref (a 8 0), .ref (a 9 0), .ref (a 10 0), .int (Z 0), .int (Z 1)]))], hm_row g (a 1 0) (a 1 1) 200 (R 0), hm_wSc g (a 2) ScR, hm_wSe g (a 3) SeR SeA, hm_row g (a 4 0) (a 4 1) 100 (R 1)] [hm_row g (a 6 0) (a 6 1) 6 (R 3), hm_wLe g (a 7) LeR LeZ, hm_wBr g (a 8) BrA, hm_wSh g (a 9) ShR ShZ, hm_wSu g (a 10) SuA SuJ]) (hm_mid [[(a 0 0, .inr (7, [.ref (a 1 0), .ref (a 2 0), .ref (a 3 0), .ref (a 4 0), .ref (a 5 0), .ref (a 6 0), .ref (a 7 0), .ref (a 8 0), .ref (a 9 0), .ref (a 10 0), .int (Z 0), .int (Z 1)]))], hm_row g (a 1 0) (a 1 1) 200 (R 0), hm_wSc g (a 2) ScR, hm_wSe g (a 3) SeR SeA, hm_row g (a 4 0) (a 4 1) 100 (R 1)] [hm_row g (a 6 0) (a 6 1) 6 (R 3), hm_wLe g (a 7) LeR LeZ, hm_wBr g (a 8) BrA, hm_wSh g (a 9) ShR ShZ, hm_wSu g (a 10) SuA SuJ] (b := hm_row g (a 5 0) (a 5 1) 6 (R 2))) rfl rfl rfl ⟨rfl, rfl, Nat.le_of_ble_eq_true rfl, Nat.le_of_ble_eq_true rfl⟩ rfl hl.1 rfl (Nat.le_of_ble_eq_true rfl) dX7_sees_30 ⟨Nat.zero_le _, Nat.zero_le _⟩ (fun H locs X => ?_)
          have X := X.to (ws' := ([[(a 0 0, .inr (7, [.ref (a 1 0), .ref (a 2 0), .ref (a 3 0), .ref (a 4 0), .ref (a 5 0), .ref (a 6 0), .ref (a 7 0), .ref (a 8 0), .ref (a 9 0), .ref (a 10 0), .int (Z 0), .int (Z 1)]))], hm_row g (a 1 0) (a 1 1) 200 (R 0), hm_wSc g (a 2) ScR, hm_wSe g (a 3) SeR SeA, hm_row g (a 4 0) (a 4 1) 100 (R 1), hm_row g (a 5 0) (a 5 1) 6 (R 2), hm_row g (a 6 0) (a 6 1) 6 (R 3), hm_wLe g (a 7) LeR LeZ, hm_wBr g (a 8) BrA, hm_wSh g (a 9) ShR ShZ, hm_wSu g (a 10) SuA SuJ] : List va_W).flatten) rfl
          refine lv_bipush (v := 6) hx hb dX7_sees_33 (by decide) ?_
          refine lv_icmp_lt (tgt := 41) hx hb dX7_sees_35 (by decide) (fun c35 => ?_) (fun c35 => ?_)
          · have hF := hm_if hF c35
            refine lv_aload_n hx hb dX7_sees_41 rfl (lv_at hl 0 rfl) ?_
            refine hm_get S X hf_X7_35 0 rfl rfl dX7_sees_42 ?_
            refine lv_iload_n hx hb dX7_sees_45 rfl (lv_at hl 1 rfl) ?_
            obtain ⟨t3, ht3, hF⟩ := hm_bd hF
            refine hm_vi (As := [.int x0]) S X mw_X2_add hw_2_22 (c_X2_add l g (a 5 0) (a 5 1) 6 (R 2) x0 t3 ht3) (hm_mid [[(a 0 0, .inr (7, [.ref (a 1 0), .ref (a 2 0), .ref (a 3 0), .ref (a 4 0), .ref (a 5 0), .ref (a 6 0), .ref (a 7 0), .ref (a 8 0), .ref (a 9 0), .ref (a 10 0), .int (Z 0), .int (Z 1)]))], hm_row g (a 1 0) (a 1 1) 200 (R 0), hm_wSc g (a 2) ScR, hm_wSe g (a 3) SeR SeA, hm_row g (a 4 0) (a 4 1) 100 (R 1)] [hm_row g (a 6 0) (a 6 1) 6 (R 3), hm_wLe g (a 7) LeR LeZ, hm_wBr g (a 8) BrA, hm_wSh g (a 9) ShR ShZ, hm_wSu g (a 10) SuA SuJ]) (hm_mid [[(a 0 0, .inr (7, [.ref (a 1 0), .ref (a 2 0), .ref (a 3 0), .ref (a 4 0), .ref (a 5 0), .ref (a 6 0), .ref (a 7 0), .ref (a 8 0), .ref (a 9 0), .ref (a 10 0), .int (Z 0), .int (Z 1)]))], hm_row g (a 1 0) (a 1 1) 200 (R 0), hm_wSc g (a 2) ScR, hm_wSe g (a 3) SeR SeA, hm_row g (a 4 0) (a 4 1) 100 (R 1)] [hm_row g (a 6 0) (a 6 1) 6 (R 3), hm_wLe g (a 7) LeR LeZ, hm_wBr g (a 8) BrA, hm_wSh g (a 9) ShR ShZ, hm_wSu g (a 10) SuA SuJ] (b := hm_row g (a 5 0) (a 5 1) 6 t3.2)) rfl rfl rfl ⟨rfl, rfl, Nat.le_of_ble_eq_true rfl, Nat.le_of_ble_eq_true rfl⟩ rfl hl.1 rfl (Nat.le_of_ble_eq_true rfl) dX7_sees_46 ⟨Nat.zero_le _, Nat.zero_le _⟩ (fun H locs X => ?_)
            have X := X.to (ws' := ([[(a 0 0, .inr (7, [.ref (a 1 0), .ref (a 2 0), .ref (a 3 0), .ref (a 4 0), .ref (a 5 0), .ref (a 6 0), .ref (a 7 0), .ref (a 8 0), .ref (a 9 0), .ref (a 10 0), .int (Z 0), .int (Z 1)]))], hm_row g (a 1 0) (a 1 1) 200 (R 0), hm_wSc g (a 2) ScR, hm_wSe g (a 3) SeR SeA, hm_row g (a 4 0) (a 4 1) 100 (R 1), hm_row g (a 5 0) (a 5 1) 6 t3.2, hm_row g (a 6 0) (a 6 1) 6 (R 3), hm_wLe g (a 7) LeR LeZ, hm_wBr g (a 8) BrA, hm_wSh g (a 9) ShR ShZ, hm_wSu g (a 10) SuA SuJ] : List va_W).flatten) rfl
            refine lv_pop hx hb dX7_sees_49 rfl ?_
            refine lv_aload_n hx hb dX7_sees_50 rfl (lv_at hl 0 rfl) ?_
            refine hm_get S X hf_X7_38 0 rfl rfl dX7_sees_51 ?_
            refine lv_iload_n hx hb dX7_sees_54 rfl (lv_at hl 2 rfl) ?_
            obtain ⟨t4, ht4, hF⟩ := hm_bd hF
            refine hm_vi (As := [.int x1]) S X mw_X2_add hw_2_22 (c_X2_add l g (a 6 0) (a 6 1) 6 (R 3) x1 t4 ht4) (hm_mid [[(a 0 0, .inr (7, [.ref (a 1 0), .ref (a 2 0), .ref (a 3 0), .ref (a 4 0), .ref (a 5 0), .ref (a 6 0), .ref (a 7 0), .ref (a 8 0), .ref (a 9 0), .ref (a 10 0), .int (Z 0), .int (Z 1)]))], hm_row g (a 1 0) (a 1 1) 200 (R 0), hm_wSc g (a 2) ScR, hm_wSe g (a 3) SeR SeA, hm_row g (a 4 0) (a 4 1) 100 (R 1), hm_row g (a 5 0) (a 5 1) 6 t3.2] [hm_wLe g (a 7) LeR LeZ, hm_wBr g (a 8) BrA, hm_wSh g (a 9) ShR ShZ, hm_wSu g (a 10) SuA SuJ]) (hm_mid [[(a 0 0, .inr (7, [.ref (a 1 0), .ref (a 2 0), .ref (a 3 0), .ref (a 4 0), .ref (a 5 0), .ref (a 6 0), .ref (a 7 0), .ref (a 8 0), .ref (a 9 0), .ref (a 10 0), .int (Z 0), .int (Z 1)]))], hm_row g (a 1 0) (a 1 1) 200 (R 0), hm_wSc g (a 2) ScR, hm_wSe g (a 3) SeR SeA, hm_row g (a 4 0) (a 4 1) 100 (R 1), hm_row g (a 5 0) (a 5 1) 6 t3.2] [hm_wLe g (a 7) LeR LeZ, hm_wBr g (a 8) BrA, hm_wSh g (a 9) ShR ShZ, hm_wSu g (a 10) SuA SuJ] (b := hm_row g (a 6 0) (a 6 1) 6 t4.2)) rfl rfl rfl ⟨rfl, rfl, Nat.le_of_ble_eq_true rfl, Nat.le_of_ble_eq_true rfl⟩ rfl hl.1 rfl (Nat.le_of_ble_eq_true rfl) dX7_sees_55 ⟨Nat.zero_le _, Nat.zero_le _⟩ (fun H locs X => ?_)
            have X := X.to (ws' := ([[(a 0 0, .inr (7, [.ref (a 1 0), .ref (a 2 0), .ref (a 3 0), .ref (a 4 0), .ref (a 5 0), .ref (a 6 0), .ref (a 7 0), .ref (a 8 0), .ref (a 9 0), .ref (a 10 0), .int (Z 0), .int (Z 1)]))], hm_row g (a 1 0) (a 1 1) 200 (R 0), hm_wSc g (a 2) ScR, hm_wSe g (a 3) SeR SeA, hm_row g (a 4 0) (a 4 1) 100 (R 1), hm_row g (a 5 0) (a 5 1) 6 t3.2, hm_row g (a 6 0) (a 6 1) 6 t4.2, hm_wLe g (a 7) LeR LeZ, hm_wBr g (a 8) BrA, hm_wSh g (a 9) ShR ShZ, hm_wSu g (a 10) SuA SuJ] : List va_W).flatten) rfl
            refine lv_pop hx hb dX7_sees_58 rfl ?_
            refine lv_aload_n hx hb dX7_sees_59 rfl (lv_at hl 0 rfl) ?_
            refine hm_get S X hf_X7_35 0 rfl rfl dX7_sees_60 ?_
            obtain ⟨t5, ht5, hF⟩ := hm_bd hF
            refine hm_vi (As := []) S X mw_X2_size hw_2_26 (c_X2_size l g (a 5 0) (a 5 1) 6 t3.2 t5 ht5) (hm_mid [[(a 0 0, .inr (7, [.ref (a 1 0), .ref (a 2 0), .ref (a 3 0), .ref (a 4 0), .ref (a 5 0), .ref (a 6 0), .ref (a 7 0), .ref (a 8 0), .ref (a 9 0), .ref (a 10 0), .int (Z 0), .int (Z 1)]))], hm_row g (a 1 0) (a 1 1) 200 (R 0), hm_wSc g (a 2) ScR, hm_wSe g (a 3) SeR SeA, hm_row g (a 4 0) (a 4 1) 100 (R 1)] [hm_row g (a 6 0) (a 6 1) 6 t4.2, hm_wLe g (a 7) LeR LeZ, hm_wBr g (a 8) BrA, hm_wSh g (a 9) ShR ShZ, hm_wSu g (a 10) SuA SuJ]) (hm_mid [[(a 0 0, .inr (7, [.ref (a 1 0), .ref (a 2 0), .ref (a 3 0), .ref (a 4 0), .ref (a 5 0), .ref (a 6 0), .ref (a 7 0), .ref (a 8 0), .ref (a 9 0), .ref (a 10 0), .int (Z 0), .int (Z 1)]))], hm_row g (a 1 0) (a 1 1) 200 (R 0), hm_wSc g (a 2) ScR, hm_wSe g (a 3) SeR SeA, hm_row g (a 4 0) (a 4 1) 100 (R 1)] [hm_row g (a 6 0) (a 6 1) 6 t4.2, hm_wLe g (a 7) LeR LeZ, hm_wBr g (a 8) BrA, hm_wSh g (a 9) ShR ShZ, hm_wSu g (a 10) SuA SuJ] (b := hm_row g (a 5 0) (a 5 1) 6 t3.2)) rfl rfl rfl ⟨rfl, rfl, Nat.le_of_ble_eq_true rfl, Nat.le_of_ble_eq_true rfl⟩ rfl hl.1 rfl (Nat.le_of_ble_eq_true rfl) dX7_sees_63 ⟨Nat.zero_le _, Nat.zero_le _⟩ (fun H locs X => ?_)
            have X := X.to (ws' := ([[(a 0 0, .inr (7, [.ref (a 1 0), .ref (a 2 0), .ref (a 3 0), .ref (a 4 0), .ref (a 5 0), .ref (a 6 0), .ref (a 7 0), .ref (a 8 0), .ref (a 9 0), .ref (a 10 0), .int (Z 0), .int (Z 1)]))], hm_row g (a 1 0) (a 1 1) 200 (R 0), hm_wSc g (a 2) ScR, hm_wSe g (a 3) SeR SeA, hm_row g (a 4 0) (a 4 1) 100 (R 1), hm_row g (a 5 0) (a 5 1) 6 t3.2, hm_row g (a 6 0) (a 6 1) 6 t4.2, hm_wLe g (a 7) LeR LeZ, hm_wBr g (a 8) BrA, hm_wSh g (a 9) ShR ShZ, hm_wSu g (a 10) SuA SuJ] : List va_W).flatten) rfl
            obtain rfl := Option.some.inj hF
            exact hm_ri S hr hlk X rfl rfl dX7_sees_66
          · have hF := hm_nf hF c35
            refine lv_bipush (v := (-3)) hx hb dX7_sees_38 (by decide) ?_
            obtain rfl := Option.some.inj hF
            exact hm_ri S hr hlk X rfl rfl dX7_sees_40
        · have hF := hm_nf hF c21
          refine lv_iconst (v := (-1)) hx hb dX7_sees_24 (by decide) ?_
          obtain rfl := Option.some.inj hF
          exact hm_ri S hr hlk X rfl rfl dX7_sees_25
def f_X7_forget (R_2 : hm_SR) (R_3 : hm_SR)  : Option (Int32 × hm_SR × hm_SR) :=
  (f_X2_size R_2).bind fun t1 =>
  (f_X2_empty R_2).bind fun t2 =>
  (f_X2_empty R_3).bind fun t3 =>
  some (t1, t2, t3)
abbrev rm_X7_forget : Room := { frames := 1, cells := 0, slots := 0, locals := 20 }
set_option maxHeartbeats 4000000 in
set_option maxRecDepth 100000 in
theorem c_X7_forget (l : Launch) (g : hm_G) (a : Nat → Nat → Nat) (R : Nat → hm_SR) (Z : Nat → Int32) (ScR : Nat → hm_SR) (SeR : Nat → hm_SR) (SeA : Nat → Nat → Int32) (LeR : Nat → hm_SR) (LeZ : Nat → Int32) (BrA : Nat → Nat → Int32) (ShR : Nat → hm_SR) (ShZ : Nat → Int32) (SuA : Nat → Nat → Int32) (SuJ : Nat → Nat → Int64) (q : Int32 × hm_SR × hm_SR) (hF : f_X7_forget (R 2) (R 3) = some q) : hm_Mi l yX7_forget (Cond.code yX7_forget cX7_forget 2 (some .int) :: hm_W) rm_X7_forget g [.ref (a 0 0)] ([hm_wHM g a R Z ScR SeR SeA LeR LeZ BrA ShR ShZ SuA SuJ] : List va_W).flatten ([hm_wHM g a (hm_up (hm_up R 2 q.2.1) 3 q.2.2) Z ScR SeR SeA LeR LeZ BrA ShR ShZ SuA SuJ] : List va_W).flatten q.1 := by
  refine hm_ofi [(0, .ref (a 0 0))] (by decide) (own := RX7) rfl (Nat.le_of_ble_eq_true rfl) rfl rfl ?_
  intro p e s m args below meth c AA S hr hlk X ls hl
  have hx := S.1
  have hb := S.2.1
  have hown := S.2.2.2.1
  have hts := S.2.2.2.2
  have X := X.to (ws' := ([[(a 0 0, .inr (7, [.ref (a 1 0), .ref (a 2 0), .ref (a 3 0), .ref (a 4 0), .ref (a 5 0), .ref (a 6 0), .ref (a 7 0), .ref (a 8 0), .ref (a 9 0), .ref (a 10 0), .int (Z 0), .int (Z 1)]))], hm_row g (a 1 0) (a 1 1) 200 (R 0), hm_wSc g (a 2) ScR, hm_wSe g (a 3) SeR SeA, hm_row g (a 4 0) (a 4 1) 100 (R 1), hm_row g (a 5 0) (a 5 1) 6 (R 2), hm_row g (a 6 0) (a 6 1) 6 (R 3), hm_wLe g (a 7) LeR LeZ, hm_wBr g (a 8) BrA, hm_wSh g (a 9) ShR ShZ, hm_wSu g (a 10) SuA SuJ] : List va_W).flatten) rfl
  unfold f_X7_forget at hF
  refine lv_aload_n hx hb dX7_forget_0 rfl (lv_at hl 0 rfl) ?_
  refine hm_get S X hf_X7_35 0 rfl rfl dX7_forget_1 ?_
  obtain ⟨t1, ht1, hF⟩ := hm_bd hF
  refine hm_vi (As := []) S X mw_X2_size hw_2_26 (c_X2_size l g (a 5 0) (a 5 1) 6 (R 2) t1 ht1) (hm_mid [[(a 0 0, .inr (7, [.ref (a 1 0), .ref (a 2 0), .ref (a 3 0), .ref (a 4 0), .ref (a 5 0), .ref (a 6 0), .ref (a 7 0), .ref (a 8 0), .ref (a 9 0), .ref (a 10 0), .int (Z 0), .int (Z 1)]))], hm_row g (a 1 0) (a 1 1) 200 (R 0), hm_wSc g (a 2) ScR, hm_wSe g (a 3) SeR SeA, hm_row g (a 4 0) (a 4 1) 100 (R 1)] [hm_row g (a 6 0) (a 6 1) 6 (R 3), hm_wLe g (a 7) LeR LeZ, hm_wBr g (a 8) BrA, hm_wSh g (a 9) ShR ShZ, hm_wSu g (a 10) SuA SuJ]) (hm_mid [[(a 0 0, .inr (7, [.ref (a 1 0), .ref (a 2 0), .ref (a 3 0), .ref (a 4 0), .ref (a 5 0), .ref (a 6 0), .ref (a 7 0), .ref (a 8 0), .ref (a 9 0), .ref (a 10 0), .int (Z 0), .int (Z 1)]))], hm_row g (a 1 0) (a 1 1) 200 (R 0), hm_wSc g (a 2) ScR, hm_wSe g (a 3) SeR SeA, hm_row g (a 4 0) (a 4 1) 100 (R 1)] [hm_row g (a 6 0) (a 6 1) 6 (R 3), hm_wLe g (a 7) LeR LeZ, hm_wBr g (a 8) BrA, hm_wSh g (a 9) ShR ShZ, hm_wSu g (a 10) SuA SuJ] (b := hm_row g (a 5 0) (a 5 1) 6 (R 2))) rfl rfl rfl ⟨rfl, rfl, Nat.le_of_ble_eq_true rfl, Nat.le_of_ble_eq_true rfl⟩ rfl hl.1 rfl (Nat.le_of_ble_eq_true rfl) dX7_forget_4 ⟨Nat.zero_le _, Nat.zero_le _⟩ (fun H locs X => ?_)
  have X := X.to (ws' := ([[(a 0 0, .inr (7, [.ref (a 1 0), .ref (a 2 0), .ref (a 3 0), .ref (a 4 0), .ref (a 5 0), .ref (a 6 0), .ref (a 7 0), .ref (a 8 0), .ref (a 9 0), .ref (a 10 0), .int (Z 0), .int (Z 1)]))], hm_row g (a 1 0) (a 1 1) 200 (R 0), hm_wSc g (a 2) ScR, hm_wSe g (a 3) SeR SeA, hm_row g (a 4 0) (a 4 1) 100 (R 1), hm_row g (a 5 0) (a 5 1) 6 (R 2), hm_row g (a 6 0) (a 6 1) 6 (R 3), hm_wLe g (a 7) LeR LeZ, hm_wBr g (a 8) BrA, hm_wSh g (a 9) ShR ShZ, hm_wSu g (a 10) SuA SuJ] : List va_W).flatten) rfl
  refine lv_istore_n (lv' := [(1, .int t1), (0, .ref (a 0 0))]) hx hb dX7_forget_7 rfl hl (by decide) rfl (fun ls hl => ?_)
  refine lv_aload_n hx hb dX7_forget_8 rfl (lv_at hl 1 rfl) ?_
  refine hm_get S X hf_X7_35 0 rfl rfl dX7_forget_9 ?_
  obtain ⟨t2, ht2, hF⟩ := hm_bd hF
  refine hm_vv (As := []) S X mw_X2_empty hw_2_34 (c_X2_empty l g (a 5 0) (a 5 1) 6 (R 2) t2 ht2) (hm_mid [[(a 0 0, .inr (7, [.ref (a 1 0), .ref (a 2 0), .ref (a 3 0), .ref (a 4 0), .ref (a 5 0), .ref (a 6 0), .ref (a 7 0), .ref (a 8 0), .ref (a 9 0), .ref (a 10 0), .int (Z 0), .int (Z 1)]))], hm_row g (a 1 0) (a 1 1) 200 (R 0), hm_wSc g (a 2) ScR, hm_wSe g (a 3) SeR SeA, hm_row g (a 4 0) (a 4 1) 100 (R 1)] [hm_row g (a 6 0) (a 6 1) 6 (R 3), hm_wLe g (a 7) LeR LeZ, hm_wBr g (a 8) BrA, hm_wSh g (a 9) ShR ShZ, hm_wSu g (a 10) SuA SuJ]) (hm_mid [[(a 0 0, .inr (7, [.ref (a 1 0), .ref (a 2 0), .ref (a 3 0), .ref (a 4 0), .ref (a 5 0), .ref (a 6 0), .ref (a 7 0), .ref (a 8 0), .ref (a 9 0), .ref (a 10 0), .int (Z 0), .int (Z 1)]))], hm_row g (a 1 0) (a 1 1) 200 (R 0), hm_wSc g (a 2) ScR, hm_wSe g (a 3) SeR SeA, hm_row g (a 4 0) (a 4 1) 100 (R 1)] [hm_row g (a 6 0) (a 6 1) 6 (R 3), hm_wLe g (a 7) LeR LeZ, hm_wBr g (a 8) BrA, hm_wSh g (a 9) ShR ShZ, hm_wSu g (a 10) SuA SuJ] (b := hm_row g (a 5 0) (a 5 1) 6 t2)) rfl rfl rfl ⟨rfl, rfl, Nat.le_of_ble_eq_true rfl, Nat.le_of_ble_eq_true rfl⟩ rfl hl.1 rfl (Nat.le_of_ble_eq_true rfl) dX7_forget_12 ⟨Nat.zero_le _, Nat.zero_le _⟩ (fun H locs X => ?_)
  have X := X.to (ws' := ([[(a 0 0, .inr (7, [.ref (a 1 0), .ref (a 2 0), .ref (a 3 0), .ref (a 4 0), .ref (a 5 0), .ref (a 6 0), .ref (a 7 0), .ref (a 8 0), .ref (a 9 0), .ref (a 10 0), .int (Z 0), .int (Z 1)]))], hm_row g (a 1 0) (a 1 1) 200 (R 0), hm_wSc g (a 2) ScR, hm_wSe g (a 3) SeR SeA, hm_row g (a 4 0) (a 4 1) 100 (R 1), hm_row g (a 5 0) (a 5 1) 6 t2, hm_row g (a 6 0) (a 6 1) 6 (R 3), hm_wLe g (a 7) LeR LeZ, hm_wBr g (a 8) BrA, hm_wSh g (a 9) ShR ShZ, hm_wSu g (a 10) SuA SuJ] : List va_W).flatten) rfl
  refine lv_aload_n hx hb dX7_forget_15 rfl (lv_at hl 1 rfl) ?_
  refine hm_get S X hf_X7_38 0 rfl rfl dX7_forget_16 ?_
  obtain ⟨t3, ht3, hF⟩ := hm_bd hF
  refine hm_vv (As := []) S X mw_X2_empty hw_2_34 (c_X2_empty l g (a 6 0) (a 6 1) 6 (R 3) t3 ht3) (hm_mid [[(a 0 0, .inr (7, [.ref (a 1 0), .ref (a 2 0), .ref (a 3 0), .ref (a 4 0), .ref (a 5 0), .ref (a 6 0), .ref (a 7 0), .ref (a 8 0), .ref (a 9 0), .ref (a 10 0), .int (Z 0), .int (Z 1)]))], hm_row g (a 1 0) (a 1 1) 200 (R 0), hm_wSc g (a 2) ScR, hm_wSe g (a 3) SeR SeA, hm_row g (a 4 0) (a 4 1) 100 (R 1), hm_row g (a 5 0) (a 5 1) 6 t2] [hm_wLe g (a 7) LeR LeZ, hm_wBr g (a 8) BrA, hm_wSh g (a 9) ShR ShZ, hm_wSu g (a 10) SuA SuJ]) (hm_mid [[(a 0 0, .inr (7, [.ref (a 1 0), .ref (a 2 0), .ref (a 3 0), .ref (a 4 0), .ref (a 5 0), .ref (a 6 0), .ref (a 7 0), .ref (a 8 0), .ref (a 9 0), .ref (a 10 0), .int (Z 0), .int (Z 1)]))], hm_row g (a 1 0) (a 1 1) 200 (R 0), hm_wSc g (a 2) ScR, hm_wSe g (a 3) SeR SeA, hm_row g (a 4 0) (a 4 1) 100 (R 1), hm_row g (a 5 0) (a 5 1) 6 t2] [hm_wLe g (a 7) LeR LeZ, hm_wBr g (a 8) BrA, hm_wSh g (a 9) ShR ShZ, hm_wSu g (a 10) SuA SuJ] (b := hm_row g (a 6 0) (a 6 1) 6 t3)) rfl rfl rfl ⟨rfl, rfl, Nat.le_of_ble_eq_true rfl, Nat.le_of_ble_eq_true rfl⟩ rfl hl.1 rfl (Nat.le_of_ble_eq_true rfl) dX7_forget_19 ⟨Nat.zero_le _, Nat.zero_le _⟩ (fun H locs X => ?_)
  have X := X.to (ws' := ([[(a 0 0, .inr (7, [.ref (a 1 0), .ref (a 2 0), .ref (a 3 0), .ref (a 4 0), .ref (a 5 0), .ref (a 6 0), .ref (a 7 0), .ref (a 8 0), .ref (a 9 0), .ref (a 10 0), .int (Z 0), .int (Z 1)]))], hm_row g (a 1 0) (a 1 1) 200 (R 0), hm_wSc g (a 2) ScR, hm_wSe g (a 3) SeR SeA, hm_row g (a 4 0) (a 4 1) 100 (R 1), hm_row g (a 5 0) (a 5 1) 6 t2, hm_row g (a 6 0) (a 6 1) 6 t3, hm_wLe g (a 7) LeR LeZ, hm_wBr g (a 8) BrA, hm_wSh g (a 9) ShR ShZ, hm_wSu g (a 10) SuA SuJ] : List va_W).flatten) rfl
  refine lv_iload_n hx hb dX7_forget_22 rfl (lv_at hl 0 rfl) ?_
  obtain rfl := Option.some.inj hF
  exact hm_ri S hr hlk X rfl rfl dX7_forget_23
def f_X7_unseen (R_2 : hm_SR) (R_3 : hm_SR) (Z_0 : Int32) (Z_1 : Int32) (ScR_0 : hm_SR) (ScR_1 : hm_SR) (ScR_4 : hm_SR) (SeA_0 : Nat → Int32) (LeR_0 : hm_SR) (LeR_1 : hm_SR) (LeR_2 : hm_SR) (LeR_3 : hm_SR) (LeR_4 : hm_SR) (LeZ_0 : Int32) (LeZ_1 : Int32) (LeZ_2 : Int32) (LeZ_3 : Int32) (BrA_0 : Nat → Int32) (BrA_1 : Nat → Int32) (BrA_2 : Nat → Int32) (ShR_0 : hm_SR) (ShR_1 : hm_SR) (ShR_2 : hm_SR) (ShR_3 : hm_SR) (ShR_4 : hm_SR) (ShR_5 : hm_SR) (ShZ_0 : Int32) (ShZ_1 : Int32) (SuA_0 : Nat → Int32) (SuA_1 : Nat → Int32) (SuJ_0 : Nat → Int64) (x0 : Int32)  : Option (Int32 × (Nat → Int32) × (Nat → Int32) × (Nat → Int32) × hm_SR × hm_SR × hm_SR × hm_SR × hm_SR × Int32 × Int32 × Int32 × Int32 × hm_SR × hm_SR × hm_SR × hm_SR × hm_SR × hm_SR × Int32 × Int32 × (Nat → Int32) × (Nat → Int32) × (Nat → Int64) × Int32 × Int32) :=
  if x0 < 0 then (
  some ((-1), BrA_0, BrA_1, BrA_2, LeR_0, LeR_1, LeR_2, LeR_3, LeR_4, LeZ_0, LeZ_1, LeZ_2, LeZ_3, ShR_0, ShR_1, ShR_2, ShR_3, ShR_4, ShR_5, ShZ_0, ShZ_1, SuA_0, SuA_1, SuJ_0, Z_0, Z_1))
  else (
  if x0 ≤ 2 then (
  (f_X7_freshen Z_0 ScR_0 ScR_1 SeA_0 LeR_0 LeR_1 LeR_2 LeR_3 LeR_4 LeZ_0 LeZ_1 LeZ_2 LeZ_3 BrA_0 BrA_1 BrA_2 ShR_0 ShR_1 ShR_2 ShR_3 ShR_4 ShR_5 ShZ_0 ShZ_1).bind fun t1 =>
  (f_X7_freshenSurvey Z_1 t1.2.2.2.1 t1.2.2.2.2.1 t1.2.2.2.2.2.1 t1.2.2.2.2.2.2.2.1 t1.2.2.2.2.2.2.2.2.2.2.1 t1.2.2.2.2.2.2.2.2.2.2.2.1 t1.1 t1.2.1 t1.2.2.1 SuA_0 SuJ_0).bind fun t2 =>
  (f_X6_pickSeen t2.2.2.2.1 SuA_1 t2.2.2.2.2.1 ScR_4 6 R_2 6 R_3).bind fun t3 =>
  (f_X6_picked t3 x0).bind fun t4 =>
  some (t4, t2.1, t2.2.1, t2.2.2.1, t1.2.2.2.1, t1.2.2.2.2.1, t1.2.2.2.2.2.1, t1.2.2.2.2.2.2.1, t1.2.2.2.2.2.2.2.1, t1.2.2.2.2.2.2.2.2.1, t1.2.2.2.2.2.2.2.2.2.1, t1.2.2.2.2.2.2.2.2.2.2.1, t1.2.2.2.2.2.2.2.2.2.2.2.1, t1.2.2.2.2.2.2.2.2.2.2.2.2.1, t1.2.2.2.2.2.2.2.2.2.2.2.2.2.1, t1.2.2.2.2.2.2.2.2.2.2.2.2.2.2.1, t1.2.2.2.2.2.2.2.2.2.2.2.2.2.2.2.1, t1.2.2.2.2.2.2.2.2.2.2.2.2.2.2.2.2.1, t1.2.2.2.2.2.2.2.2.2.2.2.2.2.2.2.2.2.1, t1.2.2.2.2.2.2.2.2.2.2.2.2.2.2.2.2.2.2.1, t1.2.2.2.2.2.2.2.2.2.2.2.2.2.2.2.2.2.2.2.1, t2.2.2.2.1, t3, t2.2.2.2.2.1, t1.2.2.2.2.2.2.2.2.2.2.2.2.2.2.2.2.2.2.2.2, t2.2.2.2.2.2))
  else (
  some ((-1), BrA_0, BrA_1, BrA_2, LeR_0, LeR_1, LeR_2, LeR_3, LeR_4, LeZ_0, LeZ_1, LeZ_2, LeZ_3, ShR_0, ShR_1, ShR_2, ShR_3, ShR_4, ShR_5, ShZ_0, ShZ_1, SuA_0, SuA_1, SuJ_0, Z_0, Z_1)))
abbrev rm_X7_unseen : Room := { frames := 6, cells := 0, slots := 0, locals := 144 }
set_option maxHeartbeats 4000000 in
set_option maxRecDepth 100000 in
theorem c_X7_unseen (l : Launch) (g : hm_G) (a : Nat → Nat → Nat) (R : Nat → hm_SR) (Z : Nat → Int32) (ScR : Nat → hm_SR) (SeR : Nat → hm_SR) (SeA : Nat → Nat → Int32) (LeR : Nat → hm_SR) (LeZ : Nat → Int32) (BrA : Nat → Nat → Int32) (ShR : Nat → hm_SR) (ShZ : Nat → Int32) (SuA : Nat → Nat → Int32) (SuJ : Nat → Nat → Int64) (x0 : Int32) (q : Int32 × (Nat → Int32) × (Nat → Int32) × (Nat → Int32) × hm_SR × hm_SR × hm_SR × hm_SR × hm_SR × Int32 × Int32 × Int32 × Int32 × hm_SR × hm_SR × hm_SR × hm_SR × hm_SR × hm_SR × Int32 × Int32 × (Nat → Int32) × (Nat → Int32) × (Nat → Int64) × Int32 × Int32) (hF : f_X7_unseen (R 2) (R 3) (Z 0) (Z 1) (ScR 0) (ScR 1) (ScR 4) (SeA 0) (LeR 0) (LeR 1) (LeR 2) (LeR 3) (LeR 4) (LeZ 0) (LeZ 1) (LeZ 2) (LeZ 3) (BrA 0) (BrA 1) (BrA 2) (ShR 0) (ShR 1) (ShR 2) (ShR 3) (ShR 4) (ShR 5) (ShZ 0) (ShZ 1) (SuA 0) (SuA 1) (SuJ 0) x0 = some q) : hm_Mi l yX7_unseen (Cond.code yX7_unseen cX7_unseen 2 (some .int) :: hm_W) rm_X7_unseen g [.ref (a 0 0), .int x0] ([hm_wHM g a R Z ScR SeR SeA LeR LeZ BrA ShR ShZ SuA SuJ] : List va_W).flatten ([hm_wHM g a R (hm_up (hm_up Z 0 q.2.2.2.2.2.2.2.2.2.2.2.2.2.2.2.2.2.2.2.2.2.2.2.2.1) 1 q.2.2.2.2.2.2.2.2.2.2.2.2.2.2.2.2.2.2.2.2.2.2.2.2.2) ScR SeR SeA (hm_up (hm_up (hm_up (hm_up (hm_up LeR 0 q.2.2.2.2.1) 1 q.2.2.2.2.2.1) 2 q.2.2.2.2.2.2.1) 3 q.2.2.2.2.2.2.2.1) 4 q.2.2.2.2.2.2.2.2.1) (hm_up (hm_up (hm_up (hm_up LeZ 0 q.2.2.2.2.2.2.2.2.2.1) 1 q.2.2.2.2.2.2.2.2.2.2.1) 2 q.2.2.2.2.2.2.2.2.2.2.2.1) 3 q.2.2.2.2.2.2.2.2.2.2.2.2.1) (hm_up (hm_up (hm_up BrA 0 q.2.1) 1 q.2.2.1) 2 q.2.2.2.1) (hm_up (hm_up (hm_up (hm_up (hm_up (hm_up ShR 0 q.2.2.2.2.2.2.2.2.2.2.2.2.2.1) 1 q.2.2.2.2.2.2.2.2.2.2.2.2.2.2.1) 2 q.2.2.2.2.2.2.2.2.2.2.2.2.2.2.2.1) 3 q.2.2.2.2.2.2.2.2.2.2.2.2.2.2.2.2.1) 4 q.2.2.2.2.2.2.2.2.2.2.2.2.2.2.2.2.2.1) 5 q.2.2.2.2.2.2.2.2.2.2.2.2.2.2.2.2.2.2.1) (hm_up (hm_up ShZ 0 q.2.2.2.2.2.2.2.2.2.2.2.2.2.2.2.2.2.2.2.1) 1 q.2.2.2.2.2.2.2.2.2.2.2.2.2.2.2.2.2.2.2.2.1) (hm_up (hm_up SuA 0 q.2.2.2.2.2.2.2.2.2.2.2.2.2.2.2.2.2.2.2.2.2.1) 1 q.2.2.2.2.2.2.2.2.2.2.2.2.2.2.2.2.2.2.2.2.2.2.1) (hm_up SuJ 0 q.2.2.2.2.2.2.2.2.2.2.2.2.2.2.2.2.2.2.2.2.2.2.2.1)] : List va_W).flatten q.1 := by
  refine hm_ofi [(0, .ref (a 0 0)), (1, .int x0)] (by decide) (own := RX7) rfl (Nat.le_of_ble_eq_true rfl) rfl rfl ?_
  intro p e s m args below meth c AA S hr hlk X ls hl
  have hx := S.1
  have hb := S.2.1
  have hown := S.2.2.2.1
  have hts := S.2.2.2.2
  have X := X.to (ws' := ([[(a 0 0, .inr (7, [.ref (a 1 0), .ref (a 2 0), .ref (a 3 0), .ref (a 4 0), .ref (a 5 0), .ref (a 6 0), .ref (a 7 0), .ref (a 8 0), .ref (a 9 0), .ref (a 10 0), .int (Z 0), .int (Z 1)]))], hm_row g (a 1 0) (a 1 1) 200 (R 0), hm_wSc g (a 2) ScR, hm_wSe g (a 3) SeR SeA, hm_row g (a 4 0) (a 4 1) 100 (R 1), hm_row g (a 5 0) (a 5 1) 6 (R 2), hm_row g (a 6 0) (a 6 1) 6 (R 3), hm_wLe g (a 7) LeR LeZ, hm_wBr g (a 8) BrA, hm_wSh g (a 9) ShR ShZ, hm_wSu g (a 10) SuA SuJ] : List va_W).flatten) rfl
  unfold f_X7_unseen at hF
  refine lv_iload_n hx hb dX7_unseen_0 rfl (lv_at hl 1 rfl) ?_
  refine lv_if_lt (tgt := 9) hx hb dX7_unseen_1 (by decide) (fun c1 => ?_) (fun c1 => ?_)
  · have hF := hm_if hF c1
    refine lv_iconst (v := (-1)) hx hb dX7_unseen_9 (by decide) ?_
    obtain rfl := Option.some.inj hF
    exact hm_ri S hr hlk X rfl rfl dX7_unseen_10
  · have hF := hm_nf hF c1
    refine lv_iload_n hx hb dX7_unseen_4 rfl (lv_at hl 1 rfl) ?_
    refine lv_iconst (v := 2) hx hb dX7_unseen_5 (by decide) ?_
    refine lv_icmp_le (tgt := 11) hx hb dX7_unseen_6 (by decide) (fun c6 => ?_) (fun c6 => ?_)
    · have hF := hm_if hF c6
      refine lv_aload_n hx hb dX7_unseen_11 rfl (lv_at hl 0 rfl) ?_
      obtain ⟨t1, ht1, hF⟩ := hm_bd hF
      refine hm_vv (As := []) S X mw_X7_freshen hw_2_220 (c_X7_freshen l g a R Z ScR SeR SeA LeR LeZ BrA ShR ShZ SuA SuJ t1 ht1) (hm_cq (n := 11) [0, 1, 2, 3, 4, 5, 6, 7, 8, 9, 10] [] rfl (by decide +kernel) rfl rfl) (hm_cq (bs := [[(a 0 0, .inr (7, [.ref (a 1 0), .ref (a 2 0), .ref (a 3 0), .ref (a 4 0), .ref (a 5 0), .ref (a 6 0), .ref (a 7 0), .ref (a 8 0), .ref (a 9 0), .ref (a 10 0), .int t1.2.2.2.2.2.2.2.2.2.2.2.2.2.2.2.2.2.2.2.2, .int (Z 1)]))], hm_row g (a 1 0) (a 1 1) 200 (R 0), hm_wSc g (a 2) ScR, hm_wSe g (a 3) SeR SeA, hm_row g (a 4 0) (a 4 1) 100 (R 1), hm_row g (a 5 0) (a 5 1) 6 (R 2), hm_row g (a 6 0) (a 6 1) 6 (R 3), hm_wLe g (a 7) (hm_up (hm_up (hm_up (hm_up (hm_up LeR 0 t1.2.2.2.1) 1 t1.2.2.2.2.1) 2 t1.2.2.2.2.2.1) 3 t1.2.2.2.2.2.2.1) 4 t1.2.2.2.2.2.2.2.1) (hm_up (hm_up (hm_up (hm_up LeZ 0 t1.2.2.2.2.2.2.2.2.1) 1 t1.2.2.2.2.2.2.2.2.2.1) 2 t1.2.2.2.2.2.2.2.2.2.2.1) 3 t1.2.2.2.2.2.2.2.2.2.2.2.1), hm_wBr g (a 8) (hm_up (hm_up (hm_up BrA 0 t1.1) 1 t1.2.1) 2 t1.2.2.1), hm_wSh g (a 9) (hm_up (hm_up (hm_up (hm_up (hm_up (hm_up ShR 0 t1.2.2.2.2.2.2.2.2.2.2.2.2.1) 1 t1.2.2.2.2.2.2.2.2.2.2.2.2.2.1) 2 t1.2.2.2.2.2.2.2.2.2.2.2.2.2.2.1) 3 t1.2.2.2.2.2.2.2.2.2.2.2.2.2.2.2.1) 4 t1.2.2.2.2.2.2.2.2.2.2.2.2.2.2.2.2.1) 5 t1.2.2.2.2.2.2.2.2.2.2.2.2.2.2.2.2.2.1) (hm_up (hm_up ShZ 0 t1.2.2.2.2.2.2.2.2.2.2.2.2.2.2.2.2.2.2.1) 1 t1.2.2.2.2.2.2.2.2.2.2.2.2.2.2.2.2.2.2.2.1), hm_wSu g (a 10) SuA SuJ]) (n := 11) [0, 1, 2, 3, 4, 5, 6, 7, 8, 9, 10] [] rfl (by decide +kernel) rfl rfl) rfl rfl rfl ⟨rfl, rfl, Nat.le_of_ble_eq_true rfl, Nat.le_of_ble_eq_true rfl⟩ rfl hl.1 rfl (Nat.le_of_ble_eq_true rfl) dX7_unseen_12 ⟨Nat.zero_le _, Nat.zero_le _⟩ (fun H locs X => ?_)
      have X := X.to (ws' := ([[(a 0 0, .inr (7, [.ref (a 1 0), .ref (a 2 0), .ref (a 3 0), .ref (a 4 0), .ref (a 5 0), .ref (a 6 0), .ref (a 7 0), .ref (a 8 0), .ref (a 9 0), .ref (a 10 0), .int t1.2.2.2.2.2.2.2.2.2.2.2.2.2.2.2.2.2.2.2.2, .int (Z 1)]))], hm_row g (a 1 0) (a 1 1) 200 (R 0), hm_wSc g (a 2) ScR, hm_wSe g (a 3) SeR SeA, hm_row g (a 4 0) (a 4 1) 100 (R 1), hm_row g (a 5 0) (a 5 1) 6 (R 2), hm_row g (a 6 0) (a 6 1) 6 (R 3), hm_wLe g (a 7) (hm_up (hm_up (hm_up (hm_up (hm_up LeR 0 t1.2.2.2.1) 1 t1.2.2.2.2.1) 2 t1.2.2.2.2.2.1) 3 t1.2.2.2.2.2.2.1) 4 t1.2.2.2.2.2.2.2.1) (hm_up (hm_up (hm_up (hm_up LeZ 0 t1.2.2.2.2.2.2.2.2.1) 1 t1.2.2.2.2.2.2.2.2.2.1) 2 t1.2.2.2.2.2.2.2.2.2.2.1) 3 t1.2.2.2.2.2.2.2.2.2.2.2.1), hm_wBr g (a 8) (hm_up (hm_up (hm_up BrA 0 t1.1) 1 t1.2.1) 2 t1.2.2.1), hm_wSh g (a 9) (hm_up (hm_up (hm_up (hm_up (hm_up (hm_up ShR 0 t1.2.2.2.2.2.2.2.2.2.2.2.2.1) 1 t1.2.2.2.2.2.2.2.2.2.2.2.2.2.1) 2 t1.2.2.2.2.2.2.2.2.2.2.2.2.2.2.1) 3 t1.2.2.2.2.2.2.2.2.2.2.2.2.2.2.2.1) 4 t1.2.2.2.2.2.2.2.2.2.2.2.2.2.2.2.2.1) 5 t1.2.2.2.2.2.2.2.2.2.2.2.2.2.2.2.2.2.1) (hm_up (hm_up ShZ 0 t1.2.2.2.2.2.2.2.2.2.2.2.2.2.2.2.2.2.2.1) 1 t1.2.2.2.2.2.2.2.2.2.2.2.2.2.2.2.2.2.2.2.1), hm_wSu g (a 10) SuA SuJ] : List va_W).flatten) rfl
      refine lv_aload_n hx hb dX7_unseen_15 rfl (lv_at hl 0 rfl) ?_
      obtain ⟨t2, ht2, hF⟩ := hm_bd hF
      refine hm_vv (As := []) S X mw_X7_freshenSurvey hw_3_223 (c_X7_freshenSurvey l g a R (hm_up Z 0 t1.2.2.2.2.2.2.2.2.2.2.2.2.2.2.2.2.2.2.2.2) ScR SeR SeA (hm_up (hm_up (hm_up (hm_up (hm_up LeR 0 t1.2.2.2.1) 1 t1.2.2.2.2.1) 2 t1.2.2.2.2.2.1) 3 t1.2.2.2.2.2.2.1) 4 t1.2.2.2.2.2.2.2.1) (hm_up (hm_up (hm_up (hm_up LeZ 0 t1.2.2.2.2.2.2.2.2.1) 1 t1.2.2.2.2.2.2.2.2.2.1) 2 t1.2.2.2.2.2.2.2.2.2.2.1) 3 t1.2.2.2.2.2.2.2.2.2.2.2.1) (hm_up (hm_up (hm_up BrA 0 t1.1) 1 t1.2.1) 2 t1.2.2.1) (hm_up (hm_up (hm_up (hm_up (hm_up (hm_up ShR 0 t1.2.2.2.2.2.2.2.2.2.2.2.2.1) 1 t1.2.2.2.2.2.2.2.2.2.2.2.2.2.1) 2 t1.2.2.2.2.2.2.2.2.2.2.2.2.2.2.1) 3 t1.2.2.2.2.2.2.2.2.2.2.2.2.2.2.2.1) 4 t1.2.2.2.2.2.2.2.2.2.2.2.2.2.2.2.2.1) 5 t1.2.2.2.2.2.2.2.2.2.2.2.2.2.2.2.2.2.1) (hm_up (hm_up ShZ 0 t1.2.2.2.2.2.2.2.2.2.2.2.2.2.2.2.2.2.2.1) 1 t1.2.2.2.2.2.2.2.2.2.2.2.2.2.2.2.2.2.2.2.1) SuA SuJ t2 ht2) (hm_cq (n := 11) [0, 1, 2, 3, 4, 5, 6, 7, 8, 9, 10] [] rfl (by decide +kernel) rfl rfl) (hm_cq (bs := [[(a 0 0, .inr (7, [.ref (a 1 0), .ref (a 2 0), .ref (a 3 0), .ref (a 4 0), .ref (a 5 0), .ref (a 6 0), .ref (a 7 0), .ref (a 8 0), .ref (a 9 0), .ref (a 10 0), .int t1.2.2.2.2.2.2.2.2.2.2.2.2.2.2.2.2.2.2.2.2, .int t2.2.2.2.2.2]))], hm_row g (a 1 0) (a 1 1) 200 (R 0), hm_wSc g (a 2) ScR, hm_wSe g (a 3) SeR SeA, hm_row g (a 4 0) (a 4 1) 100 (R 1), hm_row g (a 5 0) (a 5 1) 6 (R 2), hm_row g (a 6 0) (a 6 1) 6 (R 3), hm_wLe g (a 7) (hm_up (hm_up (hm_up (hm_up (hm_up LeR 0 t1.2.2.2.1) 1 t1.2.2.2.2.1) 2 t1.2.2.2.2.2.1) 3 t1.2.2.2.2.2.2.1) 4 t1.2.2.2.2.2.2.2.1) (hm_up (hm_up (hm_up (hm_up LeZ 0 t1.2.2.2.2.2.2.2.2.1) 1 t1.2.2.2.2.2.2.2.2.2.1) 2 t1.2.2.2.2.2.2.2.2.2.2.1) 3 t1.2.2.2.2.2.2.2.2.2.2.2.1), hm_wBr g (a 8) (hm_up (hm_up (hm_up BrA 0 t2.1) 1 t2.2.1) 2 t2.2.2.1), hm_wSh g (a 9) (hm_up (hm_up (hm_up (hm_up (hm_up (hm_up ShR 0 t1.2.2.2.2.2.2.2.2.2.2.2.2.1) 1 t1.2.2.2.2.2.2.2.2.2.2.2.2.2.1) 2 t1.2.2.2.2.2.2.2.2.2.2.2.2.2.2.1) 3 t1.2.2.2.2.2.2.2.2.2.2.2.2.2.2.2.1) 4 t1.2.2.2.2.2.2.2.2.2.2.2.2.2.2.2.2.1) 5 t1.2.2.2.2.2.2.2.2.2.2.2.2.2.2.2.2.2.1) (hm_up (hm_up ShZ 0 t1.2.2.2.2.2.2.2.2.2.2.2.2.2.2.2.2.2.2.1) 1 t1.2.2.2.2.2.2.2.2.2.2.2.2.2.2.2.2.2.2.2.1), hm_wSu g (a 10) (hm_up SuA 0 t2.2.2.2.1) (hm_up SuJ 0 t2.2.2.2.2.1)]) (n := 11) [0, 1, 2, 3, 4, 5, 6, 7, 8, 9, 10] [] rfl (by decide +kernel) rfl rfl) rfl rfl rfl ⟨rfl, rfl, Nat.le_of_ble_eq_true rfl, Nat.le_of_ble_eq_true rfl⟩ rfl hl.1 rfl (Nat.le_of_ble_eq_true rfl) dX7_unseen_16 ⟨Nat.zero_le _, Nat.zero_le _⟩ (fun H locs X => ?_)
      have X := X.to (ws' := ([[(a 0 0, .inr (7, [.ref (a 1 0), .ref (a 2 0), .ref (a 3 0), .ref (a 4 0), .ref (a 5 0), .ref (a 6 0), .ref (a 7 0), .ref (a 8 0), .ref (a 9 0), .ref (a 10 0), .int t1.2.2.2.2.2.2.2.2.2.2.2.2.2.2.2.2.2.2.2.2, .int t2.2.2.2.2.2]))], hm_row g (a 1 0) (a 1 1) 200 (R 0), hm_wSc g (a 2) ScR, hm_wSe g (a 3) SeR SeA, hm_row g (a 4 0) (a 4 1) 100 (R 1), hm_row g (a 5 0) (a 5 1) 6 (R 2), hm_row g (a 6 0) (a 6 1) 6 (R 3), hm_wLe g (a 7) (hm_up (hm_up (hm_up (hm_up (hm_up LeR 0 t1.2.2.2.1) 1 t1.2.2.2.2.1) 2 t1.2.2.2.2.2.1) 3 t1.2.2.2.2.2.2.1) 4 t1.2.2.2.2.2.2.2.1) (hm_up (hm_up (hm_up (hm_up LeZ 0 t1.2.2.2.2.2.2.2.2.1) 1 t1.2.2.2.2.2.2.2.2.2.1) 2 t1.2.2.2.2.2.2.2.2.2.2.1) 3 t1.2.2.2.2.2.2.2.2.2.2.2.1), hm_wBr g (a 8) (hm_up (hm_up (hm_up BrA 0 t2.1) 1 t2.2.1) 2 t2.2.2.1), hm_wSh g (a 9) (hm_up (hm_up (hm_up (hm_up (hm_up (hm_up ShR 0 t1.2.2.2.2.2.2.2.2.2.2.2.2.1) 1 t1.2.2.2.2.2.2.2.2.2.2.2.2.2.1) 2 t1.2.2.2.2.2.2.2.2.2.2.2.2.2.2.1) 3 t1.2.2.2.2.2.2.2.2.2.2.2.2.2.2.2.1) 4 t1.2.2.2.2.2.2.2.2.2.2.2.2.2.2.2.2.1) 5 t1.2.2.2.2.2.2.2.2.2.2.2.2.2.2.2.2.2.1) (hm_up (hm_up ShZ 0 t1.2.2.2.2.2.2.2.2.2.2.2.2.2.2.2.2.2.2.1) 1 t1.2.2.2.2.2.2.2.2.2.2.2.2.2.2.2.2.2.2.2.1), hm_wSu g (a 10) (hm_up SuA 0 t2.2.2.2.1) (hm_up SuJ 0 t2.2.2.2.2.1)] : List va_W).flatten) rfl
      refine lv_aload_n hx hb dX7_unseen_19 rfl (lv_at hl 0 rfl) ?_
      refine hm_get S X hf_X7_65 0 rfl rfl dX7_unseen_20 ?_
      refine lv_aload_n hx hb dX7_unseen_23 rfl (lv_at hl 0 rfl) ?_
      refine hm_get S X hf_X7_21 0 rfl rfl dX7_unseen_24 ?_
      refine lv_aload_n hx hb dX7_unseen_27 rfl (lv_at hl 0 rfl) ?_
      refine hm_get S X hf_X7_35 0 rfl rfl dX7_unseen_28 ?_
      refine lv_aload_n hx hb dX7_unseen_31 rfl (lv_at hl 0 rfl) ?_
      refine hm_get S X hf_X7_38 0 rfl rfl dX7_unseen_32 ?_
      obtain ⟨t3, ht3, hF⟩ := hm_bd hF
      refine hm_vv (As := [.ref ((a 2) 0), .ref (a 5 0), .ref (a 6 0)]) S X mw_X6_pickSeen hw_4_21 (c_X6_pickSeen l g (a 10) (hm_up SuA 0 t2.2.2.2.1) (hm_up SuJ 0 t2.2.2.2.2.1) (a 2) ScR (a 5 0) (a 5 1) 6 (R 2) (a 6 0) (a 6 1) 6 (R 3) t3 ht3) (hm_cq (n := 11) [10, 2, 5, 6] [0, 1, 3, 4, 7, 8, 9] rfl (by decide +kernel) rfl rfl) (hm_cq (bs := [[(a 0 0, .inr (7, [.ref (a 1 0), .ref (a 2 0), .ref (a 3 0), .ref (a 4 0), .ref (a 5 0), .ref (a 6 0), .ref (a 7 0), .ref (a 8 0), .ref (a 9 0), .ref (a 10 0), .int t1.2.2.2.2.2.2.2.2.2.2.2.2.2.2.2.2.2.2.2.2, .int t2.2.2.2.2.2]))], hm_row g (a 1 0) (a 1 1) 200 (R 0), hm_wSc g (a 2) ScR, hm_wSe g (a 3) SeR SeA, hm_row g (a 4 0) (a 4 1) 100 (R 1), hm_row g (a 5 0) (a 5 1) 6 (R 2), hm_row g (a 6 0) (a 6 1) 6 (R 3), hm_wLe g (a 7) (hm_up (hm_up (hm_up (hm_up (hm_up LeR 0 t1.2.2.2.1) 1 t1.2.2.2.2.1) 2 t1.2.2.2.2.2.1) 3 t1.2.2.2.2.2.2.1) 4 t1.2.2.2.2.2.2.2.1) (hm_up (hm_up (hm_up (hm_up LeZ 0 t1.2.2.2.2.2.2.2.2.1) 1 t1.2.2.2.2.2.2.2.2.2.1) 2 t1.2.2.2.2.2.2.2.2.2.2.1) 3 t1.2.2.2.2.2.2.2.2.2.2.2.1), hm_wBr g (a 8) (hm_up (hm_up (hm_up BrA 0 t2.1) 1 t2.2.1) 2 t2.2.2.1), hm_wSh g (a 9) (hm_up (hm_up (hm_up (hm_up (hm_up (hm_up ShR 0 t1.2.2.2.2.2.2.2.2.2.2.2.2.1) 1 t1.2.2.2.2.2.2.2.2.2.2.2.2.2.1) 2 t1.2.2.2.2.2.2.2.2.2.2.2.2.2.2.1) 3 t1.2.2.2.2.2.2.2.2.2.2.2.2.2.2.2.1) 4 t1.2.2.2.2.2.2.2.2.2.2.2.2.2.2.2.2.1) 5 t1.2.2.2.2.2.2.2.2.2.2.2.2.2.2.2.2.2.1) (hm_up (hm_up ShZ 0 t1.2.2.2.2.2.2.2.2.2.2.2.2.2.2.2.2.2.2.1) 1 t1.2.2.2.2.2.2.2.2.2.2.2.2.2.2.2.2.2.2.2.1), hm_wSu g (a 10) (hm_up (hm_up SuA 0 t2.2.2.2.1) 1 t3) (hm_up SuJ 0 t2.2.2.2.2.1)]) (n := 11) [10, 2, 5, 6] [0, 1, 3, 4, 7, 8, 9] rfl (by decide +kernel) rfl rfl) rfl rfl rfl ⟨rfl, rfl, Nat.le_of_ble_eq_true rfl, Nat.le_of_ble_eq_true rfl⟩ rfl hl.1 rfl (Nat.le_of_ble_eq_true rfl) dX7_unseen_35 ⟨Nat.zero_le _, Nat.zero_le _⟩ (fun H locs X => ?_)
      have X := X.to (ws' := ([[(a 0 0, .inr (7, [.ref (a 1 0), .ref (a 2 0), .ref (a 3 0), .ref (a 4 0), .ref (a 5 0), .ref (a 6 0), .ref (a 7 0), .ref (a 8 0), .ref (a 9 0), .ref (a 10 0), .int t1.2.2.2.2.2.2.2.2.2.2.2.2.2.2.2.2.2.2.2.2, .int t2.2.2.2.2.2]))], hm_row g (a 1 0) (a 1 1) 200 (R 0), hm_wSc g (a 2) ScR, hm_wSe g (a 3) SeR SeA, hm_row g (a 4 0) (a 4 1) 100 (R 1), hm_row g (a 5 0) (a 5 1) 6 (R 2), hm_row g (a 6 0) (a 6 1) 6 (R 3), hm_wLe g (a 7) (hm_up (hm_up (hm_up (hm_up (hm_up LeR 0 t1.2.2.2.1) 1 t1.2.2.2.2.1) 2 t1.2.2.2.2.2.1) 3 t1.2.2.2.2.2.2.1) 4 t1.2.2.2.2.2.2.2.1) (hm_up (hm_up (hm_up (hm_up LeZ 0 t1.2.2.2.2.2.2.2.2.1) 1 t1.2.2.2.2.2.2.2.2.2.1) 2 t1.2.2.2.2.2.2.2.2.2.2.1) 3 t1.2.2.2.2.2.2.2.2.2.2.2.1), hm_wBr g (a 8) (hm_up (hm_up (hm_up BrA 0 t2.1) 1 t2.2.1) 2 t2.2.2.1), hm_wSh g (a 9) (hm_up (hm_up (hm_up (hm_up (hm_up (hm_up ShR 0 t1.2.2.2.2.2.2.2.2.2.2.2.2.1) 1 t1.2.2.2.2.2.2.2.2.2.2.2.2.2.1) 2 t1.2.2.2.2.2.2.2.2.2.2.2.2.2.2.1) 3 t1.2.2.2.2.2.2.2.2.2.2.2.2.2.2.2.1) 4 t1.2.2.2.2.2.2.2.2.2.2.2.2.2.2.2.2.1) 5 t1.2.2.2.2.2.2.2.2.2.2.2.2.2.2.2.2.2.1) (hm_up (hm_up ShZ 0 t1.2.2.2.2.2.2.2.2.2.2.2.2.2.2.2.2.2.2.1) 1 t1.2.2.2.2.2.2.2.2.2.2.2.2.2.2.2.2.2.2.2.1), hm_wSu g (a 10) (hm_up (hm_up SuA 0 t2.2.2.2.1) 1 t3) (hm_up SuJ 0 t2.2.2.2.2.1)] : List va_W).flatten) rfl
      refine lv_aload_n hx hb dX7_unseen_38 rfl (lv_at hl 0 rfl) ?_
      refine hm_get S X hf_X7_65 0 rfl rfl dX7_unseen_39 ?_
      refine lv_iload_n hx hb dX7_unseen_42 rfl (lv_at hl 1 rfl) ?_
      obtain ⟨t4, ht4, hF⟩ := hm_bd hF
      refine hm_vi (As := [.int x0]) S X mw_X6_picked hw_4_5 (c_X6_picked l g (a 10) (hm_up (hm_up SuA 0 t2.2.2.2.1) 1 t3) (hm_up SuJ 0 t2.2.2.2.2.1) x0 t4 ht4) (hm_mid [[(a 0 0, .inr (7, [.ref (a 1 0), .ref (a 2 0), .ref (a 3 0), .ref (a 4 0), .ref (a 5 0), .ref (a 6 0), .ref (a 7 0), .ref (a 8 0), .ref (a 9 0), .ref (a 10 0), .int t1.2.2.2.2.2.2.2.2.2.2.2.2.2.2.2.2.2.2.2.2, .int t2.2.2.2.2.2]))], hm_row g (a 1 0) (a 1 1) 200 (R 0), hm_wSc g (a 2) ScR, hm_wSe g (a 3) SeR SeA, hm_row g (a 4 0) (a 4 1) 100 (R 1), hm_row g (a 5 0) (a 5 1) 6 (R 2), hm_row g (a 6 0) (a 6 1) 6 (R 3), hm_wLe g (a 7) (hm_up (hm_up (hm_up (hm_up (hm_up LeR 0 t1.2.2.2.1) 1 t1.2.2.2.2.1) 2 t1.2.2.2.2.2.1) 3 t1.2.2.2.2.2.2.1) 4 t1.2.2.2.2.2.2.2.1) (hm_up (hm_up (hm_up (hm_up LeZ 0 t1.2.2.2.2.2.2.2.2.1) 1 t1.2.2.2.2.2.2.2.2.2.1) 2 t1.2.2.2.2.2.2.2.2.2.2.1) 3 t1.2.2.2.2.2.2.2.2.2.2.2.1), hm_wBr g (a 8) (hm_up (hm_up (hm_up BrA 0 t2.1) 1 t2.2.1) 2 t2.2.2.1), hm_wSh g (a 9) (hm_up (hm_up (hm_up (hm_up (hm_up (hm_up ShR 0 t1.2.2.2.2.2.2.2.2.2.2.2.2.1) 1 t1.2.2.2.2.2.2.2.2.2.2.2.2.2.1) 2 t1.2.2.2.2.2.2.2.2.2.2.2.2.2.2.1) 3 t1.2.2.2.2.2.2.2.2.2.2.2.2.2.2.2.1) 4 t1.2.2.2.2.2.2.2.2.2.2.2.2.2.2.2.2.1) 5 t1.2.2.2.2.2.2.2.2.2.2.2.2.2.2.2.2.2.1) (hm_up (hm_up ShZ 0 t1.2.2.2.2.2.2.2.2.2.2.2.2.2.2.2.2.2.2.1) 1 t1.2.2.2.2.2.2.2.2.2.2.2.2.2.2.2.2.2.2.2.1)] []) (hm_mid [[(a 0 0, .inr (7, [.ref (a 1 0), .ref (a 2 0), .ref (a 3 0), .ref (a 4 0), .ref (a 5 0), .ref (a 6 0), .ref (a 7 0), .ref (a 8 0), .ref (a 9 0), .ref (a 10 0), .int t1.2.2.2.2.2.2.2.2.2.2.2.2.2.2.2.2.2.2.2.2, .int t2.2.2.2.2.2]))], hm_row g (a 1 0) (a 1 1) 200 (R 0), hm_wSc g (a 2) ScR, hm_wSe g (a 3) SeR SeA, hm_row g (a 4 0) (a 4 1) 100 (R 1), hm_row g (a 5 0) (a 5 1) 6 (R 2), hm_row g (a 6 0) (a 6 1) 6 (R 3), hm_wLe g (a 7) (hm_up (hm_up (hm_up (hm_up (hm_up LeR 0 t1.2.2.2.1) 1 t1.2.2.2.2.1) 2 t1.2.2.2.2.2.1) 3 t1.2.2.2.2.2.2.1) 4 t1.2.2.2.2.2.2.2.1) (hm_up (hm_up (hm_up (hm_up LeZ 0 t1.2.2.2.2.2.2.2.2.1) 1 t1.2.2.2.2.2.2.2.2.2.1) 2 t1.2.2.2.2.2.2.2.2.2.2.1) 3 t1.2.2.2.2.2.2.2.2.2.2.2.1), hm_wBr g (a 8) (hm_up (hm_up (hm_up BrA 0 t2.1) 1 t2.2.1) 2 t2.2.2.1), hm_wSh g (a 9) (hm_up (hm_up (hm_up (hm_up (hm_up (hm_up ShR 0 t1.2.2.2.2.2.2.2.2.2.2.2.2.1) 1 t1.2.2.2.2.2.2.2.2.2.2.2.2.2.1) 2 t1.2.2.2.2.2.2.2.2.2.2.2.2.2.2.1) 3 t1.2.2.2.2.2.2.2.2.2.2.2.2.2.2.2.1) 4 t1.2.2.2.2.2.2.2.2.2.2.2.2.2.2.2.2.1) 5 t1.2.2.2.2.2.2.2.2.2.2.2.2.2.2.2.2.2.1) (hm_up (hm_up ShZ 0 t1.2.2.2.2.2.2.2.2.2.2.2.2.2.2.2.2.2.2.1) 1 t1.2.2.2.2.2.2.2.2.2.2.2.2.2.2.2.2.2.2.2.1)] [] (b := hm_wSu g (a 10) (hm_up (hm_up SuA 0 t2.2.2.2.1) 1 t3) (hm_up SuJ 0 t2.2.2.2.2.1))) rfl rfl rfl ⟨rfl, rfl, Nat.le_of_ble_eq_true rfl, Nat.le_of_ble_eq_true rfl⟩ rfl hl.1 rfl (Nat.le_of_ble_eq_true rfl) dX7_unseen_43 ⟨Nat.zero_le _, Nat.zero_le _⟩ (fun H locs X => ?_)
      have X := X.to (ws' := ([[(a 0 0, .inr (7, [.ref (a 1 0), .ref (a 2 0), .ref (a 3 0), .ref (a 4 0), .ref (a 5 0), .ref (a 6 0), .ref (a 7 0), .ref (a 8 0), .ref (a 9 0), .ref (a 10 0), .int t1.2.2.2.2.2.2.2.2.2.2.2.2.2.2.2.2.2.2.2.2, .int t2.2.2.2.2.2]))], hm_row g (a 1 0) (a 1 1) 200 (R 0), hm_wSc g (a 2) ScR, hm_wSe g (a 3) SeR SeA, hm_row g (a 4 0) (a 4 1) 100 (R 1), hm_row g (a 5 0) (a 5 1) 6 (R 2), hm_row g (a 6 0) (a 6 1) 6 (R 3), hm_wLe g (a 7) (hm_up (hm_up (hm_up (hm_up (hm_up LeR 0 t1.2.2.2.1) 1 t1.2.2.2.2.1) 2 t1.2.2.2.2.2.1) 3 t1.2.2.2.2.2.2.1) 4 t1.2.2.2.2.2.2.2.1) (hm_up (hm_up (hm_up (hm_up LeZ 0 t1.2.2.2.2.2.2.2.2.1) 1 t1.2.2.2.2.2.2.2.2.2.1) 2 t1.2.2.2.2.2.2.2.2.2.2.1) 3 t1.2.2.2.2.2.2.2.2.2.2.2.1), hm_wBr g (a 8) (hm_up (hm_up (hm_up BrA 0 t2.1) 1 t2.2.1) 2 t2.2.2.1), hm_wSh g (a 9) (hm_up (hm_up (hm_up (hm_up (hm_up (hm_up ShR 0 t1.2.2.2.2.2.2.2.2.2.2.2.2.1) 1 t1.2.2.2.2.2.2.2.2.2.2.2.2.2.1) 2 t1.2.2.2.2.2.2.2.2.2.2.2.2.2.2.1) 3 t1.2.2.2.2.2.2.2.2.2.2.2.2.2.2.2.1) 4 t1.2.2.2.2.2.2.2.2.2.2.2.2.2.2.2.2.1) 5 t1.2.2.2.2.2.2.2.2.2.2.2.2.2.2.2.2.2.1) (hm_up (hm_up ShZ 0 t1.2.2.2.2.2.2.2.2.2.2.2.2.2.2.2.2.2.2.1) 1 t1.2.2.2.2.2.2.2.2.2.2.2.2.2.2.2.2.2.2.2.1), hm_wSu g (a 10) (hm_up (hm_up SuA 0 t2.2.2.2.1) 1 t3) (hm_up SuJ 0 t2.2.2.2.2.1)] : List va_W).flatten) rfl
      obtain rfl := Option.some.inj hF
      exact hm_ri S hr hlk X rfl rfl dX7_unseen_46
    · have hF := hm_nf hF c6
      refine lv_iconst (v := (-1)) hx hb dX7_unseen_9 (by decide) ?_
      obtain rfl := Option.some.inj hF
      exact hm_ri S hr hlk X rfl rfl dX7_unseen_10
def f_X7_keep (SeA_0 : Nat → Int32) (SeA_1 : Nat → Int32) (SeA_2 : Nat → Int32) (x0 : Int32)  : Option (Int32 × (Nat → Int32) × (Nat → Int32)) :=
  if x0 < 0 then (
  some ((-1), SeA_1, SeA_2))
  else (
  if x0 < 2 then (
  (f_X4_copyTo SeA_0 SeA_1 SeA_2 x0).bind fun t1 =>
  (f_X4_get SeA_0 35).bind fun t2 =>
  some (t2, t1.1, t1.2))
  else (
  some ((-1), SeA_1, SeA_2)))
abbrev rm_X7_keep : Room := { frames := 2, cells := 0, slots := 0, locals := 81 }
set_option maxHeartbeats 4000000 in
set_option maxRecDepth 100000 in
theorem c_X7_keep (l : Launch) (g : hm_G) (a : Nat → Nat → Nat) (R : Nat → hm_SR) (Z : Nat → Int32) (ScR : Nat → hm_SR) (SeR : Nat → hm_SR) (SeA : Nat → Nat → Int32) (LeR : Nat → hm_SR) (LeZ : Nat → Int32) (BrA : Nat → Nat → Int32) (ShR : Nat → hm_SR) (ShZ : Nat → Int32) (SuA : Nat → Nat → Int32) (SuJ : Nat → Nat → Int64) (x0 : Int32) (q : Int32 × (Nat → Int32) × (Nat → Int32)) (hF : f_X7_keep (SeA 0) (SeA 1) (SeA 2) x0 = some q) : hm_Mi l yX7_keep (Cond.code yX7_keep cX7_keep 2 (some .int) :: hm_W) rm_X7_keep g [.ref (a 0 0), .int x0] ([hm_wHM g a R Z ScR SeR SeA LeR LeZ BrA ShR ShZ SuA SuJ] : List va_W).flatten ([hm_wHM g a R Z ScR SeR (hm_up (hm_up SeA 1 q.2.1) 2 q.2.2) LeR LeZ BrA ShR ShZ SuA SuJ] : List va_W).flatten q.1 := by
  refine hm_ofi [(0, .ref (a 0 0)), (1, .int x0)] (by decide) (own := RX7) rfl (Nat.le_of_ble_eq_true rfl) rfl rfl ?_
  intro p e s m args below meth c AA S hr hlk X ls hl
  have hx := S.1
  have hb := S.2.1
  have hown := S.2.2.2.1
  have hts := S.2.2.2.2
  have X := X.to (ws' := ([[(a 0 0, .inr (7, [.ref (a 1 0), .ref (a 2 0), .ref (a 3 0), .ref (a 4 0), .ref (a 5 0), .ref (a 6 0), .ref (a 7 0), .ref (a 8 0), .ref (a 9 0), .ref (a 10 0), .int (Z 0), .int (Z 1)]))], hm_row g (a 1 0) (a 1 1) 200 (R 0), hm_wSc g (a 2) ScR, hm_wSe g (a 3) SeR SeA, hm_row g (a 4 0) (a 4 1) 100 (R 1), hm_row g (a 5 0) (a 5 1) 6 (R 2), hm_row g (a 6 0) (a 6 1) 6 (R 3), hm_wLe g (a 7) LeR LeZ, hm_wBr g (a 8) BrA, hm_wSh g (a 9) ShR ShZ, hm_wSu g (a 10) SuA SuJ] : List va_W).flatten) rfl
  unfold f_X7_keep at hF
  refine lv_iload_n hx hb dX7_keep_0 rfl (lv_at hl 1 rfl) ?_
  refine lv_if_lt (tgt := 9) hx hb dX7_keep_1 (by decide) (fun c1 => ?_) (fun c1 => ?_)
  · have hF := hm_if hF c1
    refine lv_iconst (v := (-1)) hx hb dX7_keep_9 (by decide) ?_
    obtain rfl := Option.some.inj hF
    exact hm_ri S hr hlk X rfl rfl dX7_keep_10
  · have hF := hm_nf hF c1
    refine lv_iload_n hx hb dX7_keep_4 rfl (lv_at hl 1 rfl) ?_
    refine lv_iconst (v := 2) hx hb dX7_keep_5 (by decide) ?_
    refine lv_icmp_lt (tgt := 11) hx hb dX7_keep_6 (by decide) (fun c6 => ?_) (fun c6 => ?_)
    · have hF := hm_if hF c6
      refine lv_aload_n hx hb dX7_keep_11 rfl (lv_at hl 0 rfl) ?_
      refine hm_get S X hf_X7_28 0 rfl rfl dX7_keep_12 ?_
      refine lv_iload_n hx hb dX7_keep_15 rfl (lv_at hl 1 rfl) ?_
      obtain ⟨t1, ht1, hF⟩ := hm_bd hF
      refine hm_vv (As := [.int x0]) S X mw_X4_copyTo hw_4_43 (c_X4_copyTo l g (a 3) SeR SeA x0 t1 ht1) (hm_mid [[(a 0 0, .inr (7, [.ref (a 1 0), .ref (a 2 0), .ref (a 3 0), .ref (a 4 0), .ref (a 5 0), .ref (a 6 0), .ref (a 7 0), .ref (a 8 0), .ref (a 9 0), .ref (a 10 0), .int (Z 0), .int (Z 1)]))], hm_row g (a 1 0) (a 1 1) 200 (R 0), hm_wSc g (a 2) ScR] [hm_row g (a 4 0) (a 4 1) 100 (R 1), hm_row g (a 5 0) (a 5 1) 6 (R 2), hm_row g (a 6 0) (a 6 1) 6 (R 3), hm_wLe g (a 7) LeR LeZ, hm_wBr g (a 8) BrA, hm_wSh g (a 9) ShR ShZ, hm_wSu g (a 10) SuA SuJ]) (hm_mid [[(a 0 0, .inr (7, [.ref (a 1 0), .ref (a 2 0), .ref (a 3 0), .ref (a 4 0), .ref (a 5 0), .ref (a 6 0), .ref (a 7 0), .ref (a 8 0), .ref (a 9 0), .ref (a 10 0), .int (Z 0), .int (Z 1)]))], hm_row g (a 1 0) (a 1 1) 200 (R 0), hm_wSc g (a 2) ScR] [hm_row g (a 4 0) (a 4 1) 100 (R 1), hm_row g (a 5 0) (a 5 1) 6 (R 2), hm_row g (a 6 0) (a 6 1) 6 (R 3), hm_wLe g (a 7) LeR LeZ, hm_wBr g (a 8) BrA, hm_wSh g (a 9) ShR ShZ, hm_wSu g (a 10) SuA SuJ] (b := hm_wSe g (a 3) SeR (hm_up (hm_up SeA 1 t1.1) 2 t1.2))) rfl rfl rfl ⟨rfl, rfl, Nat.le_of_ble_eq_true rfl, Nat.le_of_ble_eq_true rfl⟩ rfl hl.1 rfl (Nat.le_of_ble_eq_true rfl) dX7_keep_16 ⟨Nat.zero_le _, Nat.zero_le _⟩ (fun H locs X => ?_)
      have X := X.to (ws' := ([[(a 0 0, .inr (7, [.ref (a 1 0), .ref (a 2 0), .ref (a 3 0), .ref (a 4 0), .ref (a 5 0), .ref (a 6 0), .ref (a 7 0), .ref (a 8 0), .ref (a 9 0), .ref (a 10 0), .int (Z 0), .int (Z 1)]))], hm_row g (a 1 0) (a 1 1) 200 (R 0), hm_wSc g (a 2) ScR, hm_wSe g (a 3) SeR (hm_up (hm_up SeA 1 t1.1) 2 t1.2), hm_row g (a 4 0) (a 4 1) 100 (R 1), hm_row g (a 5 0) (a 5 1) 6 (R 2), hm_row g (a 6 0) (a 6 1) 6 (R 3), hm_wLe g (a 7) LeR LeZ, hm_wBr g (a 8) BrA, hm_wSh g (a 9) ShR ShZ, hm_wSu g (a 10) SuA SuJ] : List va_W).flatten) rfl
      refine lv_aload_n hx hb dX7_keep_19 rfl (lv_at hl 0 rfl) ?_
      refine hm_get S X hf_X7_28 0 rfl rfl dX7_keep_20 ?_
      refine lv_bipush (v := 35) hx hb dX7_keep_23 (by decide) ?_
      obtain ⟨t2, ht2, hF⟩ := hm_bd hF
      refine hm_vi (As := [.int 35]) S X mw_X4_get hw_2_159 (c_X4_get l g (a 3) SeR (hm_up (hm_up SeA 1 t1.1) 2 t1.2) 35 t2 ht2) (hm_mid [[(a 0 0, .inr (7, [.ref (a 1 0), .ref (a 2 0), .ref (a 3 0), .ref (a 4 0), .ref (a 5 0), .ref (a 6 0), .ref (a 7 0), .ref (a 8 0), .ref (a 9 0), .ref (a 10 0), .int (Z 0), .int (Z 1)]))], hm_row g (a 1 0) (a 1 1) 200 (R 0), hm_wSc g (a 2) ScR] [hm_row g (a 4 0) (a 4 1) 100 (R 1), hm_row g (a 5 0) (a 5 1) 6 (R 2), hm_row g (a 6 0) (a 6 1) 6 (R 3), hm_wLe g (a 7) LeR LeZ, hm_wBr g (a 8) BrA, hm_wSh g (a 9) ShR ShZ, hm_wSu g (a 10) SuA SuJ]) (hm_mid [[(a 0 0, .inr (7, [.ref (a 1 0), .ref (a 2 0), .ref (a 3 0), .ref (a 4 0), .ref (a 5 0), .ref (a 6 0), .ref (a 7 0), .ref (a 8 0), .ref (a 9 0), .ref (a 10 0), .int (Z 0), .int (Z 1)]))], hm_row g (a 1 0) (a 1 1) 200 (R 0), hm_wSc g (a 2) ScR] [hm_row g (a 4 0) (a 4 1) 100 (R 1), hm_row g (a 5 0) (a 5 1) 6 (R 2), hm_row g (a 6 0) (a 6 1) 6 (R 3), hm_wLe g (a 7) LeR LeZ, hm_wBr g (a 8) BrA, hm_wSh g (a 9) ShR ShZ, hm_wSu g (a 10) SuA SuJ] (b := hm_wSe g (a 3) SeR (hm_up (hm_up SeA 1 t1.1) 2 t1.2))) rfl rfl rfl ⟨rfl, rfl, Nat.le_of_ble_eq_true rfl, Nat.le_of_ble_eq_true rfl⟩ rfl hl.1 rfl (Nat.le_of_ble_eq_true rfl) dX7_keep_25 ⟨Nat.zero_le _, Nat.zero_le _⟩ (fun H locs X => ?_)
      have X := X.to (ws' := ([[(a 0 0, .inr (7, [.ref (a 1 0), .ref (a 2 0), .ref (a 3 0), .ref (a 4 0), .ref (a 5 0), .ref (a 6 0), .ref (a 7 0), .ref (a 8 0), .ref (a 9 0), .ref (a 10 0), .int (Z 0), .int (Z 1)]))], hm_row g (a 1 0) (a 1 1) 200 (R 0), hm_wSc g (a 2) ScR, hm_wSe g (a 3) SeR (hm_up (hm_up SeA 1 t1.1) 2 t1.2), hm_row g (a 4 0) (a 4 1) 100 (R 1), hm_row g (a 5 0) (a 5 1) 6 (R 2), hm_row g (a 6 0) (a 6 1) 6 (R 3), hm_wLe g (a 7) LeR LeZ, hm_wBr g (a 8) BrA, hm_wSh g (a 9) ShR ShZ, hm_wSu g (a 10) SuA SuJ] : List va_W).flatten) rfl
      obtain rfl := Option.some.inj hF
      exact hm_ri S hr hlk X rfl rfl dX7_keep_28
    · have hF := hm_nf hF c6
      refine lv_iconst (v := (-1)) hx hb dX7_keep_9 (by decide) ?_
      obtain rfl := Option.some.inj hF
      exact hm_ri S hr hlk X rfl rfl dX7_keep_10
def f_X7_back (Z_0 : Int32) (Z_1 : Int32) (SeR_0 : hm_SR) (SeR_1 : hm_SR) (SeA_0 : Nat → Int32) (SeA_1 : Nat → Int32) (SeA_2 : Nat → Int32) (x0 : Int32)  : Option (Int32 × (Nat → Int32) × hm_SR × hm_SR × Int32 × Int32) :=
  if x0 < 0 then (
  some ((-1), SeA_0, SeR_0, SeR_1, Z_0, Z_1))
  else (
  if x0 < 2 then (
  (f_X4_has SeA_2 x0).bind fun t1 =>
  if t1 = 0 then (
  some ((-2), SeA_0, SeR_0, SeR_1, Z_0, Z_1))
  else (
  (f_X4_copyFrom SeR_0 SeR_1 SeA_0 SeA_1 SeA_2 x0).bind fun t2 =>
  (f_X4_get t2.1 35).bind fun t3 =>
  some (t3, t2.1, t2.2.1, t2.2.2, 1, 1)))
  else (
  some ((-1), SeA_0, SeR_0, SeR_1, Z_0, Z_1)))
abbrev rm_X7_back : Room := { frames := 3, cells := 0, slots := 0, locals := 81 }
set_option maxHeartbeats 4000000 in
set_option maxRecDepth 100000 in
theorem c_X7_back (l : Launch) (g : hm_G) (a : Nat → Nat → Nat) (R : Nat → hm_SR) (Z : Nat → Int32) (ScR : Nat → hm_SR) (SeR : Nat → hm_SR) (SeA : Nat → Nat → Int32) (LeR : Nat → hm_SR) (LeZ : Nat → Int32) (BrA : Nat → Nat → Int32) (ShR : Nat → hm_SR) (ShZ : Nat → Int32) (SuA : Nat → Nat → Int32) (SuJ : Nat → Nat → Int64) (x0 : Int32) (q : Int32 × (Nat → Int32) × hm_SR × hm_SR × Int32 × Int32) (hF : f_X7_back (Z 0) (Z 1) (SeR 0) (SeR 1) (SeA 0) (SeA 1) (SeA 2) x0 = some q) : hm_Mi l yX7_back (Cond.code yX7_back cX7_back 2 (some .int) :: hm_W) rm_X7_back g [.ref (a 0 0), .int x0] ([hm_wHM g a R Z ScR SeR SeA LeR LeZ BrA ShR ShZ SuA SuJ] : List va_W).flatten ([hm_wHM g a R (hm_up (hm_up Z 0 q.2.2.2.2.1) 1 q.2.2.2.2.2) ScR (hm_up (hm_up SeR 0 q.2.2.1) 1 q.2.2.2.1) (hm_up SeA 0 q.2.1) LeR LeZ BrA ShR ShZ SuA SuJ] : List va_W).flatten q.1 := by
  refine hm_ofi [(0, .ref (a 0 0)), (1, .int x0)] (by decide) (own := RX7) rfl (Nat.le_of_ble_eq_true rfl) rfl rfl ?_
  intro p e s m args below meth c AA S hr hlk X ls hl
  have hx := S.1
  have hb := S.2.1
  have hown := S.2.2.2.1
  have hts := S.2.2.2.2
  have X := X.to (ws' := ([[(a 0 0, .inr (7, [.ref (a 1 0), .ref (a 2 0), .ref (a 3 0), .ref (a 4 0), .ref (a 5 0), .ref (a 6 0), .ref (a 7 0), .ref (a 8 0), .ref (a 9 0), .ref (a 10 0), .int (Z 0), .int (Z 1)]))], hm_row g (a 1 0) (a 1 1) 200 (R 0), hm_wSc g (a 2) ScR, hm_wSe g (a 3) SeR SeA, hm_row g (a 4 0) (a 4 1) 100 (R 1), hm_row g (a 5 0) (a 5 1) 6 (R 2), hm_row g (a 6 0) (a 6 1) 6 (R 3), hm_wLe g (a 7) LeR LeZ, hm_wBr g (a 8) BrA, hm_wSh g (a 9) ShR ShZ, hm_wSu g (a 10) SuA SuJ] : List va_W).flatten) rfl
  unfold f_X7_back at hF
  refine lv_iload_n hx hb dX7_back_0 rfl (lv_at hl 1 rfl) ?_
  refine lv_if_lt (tgt := 9) hx hb dX7_back_1 (by decide) (fun c1 => ?_) (fun c1 => ?_)
  · have hF := hm_if hF c1
    refine lv_iconst (v := (-1)) hx hb dX7_back_9 (by decide) ?_
    obtain rfl := Option.some.inj hF
    exact hm_ri S hr hlk X rfl rfl dX7_back_10
  · have hF := hm_nf hF c1
    refine lv_iload_n hx hb dX7_back_4 rfl (lv_at hl 1 rfl) ?_
    refine lv_iconst (v := 2) hx hb dX7_back_5 (by decide) ?_
    refine lv_icmp_lt (tgt := 11) hx hb dX7_back_6 (by decide) (fun c6 => ?_) (fun c6 => ?_)
    · have hF := hm_if hF c6
      refine lv_aload_n hx hb dX7_back_11 rfl (lv_at hl 0 rfl) ?_
      refine hm_get S X hf_X7_28 0 rfl rfl dX7_back_12 ?_
      refine lv_iload_n hx hb dX7_back_15 rfl (lv_at hl 1 rfl) ?_
      obtain ⟨t1, ht1, hF⟩ := hm_bd hF
      refine hm_vi (As := [.int x0]) S X mw_X4_has hw_4_54 (c_X4_has l g (a 3) SeR SeA x0 t1 ht1) (hm_mid [[(a 0 0, .inr (7, [.ref (a 1 0), .ref (a 2 0), .ref (a 3 0), .ref (a 4 0), .ref (a 5 0), .ref (a 6 0), .ref (a 7 0), .ref (a 8 0), .ref (a 9 0), .ref (a 10 0), .int (Z 0), .int (Z 1)]))], hm_row g (a 1 0) (a 1 1) 200 (R 0), hm_wSc g (a 2) ScR] [hm_row g (a 4 0) (a 4 1) 100 (R 1), hm_row g (a 5 0) (a 5 1) 6 (R 2), hm_row g (a 6 0) (a 6 1) 6 (R 3), hm_wLe g (a 7) LeR LeZ, hm_wBr g (a 8) BrA, hm_wSh g (a 9) ShR ShZ, hm_wSu g (a 10) SuA SuJ]) (hm_mid [[(a 0 0, .inr (7, [.ref (a 1 0), .ref (a 2 0), .ref (a 3 0), .ref (a 4 0), .ref (a 5 0), .ref (a 6 0), .ref (a 7 0), .ref (a 8 0), .ref (a 9 0), .ref (a 10 0), .int (Z 0), .int (Z 1)]))], hm_row g (a 1 0) (a 1 1) 200 (R 0), hm_wSc g (a 2) ScR] [hm_row g (a 4 0) (a 4 1) 100 (R 1), hm_row g (a 5 0) (a 5 1) 6 (R 2), hm_row g (a 6 0) (a 6 1) 6 (R 3), hm_wLe g (a 7) LeR LeZ, hm_wBr g (a 8) BrA, hm_wSh g (a 9) ShR ShZ, hm_wSu g (a 10) SuA SuJ] (b := hm_wSe g (a 3) SeR SeA)) rfl rfl rfl ⟨rfl, rfl, Nat.le_of_ble_eq_true rfl, Nat.le_of_ble_eq_true rfl⟩ rfl hl.1 rfl (Nat.le_of_ble_eq_true rfl) dX7_back_16 ⟨Nat.zero_le _, Nat.zero_le _⟩ (fun H locs X => ?_)
      have X := X.to (ws' := ([[(a 0 0, .inr (7, [.ref (a 1 0), .ref (a 2 0), .ref (a 3 0), .ref (a 4 0), .ref (a 5 0), .ref (a 6 0), .ref (a 7 0), .ref (a 8 0), .ref (a 9 0), .ref (a 10 0), .int (Z 0), .int (Z 1)]))], hm_row g (a 1 0) (a 1 1) 200 (R 0), hm_wSc g (a 2) ScR, hm_wSe g (a 3) SeR SeA, hm_row g (a 4 0) (a 4 1) 100 (R 1), hm_row g (a 5 0) (a 5 1) 6 (R 2), hm_row g (a 6 0) (a 6 1) 6 (R 3), hm_wLe g (a 7) LeR LeZ, hm_wBr g (a 8) BrA, hm_wSh g (a 9) ShR ShZ, hm_wSu g (a 10) SuA SuJ] : List va_W).flatten) rfl
      refine lv_if_ne (tgt := 25) hx hb dX7_back_19 (by decide) (fun c19 => ?_) (fun c19 => ?_)
      · have hF := hm_nf hF c19
        refine lv_aload_n hx hb dX7_back_25 rfl (lv_at hl 0 rfl) ?_
        refine hm_get S X hf_X7_28 0 rfl rfl dX7_back_26 ?_
        refine lv_iload_n hx hb dX7_back_29 rfl (lv_at hl 1 rfl) ?_
        obtain ⟨t2, ht2, hF⟩ := hm_bd hF
        refine hm_vv (As := [.int x0]) S X mw_X4_copyFrom hw_4_58 (c_X4_copyFrom l g (a 3) SeR SeA x0 t2 ht2) (hm_mid [[(a 0 0, .inr (7, [.ref (a 1 0), .ref (a 2 0), .ref (a 3 0), .ref (a 4 0), .ref (a 5 0), .ref (a 6 0), .ref (a 7 0), .ref (a 8 0), .ref (a 9 0), .ref (a 10 0), .int (Z 0), .int (Z 1)]))], hm_row g (a 1 0) (a 1 1) 200 (R 0), hm_wSc g (a 2) ScR] [hm_row g (a 4 0) (a 4 1) 100 (R 1), hm_row g (a 5 0) (a 5 1) 6 (R 2), hm_row g (a 6 0) (a 6 1) 6 (R 3), hm_wLe g (a 7) LeR LeZ, hm_wBr g (a 8) BrA, hm_wSh g (a 9) ShR ShZ, hm_wSu g (a 10) SuA SuJ]) (hm_mid [[(a 0 0, .inr (7, [.ref (a 1 0), .ref (a 2 0), .ref (a 3 0), .ref (a 4 0), .ref (a 5 0), .ref (a 6 0), .ref (a 7 0), .ref (a 8 0), .ref (a 9 0), .ref (a 10 0), .int (Z 0), .int (Z 1)]))], hm_row g (a 1 0) (a 1 1) 200 (R 0), hm_wSc g (a 2) ScR] [hm_row g (a 4 0) (a 4 1) 100 (R 1), hm_row g (a 5 0) (a 5 1) 6 (R 2), hm_row g (a 6 0) (a 6 1) 6 (R 3), hm_wLe g (a 7) LeR LeZ, hm_wBr g (a 8) BrA, hm_wSh g (a 9) ShR ShZ, hm_wSu g (a 10) SuA SuJ] (b := hm_wSe g (a 3) (hm_up (hm_up SeR 0 t2.2.1) 1 t2.2.2) (hm_up SeA 0 t2.1))) rfl rfl rfl ⟨rfl, rfl, Nat.le_of_ble_eq_true rfl, Nat.le_of_ble_eq_true rfl⟩ rfl hl.1 rfl (Nat.le_of_ble_eq_true rfl) dX7_back_30 ⟨Nat.zero_le _, Nat.zero_le _⟩ (fun H locs X => ?_)
        have X := X.to (ws' := ([[(a 0 0, .inr (7, [.ref (a 1 0), .ref (a 2 0), .ref (a 3 0), .ref (a 4 0), .ref (a 5 0), .ref (a 6 0), .ref (a 7 0), .ref (a 8 0), .ref (a 9 0), .ref (a 10 0), .int (Z 0), .int (Z 1)]))], hm_row g (a 1 0) (a 1 1) 200 (R 0), hm_wSc g (a 2) ScR, hm_wSe g (a 3) (hm_up (hm_up SeR 0 t2.2.1) 1 t2.2.2) (hm_up SeA 0 t2.1), hm_row g (a 4 0) (a 4 1) 100 (R 1), hm_row g (a 5 0) (a 5 1) 6 (R 2), hm_row g (a 6 0) (a 6 1) 6 (R 3), hm_wLe g (a 7) LeR LeZ, hm_wBr g (a 8) BrA, hm_wSh g (a 9) ShR ShZ, hm_wSu g (a 10) SuA SuJ] : List va_W).flatten) rfl
        refine lv_aload_n hx hb dX7_back_33 rfl (lv_at hl 0 rfl) ?_
        refine lv_iconst (v := 1) hx hb dX7_back_34 (by decide) ?_
        refine hm_put S X hf_X7_69 hg_X7_sheetStale 0 rfl (hm_nb (Or.inr rfl)) (hm_fb (Or.inr rfl)) (Nat.le_of_ble_eq_true rfl) dX7_back_35 (fun H locs X => ?_)
        have X := X.to (ws' := ([[(a 0 0, .inr (7, [.ref (a 1 0), .ref (a 2 0), .ref (a 3 0), .ref (a 4 0), .ref (a 5 0), .ref (a 6 0), .ref (a 7 0), .ref (a 8 0), .ref (a 9 0), .ref (a 10 0), .int 1, .int (Z 1)]))], hm_row g (a 1 0) (a 1 1) 200 (R 0), hm_wSc g (a 2) ScR, hm_wSe g (a 3) (hm_up (hm_up SeR 0 t2.2.1) 1 t2.2.2) (hm_up SeA 0 t2.1), hm_row g (a 4 0) (a 4 1) 100 (R 1), hm_row g (a 5 0) (a 5 1) 6 (R 2), hm_row g (a 6 0) (a 6 1) 6 (R 3), hm_wLe g (a 7) LeR LeZ, hm_wBr g (a 8) BrA, hm_wSh g (a 9) ShR ShZ, hm_wSu g (a 10) SuA SuJ] : List va_W).flatten) rfl
        refine lv_aload_n hx hb dX7_back_38 rfl (lv_at hl 0 rfl) ?_
        refine lv_iconst (v := 1) hx hb dX7_back_39 (by decide) ?_
        refine hm_put S X hf_X7_73 hg_X7_surveyStale 0 rfl (hm_nb (Or.inr rfl)) (hm_fb (Or.inr rfl)) (Nat.le_of_ble_eq_true rfl) dX7_back_40 (fun H locs X => ?_)
        have X := X.to (ws' := ([[(a 0 0, .inr (7, [.ref (a 1 0), .ref (a 2 0), .ref (a 3 0), .ref (a 4 0), .ref (a 5 0), .ref (a 6 0), .ref (a 7 0), .ref (a 8 0), .ref (a 9 0), .ref (a 10 0), .int 1, .int 1]))], hm_row g (a 1 0) (a 1 1) 200 (R 0), hm_wSc g (a 2) ScR, hm_wSe g (a 3) (hm_up (hm_up SeR 0 t2.2.1) 1 t2.2.2) (hm_up SeA 0 t2.1), hm_row g (a 4 0) (a 4 1) 100 (R 1), hm_row g (a 5 0) (a 5 1) 6 (R 2), hm_row g (a 6 0) (a 6 1) 6 (R 3), hm_wLe g (a 7) LeR LeZ, hm_wBr g (a 8) BrA, hm_wSh g (a 9) ShR ShZ, hm_wSu g (a 10) SuA SuJ] : List va_W).flatten) rfl
        refine lv_aload_n hx hb dX7_back_43 rfl (lv_at hl 0 rfl) ?_
        refine hm_get S X hf_X7_28 0 rfl rfl dX7_back_44 ?_
        refine lv_bipush (v := 35) hx hb dX7_back_47 (by decide) ?_
        obtain ⟨t3, ht3, hF⟩ := hm_bd hF
        refine hm_vi (As := [.int 35]) S X mw_X4_get hw_2_159 (c_X4_get l g (a 3) (hm_up (hm_up SeR 0 t2.2.1) 1 t2.2.2) (hm_up SeA 0 t2.1) 35 t3 ht3) (hm_mid [[(a 0 0, .inr (7, [.ref (a 1 0), .ref (a 2 0), .ref (a 3 0), .ref (a 4 0), .ref (a 5 0), .ref (a 6 0), .ref (a 7 0), .ref (a 8 0), .ref (a 9 0), .ref (a 10 0), .int 1, .int 1]))], hm_row g (a 1 0) (a 1 1) 200 (R 0), hm_wSc g (a 2) ScR] [hm_row g (a 4 0) (a 4 1) 100 (R 1), hm_row g (a 5 0) (a 5 1) 6 (R 2), hm_row g (a 6 0) (a 6 1) 6 (R 3), hm_wLe g (a 7) LeR LeZ, hm_wBr g (a 8) BrA, hm_wSh g (a 9) ShR ShZ, hm_wSu g (a 10) SuA SuJ]) (hm_mid [[(a 0 0, .inr (7, [.ref (a 1 0), .ref (a 2 0), .ref (a 3 0), .ref (a 4 0), .ref (a 5 0), .ref (a 6 0), .ref (a 7 0), .ref (a 8 0), .ref (a 9 0), .ref (a 10 0), .int 1, .int 1]))], hm_row g (a 1 0) (a 1 1) 200 (R 0), hm_wSc g (a 2) ScR] [hm_row g (a 4 0) (a 4 1) 100 (R 1), hm_row g (a 5 0) (a 5 1) 6 (R 2), hm_row g (a 6 0) (a 6 1) 6 (R 3), hm_wLe g (a 7) LeR LeZ, hm_wBr g (a 8) BrA, hm_wSh g (a 9) ShR ShZ, hm_wSu g (a 10) SuA SuJ] (b := hm_wSe g (a 3) (hm_up (hm_up SeR 0 t2.2.1) 1 t2.2.2) (hm_up SeA 0 t2.1))) rfl rfl rfl ⟨rfl, rfl, Nat.le_of_ble_eq_true rfl, Nat.le_of_ble_eq_true rfl⟩ rfl hl.1 rfl (Nat.le_of_ble_eq_true rfl) dX7_back_49 ⟨Nat.zero_le _, Nat.zero_le _⟩ (fun H locs X => ?_)
        have X := X.to (ws' := ([[(a 0 0, .inr (7, [.ref (a 1 0), .ref (a 2 0), .ref (a 3 0), .ref (a 4 0), .ref (a 5 0), .ref (a 6 0), .ref (a 7 0), .ref (a 8 0), .ref (a 9 0), .ref (a 10 0), .int 1, .int 1]))], hm_row g (a 1 0) (a 1 1) 200 (R 0), hm_wSc g (a 2) ScR, hm_wSe g (a 3) (hm_up (hm_up SeR 0 t2.2.1) 1 t2.2.2) (hm_up SeA 0 t2.1), hm_row g (a 4 0) (a 4 1) 100 (R 1), hm_row g (a 5 0) (a 5 1) 6 (R 2), hm_row g (a 6 0) (a 6 1) 6 (R 3), hm_wLe g (a 7) LeR LeZ, hm_wBr g (a 8) BrA, hm_wSh g (a 9) ShR ShZ, hm_wSu g (a 10) SuA SuJ] : List va_W).flatten) rfl
        obtain rfl := Option.some.inj hF
        exact hm_ri S hr hlk X rfl rfl dX7_back_52
      · have hF := hm_if hF c19
        refine lv_bipush (v := (-2)) hx hb dX7_back_22 (by decide) ?_
        obtain rfl := Option.some.inj hF
        exact hm_ri S hr hlk X rfl rfl dX7_back_24
    · have hF := hm_nf hF c6
      refine lv_iconst (v := (-1)) hx hb dX7_back_9 (by decide) ?_
      obtain rfl := Option.some.inj hF
      exact hm_ri S hr hlk X rfl rfl dX7_back_10
def f_X7_count (R_0 : hm_SR) (R_1 : hm_SR) (R_2 : hm_SR) (ScR_1 : hm_SR) (ScR_6 : hm_SR) (ScR_7 : hm_SR) (SeR_0 : hm_SR) (SeA_0 : Nat → Int32) (x0 : Int32)  : Option (Int32) :=
  if x0 = 0 then (
  (f_X3_wordCount ScR_1).bind fun t1 =>
  some (t1))
  else (
  if x0 = 1 then (
  (f_X3_placeCount ScR_7).bind fun t2 =>
  some (t2))
  else (
  if x0 = 2 then (
  (f_X4_get SeA_0 34).bind fun t3 =>
  some (t3))
  else (
  if x0 = 3 then (
  (f_X4_get SeA_0 35).bind fun t4 =>
  some (t4))
  else (
  if x0 = 4 then (
  (f_X4_get SeA_0 36).bind fun t5 =>
  some (t5))
  else (
  if x0 = 5 then (
  (f_X4_get SeA_0 37).bind fun t6 =>
  some (t6))
  else (
  if x0 = 6 then (
  (f_X2_size R_1).bind fun t7 =>
  some (t7))
  else (
  if x0 = 7 then (
  (f_X2_size R_2).bind fun t8 =>
  some (t8))
  else (
  if x0 = 8 then (
  (f_X2_size R_0).bind fun t9 =>
  some (t9))
  else (
  if x0 = 9 then (
  (f_X4_undoable SeR_0).bind fun t10 =>
  some (t10))
  else (
  if x0 = 10 then (
  (f_X3_spellings ScR_6).bind fun t11 =>
  some (t11))
  else (
  some ((-1)))))))))))))
abbrev rm_X7_count : Room := { frames := 2, cells := 0, slots := 0, locals := 40 }
set_option maxHeartbeats 4000000 in
set_option maxRecDepth 100000 in
theorem c_X7_count (l : Launch) (g : hm_G) (a : Nat → Nat → Nat) (R : Nat → hm_SR) (Z : Nat → Int32) (ScR : Nat → hm_SR) (SeR : Nat → hm_SR) (SeA : Nat → Nat → Int32) (LeR : Nat → hm_SR) (LeZ : Nat → Int32) (BrA : Nat → Nat → Int32) (ShR : Nat → hm_SR) (ShZ : Nat → Int32) (SuA : Nat → Nat → Int32) (SuJ : Nat → Nat → Int64) (x0 : Int32) (q : Int32) (hF : f_X7_count (R 0) (R 1) (R 2) (ScR 1) (ScR 6) (ScR 7) (SeR 0) (SeA 0) x0 = some q) : hm_Mi l yX7_count (Cond.code yX7_count cX7_count 2 (some .int) :: hm_W) rm_X7_count g [.ref (a 0 0), .int x0] ([hm_wHM g a R Z ScR SeR SeA LeR LeZ BrA ShR ShZ SuA SuJ] : List va_W).flatten ([hm_wHM g a R Z ScR SeR SeA LeR LeZ BrA ShR ShZ SuA SuJ] : List va_W).flatten q := by
  refine hm_ofi [(0, .ref (a 0 0)), (1, .int x0)] (by decide) (own := RX7) rfl (Nat.le_of_ble_eq_true rfl) rfl rfl ?_
  intro p e s m args below meth c AA S hr hlk X ls hl
  have hx := S.1
  have hb := S.2.1
  have hown := S.2.2.2.1
  have hts := S.2.2.2.2
  have X := X.to (ws' := ([[(a 0 0, .inr (7, [.ref (a 1 0), .ref (a 2 0), .ref (a 3 0), .ref (a 4 0), .ref (a 5 0), .ref (a 6 0), .ref (a 7 0), .ref (a 8 0), .ref (a 9 0), .ref (a 10 0), .int (Z 0), .int (Z 1)]))], hm_row g (a 1 0) (a 1 1) 200 (R 0), hm_wSc g (a 2) ScR, hm_wSe g (a 3) SeR SeA, hm_row g (a 4 0) (a 4 1) 100 (R 1), hm_row g (a 5 0) (a 5 1) 6 (R 2), hm_row g (a 6 0) (a 6 1) 6 (R 3), hm_wLe g (a 7) LeR LeZ, hm_wBr g (a 8) BrA, hm_wSh g (a 9) ShR ShZ, hm_wSu g (a 10) SuA SuJ] : List va_W).flatten) rfl
  unfold f_X7_count at hF
  refine lv_iload_n hx hb dX7_count_0 rfl (lv_at hl 1 rfl) ?_
  by_cases c1_0 : x0 = 0
  · have hF := hm_if hF c1_0
    refine hm_tabIn (off := 59) (tgt := 60) (k := 0) hx hb dX7_count_1 c1_0 (by decide) (by decide) (by decide) rfl (by decide) ?_
    refine lv_aload_n hx hb dX7_count_60 rfl (lv_at hl 0 rfl) ?_
    refine hm_get S X hf_X7_21 0 rfl rfl dX7_count_61 ?_
    obtain ⟨t1, ht1, hF⟩ := hm_bd hF
    refine hm_vi (As := []) S X mw_X3_wordCount hw_2_101 (c_X3_wordCount l g (a 2) ScR t1 ht1) (hm_mid [[(a 0 0, .inr (7, [.ref (a 1 0), .ref (a 2 0), .ref (a 3 0), .ref (a 4 0), .ref (a 5 0), .ref (a 6 0), .ref (a 7 0), .ref (a 8 0), .ref (a 9 0), .ref (a 10 0), .int (Z 0), .int (Z 1)]))], hm_row g (a 1 0) (a 1 1) 200 (R 0)] [hm_wSe g (a 3) SeR SeA, hm_row g (a 4 0) (a 4 1) 100 (R 1), hm_row g (a 5 0) (a 5 1) 6 (R 2), hm_row g (a 6 0) (a 6 1) 6 (R 3), hm_wLe g (a 7) LeR LeZ, hm_wBr g (a 8) BrA, hm_wSh g (a 9) ShR ShZ, hm_wSu g (a 10) SuA SuJ]) (hm_mid [[(a 0 0, .inr (7, [.ref (a 1 0), .ref (a 2 0), .ref (a 3 0), .ref (a 4 0), .ref (a 5 0), .ref (a 6 0), .ref (a 7 0), .ref (a 8 0), .ref (a 9 0), .ref (a 10 0), .int (Z 0), .int (Z 1)]))], hm_row g (a 1 0) (a 1 1) 200 (R 0)] [hm_wSe g (a 3) SeR SeA, hm_row g (a 4 0) (a 4 1) 100 (R 1), hm_row g (a 5 0) (a 5 1) 6 (R 2), hm_row g (a 6 0) (a 6 1) 6 (R 3), hm_wLe g (a 7) LeR LeZ, hm_wBr g (a 8) BrA, hm_wSh g (a 9) ShR ShZ, hm_wSu g (a 10) SuA SuJ] (b := hm_wSc g (a 2) ScR)) rfl rfl rfl ⟨rfl, rfl, Nat.le_of_ble_eq_true rfl, Nat.le_of_ble_eq_true rfl⟩ rfl hl.1 rfl (Nat.le_of_ble_eq_true rfl) dX7_count_64 ⟨Nat.zero_le _, Nat.zero_le _⟩ (fun H locs X => ?_)
    have X := X.to (ws' := ([[(a 0 0, .inr (7, [.ref (a 1 0), .ref (a 2 0), .ref (a 3 0), .ref (a 4 0), .ref (a 5 0), .ref (a 6 0), .ref (a 7 0), .ref (a 8 0), .ref (a 9 0), .ref (a 10 0), .int (Z 0), .int (Z 1)]))], hm_row g (a 1 0) (a 1 1) 200 (R 0), hm_wSc g (a 2) ScR, hm_wSe g (a 3) SeR SeA, hm_row g (a 4 0) (a 4 1) 100 (R 1), hm_row g (a 5 0) (a 5 1) 6 (R 2), hm_row g (a 6 0) (a 6 1) 6 (R 3), hm_wLe g (a 7) LeR LeZ, hm_wBr g (a 8) BrA, hm_wSh g (a 9) ShR ShZ, hm_wSu g (a 10) SuA SuJ] : List va_W).flatten) rfl
    obtain rfl := Option.some.inj hF
    exact hm_ri S hr hlk X rfl rfl dX7_count_67
  · have hF := hm_nf hF c1_0
    by_cases c1_1 : x0 = 1
    · have hF := hm_if hF c1_1
      refine hm_tabIn (off := 67) (tgt := 68) (k := 1) hx hb dX7_count_1 c1_1 (by decide) (by decide) (by decide) rfl (by decide) ?_
      refine lv_aload_n hx hb dX7_count_68 rfl (lv_at hl 0 rfl) ?_
      refine hm_get S X hf_X7_21 0 rfl rfl dX7_count_69 ?_
      obtain ⟨t2, ht2, hF⟩ := hm_bd hF
      refine hm_vi (As := []) S X mw_X3_placeCount hw_2_138 (c_X3_placeCount l g (a 2) ScR t2 ht2) (hm_mid [[(a 0 0, .inr (7, [.ref (a 1 0), .ref (a 2 0), .ref (a 3 0), .ref (a 4 0), .ref (a 5 0), .ref (a 6 0), .ref (a 7 0), .ref (a 8 0), .ref (a 9 0), .ref (a 10 0), .int (Z 0), .int (Z 1)]))], hm_row g (a 1 0) (a 1 1) 200 (R 0)] [hm_wSe g (a 3) SeR SeA, hm_row g (a 4 0) (a 4 1) 100 (R 1), hm_row g (a 5 0) (a 5 1) 6 (R 2), hm_row g (a 6 0) (a 6 1) 6 (R 3), hm_wLe g (a 7) LeR LeZ, hm_wBr g (a 8) BrA, hm_wSh g (a 9) ShR ShZ, hm_wSu g (a 10) SuA SuJ]) (hm_mid [[(a 0 0, .inr (7, [.ref (a 1 0), .ref (a 2 0), .ref (a 3 0), .ref (a 4 0), .ref (a 5 0), .ref (a 6 0), .ref (a 7 0), .ref (a 8 0), .ref (a 9 0), .ref (a 10 0), .int (Z 0), .int (Z 1)]))], hm_row g (a 1 0) (a 1 1) 200 (R 0)] [hm_wSe g (a 3) SeR SeA, hm_row g (a 4 0) (a 4 1) 100 (R 1), hm_row g (a 5 0) (a 5 1) 6 (R 2), hm_row g (a 6 0) (a 6 1) 6 (R 3), hm_wLe g (a 7) LeR LeZ, hm_wBr g (a 8) BrA, hm_wSh g (a 9) ShR ShZ, hm_wSu g (a 10) SuA SuJ] (b := hm_wSc g (a 2) ScR)) rfl rfl rfl ⟨rfl, rfl, Nat.le_of_ble_eq_true rfl, Nat.le_of_ble_eq_true rfl⟩ rfl hl.1 rfl (Nat.le_of_ble_eq_true rfl) dX7_count_72 ⟨Nat.zero_le _, Nat.zero_le _⟩ (fun H locs X => ?_)
      have X := X.to (ws' := ([[(a 0 0, .inr (7, [.ref (a 1 0), .ref (a 2 0), .ref (a 3 0), .ref (a 4 0), .ref (a 5 0), .ref (a 6 0), .ref (a 7 0), .ref (a 8 0), .ref (a 9 0), .ref (a 10 0), .int (Z 0), .int (Z 1)]))], hm_row g (a 1 0) (a 1 1) 200 (R 0), hm_wSc g (a 2) ScR, hm_wSe g (a 3) SeR SeA, hm_row g (a 4 0) (a 4 1) 100 (R 1), hm_row g (a 5 0) (a 5 1) 6 (R 2), hm_row g (a 6 0) (a 6 1) 6 (R 3), hm_wLe g (a 7) LeR LeZ, hm_wBr g (a 8) BrA, hm_wSh g (a 9) ShR ShZ, hm_wSu g (a 10) SuA SuJ] : List va_W).flatten) rfl
      obtain rfl := Option.some.inj hF
      exact hm_ri S hr hlk X rfl rfl dX7_count_75
    · have hF := hm_nf hF c1_1
      by_cases c1_2 : x0 = 2
      · have hF := hm_if hF c1_2
        refine hm_tabIn (off := 75) (tgt := 76) (k := 2) hx hb dX7_count_1 c1_2 (by decide) (by decide) (by decide) rfl (by decide) ?_
        refine lv_aload_n hx hb dX7_count_76 rfl (lv_at hl 0 rfl) ?_
        refine hm_get S X hf_X7_28 0 rfl rfl dX7_count_77 ?_
        refine lv_bipush (v := 34) hx hb dX7_count_80 (by decide) ?_
        obtain ⟨t3, ht3, hF⟩ := hm_bd hF
        refine hm_vi (As := [.int 34]) S X mw_X4_get hw_2_159 (c_X4_get l g (a 3) SeR SeA 34 t3 ht3) (hm_mid [[(a 0 0, .inr (7, [.ref (a 1 0), .ref (a 2 0), .ref (a 3 0), .ref (a 4 0), .ref (a 5 0), .ref (a 6 0), .ref (a 7 0), .ref (a 8 0), .ref (a 9 0), .ref (a 10 0), .int (Z 0), .int (Z 1)]))], hm_row g (a 1 0) (a 1 1) 200 (R 0), hm_wSc g (a 2) ScR] [hm_row g (a 4 0) (a 4 1) 100 (R 1), hm_row g (a 5 0) (a 5 1) 6 (R 2), hm_row g (a 6 0) (a 6 1) 6 (R 3), hm_wLe g (a 7) LeR LeZ, hm_wBr g (a 8) BrA, hm_wSh g (a 9) ShR ShZ, hm_wSu g (a 10) SuA SuJ]) (hm_mid [[(a 0 0, .inr (7, [.ref (a 1 0), .ref (a 2 0), .ref (a 3 0), .ref (a 4 0), .ref (a 5 0), .ref (a 6 0), .ref (a 7 0), .ref (a 8 0), .ref (a 9 0), .ref (a 10 0), .int (Z 0), .int (Z 1)]))], hm_row g (a 1 0) (a 1 1) 200 (R 0), hm_wSc g (a 2) ScR] [hm_row g (a 4 0) (a 4 1) 100 (R 1), hm_row g (a 5 0) (a 5 1) 6 (R 2), hm_row g (a 6 0) (a 6 1) 6 (R 3), hm_wLe g (a 7) LeR LeZ, hm_wBr g (a 8) BrA, hm_wSh g (a 9) ShR ShZ, hm_wSu g (a 10) SuA SuJ] (b := hm_wSe g (a 3) SeR SeA)) rfl rfl rfl ⟨rfl, rfl, Nat.le_of_ble_eq_true rfl, Nat.le_of_ble_eq_true rfl⟩ rfl hl.1 rfl (Nat.le_of_ble_eq_true rfl) dX7_count_82 ⟨Nat.zero_le _, Nat.zero_le _⟩ (fun H locs X => ?_)
        have X := X.to (ws' := ([[(a 0 0, .inr (7, [.ref (a 1 0), .ref (a 2 0), .ref (a 3 0), .ref (a 4 0), .ref (a 5 0), .ref (a 6 0), .ref (a 7 0), .ref (a 8 0), .ref (a 9 0), .ref (a 10 0), .int (Z 0), .int (Z 1)]))], hm_row g (a 1 0) (a 1 1) 200 (R 0), hm_wSc g (a 2) ScR, hm_wSe g (a 3) SeR SeA, hm_row g (a 4 0) (a 4 1) 100 (R 1), hm_row g (a 5 0) (a 5 1) 6 (R 2), hm_row g (a 6 0) (a 6 1) 6 (R 3), hm_wLe g (a 7) LeR LeZ, hm_wBr g (a 8) BrA, hm_wSh g (a 9) ShR ShZ, hm_wSu g (a 10) SuA SuJ] : List va_W).flatten) rfl
        obtain rfl := Option.some.inj hF
        exact hm_ri S hr hlk X rfl rfl dX7_count_85
      · have hF := hm_nf hF c1_2
        by_cases c1_3 : x0 = 3
        · have hF := hm_if hF c1_3
          refine hm_tabIn (off := 85) (tgt := 86) (k := 3) hx hb dX7_count_1 c1_3 (by decide) (by decide) (by decide) rfl (by decide) ?_
          refine lv_aload_n hx hb dX7_count_86 rfl (lv_at hl 0 rfl) ?_
          refine hm_get S X hf_X7_28 0 rfl rfl dX7_count_87 ?_
          refine lv_bipush (v := 35) hx hb dX7_count_90 (by decide) ?_
          obtain ⟨t4, ht4, hF⟩ := hm_bd hF
          refine hm_vi (As := [.int 35]) S X mw_X4_get hw_2_159 (c_X4_get l g (a 3) SeR SeA 35 t4 ht4) (hm_mid [[(a 0 0, .inr (7, [.ref (a 1 0), .ref (a 2 0), .ref (a 3 0), .ref (a 4 0), .ref (a 5 0), .ref (a 6 0), .ref (a 7 0), .ref (a 8 0), .ref (a 9 0), .ref (a 10 0), .int (Z 0), .int (Z 1)]))], hm_row g (a 1 0) (a 1 1) 200 (R 0), hm_wSc g (a 2) ScR] [hm_row g (a 4 0) (a 4 1) 100 (R 1), hm_row g (a 5 0) (a 5 1) 6 (R 2), hm_row g (a 6 0) (a 6 1) 6 (R 3), hm_wLe g (a 7) LeR LeZ, hm_wBr g (a 8) BrA, hm_wSh g (a 9) ShR ShZ, hm_wSu g (a 10) SuA SuJ]) (hm_mid [[(a 0 0, .inr (7, [.ref (a 1 0), .ref (a 2 0), .ref (a 3 0), .ref (a 4 0), .ref (a 5 0), .ref (a 6 0), .ref (a 7 0), .ref (a 8 0), .ref (a 9 0), .ref (a 10 0), .int (Z 0), .int (Z 1)]))], hm_row g (a 1 0) (a 1 1) 200 (R 0), hm_wSc g (a 2) ScR] [hm_row g (a 4 0) (a 4 1) 100 (R 1), hm_row g (a 5 0) (a 5 1) 6 (R 2), hm_row g (a 6 0) (a 6 1) 6 (R 3), hm_wLe g (a 7) LeR LeZ, hm_wBr g (a 8) BrA, hm_wSh g (a 9) ShR ShZ, hm_wSu g (a 10) SuA SuJ] (b := hm_wSe g (a 3) SeR SeA)) rfl rfl rfl ⟨rfl, rfl, Nat.le_of_ble_eq_true rfl, Nat.le_of_ble_eq_true rfl⟩ rfl hl.1 rfl (Nat.le_of_ble_eq_true rfl) dX7_count_92 ⟨Nat.zero_le _, Nat.zero_le _⟩ (fun H locs X => ?_)
          have X := X.to (ws' := ([[(a 0 0, .inr (7, [.ref (a 1 0), .ref (a 2 0), .ref (a 3 0), .ref (a 4 0), .ref (a 5 0), .ref (a 6 0), .ref (a 7 0), .ref (a 8 0), .ref (a 9 0), .ref (a 10 0), .int (Z 0), .int (Z 1)]))], hm_row g (a 1 0) (a 1 1) 200 (R 0), hm_wSc g (a 2) ScR, hm_wSe g (a 3) SeR SeA, hm_row g (a 4 0) (a 4 1) 100 (R 1), hm_row g (a 5 0) (a 5 1) 6 (R 2), hm_row g (a 6 0) (a 6 1) 6 (R 3), hm_wLe g (a 7) LeR LeZ, hm_wBr g (a 8) BrA, hm_wSh g (a 9) ShR ShZ, hm_wSu g (a 10) SuA SuJ] : List va_W).flatten) rfl
          obtain rfl := Option.some.inj hF
          exact hm_ri S hr hlk X rfl rfl dX7_count_95
        · have hF := hm_nf hF c1_3
          by_cases c1_4 : x0 = 4
          · have hF := hm_if hF c1_4
            refine hm_tabIn (off := 95) (tgt := 96) (k := 4) hx hb dX7_count_1 c1_4 (by decide) (by decide) (by decide) rfl (by decide) ?_
            refine lv_aload_n hx hb dX7_count_96 rfl (lv_at hl 0 rfl) ?_
            refine hm_get S X hf_X7_28 0 rfl rfl dX7_count_97 ?_
            refine lv_bipush (v := 36) hx hb dX7_count_100 (by decide) ?_
            obtain ⟨t5, ht5, hF⟩ := hm_bd hF
            refine hm_vi (As := [.int 36]) S X mw_X4_get hw_2_159 (c_X4_get l g (a 3) SeR SeA 36 t5 ht5) (hm_mid [[(a 0 0, .inr (7, [.ref (a 1 0), .ref (a 2 0), .ref (a 3 0), .ref (a 4 0), .ref (a 5 0), .ref (a 6 0), .ref (a 7 0), .ref (a 8 0), .ref (a 9 0), .ref (a 10 0), .int (Z 0), .int (Z 1)]))], hm_row g (a 1 0) (a 1 1) 200 (R 0), hm_wSc g (a 2) ScR] [hm_row g (a 4 0) (a 4 1) 100 (R 1), hm_row g (a 5 0) (a 5 1) 6 (R 2), hm_row g (a 6 0) (a 6 1) 6 (R 3), hm_wLe g (a 7) LeR LeZ, hm_wBr g (a 8) BrA, hm_wSh g (a 9) ShR ShZ, hm_wSu g (a 10) SuA SuJ]) (hm_mid [[(a 0 0, .inr (7, [.ref (a 1 0), .ref (a 2 0), .ref (a 3 0), .ref (a 4 0), .ref (a 5 0), .ref (a 6 0), .ref (a 7 0), .ref (a 8 0), .ref (a 9 0), .ref (a 10 0), .int (Z 0), .int (Z 1)]))], hm_row g (a 1 0) (a 1 1) 200 (R 0), hm_wSc g (a 2) ScR] [hm_row g (a 4 0) (a 4 1) 100 (R 1), hm_row g (a 5 0) (a 5 1) 6 (R 2), hm_row g (a 6 0) (a 6 1) 6 (R 3), hm_wLe g (a 7) LeR LeZ, hm_wBr g (a 8) BrA, hm_wSh g (a 9) ShR ShZ, hm_wSu g (a 10) SuA SuJ] (b := hm_wSe g (a 3) SeR SeA)) rfl rfl rfl ⟨rfl, rfl, Nat.le_of_ble_eq_true rfl, Nat.le_of_ble_eq_true rfl⟩ rfl hl.1 rfl (Nat.le_of_ble_eq_true rfl) dX7_count_102 ⟨Nat.zero_le _, Nat.zero_le _⟩ (fun H locs X => ?_)
            have X := X.to (ws' := ([[(a 0 0, .inr (7, [.ref (a 1 0), .ref (a 2 0), .ref (a 3 0), .ref (a 4 0), .ref (a 5 0), .ref (a 6 0), .ref (a 7 0), .ref (a 8 0), .ref (a 9 0), .ref (a 10 0), .int (Z 0), .int (Z 1)]))], hm_row g (a 1 0) (a 1 1) 200 (R 0), hm_wSc g (a 2) ScR, hm_wSe g (a 3) SeR SeA, hm_row g (a 4 0) (a 4 1) 100 (R 1), hm_row g (a 5 0) (a 5 1) 6 (R 2), hm_row g (a 6 0) (a 6 1) 6 (R 3), hm_wLe g (a 7) LeR LeZ, hm_wBr g (a 8) BrA, hm_wSh g (a 9) ShR ShZ, hm_wSu g (a 10) SuA SuJ] : List va_W).flatten) rfl
            obtain rfl := Option.some.inj hF
            exact hm_ri S hr hlk X rfl rfl dX7_count_105
          · have hF := hm_nf hF c1_4
            by_cases c1_5 : x0 = 5
            · have hF := hm_if hF c1_5
              refine hm_tabIn (off := 105) (tgt := 106) (k := 5) hx hb dX7_count_1 c1_5 (by decide) (by decide) (by decide) rfl (by decide) ?_
              refine lv_aload_n hx hb dX7_count_106 rfl (lv_at hl 0 rfl) ?_
              refine hm_get S X hf_X7_28 0 rfl rfl dX7_count_107 ?_
              refine lv_bipush (v := 37) hx hb dX7_count_110 (by decide) ?_
              obtain ⟨t6, ht6, hF⟩ := hm_bd hF
              refine hm_vi (As := [.int 37]) S X mw_X4_get hw_2_159 (c_X4_get l g (a 3) SeR SeA 37 t6 ht6) (hm_mid [[(a 0 0, .inr (7, [.ref (a 1 0), .ref (a 2 0), .ref (a 3 0), .ref (a 4 0), .ref (a 5 0), .ref (a 6 0), .ref (a 7 0), .ref (a 8 0), .ref (a 9 0), .ref (a 10 0), .int (Z 0), .int (Z 1)]))], hm_row g (a 1 0) (a 1 1) 200 (R 0), hm_wSc g (a 2) ScR] [hm_row g (a 4 0) (a 4 1) 100 (R 1), hm_row g (a 5 0) (a 5 1) 6 (R 2), hm_row g (a 6 0) (a 6 1) 6 (R 3), hm_wLe g (a 7) LeR LeZ, hm_wBr g (a 8) BrA, hm_wSh g (a 9) ShR ShZ, hm_wSu g (a 10) SuA SuJ]) (hm_mid [[(a 0 0, .inr (7, [.ref (a 1 0), .ref (a 2 0), .ref (a 3 0), .ref (a 4 0), .ref (a 5 0), .ref (a 6 0), .ref (a 7 0), .ref (a 8 0), .ref (a 9 0), .ref (a 10 0), .int (Z 0), .int (Z 1)]))], hm_row g (a 1 0) (a 1 1) 200 (R 0), hm_wSc g (a 2) ScR] [hm_row g (a 4 0) (a 4 1) 100 (R 1), hm_row g (a 5 0) (a 5 1) 6 (R 2), hm_row g (a 6 0) (a 6 1) 6 (R 3), hm_wLe g (a 7) LeR LeZ, hm_wBr g (a 8) BrA, hm_wSh g (a 9) ShR ShZ, hm_wSu g (a 10) SuA SuJ] (b := hm_wSe g (a 3) SeR SeA)) rfl rfl rfl ⟨rfl, rfl, Nat.le_of_ble_eq_true rfl, Nat.le_of_ble_eq_true rfl⟩ rfl hl.1 rfl (Nat.le_of_ble_eq_true rfl) dX7_count_112 ⟨Nat.zero_le _, Nat.zero_le _⟩ (fun H locs X => ?_)
              have X := X.to (ws' := ([[(a 0 0, .inr (7, [.ref (a 1 0), .ref (a 2 0), .ref (a 3 0), .ref (a 4 0), .ref (a 5 0), .ref (a 6 0), .ref (a 7 0), .ref (a 8 0), .ref (a 9 0), .ref (a 10 0), .int (Z 0), .int (Z 1)]))], hm_row g (a 1 0) (a 1 1) 200 (R 0), hm_wSc g (a 2) ScR, hm_wSe g (a 3) SeR SeA, hm_row g (a 4 0) (a 4 1) 100 (R 1), hm_row g (a 5 0) (a 5 1) 6 (R 2), hm_row g (a 6 0) (a 6 1) 6 (R 3), hm_wLe g (a 7) LeR LeZ, hm_wBr g (a 8) BrA, hm_wSh g (a 9) ShR ShZ, hm_wSu g (a 10) SuA SuJ] : List va_W).flatten) rfl
              obtain rfl := Option.some.inj hF
              exact hm_ri S hr hlk X rfl rfl dX7_count_115
            · have hF := hm_nf hF c1_5
              by_cases c1_6 : x0 = 6
              · have hF := hm_if hF c1_6
                refine hm_tabIn (off := 115) (tgt := 116) (k := 6) hx hb dX7_count_1 c1_6 (by decide) (by decide) (by decide) rfl (by decide) ?_
                refine lv_aload_n hx hb dX7_count_116 rfl (lv_at hl 0 rfl) ?_
                refine hm_get S X hf_X7_32 0 rfl rfl dX7_count_117 ?_
                obtain ⟨t7, ht7, hF⟩ := hm_bd hF
                refine hm_vi (As := []) S X mw_X2_size hw_2_26 (c_X2_size l g (a 4 0) (a 4 1) 100 (R 1) t7 ht7) (hm_mid [[(a 0 0, .inr (7, [.ref (a 1 0), .ref (a 2 0), .ref (a 3 0), .ref (a 4 0), .ref (a 5 0), .ref (a 6 0), .ref (a 7 0), .ref (a 8 0), .ref (a 9 0), .ref (a 10 0), .int (Z 0), .int (Z 1)]))], hm_row g (a 1 0) (a 1 1) 200 (R 0), hm_wSc g (a 2) ScR, hm_wSe g (a 3) SeR SeA] [hm_row g (a 5 0) (a 5 1) 6 (R 2), hm_row g (a 6 0) (a 6 1) 6 (R 3), hm_wLe g (a 7) LeR LeZ, hm_wBr g (a 8) BrA, hm_wSh g (a 9) ShR ShZ, hm_wSu g (a 10) SuA SuJ]) (hm_mid [[(a 0 0, .inr (7, [.ref (a 1 0), .ref (a 2 0), .ref (a 3 0), .ref (a 4 0), .ref (a 5 0), .ref (a 6 0), .ref (a 7 0), .ref (a 8 0), .ref (a 9 0), .ref (a 10 0), .int (Z 0), .int (Z 1)]))], hm_row g (a 1 0) (a 1 1) 200 (R 0), hm_wSc g (a 2) ScR, hm_wSe g (a 3) SeR SeA] [hm_row g (a 5 0) (a 5 1) 6 (R 2), hm_row g (a 6 0) (a 6 1) 6 (R 3), hm_wLe g (a 7) LeR LeZ, hm_wBr g (a 8) BrA, hm_wSh g (a 9) ShR ShZ, hm_wSu g (a 10) SuA SuJ] (b := hm_row g (a 4 0) (a 4 1) 100 (R 1))) rfl rfl rfl ⟨rfl, rfl, Nat.le_of_ble_eq_true rfl, Nat.le_of_ble_eq_true rfl⟩ rfl hl.1 rfl (Nat.le_of_ble_eq_true rfl) dX7_count_120 ⟨Nat.zero_le _, Nat.zero_le _⟩ (fun H locs X => ?_)
                have X := X.to (ws' := ([[(a 0 0, .inr (7, [.ref (a 1 0), .ref (a 2 0), .ref (a 3 0), .ref (a 4 0), .ref (a 5 0), .ref (a 6 0), .ref (a 7 0), .ref (a 8 0), .ref (a 9 0), .ref (a 10 0), .int (Z 0), .int (Z 1)]))], hm_row g (a 1 0) (a 1 1) 200 (R 0), hm_wSc g (a 2) ScR, hm_wSe g (a 3) SeR SeA, hm_row g (a 4 0) (a 4 1) 100 (R 1), hm_row g (a 5 0) (a 5 1) 6 (R 2), hm_row g (a 6 0) (a 6 1) 6 (R 3), hm_wLe g (a 7) LeR LeZ, hm_wBr g (a 8) BrA, hm_wSh g (a 9) ShR ShZ, hm_wSu g (a 10) SuA SuJ] : List va_W).flatten) rfl
                obtain rfl := Option.some.inj hF
                exact hm_ri S hr hlk X rfl rfl dX7_count_123
              · have hF := hm_nf hF c1_6
                by_cases c1_7 : x0 = 7
                · have hF := hm_if hF c1_7
                  refine hm_tabIn (off := 123) (tgt := 124) (k := 7) hx hb dX7_count_1 c1_7 (by decide) (by decide) (by decide) rfl (by decide) ?_
                  refine lv_aload_n hx hb dX7_count_124 rfl (lv_at hl 0 rfl) ?_
                  refine hm_get S X hf_X7_35 0 rfl rfl dX7_count_125 ?_
                  obtain ⟨t8, ht8, hF⟩ := hm_bd hF
                  refine hm_vi (As := []) S X mw_X2_size hw_2_26 (c_X2_size l g (a 5 0) (a 5 1) 6 (R 2) t8 ht8) (hm_mid [[(a 0 0, .inr (7, [.ref (a 1 0), .ref (a 2 0), .ref (a 3 0), .ref (a 4 0), .ref (a 5 0), .ref (a 6 0), .ref (a 7 0), .ref (a 8 0), .ref (a 9 0), .ref (a 10 0), .int (Z 0), .int (Z 1)]))], hm_row g (a 1 0) (a 1 1) 200 (R 0), hm_wSc g (a 2) ScR, hm_wSe g (a 3) SeR SeA, hm_row g (a 4 0) (a 4 1) 100 (R 1)] [hm_row g (a 6 0) (a 6 1) 6 (R 3), hm_wLe g (a 7) LeR LeZ, hm_wBr g (a 8) BrA, hm_wSh g (a 9) ShR ShZ, hm_wSu g (a 10) SuA SuJ]) (hm_mid [[(a 0 0, .inr (7, [.ref (a 1 0), .ref (a 2 0), .ref (a 3 0), .ref (a 4 0), .ref (a 5 0), .ref (a 6 0), .ref (a 7 0), .ref (a 8 0), .ref (a 9 0), .ref (a 10 0), .int (Z 0), .int (Z 1)]))], hm_row g (a 1 0) (a 1 1) 200 (R 0), hm_wSc g (a 2) ScR, hm_wSe g (a 3) SeR SeA, hm_row g (a 4 0) (a 4 1) 100 (R 1)] [hm_row g (a 6 0) (a 6 1) 6 (R 3), hm_wLe g (a 7) LeR LeZ, hm_wBr g (a 8) BrA, hm_wSh g (a 9) ShR ShZ, hm_wSu g (a 10) SuA SuJ] (b := hm_row g (a 5 0) (a 5 1) 6 (R 2))) rfl rfl rfl ⟨rfl, rfl, Nat.le_of_ble_eq_true rfl, Nat.le_of_ble_eq_true rfl⟩ rfl hl.1 rfl (Nat.le_of_ble_eq_true rfl) dX7_count_128 ⟨Nat.zero_le _, Nat.zero_le _⟩ (fun H locs X => ?_)
                  have X := X.to (ws' := ([[(a 0 0, .inr (7, [.ref (a 1 0), .ref (a 2 0), .ref (a 3 0), .ref (a 4 0), .ref (a 5 0), .ref (a 6 0), .ref (a 7 0), .ref (a 8 0), .ref (a 9 0), .ref (a 10 0), .int (Z 0), .int (Z 1)]))], hm_row g (a 1 0) (a 1 1) 200 (R 0), hm_wSc g (a 2) ScR, hm_wSe g (a 3) SeR SeA, hm_row g (a 4 0) (a 4 1) 100 (R 1), hm_row g (a 5 0) (a 5 1) 6 (R 2), hm_row g (a 6 0) (a 6 1) 6 (R 3), hm_wLe g (a 7) LeR LeZ, hm_wBr g (a 8) BrA, hm_wSh g (a 9) ShR ShZ, hm_wSu g (a 10) SuA SuJ] : List va_W).flatten) rfl
                  obtain rfl := Option.some.inj hF
                  exact hm_ri S hr hlk X rfl rfl dX7_count_131
                · have hF := hm_nf hF c1_7
                  by_cases c1_8 : x0 = 8
                  · have hF := hm_if hF c1_8
                    refine hm_tabIn (off := 131) (tgt := 132) (k := 8) hx hb dX7_count_1 c1_8 (by decide) (by decide) (by decide) rfl (by decide) ?_
                    refine lv_aload_n hx hb dX7_count_132 rfl (lv_at hl 0 rfl) ?_
                    refine hm_get S X hf_X7_14 0 rfl rfl dX7_count_133 ?_
                    obtain ⟨t9, ht9, hF⟩ := hm_bd hF
                    refine hm_vi (As := []) S X mw_X2_size hw_2_26 (c_X2_size l g (a 1 0) (a 1 1) 200 (R 0) t9 ht9) (hm_mid [[(a 0 0, .inr (7, [.ref (a 1 0), .ref (a 2 0), .ref (a 3 0), .ref (a 4 0), .ref (a 5 0), .ref (a 6 0), .ref (a 7 0), .ref (a 8 0), .ref (a 9 0), .ref (a 10 0), .int (Z 0), .int (Z 1)]))]] [hm_wSc g (a 2) ScR, hm_wSe g (a 3) SeR SeA, hm_row g (a 4 0) (a 4 1) 100 (R 1), hm_row g (a 5 0) (a 5 1) 6 (R 2), hm_row g (a 6 0) (a 6 1) 6 (R 3), hm_wLe g (a 7) LeR LeZ, hm_wBr g (a 8) BrA, hm_wSh g (a 9) ShR ShZ, hm_wSu g (a 10) SuA SuJ]) (hm_mid [[(a 0 0, .inr (7, [.ref (a 1 0), .ref (a 2 0), .ref (a 3 0), .ref (a 4 0), .ref (a 5 0), .ref (a 6 0), .ref (a 7 0), .ref (a 8 0), .ref (a 9 0), .ref (a 10 0), .int (Z 0), .int (Z 1)]))]] [hm_wSc g (a 2) ScR, hm_wSe g (a 3) SeR SeA, hm_row g (a 4 0) (a 4 1) 100 (R 1), hm_row g (a 5 0) (a 5 1) 6 (R 2), hm_row g (a 6 0) (a 6 1) 6 (R 3), hm_wLe g (a 7) LeR LeZ, hm_wBr g (a 8) BrA, hm_wSh g (a 9) ShR ShZ, hm_wSu g (a 10) SuA SuJ] (b := hm_row g (a 1 0) (a 1 1) 200 (R 0))) rfl rfl rfl ⟨rfl, rfl, Nat.le_of_ble_eq_true rfl, Nat.le_of_ble_eq_true rfl⟩ rfl hl.1 rfl (Nat.le_of_ble_eq_true rfl) dX7_count_136 ⟨Nat.zero_le _, Nat.zero_le _⟩ (fun H locs X => ?_)
                    have X := X.to (ws' := ([[(a 0 0, .inr (7, [.ref (a 1 0), .ref (a 2 0), .ref (a 3 0), .ref (a 4 0), .ref (a 5 0), .ref (a 6 0), .ref (a 7 0), .ref (a 8 0), .ref (a 9 0), .ref (a 10 0), .int (Z 0), .int (Z 1)]))], hm_row g (a 1 0) (a 1 1) 200 (R 0), hm_wSc g (a 2) ScR, hm_wSe g (a 3) SeR SeA, hm_row g (a 4 0) (a 4 1) 100 (R 1), hm_row g (a 5 0) (a 5 1) 6 (R 2), hm_row g (a 6 0) (a 6 1) 6 (R 3), hm_wLe g (a 7) LeR LeZ, hm_wBr g (a 8) BrA, hm_wSh g (a 9) ShR ShZ, hm_wSu g (a 10) SuA SuJ] : List va_W).flatten) rfl
                    obtain rfl := Option.some.inj hF
                    exact hm_ri S hr hlk X rfl rfl dX7_count_139
                  · have hF := hm_nf hF c1_8
                    by_cases c1_9 : x0 = 9
                    · have hF := hm_if hF c1_9
                      refine hm_tabIn (off := 139) (tgt := 140) (k := 9) hx hb dX7_count_1 c1_9 (by decide) (by decide) (by decide) rfl (by decide) ?_
                      refine lv_aload_n hx hb dX7_count_140 rfl (lv_at hl 0 rfl) ?_
                      refine hm_get S X hf_X7_28 0 rfl rfl dX7_count_141 ?_
                      obtain ⟨t10, ht10, hF⟩ := hm_bd hF
                      refine hm_vi (As := []) S X mw_X4_undoable hw_2_206 (c_X4_undoable l g (a 3) SeR SeA t10 ht10) (hm_mid [[(a 0 0, .inr (7, [.ref (a 1 0), .ref (a 2 0), .ref (a 3 0), .ref (a 4 0), .ref (a 5 0), .ref (a 6 0), .ref (a 7 0), .ref (a 8 0), .ref (a 9 0), .ref (a 10 0), .int (Z 0), .int (Z 1)]))], hm_row g (a 1 0) (a 1 1) 200 (R 0), hm_wSc g (a 2) ScR] [hm_row g (a 4 0) (a 4 1) 100 (R 1), hm_row g (a 5 0) (a 5 1) 6 (R 2), hm_row g (a 6 0) (a 6 1) 6 (R 3), hm_wLe g (a 7) LeR LeZ, hm_wBr g (a 8) BrA, hm_wSh g (a 9) ShR ShZ, hm_wSu g (a 10) SuA SuJ]) (hm_mid [[(a 0 0, .inr (7, [.ref (a 1 0), .ref (a 2 0), .ref (a 3 0), .ref (a 4 0), .ref (a 5 0), .ref (a 6 0), .ref (a 7 0), .ref (a 8 0), .ref (a 9 0), .ref (a 10 0), .int (Z 0), .int (Z 1)]))], hm_row g (a 1 0) (a 1 1) 200 (R 0), hm_wSc g (a 2) ScR] [hm_row g (a 4 0) (a 4 1) 100 (R 1), hm_row g (a 5 0) (a 5 1) 6 (R 2), hm_row g (a 6 0) (a 6 1) 6 (R 3), hm_wLe g (a 7) LeR LeZ, hm_wBr g (a 8) BrA, hm_wSh g (a 9) ShR ShZ, hm_wSu g (a 10) SuA SuJ] (b := hm_wSe g (a 3) SeR SeA)) rfl rfl rfl ⟨rfl, rfl, Nat.le_of_ble_eq_true rfl, Nat.le_of_ble_eq_true rfl⟩ rfl hl.1 rfl (Nat.le_of_ble_eq_true rfl) dX7_count_144 ⟨Nat.zero_le _, Nat.zero_le _⟩ (fun H locs X => ?_)
                      have X := X.to (ws' := ([[(a 0 0, .inr (7, [.ref (a 1 0), .ref (a 2 0), .ref (a 3 0), .ref (a 4 0), .ref (a 5 0), .ref (a 6 0), .ref (a 7 0), .ref (a 8 0), .ref (a 9 0), .ref (a 10 0), .int (Z 0), .int (Z 1)]))], hm_row g (a 1 0) (a 1 1) 200 (R 0), hm_wSc g (a 2) ScR, hm_wSe g (a 3) SeR SeA, hm_row g (a 4 0) (a 4 1) 100 (R 1), hm_row g (a 5 0) (a 5 1) 6 (R 2), hm_row g (a 6 0) (a 6 1) 6 (R 3), hm_wLe g (a 7) LeR LeZ, hm_wBr g (a 8) BrA, hm_wSh g (a 9) ShR ShZ, hm_wSu g (a 10) SuA SuJ] : List va_W).flatten) rfl
                      obtain rfl := Option.some.inj hF
                      exact hm_ri S hr hlk X rfl rfl dX7_count_147
                    · have hF := hm_nf hF c1_9
                      by_cases c1_10 : x0 = 10
                      · have hF := hm_if hF c1_10
                        refine hm_tabIn (off := 147) (tgt := 148) (k := 10) hx hb dX7_count_1 c1_10 (by decide) (by decide) (by decide) rfl (by decide) ?_
                        refine lv_aload_n hx hb dX7_count_148 rfl (lv_at hl 0 rfl) ?_
                        refine hm_get S X hf_X7_21 0 rfl rfl dX7_count_149 ?_
                        obtain ⟨t11, ht11, hF⟩ := hm_bd hF
                        refine hm_vi (As := []) S X mw_X3_spellings hw_2_118 (c_X3_spellings l g (a 2) ScR t11 ht11) (hm_mid [[(a 0 0, .inr (7, [.ref (a 1 0), .ref (a 2 0), .ref (a 3 0), .ref (a 4 0), .ref (a 5 0), .ref (a 6 0), .ref (a 7 0), .ref (a 8 0), .ref (a 9 0), .ref (a 10 0), .int (Z 0), .int (Z 1)]))], hm_row g (a 1 0) (a 1 1) 200 (R 0)] [hm_wSe g (a 3) SeR SeA, hm_row g (a 4 0) (a 4 1) 100 (R 1), hm_row g (a 5 0) (a 5 1) 6 (R 2), hm_row g (a 6 0) (a 6 1) 6 (R 3), hm_wLe g (a 7) LeR LeZ, hm_wBr g (a 8) BrA, hm_wSh g (a 9) ShR ShZ, hm_wSu g (a 10) SuA SuJ]) (hm_mid [[(a 0 0, .inr (7, [.ref (a 1 0), .ref (a 2 0), .ref (a 3 0), .ref (a 4 0), .ref (a 5 0), .ref (a 6 0), .ref (a 7 0), .ref (a 8 0), .ref (a 9 0), .ref (a 10 0), .int (Z 0), .int (Z 1)]))], hm_row g (a 1 0) (a 1 1) 200 (R 0)] [hm_wSe g (a 3) SeR SeA, hm_row g (a 4 0) (a 4 1) 100 (R 1), hm_row g (a 5 0) (a 5 1) 6 (R 2), hm_row g (a 6 0) (a 6 1) 6 (R 3), hm_wLe g (a 7) LeR LeZ, hm_wBr g (a 8) BrA, hm_wSh g (a 9) ShR ShZ, hm_wSu g (a 10) SuA SuJ] (b := hm_wSc g (a 2) ScR)) rfl rfl rfl ⟨rfl, rfl, Nat.le_of_ble_eq_true rfl, Nat.le_of_ble_eq_true rfl⟩ rfl hl.1 rfl (Nat.le_of_ble_eq_true rfl) dX7_count_152 ⟨Nat.zero_le _, Nat.zero_le _⟩ (fun H locs X => ?_)
                        have X := X.to (ws' := ([[(a 0 0, .inr (7, [.ref (a 1 0), .ref (a 2 0), .ref (a 3 0), .ref (a 4 0), .ref (a 5 0), .ref (a 6 0), .ref (a 7 0), .ref (a 8 0), .ref (a 9 0), .ref (a 10 0), .int (Z 0), .int (Z 1)]))], hm_row g (a 1 0) (a 1 1) 200 (R 0), hm_wSc g (a 2) ScR, hm_wSe g (a 3) SeR SeA, hm_row g (a 4 0) (a 4 1) 100 (R 1), hm_row g (a 5 0) (a 5 1) 6 (R 2), hm_row g (a 6 0) (a 6 1) 6 (R 3), hm_wLe g (a 7) LeR LeZ, hm_wBr g (a 8) BrA, hm_wSh g (a 9) ShR ShZ, hm_wSu g (a 10) SuA SuJ] : List va_W).flatten) rfl
                        obtain rfl := Option.some.inj hF
                        exact hm_ri S hr hlk X rfl rfl dX7_count_155
                      · have hF := hm_nf hF c1_10
                        refine lv_tableOut (tgt := 156) hx hb dX7_count_1 (hm_out 0 10 [0, 1, 2, 3, 4, 5, 6, 7, 8, 9, 10] (by decide) (List.forall_mem_cons.mpr ⟨c1_0, List.forall_mem_cons.mpr ⟨c1_1, List.forall_mem_cons.mpr ⟨c1_2, List.forall_mem_cons.mpr ⟨c1_3, List.forall_mem_cons.mpr ⟨c1_4, List.forall_mem_cons.mpr ⟨c1_5, List.forall_mem_cons.mpr ⟨c1_6, List.forall_mem_cons.mpr ⟨c1_7, List.forall_mem_cons.mpr ⟨c1_8, List.forall_mem_cons.mpr ⟨c1_9, List.forall_mem_cons.mpr ⟨c1_10, fun _ h => absurd h List.not_mem_nil⟩⟩⟩⟩⟩⟩⟩⟩⟩⟩⟩)) (by decide) ?_
                        refine lv_iconst (v := (-1)) hx hb dX7_count_156 (by decide) ?_
                        obtain rfl := Option.some.inj hF
                        exact hm_ri S hr hlk X rfl rfl dX7_count_157
