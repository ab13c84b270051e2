def f_X6_note_l63 (J_0 : Nat → Int64) (x0 : Int32) (v3 : Int64) (v5 : Int64) : Option ((Nat → Int64)) :=
  if x0 < 0 then (
  some (J_0))
  else (
  if (191 : Int32) ≤ x0 then (
  some (J_0))
  else (
  (hm_wj 382 J_0 (x0 * 2) v3).bind fun f2 =>
  (hm_wj 382 f2 ((x0 * 2) + 1) v5).bind fun f3 =>
  some (f3)))
def f_X6_note_l57 (J11 : Int64 → Int64 → Int32 → Int32 → Option ((Nat → Int64))) (v3 : Int64) (v5 : Int64) (v7 : Int32) (v8 : Int32) : Option ((Nat → Int64)) :=
  J11 v3 v5 v7 (v8 + 1)
def f_X6_note_l11 (J_0 : Nat → Int64) (BrA_1 : Nat → Int32) (BrA_2 : Nat → Int32) (x0 : Int32) : Nat → Int64 → Int64 → Int32 → Int32 → Option ((Nat → Int64))
  | 0, _, _, _, _ => none
  | k + 1, v3, v5, v7, v8 =>
  (f_X0_lineCount BrA_1).bind fun t1 =>
  if t1 ≤ v8 then (
  f_X6_note_l63 J_0 x0 v3 v5)
  else (
  (f_X0_endBehind BrA_2 v7).bind fun t4 =>
  if (64 : Int32) ≤ t4 then (
  f_X6_note_l57 (fun zv3 zv5 zv7 zv8 => f_X6_note_l11 J_0 BrA_1 BrA_2 x0 k zv3 zv5 zv7 zv8) v3 (v5 ||| (1 <<< ((t4 - 64).toInt64 &&& 63))) t4 v8)
  else (
  f_X6_note_l57 (fun zv3 zv5 zv7 zv8 => f_X6_note_l11 J_0 BrA_1 BrA_2 x0 k zv3 zv5 zv7 zv8) (v3 ||| (1 <<< (t4.toInt64 &&& 63))) v5 t4 v8))
theorem f_X6_note_l11_s (J_0 : Nat → Int64) (BrA_1 : Nat → Int32) (BrA_2 : Nat → Int32) (x0 : Int32) (k : Nat) (v3 : Int64) (v5 : Int64) (v7 : Int32) (v8 : Int32) : f_X6_note_l11 J_0 BrA_1 BrA_2 x0 (k + 1) v3 v5 v7 v8 =
  (f_X0_lineCount BrA_1).bind fun t1 =>
  if t1 ≤ v8 then (
  f_X6_note_l63 J_0 x0 v3 v5)
  else (
  (f_X0_endBehind BrA_2 v7).bind fun t4 =>
  if (64 : Int32) ≤ t4 then (
  f_X6_note_l57 (fun zv3 zv5 zv7 zv8 => f_X6_note_l11 J_0 BrA_1 BrA_2 x0 k zv3 zv5 zv7 zv8) v3 (v5 ||| (1 <<< ((t4 - 64).toInt64 &&& 63))) t4 v8)
  else (
  f_X6_note_l57 (fun zv3 zv5 zv7 zv8 => f_X6_note_l11 J_0 BrA_1 BrA_2 x0 k zv3 zv5 zv7 zv8) (v3 ||| (1 <<< (t4.toInt64 &&& 63))) v5 t4 v8)) := rfl
theorem f_X6_note_l11_z (J_0 : Nat → Int64) (BrA_1 : Nat → Int32) (BrA_2 : Nat → Int32) (x0 : Int32) (v3 : Int64) (v5 : Int64) (v7 : Int32) (v8 : Int32) : f_X6_note_l11 J_0 BrA_1 BrA_2 x0 0 v3 v5 v7 v8 = none := rfl
def f_X6_note (J_0 : Nat → Int64) (BrA_1 : Nat → Int32) (BrA_2 : Nat → Int32) (x0 : Int32)  : Option ((Nat → Int64)) :=
  f_X6_note_l11 J_0 BrA_1 BrA_2 x0 hm_fu 0 0 (-1) 0
abbrev rm_X6_note : Room := { frames := 1, cells := 0, slots := 0, locals := 22 }
set_option maxHeartbeats 4000000 in
set_option maxRecDepth 100000 in
theorem c_X6_note (l : Launch) (g : hm_G) (a : Nat → Nat) (A : Nat → Nat → Int32) (J : Nat → Nat → Int64) (aBr : Nat → Nat) (BrA : Nat → Nat → Int32) (x0 : Int32) (q : (Nat → Int64)) (hF : f_X6_note (J 0) (BrA 1) (BrA 2) x0 = some q) : hm_Mv l yX6_note (Cond.code yX6_note cX6_note 9 none :: hm_W) rm_X6_note g [.ref (a 0), .int x0, .ref (aBr 0)] ([hm_wSu g a A J, hm_wBr g aBr BrA] : List va_W).flatten ([hm_wSu g a A (hm_up J 0 q), hm_wBr g aBr BrA] : List va_W).flatten := by
  refine hm_ofv [(0, .ref (a 0)), (1, .int x0), (2, .ref (aBr 0))] (by decide) (own := RX6) rfl (Nat.le_of_ble_eq_true rfl) rfl rfl ?_
  intro p e s m args below meth c AA S hr hlk X ls hl
  have hx := S.1
  have hb := S.2.1
  have hown := S.2.2.2.1
  have hts := S.2.2.2.2
  have X := X.to (ws' := ([[(a 0, .inr (6, [.ref (a 1), .ref (a 2), .ref (a 3)]))], [hm_cz g (a 1) 191 (A 0)], [hm_cj g (a 2) 382 (J 0)], [hm_cz g (a 3) 191 (A 1)], hm_wBr g aBr BrA] : List va_W).flatten) rfl
  have hl63 : ∀ (v3 : Int64) (v5 : Int64), f_X6_note_l63 (J 0) x0 v3 v5 = some q → ∀ (H : Heap) (locs : List Loc), hm_X g AA s H locs ([[(a 0, .inr (6, [.ref (a 1), .ref (a 2), .ref (a 3)]))], [hm_cz g (a 1) 191 (A 0)], [hm_cj g (a 2) 382 (J 0)], [hm_cz g (a 3) 191 (A 1)], hm_wBr g aBr BrA] : List va_W).flatten → ∀ ls : Array Slot, lv_has ls 9 [(0, .ref (a 0)), (1, .int x0), (3, .long v3), (5, .long v5)] → W p l e rm_X6_note s m args below meth c H locs 0 0 (MQ below (hm_Qv g AA ([hm_wSu g a A (hm_up J 0 q), hm_wBr g aBr BrA] : List va_W).flatten) args s 0 0 AA) (F0 m 63 ls []) := by
    intro v3 v5 hF H locs X ls hl
    unfold f_X6_note_l63 at hF
    refine lv_iload_n hx hb dX6_note_63 rfl (lv_at hl 1 rfl) ?_
    refine lv_if_lt (tgt := 95) hx hb dX6_note_64 (by decide) (fun c64 => ?_) (fun c64 => ?_)
    · have hF := hm_if hF c64
      obtain rfl := Option.some.inj hF
      exact hm_rv S hr hlk X rfl dX6_note_95
    · have hF := hm_nf hF c64
      refine lv_iload_n hx hb dX6_note_67 rfl (lv_at hl 1 rfl) ?_
      refine lv_sipush (v := 191) hx hb dX6_note_68 (by decide) ?_
      refine lv_icmp_ge (tgt := 95) hx hb dX6_note_71 (by decide) (fun c71 => ?_) (fun c71 => ?_)
      · have hF := hm_if hF c71
        obtain rfl := Option.some.inj hF
        exact hm_rv S hr hlk X rfl dX6_note_95
      · have hF := hm_nf hF c71
        refine lv_aload_n hx hb dX6_note_74 rfl (lv_at hl 0 rfl) ?_
        refine hm_get S X hf_X6_15 0 rfl rfl dX6_note_75 ?_
        refine lv_iload_n hx hb dX6_note_78 rfl (lv_at hl 1 rfl) ?_
        refine lv_iconst (v := 2) hx hb dX6_note_79 (by decide) ?_
        refine lv_imul hx hb dX6_note_80 ?_
        refine lv_lload_n hx hb dX6_note_81 rfl (lv_at hl 2 rfl) ?_
        obtain ⟨f2, hf2, hF⟩ := hm_bd hF
        refine hm_last S X hf2 2 rfl dX6_note_82 (fun H locs X => ?_)
        have X := X.to (ws' := ([[(a 0, .inr (6, [.ref (a 1), .ref (a 2), .ref (a 3)]))], [hm_cz g (a 1) 191 (A 0)], [hm_cj g (a 2) 382 f2], [hm_cz g (a 3) 191 (A 1)], hm_wBr g aBr BrA] : List va_W).flatten) rfl
        refine lv_aload_n hx hb dX6_note_83 rfl (lv_at hl 0 rfl) ?_
        refine hm_get S X hf_X6_15 0 rfl rfl dX6_note_84 ?_
        refine lv_iload_n hx hb dX6_note_87 rfl (lv_at hl 1 rfl) ?_
        refine lv_iconst (v := 2) hx hb dX6_note_88 (by decide) ?_
        refine lv_imul hx hb dX6_note_89 ?_
        refine lv_iconst (v := 1) hx hb dX6_note_90 (by decide) ?_
        refine lv_iadd hx hb dX6_note_91 ?_
        refine lv_lload hx hb dX6_note_92 (lv_at hl 3 rfl) ?_
        obtain ⟨f3, hf3, hF⟩ := hm_bd hF
        refine hm_last S X hf3 2 rfl dX6_note_94 (fun H locs X => ?_)
        have X := X.to (ws' := ([[(a 0, .inr (6, [.ref (a 1), .ref (a 2), .ref (a 3)]))], [hm_cz g (a 1) 191 (A 0)], [hm_cj g (a 2) 382 f3], [hm_cz g (a 3) 191 (A 1)], hm_wBr g aBr BrA] : List va_W).flatten) rfl
        obtain rfl := Option.some.inj hF
        exact hm_rv S hr hlk X rfl dX6_note_95
  have hl11 : ∀ (k11 : Nat) (v3 : Int64) (v5 : Int64) (v7 : Int32) (v8 : Int32), f_X6_note_l11 (J 0) (BrA 1) (BrA 2) x0 k11 v3 v5 v7 v8 = some q → ∀ (H : Heap) (locs : List Loc), hm_X g AA s H locs ([[(a 0, .inr (6, [.ref (a 1), .ref (a 2), .ref (a 3)]))], [hm_cz g (a 1) 191 (A 0)], [hm_cj g (a 2) 382 (J 0)], [hm_cz g (a 3) 191 (A 1)], hm_wBr g aBr BrA] : List va_W).flatten → ∀ ls : Array Slot, lv_has ls 9 [(0, .ref (a 0)), (1, .int x0), (2, .ref (aBr 0)), (3, .long v3), (5, .long v5), (7, .int v7), (8, .int v8)] → W p l e rm_X6_note s m args below meth c H locs 0 0 (MQ below (hm_Qv g AA ([hm_wSu g a A (hm_up J 0 q), hm_wBr g aBr BrA] : List va_W).flatten) args s 0 0 AA) (F0 m 11 ls []) := by
    intro k11
    induction k11 with
    | zero =>
      intro v3 v5 v7 v8 hF
      rw [f_X6_note_l11_z] at hF
      cases hF
    | succ k11 ih11 =>
      have hl57 : ∀ (v3 : Int64) (v5 : Int64) (v7 : Int32) (v8 : Int32), f_X6_note_l57 (fun zv3 zv5 zv7 zv8 => f_X6_note_l11 (J 0) (BrA 1) (BrA 2) x0 k11 zv3 zv5 zv7 zv8) v3 v5 v7 v8 = some q → ∀ (H : Heap) (locs : List Loc), hm_X g AA s H locs ([[(a 0, .inr (6, [.ref (a 1), .ref (a 2), .ref (a 3)]))], [hm_cz g (a 1) 191 (A 0)], [hm_cj g (a 2) 382 (J 0)], [hm_cz g (a 3) 191 (A 1)], hm_wBr g aBr BrA] : List va_W).flatten → ∀ ls : Array Slot, lv_has ls 9 [(0, .ref (a 0)), (1, .int x0), (2, .ref (aBr 0)), (3, .long v3), (5, .long v5), (7, .int v7), (8, .int v8)] → W p l e rm_X6_note s m args below meth c H locs 0 0 (MQ below (hm_Qv g AA ([hm_wSu g a A (hm_up J 0 q), hm_wBr g aBr BrA] : List va_W).flatten) args s 0 0 AA) (F0 m 57 ls []) := by
        intro v3 v5 v7 v8 hF H locs X ls hl
        unfold f_X6_note_l57 at hF
        refine lv_iinc (v := (v8 + 1)) (lv' := [(8, .int (v8 + 1)), (0, .ref (a 0)), (1, .int x0), (2, .ref (aBr 0)), (3, .long v3), (5, .long v5), (7, .int v7)]) hx hb dX6_note_57 hl (k := 6) rfl rfl (by decide) rfl (fun ls hl => ?_)
        refine lv_goto (tgt := 11) hx hb dX6_note_60 (by decide) ?_
        exact ih11 v3 v5 v7 (v8 + 1) hF _ _ X _ (lv_sub hl [1, 2, 3, 4, 5, 6, 0] rfl)
      intro v3 v5 v7 v8 hF H locs X ls hl
      rw [f_X6_note_l11_s] at hF
      refine lv_iload hx hb dX6_note_11 (lv_at hl 6 rfl) ?_
      refine lv_aload_n hx hb dX6_note_13 rfl (lv_at hl 2 rfl) ?_
      obtain ⟨t1, ht1, hF⟩ := hm_bd hF
      refine hm_vi (As := []) S X mw_X0_lineCount hw_3_237 (c_X0_lineCount l g aBr BrA t1 ht1) (hm_mid [[(a 0, .inr (6, [.ref (a 1), .ref (a 2), .ref (a 3)]))], [hm_cz g (a 1) 191 (A 0)], [hm_cj g (a 2) 382 (J 0)], [hm_cz g (a 3) 191 (A 1)]] []) (hm_mid [[(a 0, .inr (6, [.ref (a 1), .ref (a 2), .ref (a 3)]))], [hm_cz g (a 1) 191 (A 0)], [hm_cj g (a 2) 382 (J 0)], [hm_cz g (a 3) 191 (A 1)]] [] (b := hm_wBr g aBr BrA)) rfl rfl rfl ⟨rfl, rfl, Nat.le_of_ble_eq_true rfl, Nat.le_of_ble_eq_true rfl⟩ rfl hl.1 rfl (Nat.le_of_ble_eq_true rfl) dX6_note_14 ⟨Nat.zero_le _, Nat.zero_le _⟩ (fun H locs X => ?_)
      have X := X.to (ws' := ([[(a 0, .inr (6, [.ref (a 1), .ref (a 2), .ref (a 3)]))], [hm_cz g (a 1) 191 (A 0)], [hm_cj g (a 2) 382 (J 0)], [hm_cz g (a 3) 191 (A 1)], hm_wBr g aBr BrA] : List va_W).flatten) rfl
      refine lv_icmp_ge (tgt := 63) hx hb dX6_note_17 (by decide) (fun c17 => ?_) (fun c17 => ?_)
      · have hF := hm_if hF c17
        exact hl63 v3 v5 hF _ _ X _ (lv_sub hl [0, 1, 3, 4] rfl)
      · have hF := hm_nf hF c17
        refine lv_aload_n hx hb dX6_note_20 rfl (lv_at hl 2 rfl) ?_
        refine lv_iload hx hb dX6_note_21 (lv_at hl 5 rfl) ?_
        obtain ⟨t4, ht4, hF⟩ := hm_bd hF
        refine hm_vi (As := [.int v7]) S X mw_X0_endBehind hw_3_238 (c_X0_endBehind l g aBr BrA v7 t4 ht4) (hm_mid [[(a 0, .inr (6, [.ref (a 1), .ref (a 2), .ref (a 3)]))], [hm_cz g (a 1) 191 (A 0)], [hm_cj g (a 2) 382 (J 0)], [hm_cz g (a 3) 191 (A 1)]] []) (hm_mid [[(a 0, .inr (6, [.ref (a 1), .ref (a 2), .ref (a 3)]))], [hm_cz g (a 1) 191 (A 0)], [hm_cj g (a 2) 382 (J 0)], [hm_cz g (a 3) 191 (A 1)]] [] (b := hm_wBr g aBr BrA)) rfl rfl rfl ⟨rfl, rfl, Nat.le_of_ble_eq_true rfl, Nat.le_of_ble_eq_true rfl⟩ rfl hl.1 rfl (Nat.le_of_ble_eq_true rfl) dX6_note_23 ⟨Nat.zero_le _, Nat.zero_le _⟩ (fun H locs X => ?_)
        have X := X.to (ws' := ([[(a 0, .inr (6, [.ref (a 1), .ref (a 2), .ref (a 3)]))], [hm_cz g (a 1) 191 (A 0)], [hm_cj g (a 2) 382 (J 0)], [hm_cz g (a 3) 191 (A 1)], hm_wBr g aBr BrA] : List va_W).flatten) rfl
        refine lv_istore (lv' := [(7, .int t4), (0, .ref (a 0)), (1, .int x0), (2, .ref (aBr 0)), (3, .long v3), (5, .long v5), (8, .int v8)]) hx hb dX6_note_26 hl (by decide) rfl (fun ls hl => ?_)
        refine lv_iload hx hb dX6_note_28 (lv_at hl 0 rfl) ?_
        refine lv_bipush (v := 64) hx hb dX6_note_30 (by decide) ?_
        refine lv_icmp_ge (tgt := 45) hx hb dX6_note_32 (by decide) (fun c32 => ?_) (fun c32 => ?_)
        · have hF := hm_if hF c32
          refine lv_lload hx hb dX6_note_45 (lv_at hl 5 rfl) ?_
          refine lv_lconst (v := 1) hx hb dX6_note_47 (by decide) ?_
          refine lv_iload hx hb dX6_note_48 (lv_at hl 0 rfl) ?_
          refine lv_bipush (v := 64) hx hb dX6_note_50 (by decide) ?_
          refine lv_isub hx hb dX6_note_52 ?_
          refine lv_lshl hx hb dX6_note_53 rfl ?_
          refine lv_lor hx hb dX6_note_54 ?_
          refine lv_lstore (lv' := [(5, .long (v5 ||| (1 <<< ((t4 - 64).toInt64 &&& 63)))), (7, .int t4), (0, .ref (a 0)), (1, .int x0), (2, .ref (aBr 0)), (3, .long v3), (8, .int v8)]) hx hb dX6_note_55 hl (by decide) rfl (fun ls hl => ?_)
          exact hl57 v3 (v5 ||| (1 <<< ((t4 - 64).toInt64 &&& 63))) t4 v8 hF _ _ X _ (lv_sub hl [2, 3, 4, 5, 0, 1, 6] rfl)
        · have hF := hm_nf hF c32
          refine lv_lload_n hx hb dX6_note_35 rfl (lv_at hl 4 rfl) ?_
          refine lv_lconst (v := 1) hx hb dX6_note_36 (by decide) ?_
          refine lv_iload hx hb dX6_note_37 (lv_at hl 0 rfl) ?_
          refine lv_lshl hx hb dX6_note_39 rfl ?_
          refine lv_lor hx hb dX6_note_40 ?_
          refine lv_lstore_n (lv' := [(3, .long (v3 ||| (1 <<< (t4.toInt64 &&& 63)))), (7, .int t4), (0, .ref (a 0)), (1, .int x0), (2, .ref (aBr 0)), (5, .long v5), (8, .int v8)]) hx hb dX6_note_41 rfl hl (by decide) rfl (fun ls hl => ?_)
          refine lv_goto (tgt := 57) hx hb dX6_note_42 (by decide) ?_
          exact hl57 (v3 ||| (1 <<< (t4.toInt64 &&& 63))) v5 t4 v8 hF _ _ X _ (lv_sub hl [2, 3, 4, 0, 5, 1, 6] rfl)
  unfold f_X6_note at hF
  refine lv_lconst (v := 0) hx hb dX6_note_0 (by decide) ?_
  refine lv_lstore_n (lv' := [(3, .long 0), (0, .ref (a 0)), (1, .int x0), (2, .ref (aBr 0))]) hx hb dX6_note_1 rfl hl (by decide) rfl (fun ls hl => ?_)
  refine lv_lconst (v := 0) hx hb dX6_note_2 (by decide) ?_
  refine lv_lstore (lv' := [(5, .long 0), (3, .long 0), (0, .ref (a 0)), (1, .int x0), (2, .ref (aBr 0))]) hx hb dX6_note_3 hl (by decide) rfl (fun ls hl => ?_)
  refine lv_iconst (v := (-1)) hx hb dX6_note_5 (by decide) ?_
  refine lv_istore (lv' := [(7, .int (-1)), (5, .long 0), (3, .long 0), (0, .ref (a 0)), (1, .int x0), (2, .ref (aBr 0))]) hx hb dX6_note_6 hl (by decide) rfl (fun ls hl => ?_)
  refine lv_iconst (v := 0) hx hb dX6_note_8 (by decide) ?_
  refine lv_istore (lv' := [(8, .int 0), (7, .int (-1)), (5, .long 0), (3, .long 0), (0, .ref (a 0)), (1, .int x0), (2, .ref (aBr 0))]) hx hb dX6_note_9 hl (by decide) rfl (fun ls hl => ?_)
  exact hl11 hm_fu 0 0 (-1) 0 hF _ _ X _ (lv_sub hl [4, 5, 6, 3, 2, 1, 0] rfl)
def f_X6_goThrough_l2 (LeR_0 : hm_SR) (LeR_1 : hm_SR) (LeR_2 : hm_SR) (LeR_4 : hm_SR) (LeZ_2 : Int32) (LeZ_3 : Int32) : Nat → Int32 → (Nat → Int32) → (Nat → Int32) → (Nat → Int32) → (Nat → Int32) → (Nat → Int64) → Option ((Nat → Int32) × (Nat → Int32) × (Nat → Int32) × (Nat → Int32) × (Nat → Int64))
  | 0, _, _, _, _, _, _ => none
  | k + 1, v3, wA_0, wBrA_0, wBrA_1, wBrA_2, wJ_0 =>
  if (191 : Int32) ≤ v3 then (
  some (wA_0, wBrA_0, wBrA_1, wBrA_2, wJ_0))
  else (
  (f_X0_solve wBrA_0 wBrA_1 wBrA_2 LeR_0 LeR_1 LeR_2 LeR_4 LeZ_2 LeZ_3 (10 + v3)).bind fun t1 =>
  (f_X0_hasPage t1.2.1).bind fun t2 =>
  (hm_wz 191 wA_0 v3 t2).bind fun f3 =>
  (f_X6_note wJ_0 t1.2.1 t1.2.2 v3).bind fun t4 =>
  f_X6_goThrough_l2 LeR_0 LeR_1 LeR_2 LeR_4 LeZ_2 LeZ_3 k (v3 + 1) f3 t1.1 t1.2.1 t1.2.2 t4)
theorem f_X6_goThrough_l2_s (LeR_0 : hm_SR) (LeR_1 : hm_SR) (LeR_2 : hm_SR) (LeR_4 : hm_SR) (LeZ_2 : Int32) (LeZ_3 : Int32) (k : Nat) (v3 : Int32) (wA_0 : Nat → Int32) (wBrA_0 : Nat → Int32) (wBrA_1 : Nat → Int32) (wBrA_2 : Nat → Int32) (wJ_0 : Nat → Int64) : f_X6_goThrough_l2 LeR_0 LeR_1 LeR_2 LeR_4 LeZ_2 LeZ_3 (k + 1) v3 wA_0 wBrA_0 wBrA_1 wBrA_2 wJ_0 =
  if (191 : Int32) ≤ v3 then (
  some (wA_0, wBrA_0, wBrA_1, wBrA_2, wJ_0))
  else (
  (f_X0_solve wBrA_0 wBrA_1 wBrA_2 LeR_0 LeR_1 LeR_2 LeR_4 LeZ_2 LeZ_3 (10 + v3)).bind fun t1 =>
  (f_X0_hasPage t1.2.1).bind fun t2 =>
  (hm_wz 191 wA_0 v3 t2).bind fun f3 =>
  (f_X6_note wJ_0 t1.2.1 t1.2.2 v3).bind fun t4 =>
  f_X6_goThrough_l2 LeR_0 LeR_1 LeR_2 LeR_4 LeZ_2 LeZ_3 k (v3 + 1) f3 t1.1 t1.2.1 t1.2.2 t4) := rfl
theorem f_X6_goThrough_l2_z (LeR_0 : hm_SR) (LeR_1 : hm_SR) (LeR_2 : hm_SR) (LeR_4 : hm_SR) (LeZ_2 : Int32) (LeZ_3 : Int32) (v3 : Int32) (wA_0 : Nat → Int32) (wBrA_0 : Nat → Int32) (wBrA_1 : Nat → Int32) (wBrA_2 : Nat → Int32) (wJ_0 : Nat → Int64) : f_X6_goThrough_l2 LeR_0 LeR_1 LeR_2 LeR_4 LeZ_2 LeZ_3 0 v3 wA_0 wBrA_0 wBrA_1 wBrA_2 wJ_0 = none := rfl
def f_X6_goThrough (A_0 : Nat → Int32) (J_0 : Nat → Int64) (LeR_0 : hm_SR) (LeR_1 : hm_SR) (LeR_2 : hm_SR) (LeR_4 : hm_SR) (LeZ_2 : Int32) (LeZ_3 : Int32) (BrA_0 : Nat → Int32) (BrA_1 : Nat → Int32) (BrA_2 : Nat → Int32)  : Option ((Nat → Int32) × (Nat → Int32) × (Nat → Int32) × (Nat → Int32) × (Nat → Int64)) :=
  f_X6_goThrough_l2 LeR_0 LeR_1 LeR_2 LeR_4 LeZ_2 LeZ_3 hm_fu 0 A_0 BrA_0 BrA_1 BrA_2 J_0
abbrev rm_X6_goThrough : Room := { frames := 4, cells := 0, slots := 0, locals := 101 }
set_option maxHeartbeats 4000000 in
set_option maxRecDepth 100000 in
theorem c_X6_goThrough (l : Launch) (g : hm_G) (a : Nat → Nat) (A : Nat → Nat → Int32) (J : Nat → Nat → Int64) (aLe : Nat → Nat) (LeR : Nat → hm_SR) (LeZ : Nat → Int32) (aBr : Nat → Nat) (BrA : Nat → Nat → Int32) (q : (Nat → Int32) × (Nat → Int32) × (Nat → Int32) × (Nat → Int32) × (Nat → Int64)) (hF : f_X6_goThrough (A 0) (J 0) (LeR 0) (LeR 1) (LeR 2) (LeR 4) (LeZ 2) (LeZ 3) (BrA 0) (BrA 1) (BrA 2) = some q) : hm_Mv l yX6_goThrough (Cond.code yX6_goThrough cX6_goThrough 4 none :: hm_W) rm_X6_goThrough g [.ref (a 0), .ref (aLe 0), .ref (aBr 0)] ([hm_wSu g a A J, hm_wLe g aLe LeR LeZ, hm_wBr g aBr BrA] : List va_W).flatten ([hm_wSu g a (hm_up A 0 q.1) (hm_up J 0 q.2.2.2.2), hm_wLe g aLe LeR LeZ, hm_wBr g aBr (hm_up (hm_up (hm_up BrA 0 q.2.1) 1 q.2.2.1) 2 q.2.2.2.1)] : List va_W).flatten := by
  refine hm_ofv [(0, .ref (a 0)), (1, .ref (aLe 0)), (2, .ref (aBr 0))] (by decide) (own := RX6) rfl (Nat.le_of_ble_eq_true rfl) rfl rfl ?_
  intro p e s m args below meth c AA S hr hlk X ls hl
  have hx := S.1
  have hb := S.2.1
  have hown := S.2.2.2.1
  have hts := S.2.2.2.2
  have X := X.to (ws' := ([[(a 0, .inr (6, [.ref (a 1), .ref (a 2), .ref (a 3)]))], [hm_cz g (a 1) 191 (A 0)], [hm_cj g (a 2) 382 (J 0)], [hm_cz g (a 3) 191 (A 1)], hm_wLe g aLe LeR LeZ, hm_wBr g aBr BrA] : List va_W).flatten) rfl
  have hl2 : ∀ (k2 : Nat) (v3 : Int32) (wA_0 : Nat → Int32) (wBrA_0 : Nat → Int32) (wBrA_1 : Nat → Int32) (wBrA_2 : Nat → Int32) (wJ_0 : Nat → Int64), f_X6_goThrough_l2 (LeR 0) (LeR 1) (LeR 2) (LeR 4) (LeZ 2) (LeZ 3) k2 v3 wA_0 wBrA_0 wBrA_1 wBrA_2 wJ_0 = some q → ∀ (H : Heap) (locs : List Loc), hm_X g AA s H locs ([[(a 0, .inr (6, [.ref (a 1), .ref (a 2), .ref (a 3)]))], [hm_cz g (a 1) 191 wA_0], [hm_cj g (a 2) 382 wJ_0], [hm_cz g (a 3) 191 (A 1)], hm_wLe g aLe LeR LeZ, hm_wBr g aBr (hm_up (hm_up (hm_up BrA 0 wBrA_0) 1 wBrA_1) 2 wBrA_2)] : List va_W).flatten → ∀ ls : Array Slot, lv_has ls 4 [(0, .ref (a 0)), (1, .ref (aLe 0)), (2, .ref (aBr 0)), (3, .int v3)] → W p l e rm_X6_goThrough s m args below meth c H locs 0 0 (MQ below (hm_Qv g AA ([hm_wSu g a (hm_up A 0 q.1) (hm_up J 0 q.2.2.2.2), hm_wLe g aLe LeR LeZ, hm_wBr g aBr (hm_up (hm_up (hm_up BrA 0 q.2.1) 1 q.2.2.1) 2 q.2.2.2.1)] : List va_W).flatten) args s 0 0 AA) (F0 m 2 ls []) := by
    intro k2
    induction k2 with
    | zero =>
      intro v3 wA_0 wBrA_0 wBrA_1 wBrA_2 wJ_0 hF
      rw [f_X6_goThrough_l2_z] at hF
      cases hF
    | succ k2 ih2 =>
      intro v3 wA_0 wBrA_0 wBrA_1 wBrA_2 wJ_0 hF H locs X ls hl
      rw [f_X6_goThrough_l2_s] at hF
      refine lv_iload_n hx hb dX6_goThrough_2 rfl (lv_at hl 3 rfl) ?_
      refine lv_sipush (v := 191) hx hb dX6_goThrough_3 (by decide) ?_
      refine lv_icmp_ge (tgt := 40) hx hb dX6_goThrough_6 (by decide) (fun c6 => ?_) (fun c6 => ?_)
      · have hF := hm_if hF c6
        obtain rfl := Option.some.inj hF
        exact hm_rv S hr hlk X rfl dX6_goThrough_40
      · have hF := hm_nf hF c6
        refine lv_aload_n hx hb dX6_goThrough_9 rfl (lv_at hl 2 rfl) ?_
        refine lv_aload_n hx hb dX6_goThrough_10 rfl (lv_at hl 1 rfl) ?_
        refine lv_bipush (v := 10) hx hb dX6_goThrough_11 (by decide) ?_
        refine lv_iload_n hx hb dX6_goThrough_13 rfl (lv_at hl 3 rfl) ?_
        refine lv_iadd hx hb dX6_goThrough_14 ?_
        obtain ⟨t1, ht1, hF⟩ := hm_bd hF
        refine hm_vv (As := [.ref (aLe 0), .int (10 + v3)]) S X mw_X0_solve hw_3_231 (c_X0_solve l g aBr (hm_up (hm_up (hm_up BrA 0 wBrA_0) 1 wBrA_1) 2 wBrA_2) aLe LeR LeZ (10 + v3) t1 ht1) (hm_cq (n := 6) [5, 4] [0, 1, 2, 3] rfl (by decide +kernel) rfl rfl) (hm_cq (bs := [[(a 0, .inr (6, [.ref (a 1), .ref (a 2), .ref (a 3)]))], [hm_cz g (a 1) 191 wA_0], [hm_cj g (a 2) 382 wJ_0], [hm_cz g (a 3) 191 (A 1)], hm_wLe g aLe LeR LeZ, hm_wBr g aBr (hm_up (hm_up (hm_up BrA 0 t1.1) 1 t1.2.1) 2 t1.2.2)]) (n := 6) [5, 4] [0, 1, 2, 3] rfl (by decide +kernel) rfl rfl) rfl rfl rfl ⟨rfl, rfl, Nat.le_of_ble_eq_true rfl, Nat.le_of_ble_eq_true rfl⟩ rfl hl.1 rfl (Nat.le_of_ble_eq_true rfl) dX6_goThrough_15 ⟨Nat.zero_le _, Nat.zero_le _⟩ (fun H locs X => ?_)
        have X := X.to (ws' := ([[(a 0, .inr (6, [.ref (a 1), .ref (a 2), .ref (a 3)]))], [hm_cz g (a 1) 191 wA_0], [hm_cj g (a 2) 382 wJ_0], [hm_cz g (a 3) 191 (A 1)], hm_wLe g aLe LeR LeZ, hm_wBr g aBr (hm_up (hm_up (hm_up BrA 0 t1.1) 1 t1.2.1) 2 t1.2.2)] : List va_W).flatten) rfl
        refine lv_aload_n hx hb dX6_goThrough_18 rfl (lv_at hl 0 rfl) ?_
        refine hm_get S X hf_X6_9 0 rfl rfl dX6_goThrough_19 ?_
        refine lv_iload_n hx hb dX6_goThrough_22 rfl (lv_at hl 3 rfl) ?_
        refine lv_aload_n hx hb dX6_goThrough_23 rfl (lv_at hl 2 rfl) ?_
        obtain ⟨t2, ht2, hF⟩ := hm_bd hF
        refine hm_vi (As := []) S X mw_X0_hasPage hw_3_232 (c_X0_hasPage l g aBr (hm_up (hm_up (hm_up BrA 0 t1.1) 1 t1.2.1) 2 t1.2.2) t2 ht2) (hm_mid [[(a 0, .inr (6, [.ref (a 1), .ref (a 2), .ref (a 3)]))], [hm_cz g (a 1) 191 wA_0], [hm_cj g (a 2) 382 wJ_0], [hm_cz g (a 3) 191 (A 1)], hm_wLe g aLe LeR LeZ] []) (hm_mid [[(a 0, .inr (6, [.ref (a 1), .ref (a 2), .ref (a 3)]))], [hm_cz g (a 1) 191 wA_0], [hm_cj g (a 2) 382 wJ_0], [hm_cz g (a 3) 191 (A 1)], hm_wLe g aLe LeR LeZ] [] (b := hm_wBr g aBr (hm_up (hm_up (hm_up BrA 0 t1.1) 1 t1.2.1) 2 t1.2.2))) rfl rfl rfl ⟨rfl, rfl, Nat.le_of_ble_eq_true rfl, Nat.le_of_ble_eq_true rfl⟩ rfl hl.1 rfl (Nat.le_of_ble_eq_true rfl) dX6_goThrough_24 ⟨Nat.zero_le _, Nat.zero_le _⟩ (fun H locs X => ?_)
        have X := X.to (ws' := ([[(a 0, .inr (6, [.ref (a 1), .ref (a 2), .ref (a 3)]))], [hm_cz g (a 1) 191 wA_0], [hm_cj g (a 2) 382 wJ_0], [hm_cz g (a 3) 191 (A 1)], hm_wLe g aLe LeR LeZ, hm_wBr g aBr (hm_up (hm_up (hm_up BrA 0 t1.1) 1 t1.2.1) 2 t1.2.2)] : List va_W).flatten) rfl
        obtain ⟨f3, hf3, hF⟩ := hm_bd hF
        refine hm_zast S X hf3 1 rfl dX6_goThrough_27 (fun H locs X => ?_)
        have X := X.to (ws' := ([[(a 0, .inr (6, [.ref (a 1), .ref (a 2), .ref (a 3)]))], [hm_cz g (a 1) 191 f3], [hm_cj g (a 2) 382 wJ_0], [hm_cz g (a 3) 191 (A 1)], hm_wLe g aLe LeR LeZ, hm_wBr g aBr (hm_up (hm_up (hm_up BrA 0 t1.1) 1 t1.2.1) 2 t1.2.2)] : List va_W).flatten) rfl
        refine lv_aload_n hx hb dX6_goThrough_28 rfl (lv_at hl 0 rfl) ?_
        refine lv_iload_n hx hb dX6_goThrough_29 rfl (lv_at hl 3 rfl) ?_
        refine lv_aload_n hx hb dX6_goThrough_30 rfl (lv_at hl 2 rfl) ?_
        obtain ⟨t4, ht4, hF⟩ := hm_bd hF
        refine hm_vv (As := [.int v3, .ref (aBr 0)]) S X mw_X6_note hw_3_233 (c_X6_note l g a (hm_up A 0 f3) (hm_up J 0 wJ_0) aBr (hm_up (hm_up (hm_up BrA 0 t1.1) 1 t1.2.1) 2 t1.2.2) v3 t4 ht4) (hm_cq (n := 6) [0, 1, 2, 3, 5] [4] rfl (by decide +kernel) rfl rfl) (hm_cq (bs := [[(a 0, .inr (6, [.ref (a 1), .ref (a 2), .ref (a 3)]))], [hm_cz g (a 1) 191 f3], [hm_cj g (a 2) 382 t4], [hm_cz g (a 3) 191 (A 1)], hm_wLe g aLe LeR LeZ, hm_wBr g aBr (hm_up (hm_up (hm_up BrA 0 t1.1) 1 t1.2.1) 2 t1.2.2)]) (n := 6) [0, 1, 2, 3, 5] [4] rfl (by decide +kernel) rfl rfl) rfl rfl rfl ⟨rfl, rfl, Nat.le_of_ble_eq_true rfl, Nat.le_of_ble_eq_true rfl⟩ rfl hl.1 rfl (Nat.le_of_ble_eq_true rfl) dX6_goThrough_31 ⟨Nat.zero_le _, Nat.zero_le _⟩ (fun H locs X => ?_)
        have X := X.to (ws' := ([[(a 0, .inr (6, [.ref (a 1), .ref (a 2), .ref (a 3)]))], [hm_cz g (a 1) 191 f3], [hm_cj g (a 2) 382 t4], [hm_cz g (a 3) 191 (A 1)], hm_wLe g aLe LeR LeZ, hm_wBr g aBr (hm_up (hm_up (hm_up BrA 0 t1.1) 1 t1.2.1) 2 t1.2.2)] : List va_W).flatten) rfl
        refine lv_iinc (v := (v3 + 1)) (lv' := [(3, .int (v3 + 1)), (0, .ref (a 0)), (1, .ref (aLe 0)), (2, .ref (aBr 0))]) hx hb dX6_goThrough_34 hl (k := 3) rfl rfl (by decide) rfl (fun ls hl => ?_)
        refine lv_goto (tgt := 2) hx hb dX6_goThrough_37 (by decide) ?_
        exact ih2 (v3 + 1) f3 t1.1 t1.2.1 t1.2.2 t4 hF _ _ X _ (lv_sub hl [1, 2, 3, 0] rfl)
  unfold f_X6_goThrough at hF
  refine lv_iconst (v := 0) hx hb dX6_goThrough_0 (by decide) ?_
  refine lv_istore_n (lv' := [(3, .int 0), (0, .ref (a 0)), (1, .ref (aLe 0)), (2, .ref (aBr 0))]) hx hb dX6_goThrough_1 rfl hl (by decide) rfl (fun ls hl => ?_)
  exact hl2 hm_fu 0 (A 0) (BrA 0) (BrA 1) (BrA 2) (J 0) hF _ _ (X.to (ws' := ([[(a 0, .inr (6, [.ref (a 1), .ref (a 2), .ref (a 3)]))], [hm_cz g (a 1) 191 (A 0)], [hm_cj g (a 2) 382 (J 0)], [hm_cz g (a 3) 191 (A 1)], hm_wLe g aLe LeR LeZ, hm_wBr g aBr (hm_up (hm_up (hm_up BrA 0 (BrA 0)) 1 (BrA 1)) 2 (BrA 2))] : List va_W).flatten) rfl) _ (lv_sub hl [1, 2, 3, 0] rfl)
def f_X6_endsAt (J_0 : Nat → Int64) (x0 : Int32) (x1 : Int32)  : Option (Int32) :=
  if x0 < 0 then (
  some (0))
  else (
  if (191 : Int32) ≤ x0 then (
  some (0))
  else (
  if x1 < 0 then (
  some (0))
  else (
  if x1 < 128 then (
  (hm_dv x1 64).bind fun t1 =>
  (hm_rj 382 J_0 ((x0 * 2) + t1)).bind fun t2 =>
  (hm_rm x1 64).bind fun t3 =>
  if (lg_cmp (((t2.toUInt64 >>> (t3.toInt64.toUInt64 &&& Int64.toUInt64 63)).toInt64) &&& 1) 1) = 0 then (
  some (1))
  else (
  some (0)))
  else (
  some (0)))))
abbrev rm_X6_endsAt : Room := { frames := 0, cells := 0, slots := 0, locals := 0 }
set_option maxHeartbeats 4000000 in
set_option maxRecDepth 100000 in
theorem c_X6_endsAt (l : Launch) (g : hm_G) (a : Nat → Nat) (A : Nat → Nat → Int32) (J : Nat → Nat → Int64) (x0 : Int32) (x1 : Int32) (q : Int32) (hF : f_X6_endsAt (J 0) x0 x1 = some q) : hm_Mi l yX6_endsAt (Cond.code yX6_endsAt cX6_endsAt 3 (some .boolean) :: hm_W) rm_X6_endsAt g [.ref (a 0), .int x0, .int x1] ([hm_wSu g a A J] : List va_W).flatten ([hm_wSu g a A J] : List va_W).flatten q := by
  refine hm_ofi [(0, .ref (a 0)), (1, .int x0), (2, .int x1)] (by decide) (own := RX6) rfl (Nat.le_of_ble_eq_true rfl) rfl rfl ?_
  intro p e s m args below meth c AA S hr hlk X ls hl
  have hx := S.1
  have hb := S.2.1
  have hown := S.2.2.2.1
  have hts := S.2.2.2.2
  have X := X.to (ws' := ([[(a 0, .inr (6, [.ref (a 1), .ref (a 2), .ref (a 3)]))], [hm_cz g (a 1) 191 (A 0)], [hm_cj g (a 2) 382 (J 0)], [hm_cz g (a 3) 191 (A 1)]] : List va_W).flatten) rfl
  unfold f_X6_endsAt at hF
  refine lv_iload_n hx hb dX6_endsAt_0 rfl (lv_at hl 1 rfl) ?_
  refine lv_if_lt (tgt := 22) hx hb dX6_endsAt_1 (by decide) (fun c1 => ?_) (fun c1 => ?_)
  · have hF := hm_if hF c1
    refine lv_iconst (v := 0) hx hb dX6_endsAt_22 (by decide) ?_
    obtain rfl := Option.some.inj hF
    exact hm_rz S hr hlk X rfl rfl (Or.inl rfl) dX6_endsAt_23
  · have hF := hm_nf hF c1
    refine lv_iload_n hx hb dX6_endsAt_4 rfl (lv_at hl 1 rfl) ?_
    refine lv_sipush (v := 191) hx hb dX6_endsAt_5 (by decide) ?_
    refine lv_icmp_ge (tgt := 22) hx hb dX6_endsAt_8 (by decide) (fun c8 => ?_) (fun c8 => ?_)
    · have hF := hm_if hF c8
      refine lv_iconst (v := 0) hx hb dX6_endsAt_22 (by decide) ?_
      obtain rfl := Option.some.inj hF
      exact hm_rz S hr hlk X rfl rfl (Or.inl rfl) dX6_endsAt_23
    · have hF := hm_nf hF c8
      refine lv_iload_n hx hb dX6_endsAt_11 rfl (lv_at hl 2 rfl) ?_
      refine lv_if_lt (tgt := 22) hx hb dX6_endsAt_12 (by decide) (fun c12 => ?_) (fun c12 => ?_)
      · have hF := hm_if hF c12
        refine lv_iconst (v := 0) hx hb dX6_endsAt_22 (by decide) ?_
        obtain rfl := Option.some.inj hF
        exact hm_rz S hr hlk X rfl rfl (Or.inl rfl) dX6_endsAt_23
      · have hF := hm_nf hF c12
        refine lv_iload_n hx hb dX6_endsAt_15 rfl (lv_at hl 2 rfl) ?_
        refine lv_sipush (v := 128) hx hb dX6_endsAt_16 (by decide) ?_
        refine lv_icmp_lt (tgt := 24) hx hb dX6_endsAt_19 (by decide) (fun c19 => ?_) (fun c19 => ?_)
        · have hF := hm_if hF c19
          refine lv_aload_n hx hb dX6_endsAt_24 rfl (lv_at hl 0 rfl) ?_
          refine hm_get S X hf_X6_15 0 rfl rfl dX6_endsAt_25 ?_
          refine lv_iload_n hx hb dX6_endsAt_28 rfl (lv_at hl 1 rfl) ?_
          refine lv_iconst (v := 2) hx hb dX6_endsAt_29 (by decide) ?_
          refine lv_imul hx hb dX6_endsAt_30 ?_
          refine lv_iload_n hx hb dX6_endsAt_31 rfl (lv_at hl 2 rfl) ?_
          refine lv_bipush (v := 64) hx hb dX6_endsAt_32 (by decide) ?_
          obtain ⟨t1, ht1, hF⟩ := hm_bd hF
          refine hm_idiv hx hb ht1 dX6_endsAt_34 ?_
          refine lv_iadd hx hb dX6_endsAt_35 ?_
          obtain ⟨t2, ht2, hF⟩ := hm_bd hF
          refine hm_lald S X ht2 2 rfl dX6_endsAt_36 ?_
          refine lv_iload_n hx hb dX6_endsAt_37 rfl (lv_at hl 2 rfl) ?_
          refine lv_bipush (v := 64) hx hb dX6_endsAt_38 (by decide) ?_
          obtain ⟨t3, ht3, hF⟩ := hm_bd hF
          refine hm_irem hx hb ht3 dX6_endsAt_40 ?_
          refine lv_lushr hx hb dX6_endsAt_41 rfl ?_
          refine lv_lconst (v := 1) hx hb dX6_endsAt_42 (by decide) ?_
          refine lv_land hx hb dX6_endsAt_43 ?_
          refine lv_lconst (v := 1) hx hb dX6_endsAt_44 (by decide) ?_
          refine W.lcmp hx hb dX6_endsAt_45 ?_
          refine lv_if_ne (tgt := 53) hx hb dX6_endsAt_46 (by decide) (fun c46 => ?_) (fun c46 => ?_)
          · have hF := hm_nf hF c46
            refine lv_iconst (v := 0) hx hb dX6_endsAt_53 (by decide) ?_
            obtain rfl := Option.some.inj hF
            exact hm_rz S hr hlk X rfl rfl (Or.inl rfl) dX6_endsAt_54
          · have hF := hm_if hF c46
            refine lv_iconst (v := 1) hx hb dX6_endsAt_49 (by decide) ?_
            refine lv_goto (tgt := 54) hx hb dX6_endsAt_50 (by decide) ?_
            obtain rfl := Option.some.inj hF
            exact hm_rz S hr hlk X rfl rfl (Or.inr rfl) dX6_endsAt_54
        · have hF := hm_nf hF c19
          refine lv_iconst (v := 0) hx hb dX6_endsAt_22 (by decide) ?_
          obtain rfl := Option.some.inj hF
          exact hm_rz S hr hlk X rfl rfl (Or.inl rfl) dX6_endsAt_23
def f_X6_pickAlike_l87 (J17 : Int32 → Int32 → (Nat → Int32) → Option ((Nat → Int32))) (s87_0 : Int32) (s87_1 : Int32) (v2 : Int32) (v3 : Int32) (wA_1 : Nat → Int32) : Option ((Nat → Int32)) :=
  (hm_wz 191 wA_1 s87_1 s87_0).bind fun f2 =>
  J17 v2 (v3 + 1) f2
def f_X6_pickAlike_l86 (J17 : Int32 → Int32 → (Nat → Int32) → Option ((Nat → Int32))) (s86_0 : Int32) (v2 : Int32) (v3 : Int32) (wA_1 : Nat → Int32) : Option ((Nat → Int32)) :=
  f_X6_pickAlike_l87 J17 0 s86_0 v2 v3 wA_1
def f_X6_pickAlike_l17 (A_0 : Nat → Int32) (J_0 : Nat → Int64) : Nat → Int32 → Int32 → (Nat → Int32) → Option ((Nat → Int32))
  | 0, _, _, _ => none
  | k + 1, v2, v3, wA_1 =>
  if (191 : Int32) ≤ v3 then (
  some (wA_1))
  else (
  (hm_rd 191 A_0 v3).bind fun t1 =>
  if t1 = 0 then (
  f_X6_pickAlike_l86 (fun zv2 zv3 zwA_1 => f_X6_pickAlike_l17 A_0 J_0 k zv2 zv3 zwA_1) v3 v2 v3 wA_1)
  else (
  (hm_rj 382 J_0 (v3 * 2)).bind fun t3 =>
  (hm_rj 382 J_0 (v2 * 2)).bind fun t4 =>
  if (lg_cmp t3 t4) = 0 then (
  (hm_rj 382 J_0 ((v3 * 2) + 1)).bind fun t5 =>
  (hm_rj 382 J_0 ((v2 * 2) + 1)).bind fun t6 =>
  if (lg_cmp t5 t6) = 0 then (
  f_X6_pickAlike_l87 (fun zv2 zv3 zwA_1 => f_X6_pickAlike_l17 A_0 J_0 k zv2 zv3 zwA_1) 1 v3 v2 v3 wA_1)
  else (
  f_X6_pickAlike_l86 (fun zv2 zv3 zwA_1 => f_X6_pickAlike_l17 A_0 J_0 k zv2 zv3 zwA_1) v3 v2 v3 wA_1))
  else (
  f_X6_pickAlike_l86 (fun zv2 zv3 zwA_1 => f_X6_pickAlike_l17 A_0 J_0 k zv2 zv3 zwA_1) v3 v2 v3 wA_1)))
theorem f_X6_pickAlike_l17_s (A_0 : Nat → Int32) (J_0 : Nat → Int64) (k : Nat) (v2 : Int32) (v3 : Int32) (wA_1 : Nat → Int32) : f_X6_pickAlike_l17 A_0 J_0 (k + 1) v2 v3 wA_1 =
  if (191 : Int32) ≤ v3 then (
  some (wA_1))
  else (
  (hm_rd 191 A_0 v3).bind fun t1 =>
  if t1 = 0 then (
  f_X6_pickAlike_l86 (fun zv2 zv3 zwA_1 => f_X6_pickAlike_l17 A_0 J_0 k zv2 zv3 zwA_1) v3 v2 v3 wA_1)
  else (
  (hm_rj 382 J_0 (v3 * 2)).bind fun t3 =>
  (hm_rj 382 J_0 (v2 * 2)).bind fun t4 =>
  if (lg_cmp t3 t4) = 0 then (
  (hm_rj 382 J_0 ((v3 * 2) + 1)).bind fun t5 =>
  (hm_rj 382 J_0 ((v2 * 2) + 1)).bind fun t6 =>
  if (lg_cmp t5 t6) = 0 then (
  f_X6_pickAlike_l87 (fun zv2 zv3 zwA_1 => f_X6_pickAlike_l17 A_0 J_0 k zv2 zv3 zwA_1) 1 v3 v2 v3 wA_1)
  else (
  f_X6_pickAlike_l86 (fun zv2 zv3 zwA_1 => f_X6_pickAlike_l17 A_0 J_0 k zv2 zv3 zwA_1) v3 v2 v3 wA_1))
  else (
  f_X6_pickAlike_l86 (fun zv2 zv3 zwA_1 => f_X6_pickAlike_l17 A_0 J_0 k zv2 zv3 zwA_1) v3 v2 v3 wA_1))) := rfl
theorem f_X6_pickAlike_l17_z (A_0 : Nat → Int32) (J_0 : Nat → Int64) (v2 : Int32) (v3 : Int32) (wA_1 : Nat → Int32) : f_X6_pickAlike_l17 A_0 J_0 0 v2 v3 wA_1 = none := rfl
def f_X6_pickAlike (A_0 : Nat → Int32) (A_1 : Nat → Int32) (J_0 : Nat → Int64) (x0 : Int32)  : Option ((Nat → Int32)) :=
  f_X6_pickAlike_l17 A_0 J_0 hm_fu (if 0 < (if (x0 - 10) < 190 then (x0 - 10) else 190) then (if (x0 - 10) < 190 then (x0 - 10) else 190) else 0) 0 A_1
abbrev rm_X6_pickAlike : Room := { frames := 1, cells := 0, slots := 0, locals := 21 }
set_option maxHeartbeats 4000000 in
set_option maxRecDepth 100000 in
theorem c_X6_pickAlike (l : Launch) (g : hm_G) (a : Nat → Nat) (A : Nat → Nat → Int32) (J : Nat → Nat → Int64) (x0 : Int32) (q : (Nat → Int32)) (hF : f_X6_pickAlike (A 0) (A 1) (J 0) x0 = some q) : hm_Mv l yX6_pickAlike (Cond.code yX6_pickAlike cX6_pickAlike 4 none :: hm_W) rm_X6_pickAlike g [.ref (a 0), .int x0] ([hm_wSu g a A J] : List va_W).flatten ([hm_wSu g a (hm_up A 1 q) J] : List va_W).flatten := by
  refine hm_ofv [(0, .ref (a 0)), (1, .int x0)] (by decide) (own := RX6) rfl (Nat.le_of_ble_eq_true rfl) rfl rfl ?_
  intro p e s m args below meth c AA S hr hlk X ls hl
  have hx := S.1
  have hb := S.2.1
  have hown := S.2.2.2.1
  have hts := S.2.2.2.2
  have X := X.to (ws' := ([[(a 0, .inr (6, [.ref (a 1), .ref (a 2), .ref (a 3)]))], [hm_cz g (a 1) 191 (A 0)], [hm_cj g (a 2) 382 (J 0)], [hm_cz g (a 3) 191 (A 1)]] : List va_W).flatten) rfl
  have hl17 : ∀ (k17 : Nat) (v2 : Int32) (v3 : Int32) (wA_1 : Nat → Int32), f_X6_pickAlike_l17 (A 0) (J 0) k17 v2 v3 wA_1 = some q → ∀ (H : Heap) (locs : List Loc), hm_X g AA s H locs ([[(a 0, .inr (6, [.ref (a 1), .ref (a 2), .ref (a 3)]))], [hm_cz g (a 1) 191 (A 0)], [hm_cj g (a 2) 382 (J 0)], [hm_cz g (a 3) 191 wA_1]] : List va_W).flatten → ∀ ls : Array Slot, lv_has ls 4 [(0, .ref (a 0)), (2, .int v2), (3, .int v3)] → W p l e rm_X6_pickAlike s m args below meth c H locs 0 0 (MQ below (hm_Qv g AA ([hm_wSu g a (hm_up A 1 q) J] : List va_W).flatten) args s 0 0 AA) (F0 m 17 ls []) := by
    intro k17
    induction k17 with
    | zero =>
      intro v2 v3 wA_1 hF
      rw [f_X6_pickAlike_l17_z] at hF
      cases hF
    | succ k17 ih17 =>
      have hl87 : ∀ (s87_0 : Int32) (s87_1 : Int32) (v2 : Int32) (v3 : Int32) (wA_1 : Nat → Int32), f_X6_pickAlike_l87 (fun zv2 zv3 zwA_1 => f_X6_pickAlike_l17 (A 0) (J 0) k17 zv2 zv3 zwA_1) s87_0 s87_1 v2 v3 wA_1 = some q → ∀ (H : Heap) (locs : List Loc), hm_X g AA s H locs ([[(a 0, .inr (6, [.ref (a 1), .ref (a 2), .ref (a 3)]))], [hm_cz g (a 1) 191 (A 0)], [hm_cj g (a 2) 382 (J 0)], [hm_cz g (a 3) 191 wA_1]] : List va_W).flatten → ∀ ls : Array Slot, lv_has ls 4 [(0, .ref (a 0)), (2, .int v2), (3, .int v3)] → W p l e rm_X6_pickAlike s m args below meth c H locs 0 0 (MQ below (hm_Qv g AA ([hm_wSu g a (hm_up A 1 q) J] : List va_W).flatten) args s 0 0 AA) (F0 m 87 ls [.int s87_0, .int s87_1, .ref (a 3)]) := by
        intro s87_0 s87_1 v2 v3 wA_1 hF H locs X ls hl
        unfold f_X6_pickAlike_l87 at hF
        obtain ⟨f2, hf2, hF⟩ := hm_bd hF
        refine hm_zast S X hf2 3 rfl dX6_pickAlike_87 (fun H locs X => ?_)
        have X := X.to (ws' := ([[(a 0, .inr (6, [.ref (a 1), .ref (a 2), .ref (a 3)]))], [hm_cz g (a 1) 191 (A 0)], [hm_cj g (a 2) 382 (J 0)], [hm_cz g (a 3) 191 f2]] : List va_W).flatten) rfl
        refine lv_iinc (v := (v3 + 1)) (lv' := [(3, .int (v3 + 1)), (0, .ref (a 0)), (2, .int v2)]) hx hb dX6_pickAlike_88 hl (k := 2) rfl rfl (by decide) rfl (fun ls hl => ?_)
        refine lv_goto (tgt := 17) hx hb dX6_pickAlike_91 (by decide) ?_
        exact ih17 v2 (v3 + 1) f2 hF _ _ X _ (lv_sub hl [1, 2, 0] rfl)
      have hl86 : ∀ (s86_0 : Int32) (v2 : Int32) (v3 : Int32) (wA_1 : Nat → Int32), f_X6_pickAlike_l86 (fun zv2 zv3 zwA_1 => f_X6_pickAlike_l17 (A 0) (J 0) k17 zv2 zv3 zwA_1) s86_0 v2 v3 wA_1 = some q → ∀ (H : Heap) (locs : List Loc), hm_X g AA s H locs ([[(a 0, .inr (6, [.ref (a 1), .ref (a 2), .ref (a 3)]))], [hm_cz g (a 1) 191 (A 0)], [hm_cj g (a 2) 382 (J 0)], [hm_cz g (a 3) 191 wA_1]] : List va_W).flatten → ∀ ls : Array Slot, lv_has ls 4 [(0, .ref (a 0)), (2, .int v2), (3, .int v3)] → W p l e rm_X6_pickAlike s m args below meth c H locs 0 0 (MQ below (hm_Qv g AA ([hm_wSu g a (hm_up A 1 q) J] : List va_W).flatten) args s 0 0 AA) (F0 m 86 ls [.int s86_0, .ref (a 3)]) := by
        intro s86_0 v2 v3 wA_1 hF H locs X ls hl
        unfold f_X6_pickAlike_l86 at hF
        refine lv_iconst (v := 0) hx hb dX6_pickAlike_86 (by decide) ?_
        exact hl87 0 s86_0 v2 v3 wA_1 hF _ _ X _ (lv_sub hl [0, 1, 2] rfl)
      intro v2 v3 wA_1 hF H locs X ls hl
      rw [f_X6_pickAlike_l17_s] at hF
      refine lv_iload_n hx hb dX6_pickAlike_17 rfl (lv_at hl 2 rfl) ?_
      refine lv_sipush (v := 191) hx hb dX6_pickAlike_18 (by decide) ?_
      refine lv_icmp_ge (tgt := 94) hx hb dX6_pickAlike_21 (by decide) (fun c21 => ?_) (fun c21 => ?_)
      · have hF := hm_if hF c21
        obtain rfl := Option.some.inj hF
        exact hm_rv S hr hlk X rfl dX6_pickAlike_94
      · have hF := hm_nf hF c21
        refine lv_aload_n hx hb dX6_pickAlike_24 rfl (lv_at hl 0 rfl) ?_
        refine hm_get S X hf_X6_19 0 rfl rfl dX6_pickAlike_25 ?_
        refine lv_iload_n hx hb dX6_pickAlike_28 rfl (lv_at hl 2 rfl) ?_
        refine lv_aload_n hx hb dX6_pickAlike_29 rfl (lv_at hl 0 rfl) ?_
        refine hm_get S X hf_X6_9 0 rfl rfl dX6_pickAlike_30 ?_
        refine lv_iload_n hx hb dX6_pickAlike_33 rfl (lv_at hl 2 rfl) ?_
        obtain ⟨t1, ht1, hF⟩ := hm_bd hF
        refine hm_zald S X ht1 1 rfl dX6_pickAlike_34 ?_
        refine lv_if_eq (tgt := 86) hx hb dX6_pickAlike_35 (by decide) (fun c35 => ?_) (fun c35 => ?_)
        · have hF := hm_if hF c35
          exact hl86 v3 v2 v3 wA_1 hF _ _ X _ (lv_sub hl [0, 1, 2] rfl)
        · have hF := hm_nf hF c35
          refine lv_aload_n hx hb dX6_pickAlike_38 rfl (lv_at hl 0 rfl) ?_
          refine hm_get S X hf_X6_15 0 rfl rfl dX6_pickAlike_39 ?_
          refine lv_iload_n hx hb dX6_pickAlike_42 rfl (lv_at hl 2 rfl) ?_
          refine lv_iconst (v := 2) hx hb dX6_pickAlike_43 (by decide) ?_
          refine lv_imul hx hb dX6_pickAlike_44 ?_
          obtain ⟨t3, ht3, hF⟩ := hm_bd hF
          refine hm_lald S X ht3 2 rfl dX6_pickAlike_45 ?_
          refine lv_aload_n hx hb dX6_pickAlike_46 rfl (lv_at hl 0 rfl) ?_
          refine hm_get S X hf_X6_15 0 rfl rfl dX6_pickAlike_47 ?_
          refine lv_iload_n hx hb dX6_pickAlike_50 rfl (lv_at hl 1 rfl) ?_
          refine lv_iconst (v := 2) hx hb dX6_pickAlike_51 (by decide) ?_
          refine lv_imul hx hb dX6_pickAlike_52 ?_
          obtain ⟨t4, ht4, hF⟩ := hm_bd hF
          refine hm_lald S X ht4 2 rfl dX6_pickAlike_53 ?_
          refine W.lcmp hx hb dX6_pickAlike_54 ?_
          refine lv_if_ne (tgt := 86) hx hb dX6_pickAlike_55 (by decide) (fun c55 => ?_) (fun c55 => ?_)
          · have hF := hm_nf hF c55
            exact hl86 v3 v2 v3 wA_1 hF _ _ X _ (lv_sub hl [0, 1, 2] rfl)
          · have hF := hm_if hF c55
            refine lv_aload_n hx hb dX6_pickAlike_58 rfl (lv_at hl 0 rfl) ?_
            refine hm_get S X hf_X6_15 0 rfl rfl dX6_pickAlike_59 ?_
            refine lv_iload_n hx hb dX6_pickAlike_62 rfl (lv_at hl 2 rfl) ?_
            refine lv_iconst (v := 2) hx hb dX6_pickAlike_63 (by decide) ?_
            refine lv_imul hx hb dX6_pickAlike_64 ?_
            refine lv_iconst (v := 1) hx hb dX6_pickAlike_65 (by decide) ?_
            refine lv_iadd hx hb dX6_pickAlike_66 ?_
            obtain ⟨t5, ht5, hF⟩ := hm_bd hF
            refine hm_lald S X ht5 2 rfl dX6_pickAlike_67 ?_
            refine lv_aload_n hx hb dX6_pickAlike_68 rfl (lv_at hl 0 rfl) ?_
            refine hm_get S X hf_X6_15 0 rfl rfl dX6_pickAlike_69 ?_
            refine lv_iload_n hx hb dX6_pickAlike_72 rfl (lv_at hl 1 rfl) ?_
            refine lv_iconst (v := 2) hx hb dX6_pickAlike_73 (by decide) ?_
            refine lv_imul hx hb dX6_pickAlike_74 ?_
            refine lv_iconst (v := 1) hx hb dX6_pickAlike_75 (by decide) ?_
            refine lv_iadd hx hb dX6_pickAlike_76 ?_
            obtain ⟨t6, ht6, hF⟩ := hm_bd hF
            refine hm_lald S X ht6 2 rfl dX6_pickAlike_77 ?_
            refine W.lcmp hx hb dX6_pickAlike_78 ?_
            refine lv_if_ne (tgt := 86) hx hb dX6_pickAlike_79 (by decide) (fun c79 => ?_) (fun c79 => ?_)
            · have hF := hm_nf hF c79
              exact hl86 v3 v2 v3 wA_1 hF _ _ X _ (lv_sub hl [0, 1, 2] rfl)
            · have hF := hm_if hF c79
              refine lv_iconst (v := 1) hx hb dX6_pickAlike_82 (by decide) ?_
              refine lv_goto (tgt := 87) hx hb dX6_pickAlike_83 (by decide) ?_
              exact hl87 1 v3 v2 v3 wA_1 hF _ _ X _ (lv_sub hl [0, 1, 2] rfl)
  unfold f_X6_pickAlike at hF
  refine lv_iconst (v := 0) hx hb dX6_pickAlike_0 (by decide) ?_
  refine lv_sipush (v := 190) hx hb dX6_pickAlike_1 (by decide) ?_
  refine lv_iload_n hx hb dX6_pickAlike_4 rfl (lv_at hl 1 rfl) ?_
  refine lv_bipush (v := 10) hx hb dX6_pickAlike_5 (by decide) ?_
  refine lv_isub hx hb dX6_pickAlike_7 ?_
  refine hm_mmin S hl.1 hw_4_3 (Nat.le_of_ble_eq_true rfl) (Nat.le_of_ble_eq_true rfl) (Nat.zero_le _) (Nat.zero_le _) dX6_pickAlike_8 ?_
  refine hm_mmax S hl.1 hw_4_4 (Nat.le_of_ble_eq_true rfl) (Nat.le_of_ble_eq_true rfl) (Nat.zero_le _) (Nat.zero_le _) dX6_pickAlike_11 ?_
  refine lv_istore_n (lv' := [(2, .int (if 0 < (if (x0 - 10) < 190 then (x0 - 10) else 190) then (if (x0 - 10) < 190 then (x0 - 10) else 190) else 0)), (0, .ref (a 0)), (1, .int x0)]) hx hb dX6_pickAlike_14 rfl hl (by decide) rfl (fun ls hl => ?_)
  refine lv_iconst (v := 0) hx hb dX6_pickAlike_15 (by decide) ?_
  refine lv_istore_n (lv' := [(3, .int 0), (2, .int (if 0 < (if (x0 - 10) < 190 then (x0 - 10) else 190) then (if (x0 - 10) < 190 then (x0 - 10) else 190) else 0)), (0, .ref (a 0)), (1, .int x0)]) hx hb dX6_pickAlike_16 rfl hl (by decide) rfl (fun ls hl => ?_)
  exact hl17 hm_fu (if 0 < (if (x0 - 10) < 190 then (x0 - 10) else 190) then (if (x0 - 10) < 190 then (x0 - 10) else 190) else 0) 0 (A 1) hF _ _ X _ (lv_sub hl [2, 1, 0] rfl)
def f_X6_beginsLine_l19   : Option (Int32) :=
  some (1)
def f_X6_beginsLine (J_0 : Nat → Int64) (ScR_4 : hm_SR) (x0 : Int32) (x1 : Int32)  : Option (Int32) :=
  if x1 = 0 then (
  f_X6_beginsLine_l19)
  else (
  (f_X3_lastPlaceOf ScR_4 (x1 - 1)).bind fun t1 =>
  (f_X6_endsAt J_0 x0 t1).bind fun t2 =>
  if t2 = 0 then (
  some (0))
  else (
  f_X6_beginsLine_l19))
abbrev rm_X6_beginsLine : Room := { frames := 2, cells := 0, slots := 0, locals := 42 }
set_option maxHeartbeats 4000000 in
set_option maxRecDepth 100000 in
theorem c_X6_beginsLine (l : Launch) (g : hm_G) (a : Nat → Nat) (A : Nat → Nat → Int32) (J : Nat → Nat → Int64) (aSc : Nat → Nat) (ScR : Nat → hm_SR) (x0 : Int32) (x1 : Int32) (q : Int32) (hF : f_X6_beginsLine (J 0) (ScR 4) x0 x1 = some q) : hm_Mi l yX6_beginsLine (Cond.code yX6_beginsLine cX6_beginsLine 4 (some .boolean) :: hm_W) rm_X6_beginsLine g [.ref (a 0), .int x0, .ref (aSc 0), .int x1] ([hm_wSu g a A J, hm_wSc g aSc ScR] : List va_W).flatten ([hm_wSu g a A J, hm_wSc g aSc ScR] : List va_W).flatten q := by
  refine hm_ofi [(0, .ref (a 0)), (1, .int x0), (2, .ref (aSc 0)), (3, .int x1)] (by decide) (own := RX6) rfl (Nat.le_of_ble_eq_true rfl) rfl rfl ?_
  intro p e s m args below meth c AA S hr hlk X ls hl
  have hx := S.1
  have hb := S.2.1
  have hown := S.2.2.2.1
  have hts := S.2.2.2.2
  have X := X.to (ws' := ([[(a 0, .inr (6, [.ref (a 1), .ref (a 2), .ref (a 3)]))], [hm_cz g (a 1) 191 (A 0)], [hm_cj g (a 2) 382 (J 0)], [hm_cz g (a 3) 191 (A 1)], hm_wSc g aSc ScR] : List va_W).flatten) rfl
  have hl19 : f_X6_beginsLine_l19 = some q → ∀ (H : Heap) (locs : List Loc), hm_X g AA s H locs ([[(a 0, .inr (6, [.ref (a 1), .ref (a 2), .ref (a 3)]))], [hm_cz g (a 1) 191 (A 0)], [hm_cj g (a 2) 382 (J 0)], [hm_cz g (a 3) 191 (A 1)], hm_wSc g aSc ScR] : List va_W).flatten → ∀ ls : Array Slot, lv_has ls 4 [] → W p l e rm_X6_beginsLine s m args below meth c H locs 0 0 (MQ below (hm_Qi g AA ([hm_wSu g a A J, hm_wSc g aSc ScR] : List va_W).flatten q) args s 0 0 AA) (F0 m 19 ls []) := by
    intro hF H locs X ls hl
    unfold f_X6_beginsLine_l19 at hF
    refine lv_iconst (v := 1) hx hb dX6_beginsLine_19 (by decide) ?_
    refine lv_goto (tgt := 24) hx hb dX6_beginsLine_20 (by decide) ?_
    obtain rfl := Option.some.inj hF
    exact hm_rz S hr hlk X rfl rfl (Or.inr rfl) dX6_beginsLine_24
  unfold f_X6_beginsLine at hF
  refine lv_iload_n hx hb dX6_beginsLine_0 rfl (lv_at hl 3 rfl) ?_
  refine lv_if_eq (tgt := 19) hx hb dX6_beginsLine_1 (by decide) (fun c1 => ?_) (fun c1 => ?_)
  · have hF := hm_if hF c1
    exact hl19  hF _ _ X _ (lv_sub hl [] rfl)
  · have hF := hm_nf hF c1
    refine lv_aload_n hx hb dX6_beginsLine_4 rfl (lv_at hl 0 rfl) ?_
    refine lv_iload_n hx hb dX6_beginsLine_5 rfl (lv_at hl 1 rfl) ?_
    refine lv_aload_n hx hb dX6_beginsLine_6 rfl (lv_at hl 2 rfl) ?_
    refine lv_iload_n hx hb dX6_beginsLine_7 rfl (lv_at hl 3 rfl) ?_
    refine lv_iconst (v := 1) hx hb dX6_beginsLine_8 (by decide) ?_
    refine lv_isub hx hb dX6_beginsLine_9 ?_
    obtain ⟨t1, ht1, hF⟩ := hm_bd hF
    refine hm_vi (As := [.int (x1 - 1)]) S X mw_X3_lastPlaceOf hw_4_31 (c_X3_lastPlaceOf l g aSc ScR (x1 - 1) t1 ht1) (hm_mid [[(a 0, .inr (6, [.ref (a 1), .ref (a 2), .ref (a 3)]))], [hm_cz g (a 1) 191 (A 0)], [hm_cj g (a 2) 382 (J 0)], [hm_cz g (a 3) 191 (A 1)]] []) (hm_mid [[(a 0, .inr (6, [.ref (a 1), .ref (a 2), .ref (a 3)]))], [hm_cz g (a 1) 191 (A 0)], [hm_cj g (a 2) 382 (J 0)], [hm_cz g (a 3) 191 (A 1)]] [] (b := hm_wSc g aSc ScR)) rfl rfl rfl ⟨rfl, rfl, Nat.le_of_ble_eq_true rfl, Nat.le_of_ble_eq_true rfl⟩ rfl hl.1 rfl (Nat.le_of_ble_eq_true rfl) dX6_beginsLine_10 ⟨Nat.zero_le _, Nat.zero_le _⟩ (fun H locs X => ?_)
    have X := X.to (ws' := ([[(a 0, .inr (6, [.ref (a 1), .ref (a 2), .ref (a 3)]))], [hm_cz g (a 1) 191 (A 0)], [hm_cj g (a 2) 382 (J 0)], [hm_cz g (a 3) 191 (A 1)], hm_wSc g aSc ScR] : List va_W).flatten) rfl
    obtain ⟨t2, ht2, hF⟩ := hm_bd hF
    refine hm_vi (As := [.int x0, .int t1]) S X mw_X6_endsAt hw_4_35 (c_X6_endsAt l g a A J x0 t1 t2 ht2) (hm_cq (n := 5) [0, 1, 2, 3] [4] rfl (by decide +kernel) rfl rfl) (hm_cq (bs := [[(a 0, .inr (6, [.ref (a 1), .ref (a 2), .ref (a 3)]))], [hm_cz g (a 1) 191 (A 0)], [hm_cj g (a 2) 382 (J 0)], [hm_cz g (a 3) 191 (A 1)], hm_wSc g aSc ScR]) (n := 5) [0, 1, 2, 3] [4] rfl (by decide +kernel) rfl rfl) rfl rfl rfl ⟨rfl, rfl, Nat.le_of_ble_eq_true rfl, Nat.le_of_ble_eq_true rfl⟩ rfl hl.1 rfl (Nat.le_of_ble_eq_true rfl) dX6_beginsLine_13 ⟨Nat.zero_le _, Nat.zero_le _⟩ (fun H locs X => ?_)
    have X := X.to (ws' := ([[(a 0, .inr (6, [.ref (a 1), .ref (a 2), .ref (a 3)]))], [hm_cz g (a 1) 191 (A 0)], [hm_cj g (a 2) 382 (J 0)], [hm_cz g (a 3) 191 (A 1)], hm_wSc g aSc ScR] : List va_W).flatten) rfl
    refine lv_if_eq (tgt := 23) hx hb dX6_beginsLine_16 (by decide) (fun c16 => ?_) (fun c16 => ?_)
    · have hF := hm_if hF c16
      refine lv_iconst (v := 0) hx hb dX6_beginsLine_23 (by decide) ?_
      obtain rfl := Option.some.inj hF
      exact hm_rz S hr hlk X rfl rfl (Or.inl rfl) dX6_beginsLine_24
    · have hF := hm_nf hF c16
      exact hl19  hF _ _ X _ (lv_sub hl [] rfl)
def f_X6_pickSeen_l100 (J3 : Int32 → (Nat → Int32) → Option ((Nat → Int32))) (v4 : Int32) (wA_1 : Nat → Int32) : Option ((Nat → Int32)) :=
  J3 (v4 + 1) wA_1
def f_X6_pickSeen_l93 (J3 : Int32 → (Nat → Int32) → Option ((Nat → Int32))) (J28 : Int32 → Int32 → (Nat → Int32) → Option ((Nat → Int32))) (s93_0 : Int32) (s93_1 : Int32) (v4 : Int32) (v5 : Int32) (wA_1 : Nat → Int32) : Option ((Nat → Int32)) :=
  (hm_wz 191 wA_1 s93_1 s93_0).bind fun f7 =>
  J28 v4 (v5 + 1) f7
def f_X6_pickSeen_l92 (J3 : Int32 → (Nat → Int32) → Option ((Nat → Int32))) (J28 : Int32 → Int32 → (Nat → Int32) → Option ((Nat → Int32))) (s92_0 : Int32) (v4 : Int32) (v5 : Int32) (wA_1 : Nat → Int32) : Option ((Nat → Int32)) :=
  f_X6_pickSeen_l93 J3 J28 0 s92_0 v4 v5 wA_1
def f_X6_pickSeen_l85 (J3 : Int32 → (Nat → Int32) → Option ((Nat → Int32))) (J28 : Int32 → Int32 → (Nat → Int32) → Option ((Nat → Int32))) (s85_0 : Int32) (s85_1 : Int32) (s85_2 : Int32) (v4 : Int32) (v5 : Int32) (wA_1 : Nat → Int32) : Option ((Nat → Int32)) :=
  if s85_1 = s85_0 then (
  f_X6_pickSeen_l93 J3 J28 1 s85_2 v4 v5 wA_1)
  else (
  f_X6_pickSeen_l92 J3 J28 s85_2 v4 v5 wA_1)
def f_X6_pickSeen_l28 (J3 : Int32 → (Nat → Int32) → Option ((Nat → Int32))) (J_0 : Nat → Int64) (ScR_4 : hm_SR) (n1 : Nat) (r1 : hm_SR) (n2 : Nat) (r2 : hm_SR) : Nat → Int32 → Int32 → (Nat → Int32) → Option ((Nat → Int32))
  | 0, _, _, _ => none
  | k + 1, v4, v5, wA_1 =>
  (f_X2_size r1).bind fun t3 =>
  if t3 ≤ v5 then (
  f_X6_pickSeen_l100 J3 v4 wA_1)
  else (
  (f_X2_get n1 r1 v5).bind fun t4 =>
  (f_X6_beginsLine J_0 ScR_4 v4 t4).bind fun t5 =>
  (hm_rd 191 wA_1 v4).bind fun t6 =>
  if t6 = 0 then (
  f_X6_pickSeen_l92 J3 (fun zv4 zv5 zwA_1 => f_X6_pickSeen_l28 J3 J_0 ScR_4 n1 r1 n2 r2 k zv4 zv5 zwA_1) v4 v4 v5 wA_1)
  else (
  (f_X2_get n2 r2 v5).bind fun t8 =>
  if t8 = 1 then (
  f_X6_pickSeen_l85 J3 (fun zv4 zv5 zwA_1 => f_X6_pickSeen_l28 J3 J_0 ScR_4 n1 r1 n2 r2 k zv4 zv5 zwA_1) 1 t5 v4 v4 v5 wA_1)
  else (
  f_X6_pickSeen_l85 J3 (fun zv4 zv5 zwA_1 => f_X6_pickSeen_l28 J3 J_0 ScR_4 n1 r1 n2 r2 k zv4 zv5 zwA_1) 0 t5 v4 v4 v5 wA_1)))
theorem f_X6_pickSeen_l28_s (J3 : Int32 → (Nat → Int32) → Option ((Nat → Int32))) (J_0 : Nat → Int64) (ScR_4 : hm_SR) (n1 : Nat) (r1 : hm_SR) (n2 : Nat) (r2 : hm_SR) (k : Nat) (v4 : Int32) (v5 : Int32) (wA_1 : Nat → Int32) : f_X6_pickSeen_l28 J3 J_0 ScR_4 n1 r1 n2 r2 (k + 1) v4 v5 wA_1 =
  (f_X2_size r1).bind fun t3 =>
  if t3 ≤ v5 then (
  f_X6_pickSeen_l100 J3 v4 wA_1)
  else (
  (f_X2_get n1 r1 v5).bind fun t4 =>
  (f_X6_beginsLine J_0 ScR_4 v4 t4).bind fun t5 =>
  (hm_rd 191 wA_1 v4).bind fun t6 =>
  if t6 = 0 then (
  f_X6_pickSeen_l92 J3 (fun zv4 zv5 zwA_1 => f_X6_pickSeen_l28 J3 J_0 ScR_4 n1 r1 n2 r2 k zv4 zv5 zwA_1) v4 v4 v5 wA_1)
  else (
  (f_X2_get n2 r2 v5).bind fun t8 =>
  if t8 = 1 then (
  f_X6_pickSeen_l85 J3 (fun zv4 zv5 zwA_1 => f_X6_pickSeen_l28 J3 J_0 ScR_4 n1 r1 n2 r2 k zv4 zv5 zwA_1) 1 t5 v4 v4 v5 wA_1)
  else (
  f_X6_pickSeen_l85 J3 (fun zv4 zv5 zwA_1 => f_X6_pickSeen_l28 J3 J_0 ScR_4 n1 r1 n2 r2 k zv4 zv5 zwA_1) 0 t5 v4 v4 v5 wA_1))) := rfl
theorem f_X6_pickSeen_l28_z (J3 : Int32 → (Nat → Int32) → Option ((Nat → Int32))) (J_0 : Nat → Int64) (ScR_4 : hm_SR) (n1 : Nat) (r1 : hm_SR) (n2 : Nat) (r2 : hm_SR) (v4 : Int32) (v5 : Int32) (wA_1 : Nat → Int32) : f_X6_pickSeen_l28 J3 J_0 ScR_4 n1 r1 n2 r2 0 v4 v5 wA_1 = none := rfl
def f_X6_pickSeen_l3 (A_0 : Nat → Int32) (J_0 : Nat → Int64) (ScR_4 : hm_SR) (n1 : Nat) (r1 : hm_SR) (n2 : Nat) (r2 : hm_SR) : Nat → Int32 → (Nat → Int32) → Option ((Nat → Int32))
  | 0, _, _ => none
  | k + 1, v4, wA_1 =>
  if (191 : Int32) ≤ v4 then (
  some (wA_1))
  else (
  (hm_rd 191 A_0 v4).bind fun t1 =>
  (hm_wz 191 wA_1 v4 t1).bind fun f2 =>
  f_X6_pickSeen_l28 (fun zv4 zwA_1 => f_X6_pickSeen_l3 A_0 J_0 ScR_4 n1 r1 n2 r2 k zv4 zwA_1) J_0 ScR_4 n1 r1 n2 r2 hm_fu v4 0 f2)
theorem f_X6_pickSeen_l3_s (A_0 : Nat → Int32) (J_0 : Nat → Int64) (ScR_4 : hm_SR) (n1 : Nat) (r1 : hm_SR) (n2 : Nat) (r2 : hm_SR) (k : Nat) (v4 : Int32) (wA_1 : Nat → Int32) : f_X6_pickSeen_l3 A_0 J_0 ScR_4 n1 r1 n2 r2 (k + 1) v4 wA_1 =
  if (191 : Int32) ≤ v4 then (
  some (wA_1))
  else (
  (hm_rd 191 A_0 v4).bind fun t1 =>
  (hm_wz 191 wA_1 v4 t1).bind fun f2 =>
  f_X6_pickSeen_l28 (fun zv4 zwA_1 => f_X6_pickSeen_l3 A_0 J_0 ScR_4 n1 r1 n2 r2 k zv4 zwA_1) J_0 ScR_4 n1 r1 n2 r2 hm_fu v4 0 f2) := rfl
theorem f_X6_pickSeen_l3_z (A_0 : Nat → Int32) (J_0 : Nat → Int64) (ScR_4 : hm_SR) (n1 : Nat) (r1 : hm_SR) (n2 : Nat) (r2 : hm_SR) (v4 : Int32) (wA_1 : Nat → Int32) : f_X6_pickSeen_l3 A_0 J_0 ScR_4 n1 r1 n2 r2 0 v4 wA_1 = none := rfl
def f_X6_pickSeen (A_0 : Nat → Int32) (A_1 : Nat → Int32) (J_0 : Nat → Int64) (ScR_4 : hm_SR) (n1 : Nat) (r1 : hm_SR) (n2 : Nat) (r2 : hm_SR)  : Option ((Nat → Int32)) :=
  f_X6_pickSeen_l3 A_0 J_0 ScR_4 n1 r1 n2 r2 hm_fu 0 A_1
abbrev rm_X6_pickSeen : Room := { frames := 3, cells := 0, slots := 0, locals := 65 }
set_option maxHeartbeats 4000000 in
set_option maxRecDepth 100000 in
theorem c_X6_pickSeen (l : Launch) (g : hm_G) (a : Nat → Nat) (A : Nat → Nat → Int32) (J : Nat → Nat → Int64) (aSc : Nat → Nat) (ScR : Nat → hm_SR) (h1 b1 n1 : Nat) (r1 : hm_SR) (h2 b2 n2 : Nat) (r2 : hm_SR) (q : (Nat → Int32)) (hF : f_X6_pickSeen (A 0) (A 1) (J 0) (ScR 4) n1 r1 n2 r2 = some q) : hm_Mv l yX6_pickSeen (Cond.code yX6_pickSeen cX6_pickSeen 7 none :: hm_W) rm_X6_pickSeen g [.ref (a 0), .ref (aSc 0), .ref h1, .ref h2] ([hm_wSu g a A J, hm_wSc g aSc ScR, hm_row g h1 b1 n1 r1, hm_row g h2 b2 n2 r2] : List va_W).flatten ([hm_wSu g a (hm_up A 1 q) J, hm_wSc g aSc ScR, hm_row g h1 b1 n1 r1, hm_row g h2 b2 n2 r2] : List va_W).flatten := by
  refine hm_ofv [(0, .ref (a 0)), (1, .ref (aSc 0)), (2, .ref h1), (3, .ref h2)] (by decide) (own := RX6) rfl (Nat.le_of_ble_eq_true rfl) rfl rfl ?_
  intro p e s m args below meth c AA S hr hlk X ls hl
  have hx := S.1
  have hb := S.2.1
  have hown := S.2.2.2.1
  have hts := S.2.2.2.2
  have X := X.to (ws' := ([[(a 0, .inr (6, [.ref (a 1), .ref (a 2), .ref (a 3)]))], [hm_cz g (a 1) 191 (A 0)], [hm_cj g (a 2) 382 (J 0)], [hm_cz g (a 3) 191 (A 1)], hm_wSc g aSc ScR, hm_row g h1 b1 n1 r1, hm_row g h2 b2 n2 r2] : List va_W).flatten) rfl
  have hl3 : ∀ (k3 : Nat) (v4 : Int32) (wA_1 : Nat → Int32), f_X6_pickSeen_l3 (A 0) (J 0) (ScR 4) n1 r1 n2 r2 k3 v4 wA_1 = some q → ∀ (H : Heap) (locs : List Loc), hm_X g AA s H locs ([[(a 0, .inr (6, [.ref (a 1), .ref (a 2), .ref (a 3)]))], [hm_cz g (a 1) 191 (A 0)], [hm_cj g (a 2) 382 (J 0)], [hm_cz g (a 3) 191 wA_1], hm_wSc g aSc ScR, hm_row g h1 b1 n1 r1, hm_row g h2 b2 n2 r2] : List va_W).flatten → ∀ ls : Array Slot, lv_has ls 7 [(0, .ref (a 0)), (1, .ref (aSc 0)), (2, .ref h1), (3, .ref h2), (4, .int v4)] → W p l e rm_X6_pickSeen s m args below meth c H locs 0 0 (MQ below (hm_Qv g AA ([hm_wSu g a (hm_up A 1 q) J, hm_wSc g aSc ScR, hm_row g h1 b1 n1 r1, hm_row g h2 b2 n2 r2] : List va_W).flatten) args s 0 0 AA) (F0 m 3 ls []) := by
    intro k3
    induction k3 with
    | zero =>
      intro v4 wA_1 hF
      rw [f_X6_pickSeen_l3_z] at hF
      cases hF
    | succ k3 ih3 =>
      have hl100 : ∀ (v4 : Int32) (wA_1 : Nat → Int32), f_X6_pickSeen_l100 (fun zv4 zwA_1 => f_X6_pickSeen_l3 (A 0) (J 0) (ScR 4) n1 r1 n2 r2 k3 zv4 zwA_1) v4 wA_1 = some q → ∀ (H : Heap) (locs : List Loc), hm_X g AA s H locs ([[(a 0, .inr (6, [.ref (a 1), .ref (a 2), .ref (a 3)]))], [hm_cz g (a 1) 191 (A 0)], [hm_cj g (a 2) 382 (J 0)], [hm_cz g (a 3) 191 wA_1], hm_wSc g aSc ScR, hm_row g h1 b1 n1 r1, hm_row g h2 b2 n2 r2] : List va_W).flatten → ∀ ls : Array Slot, lv_has ls 7 [(0, .ref (a 0)), (1, .ref (aSc 0)), (2, .ref h1), (3, .ref h2), (4, .int v4)] → W p l e rm_X6_pickSeen s m args below meth c H locs 0 0 (MQ below (hm_Qv g AA ([hm_wSu g a (hm_up A 1 q) J, hm_wSc g aSc ScR, hm_row g h1 b1 n1 r1, hm_row g h2 b2 n2 r2] : List va_W).flatten) args s 0 0 AA) (F0 m 100 ls []) := by
        intro v4 wA_1 hF H locs X ls hl
        unfold f_X6_pickSeen_l100 at hF
        refine lv_iinc (v := (v4 + 1)) (lv' := [(4, .int (v4 + 1)), (0, .ref (a 0)), (1, .ref (aSc 0)), (2, .ref h1), (3, .ref h2)]) hx hb dX6_pickSeen_100 hl (k := 4) rfl rfl (by decide) rfl (fun ls hl => ?_)
        refine lv_goto (tgt := 3) hx hb dX6_pickSeen_103 (by decide) ?_
        exact ih3 (v4 + 1) wA_1 hF _ _ X _ (lv_sub hl [1, 2, 3, 4, 0] rfl)
      have hl28 : ∀ (k28 : Nat) (v4 : Int32) (v5 : Int32) (wA_1 : Nat → Int32), f_X6_pickSeen_l28 (fun zv4 zwA_1 => f_X6_pickSeen_l3 (A 0) (J 0) (ScR 4) n1 r1 n2 r2 k3 zv4 zwA_1) (J 0) (ScR 4) n1 r1 n2 r2 k28 v4 v5 wA_1 = some q → ∀ (H : Heap) (locs : List Loc), hm_X g AA s H locs ([[(a 0, .inr (6, [.ref (a 1), .ref (a 2), .ref (a 3)]))], [hm_cz g (a 1) 191 (A 0)], [hm_cj g (a 2) 382 (J 0)], [hm_cz g (a 3) 191 wA_1], hm_wSc g aSc ScR, hm_row g h1 b1 n1 r1, hm_row g h2 b2 n2 r2] : List va_W).flatten → ∀ ls : Array Slot, lv_has ls 7 [(0, .ref (a 0)), (1, .ref (aSc 0)), (2, .ref h1), (3, .ref h2), (4, .int v4), (5, .int v5)] → W p l e rm_X6_pickSeen s m args below meth c H locs 0 0 (MQ below (hm_Qv g AA ([hm_wSu g a (hm_up A 1 q) J, hm_wSc g aSc ScR, hm_row g h1 b1 n1 r1, hm_row g h2 b2 n2 r2] : List va_W).flatten) args s 0 0 AA) (F0 m 28 ls []) := by
        intro k28
        induction k28 with
        | zero =>
          intro v4 v5 wA_1 hF
          rw [f_X6_pickSeen_l28_z] at hF
          cases hF
        | succ k28 ih28 =>
          have hl93 : ∀ (s93_0 : Int32) (s93_1 : Int32) (v4 : Int32) (v5 : Int32) (wA_1 : Nat → Int32), f_X6_pickSeen_l93 (fun zv4 zwA_1 => f_X6_pickSeen_l3 (A 0) (J 0) (ScR 4) n1 r1 n2 r2 k3 zv4 zwA_1) (fun zv4 zv5 zwA_1 => f_X6_pickSeen_l28 (fun zv4 zwA_1 => f_X6_pickSeen_l3 (A 0) (J 0) (ScR 4) n1 r1 n2 r2 k3 zv4 zwA_1) (J 0) (ScR 4) n1 r1 n2 r2 k28 zv4 zv5 zwA_1) s93_0 s93_1 v4 v5 wA_1 = some q → ∀ (H : Heap) (locs : List Loc), hm_X g AA s H locs ([[(a 0, .inr (6, [.ref (a 1), .ref (a 2), .ref (a 3)]))], [hm_cz g (a 1) 191 (A 0)], [hm_cj g (a 2) 382 (J 0)], [hm_cz g (a 3) 191 wA_1], hm_wSc g aSc ScR, hm_row g h1 b1 n1 r1, hm_row g h2 b2 n2 r2] : List va_W).flatten → ∀ ls : Array Slot, lv_has ls 7 [(0, .ref (a 0)), (1, .ref (aSc 0)), (2, .ref h1), (3, .ref h2), (4, .int v4), (5, .int v5)] → W p l e rm_X6_pickSeen s m args below meth c H locs 0 0 (MQ below (hm_Qv g AA ([hm_wSu g a (hm_up A 1 q) J, hm_wSc g aSc ScR, hm_row g h1 b1 n1 r1, hm_row g h2 b2 n2 r2] : List va_W).flatten) args s 0 0 AA) (F0 m 93 ls [.int s93_0, .int s93_1, .ref (a 3)]) := by
            intro s93_0 s93_1 v4 v5 wA_1 hF H locs X ls hl
            unfold f_X6_pickSeen_l93 at hF
            obtain ⟨f7, hf7, hF⟩ := hm_bd hF
            refine hm_zast S X hf7 3 rfl dX6_pickSeen_93 (fun H locs X => ?_)
            have X := X.to (ws' := ([[(a 0, .inr (6, [.ref (a 1), .ref (a 2), .ref (a 3)]))], [hm_cz g (a 1) 191 (A 0)], [hm_cj g (a 2) 382 (J 0)], [hm_cz g (a 3) 191 f7], hm_wSc g aSc ScR, hm_row g h1 b1 n1 r1, hm_row g h2 b2 n2 r2] : List va_W).flatten) rfl
            refine lv_iinc (v := (v5 + 1)) (lv' := [(5, .int (v5 + 1)), (0, .ref (a 0)), (1, .ref (aSc 0)), (2, .ref h1), (3, .ref h2), (4, .int v4)]) hx hb dX6_pickSeen_94 hl (k := 5) rfl rfl (by decide) rfl (fun ls hl => ?_)
            refine lv_goto (tgt := 28) hx hb dX6_pickSeen_97 (by decide) ?_
            exact ih28 v4 (v5 + 1) f7 hF _ _ X _ (lv_sub hl [1, 2, 3, 4, 5, 0] rfl)
          have hl92 : ∀ (s92_0 : Int32) (v4 : Int32) (v5 : Int32) (wA_1 : Nat → Int32), f_X6_pickSeen_l92 (fun zv4 zwA_1 => f_X6_pickSeen_l3 (A 0) (J 0) (ScR 4) n1 r1 n2 r2 k3 zv4 zwA_1) (fun zv4 zv5 zwA_1 => f_X6_pickSeen_l28 (fun zv4 zwA_1 => f_X6_pickSeen_l3 (A 0) (J 0) (ScR 4) n1 r1 n2 r2 k3 zv4 zwA_1) (J 0) (ScR 4) n1 r1 n2 r2 k28 zv4 zv5 zwA_1) s92_0 v4 v5 wA_1 = some q → ∀ (H : Heap) (locs : List Loc), hm_X g AA s H locs ([[(a 0, .inr (6, [.ref (a 1), .ref (a 2), .ref (a 3)]))], [hm_cz g (a 1) 191 (A 0)], [hm_cj g (a 2) 382 (J 0)], [hm_cz g (a 3) 191 wA_1], hm_wSc g aSc ScR, hm_row g h1 b1 n1 r1, hm_row g h2 b2 n2 r2] : List va_W).flatten → ∀ ls : Array Slot, lv_has ls 7 [(0, .ref (a 0)), (1, .ref (aSc 0)), (2, .ref h1), (3, .ref h2), (4, .int v4), (5, .int v5)] → W p l e rm_X6_pickSeen s m args below meth c H locs 0 0 (MQ below (hm_Qv g AA ([hm_wSu g a (hm_up A 1 q) J, hm_wSc g aSc ScR, hm_row g h1 b1 n1 r1, hm_row g h2 b2 n2 r2] : List va_W).flatten) args s 0 0 AA) (F0 m 92 ls [.int s92_0, .ref (a 3)]) := by
            intro s92_0 v4 v5 wA_1 hF H locs X ls hl
            unfold f_X6_pickSeen_l92 at hF
            refine lv_iconst (v := 0) hx hb dX6_pickSeen_92 (by decide) ?_
            exact hl93 0 s92_0 v4 v5 wA_1 hF _ _ X _ (lv_sub hl [0, 1, 2, 3, 4, 5] rfl)
          have hl85 : ∀ (s85_0 : Int32) (s85_1 : Int32) (s85_2 : Int32) (v4 : Int32) (v5 : Int32) (wA_1 : Nat → Int32), f_X6_pickSeen_l85 (fun zv4 zwA_1 => f_X6_pickSeen_l3 (A 0) (J 0) (ScR 4) n1 r1 n2 r2 k3 zv4 zwA_1) (fun zv4 zv5 zwA_1 => f_X6_pickSeen_l28 (fun zv4 zwA_1 => f_X6_pickSeen_l3 (A 0) (J 0) (ScR 4) n1 r1 n2 r2 k3 zv4 zwA_1) (J 0) (ScR 4) n1 r1 n2 r2 k28 zv4 zv5 zwA_1) s85_0 s85_1 s85_2 v4 v5 wA_1 = some q → ∀ (H : Heap) (locs : List Loc), hm_X g AA s H locs ([[(a 0, .inr (6, [.ref (a 1), .ref (a 2), .ref (a 3)]))], [hm_cz g (a 1) 191 (A 0)], [hm_cj g (a 2) 382 (J 0)], [hm_cz g (a 3) 191 wA_1], hm_wSc g aSc ScR, hm_row g h1 b1 n1 r1, hm_row g h2 b2 n2 r2] : List va_W).flatten → ∀ ls : Array Slot, lv_has ls 7 [(0, .ref (a 0)), (1, .ref (aSc 0)), (2, .ref h1), (3, .ref h2), (4, .int v4), (5, .int v5)] → W p l e rm_X6_pickSeen s m args below meth c H locs 0 0 (MQ below (hm_Qv g AA ([hm_wSu g a (hm_up A 1 q) J, hm_wSc g aSc ScR, hm_row g h1 b1 n1 r1, hm_row g h2 b2 n2 r2] : List va_W).flatten) args s 0 0 AA) (F0 m 85 ls [.int s85_0, .int s85_1, .int s85_2, .ref (a 3)]) := by
            intro s85_0 s85_1 s85_2 v4 v5 wA_1 hF H locs X ls hl
            unfold f_X6_pickSeen_l85 at hF
            refine lv_icmp_ne (tgt := 92) hx hb dX6_pickSeen_85 (by decide) (fun c85 => ?_) (fun c85 => ?_)
            · have hF := hm_nf hF c85
              exact hl92 s85_2 v4 v5 wA_1 hF _ _ X _ (lv_sub hl [0, 1, 2, 3, 4, 5] rfl)
            · have hF := hm_if hF c85
              refine lv_iconst (v := 1) hx hb dX6_pickSeen_88 (by decide) ?_
              refine lv_goto (tgt := 93) hx hb dX6_pickSeen_89 (by decide) ?_
              exact hl93 1 s85_2 v4 v5 wA_1 hF _ _ X _ (lv_sub hl [0, 1, 2, 3, 4, 5] rfl)
          intro v4 v5 wA_1 hF H locs X ls hl
          rw [f_X6_pickSeen_l28_s] at hF
          refine lv_iload hx hb dX6_pickSeen_28 (lv_at hl 5 rfl) ?_
          refine lv_aload_n hx hb dX6_pickSeen_30 rfl (lv_at hl 2 rfl) ?_
          obtain ⟨t3, ht3, hF⟩ := hm_bd hF
          refine hm_vi (As := []) S X mw_X2_size hw_4_25 (c_X2_size l g h1 b1 n1 r1 t3 ht3) (hm_mid [[(a 0, .inr (6, [.ref (a 1), .ref (a 2), .ref (a 3)]))], [hm_cz g (a 1) 191 (A 0)], [hm_cj g (a 2) 382 (J 0)], [hm_cz g (a 3) 191 wA_1], hm_wSc g aSc ScR] [hm_row g h2 b2 n2 r2]) (hm_mid [[(a 0, .inr (6, [.ref (a 1), .ref (a 2), .ref (a 3)]))], [hm_cz g (a 1) 191 (A 0)], [hm_cj g (a 2) 382 (J 0)], [hm_cz g (a 3) 191 wA_1], hm_wSc g aSc ScR] [hm_row g h2 b2 n2 r2] (b := hm_row g h1 b1 n1 r1)) rfl rfl rfl ⟨rfl, rfl, Nat.le_of_ble_eq_true rfl, Nat.le_of_ble_eq_true rfl⟩ rfl hl.1 rfl (Nat.le_of_ble_eq_true rfl) dX6_pickSeen_31 ⟨Nat.zero_le _, Nat.zero_le _⟩ (fun H locs X => ?_)
          have X := X.to (ws' := ([[(a 0, .inr (6, [.ref (a 1), .ref (a 2), .ref (a 3)]))], [hm_cz g (a 1) 191 (A 0)], [hm_cj g (a 2) 382 (J 0)], [hm_cz g (a 3) 191 wA_1], hm_wSc g aSc ScR, hm_row g h1 b1 n1 r1, hm_row g h2 b2 n2 r2] : List va_W).flatten) rfl
          refine lv_icmp_ge (tgt := 100) hx hb dX6_pickSeen_34 (by decide) (fun c34 => ?_) (fun c34 => ?_)
          · have hF := hm_if hF c34
            exact hl100 v4 wA_1 hF _ _ X _ (lv_sub hl [0, 1, 2, 3, 4] rfl)
          · have hF := hm_nf hF c34
            refine lv_aload_n hx hb dX6_pickSeen_37 rfl (lv_at hl 0 rfl) ?_
            refine lv_iload hx hb dX6_pickSeen_38 (lv_at hl 4 rfl) ?_
            refine lv_aload_n hx hb dX6_pickSeen_40 rfl (lv_at hl 1 rfl) ?_
            refine lv_aload_n hx hb dX6_pickSeen_41 rfl (lv_at hl 2 rfl) ?_
            refine lv_iload hx hb dX6_pickSeen_42 (lv_at hl 5 rfl) ?_
            obtain ⟨t4, ht4, hF⟩ := hm_bd hF
            refine hm_vi (As := [.int v5]) S X mw_X2_get hw_4_26 (c_X2_get l g h1 b1 n1 r1 v5 t4 ht4) (hm_mid [[(a 0, .inr (6, [.ref (a 1), .ref (a 2), .ref (a 3)]))], [hm_cz g (a 1) 191 (A 0)], [hm_cj g (a 2) 382 (J 0)], [hm_cz g (a 3) 191 wA_1], hm_wSc g aSc ScR] [hm_row g h2 b2 n2 r2]) (hm_mid [[(a 0, .inr (6, [.ref (a 1), .ref (a 2), .ref (a 3)]))], [hm_cz g (a 1) 191 (A 0)], [hm_cj g (a 2) 382 (J 0)], [hm_cz g (a 3) 191 wA_1], hm_wSc g aSc ScR] [hm_row g h2 b2 n2 r2] (b := hm_row g h1 b1 n1 r1)) rfl rfl rfl ⟨rfl, rfl, Nat.le_of_ble_eq_true rfl, Nat.le_of_ble_eq_true rfl⟩ rfl hl.1 rfl (Nat.le_of_ble_eq_true rfl) dX6_pickSeen_44 ⟨Nat.zero_le _, Nat.zero_le _⟩ (fun H locs X => ?_)
            have X := X.to (ws' := ([[(a 0, .inr (6, [.ref (a 1), .ref (a 2), .ref (a 3)]))], [hm_cz g (a 1) 191 (A 0)], [hm_cj g (a 2) 382 (J 0)], [hm_cz g (a 3) 191 wA_1], hm_wSc g aSc ScR, hm_row g h1 b1 n1 r1, hm_row g h2 b2 n2 r2] : List va_W).flatten) rfl
            obtain ⟨t5, ht5, hF⟩ := hm_bd hF
            refine hm_vi (As := [.int v4, .ref (aSc 0), .int t4]) S X mw_X6_beginsLine hw_4_27 (c_X6_beginsLine l g a (hm_up A 1 wA_1) J aSc ScR v4 t4 t5 ht5) (hm_cq (n := 7) [0, 1, 2, 3, 4] [5, 6] rfl (by decide +kernel) rfl rfl) (hm_cq (bs := [[(a 0, .inr (6, [.ref (a 1), .ref (a 2), .ref (a 3)]))], [hm_cz g (a 1) 191 (A 0)], [hm_cj g (a 2) 382 (J 0)], [hm_cz g (a 3) 191 wA_1], hm_wSc g aSc ScR, hm_row g h1 b1 n1 r1, hm_row g h2 b2 n2 r2]) (n := 7) [0, 1, 2, 3, 4] [5, 6] rfl (by decide +kernel) rfl rfl) rfl rfl rfl ⟨rfl, rfl, Nat.le_of_ble_eq_true rfl, Nat.le_of_ble_eq_true rfl⟩ rfl hl.1 rfl (Nat.le_of_ble_eq_true rfl) dX6_pickSeen_47 ⟨Nat.zero_le _, Nat.zero_le _⟩ (fun H locs X => ?_)
            have X := X.to (ws' := ([[(a 0, .inr (6, [.ref (a 1), .ref (a 2), .ref (a 3)]))], [hm_cz g (a 1) 191 (A 0)], [hm_cj g (a 2) 382 (J 0)], [hm_cz g (a 3) 191 wA_1], hm_wSc g aSc ScR, hm_row g h1 b1 n1 r1, hm_row g h2 b2 n2 r2] : List va_W).flatten) rfl
            refine lv_istore (lv' := [(6, .int t5), (0, .ref (a 0)), (1, .ref (aSc 0)), (2, .ref h1), (3, .ref h2), (4, .int v4), (5, .int v5)]) hx hb dX6_pickSeen_50 hl (by decide) rfl (fun ls hl => ?_)
            refine lv_aload_n hx hb dX6_pickSeen_52 rfl (lv_at hl 1 rfl) ?_
            refine hm_get S X hf_X6_19 0 rfl rfl dX6_pickSeen_53 ?_
            refine lv_iload hx hb dX6_pickSeen_56 (lv_at hl 5 rfl) ?_
            refine lv_aload_n hx hb dX6_pickSeen_58 rfl (lv_at hl 1 rfl) ?_
            refine hm_get S X hf_X6_19 0 rfl rfl dX6_pickSeen_59 ?_
            refine lv_iload hx hb dX6_pickSeen_62 (lv_at hl 5 rfl) ?_
            obtain ⟨t6, ht6, hF⟩ := hm_bd hF
            refine hm_zald S X ht6 3 rfl dX6_pickSeen_64 ?_
            refine lv_if_eq (tgt := 92) hx hb dX6_pickSeen_65 (by decide) (fun c65 => ?_) (fun c65 => ?_)
            · have hF := hm_if hF c65
              exact hl92 v4 v4 v5 wA_1 hF _ _ X _ (lv_sub hl [1, 2, 3, 4, 5, 6] rfl)
            · have hF := hm_nf hF c65
              refine lv_iload hx hb dX6_pickSeen_68 (lv_at hl 0 rfl) ?_
              refine lv_aload_n hx hb dX6_pickSeen_70 rfl (lv_at hl 4 rfl) ?_
              refine lv_iload hx hb dX6_pickSeen_71 (lv_at hl 6 rfl) ?_
              obtain ⟨t8, ht8, hF⟩ := hm_bd hF
              refine hm_vi (As := [.int v5]) S X mw_X2_get hw_4_26 (c_X2_get l g h2 b2 n2 r2 v5 t8 ht8) (hm_mid [[(a 0, .inr (6, [.ref (a 1), .ref (a 2), .ref (a 3)]))], [hm_cz g (a 1) 191 (A 0)], [hm_cj g (a 2) 382 (J 0)], [hm_cz g (a 3) 191 wA_1], hm_wSc g aSc ScR, hm_row g h1 b1 n1 r1] []) (hm_mid [[(a 0, .inr (6, [.ref (a 1), .ref (a 2), .ref (a 3)]))], [hm_cz g (a 1) 191 (A 0)], [hm_cj g (a 2) 382 (J 0)], [hm_cz g (a 3) 191 wA_1], hm_wSc g aSc ScR, hm_row g h1 b1 n1 r1] [] (b := hm_row g h2 b2 n2 r2)) rfl rfl rfl ⟨rfl, rfl, Nat.le_of_ble_eq_true rfl, Nat.le_of_ble_eq_true rfl⟩ rfl hl.1 rfl (Nat.le_of_ble_eq_true rfl) dX6_pickSeen_73 ⟨Nat.zero_le _, Nat.zero_le _⟩ (fun H locs X => ?_)
              have X := X.to (ws' := ([[(a 0, .inr (6, [.ref (a 1), .ref (a 2), .ref (a 3)]))], [hm_cz g (a 1) 191 (A 0)], [hm_cj g (a 2) 382 (J 0)], [hm_cz g (a 3) 191 wA_1], hm_wSc g aSc ScR, hm_row g h1 b1 n1 r1, hm_row g h2 b2 n2 r2] : List va_W).flatten) rfl
              refine lv_iconst (v := 1) hx hb dX6_pickSeen_76 (by decide) ?_
              refine lv_icmp_ne (tgt := 84) hx hb dX6_pickSeen_77 (by decide) (fun c77 => ?_) (fun c77 => ?_)
              · have hF := hm_nf hF c77
                refine lv_iconst (v := 0) hx hb dX6_pickSeen_84 (by decide) ?_
                exact hl85 0 t5 v4 v4 v5 wA_1 hF _ _ X _ (lv_sub hl [1, 2, 3, 4, 5, 6] rfl)
              · have hF := hm_if hF c77
                refine lv_iconst (v := 1) hx hb dX6_pickSeen_80 (by decide) ?_
                refine lv_goto (tgt := 85) hx hb dX6_pickSeen_81 (by decide) ?_
                exact hl85 1 t5 v4 v4 v5 wA_1 hF _ _ X _ (lv_sub hl [1, 2, 3, 4, 5, 6] rfl)
      intro v4 wA_1 hF H locs X ls hl
      rw [f_X6_pickSeen_l3_s] at hF
      refine lv_iload hx hb dX6_pickSeen_3 (lv_at hl 4 rfl) ?_
      refine lv_sipush (v := 191) hx hb dX6_pickSeen_5 (by decide) ?_
      refine lv_icmp_ge (tgt := 106) hx hb dX6_pickSeen_8 (by decide) (fun c8 => ?_) (fun c8 => ?_)
      · have hF := hm_if hF c8
        obtain rfl := Option.some.inj hF
        exact hm_rv S hr hlk X rfl dX6_pickSeen_106
      · have hF := hm_nf hF c8
        refine lv_aload_n hx hb dX6_pickSeen_11 rfl (lv_at hl 0 rfl) ?_
        refine hm_get S X hf_X6_19 0 rfl rfl dX6_pickSeen_12 ?_
        refine lv_iload hx hb dX6_pickSeen_15 (lv_at hl 4 rfl) ?_
        refine lv_aload_n hx hb dX6_pickSeen_17 rfl (lv_at hl 0 rfl) ?_
        refine hm_get S X hf_X6_9 0 rfl rfl dX6_pickSeen_18 ?_
        refine lv_iload hx hb dX6_pickSeen_21 (lv_at hl 4 rfl) ?_
        obtain ⟨t1, ht1, hF⟩ := hm_bd hF
        refine hm_zald S X ht1 1 rfl dX6_pickSeen_23 ?_
        obtain ⟨f2, hf2, hF⟩ := hm_bd hF
        refine hm_zast S X hf2 3 rfl dX6_pickSeen_24 (fun H locs X => ?_)
        have X := X.to (ws' := ([[(a 0, .inr (6, [.ref (a 1), .ref (a 2), .ref (a 3)]))], [hm_cz g (a 1) 191 (A 0)], [hm_cj g (a 2) 382 (J 0)], [hm_cz g (a 3) 191 f2], hm_wSc g aSc ScR, hm_row g h1 b1 n1 r1, hm_row g h2 b2 n2 r2] : List va_W).flatten) rfl
        refine lv_iconst (v := 0) hx hb dX6_pickSeen_25 (by decide) ?_
        refine lv_istore (lv' := [(5, .int 0), (0, .ref (a 0)), (1, .ref (aSc 0)), (2, .ref h1), (3, .ref h2), (4, .int v4)]) hx hb dX6_pickSeen_26 hl (by decide) rfl (fun ls hl => ?_)
        exact hl28 hm_fu v4 0 f2 hF _ _ X _ (lv_sub hl [1, 2, 3, 4, 5, 0] rfl)
  unfold f_X6_pickSeen at hF
  refine lv_iconst (v := 0) hx hb dX6_pickSeen_0 (by decide) ?_
  refine lv_istore (lv' := [(4, .int 0), (0, .ref (a 0)), (1, .ref (aSc 0)), (2, .ref h1), (3, .ref h2)]) hx hb dX6_pickSeen_1 hl (by decide) rfl (fun ls hl => ?_)
  exact hl3 hm_fu 0 (A 1) hF _ _ X _ (lv_sub hl [1, 2, 3, 4, 0] rfl)
def f_X6_picked_l62 (x0 : Int32) (v2 : Int32) (v3 : Int32) (v4 : Int32) : Option (Int32) :=
  if x0 = 0 then (
  some (v2))
  else (
  if x0 = 1 then (
  some (v3))
  else (
  some (v4)))
def f_X6_picked_l56 (J12 : Int32 → Int32 → Int32 → Int32 → Option (Int32)) (v2 : Int32) (v3 : Int32) (v4 : Int32) (v5 : Int32) : Option (Int32) :=
  J12 v2 v3 v4 (v5 + 1)
def f_X6_picked_l48 (J12 : Int32 → Int32 → Int32 → Int32 → Option (Int32)) (s48_0 : Int32) (v2 : Int32) (v5 : Int32) : Option (Int32) :=
  f_X6_picked_l56 J12 v2 s48_0 (10 + v5) v5
def f_X6_picked_l12 (A_1 : Nat → Int32) (x0 : Int32) : Nat → Int32 → Int32 → Int32 → Int32 → Option (Int32)
  | 0, _, _, _, _ => none
  | k + 1, v2, v3, v4, v5 =>
  if (191 : Int32) ≤ v5 then (
  f_X6_picked_l62 x0 v2 v3 v4)
  else (
  (hm_rd 191 A_1 v5).bind fun t1 =>
  if t1 = 0 then (
  f_X6_picked_l56 (fun zv2 zv3 zv4 zv5 => f_X6_picked_l12 A_1 x0 k zv2 zv3 zv4 zv5) v2 v3 v4 v5)
  else (
  if v3 = (-9) then (
  f_X6_picked_l48 (fun zv2 zv3 zv4 zv5 => f_X6_picked_l12 A_1 x0 k zv2 zv3 zv4 zv5) (10 + v5) (v2 + 1) v5)
  else (
  f_X6_picked_l48 (fun zv2 zv3 zv4 zv5 => f_X6_picked_l12 A_1 x0 k zv2 zv3 zv4 zv5) v3 (v2 + 1) v5)))
theorem f_X6_picked_l12_s (A_1 : Nat → Int32) (x0 : Int32) (k : Nat) (v2 : Int32) (v3 : Int32) (v4 : Int32) (v5 : Int32) : f_X6_picked_l12 A_1 x0 (k + 1) v2 v3 v4 v5 =
  if (191 : Int32) ≤ v5 then (
  f_X6_picked_l62 x0 v2 v3 v4)
  else (
  (hm_rd 191 A_1 v5).bind fun t1 =>
  if t1 = 0 then (
  f_X6_picked_l56 (fun zv2 zv3 zv4 zv5 => f_X6_picked_l12 A_1 x0 k zv2 zv3 zv4 zv5) v2 v3 v4 v5)
  else (
  if v3 = (-9) then (
  f_X6_picked_l48 (fun zv2 zv3 zv4 zv5 => f_X6_picked_l12 A_1 x0 k zv2 zv3 zv4 zv5) (10 + v5) (v2 + 1) v5)
  else (
  f_X6_picked_l48 (fun zv2 zv3 zv4 zv5 => f_X6_picked_l12 A_1 x0 k zv2 zv3 zv4 zv5) v3 (v2 + 1) v5))) := rfl
theorem f_X6_picked_l12_z (A_1 : Nat → Int32) (x0 : Int32) (v2 : Int32) (v3 : Int32) (v4 : Int32) (v5 : Int32) : f_X6_picked_l12 A_1 x0 0 v2 v3 v4 v5 = none := rfl
def f_X6_picked (A_1 : Nat → Int32) (x0 : Int32)  : Option (Int32) :=
  f_X6_picked_l12 A_1 x0 hm_fu 0 (-9) (-9) 0
abbrev rm_X6_picked : Room := { frames := 0, cells := 0, slots := 0, locals := 0 }
set_option maxHeartbeats 4000000 in
set_option maxRecDepth 100000 in
theorem c_X6_picked (l : Launch) (g : hm_G) (a : Nat → Nat) (A : Nat → Nat → Int32) (J : Nat → Nat → Int64) (x0 : Int32) (q : Int32) (hF : f_X6_picked (A 1) x0 = some q) : hm_Mi l yX6_picked (Cond.code yX6_picked cX6_picked 6 (some .int) :: hm_W) rm_X6_picked g [.ref (a 0), .int x0] ([hm_wSu g a A J] : List va_W).flatten ([hm_wSu g a A J] : List va_W).flatten q := by
  refine hm_ofi [(0, .ref (a 0)), (1, .int x0)] (by decide) (own := RX6) rfl (Nat.le_of_ble_eq_true rfl) rfl rfl ?_
  intro p e s m args below meth c AA S hr hlk X ls hl
  have hx := S.1
  have hb := S.2.1
  have hown := S.2.2.2.1
  have hts := S.2.2.2.2
  have X := X.to (ws' := ([[(a 0, .inr (6, [.ref (a 1), .ref (a 2), .ref (a 3)]))], [hm_cz g (a 1) 191 (A 0)], [hm_cj g (a 2) 382 (J 0)], [hm_cz g (a 3) 191 (A 1)]] : List va_W).flatten) rfl
  have hl62 : ∀ (v2 : Int32) (v3 : Int32) (v4 : Int32), f_X6_picked_l62 x0 v2 v3 v4 = some q → ∀ (H : Heap) (locs : List Loc), hm_X g AA s H locs ([[(a 0, .inr (6, [.ref (a 1), .ref (a 2), .ref (a 3)]))], [hm_cz g (a 1) 191 (A 0)], [hm_cj g (a 2) 382 (J 0)], [hm_cz g (a 3) 191 (A 1)]] : List va_W).flatten → ∀ ls : Array Slot, lv_has ls 6 [(1, .int x0), (2, .int v2), (3, .int v3), (4, .int v4)] → W p l e rm_X6_picked s m args below meth c H locs 0 0 (MQ below (hm_Qi g AA ([hm_wSu g a A J] : List va_W).flatten q) args s 0 0 AA) (F0 m 62 ls []) := by
    intro v2 v3 v4 hF H locs X ls hl
    unfold f_X6_picked_l62 at hF
    refine lv_iload_n hx hb dX6_picked_62 rfl (lv_at hl 0 rfl) ?_
    refine lv_if_ne (tgt := 70) hx hb dX6_picked_63 (by decide) (fun c63 => ?_) (fun c63 => ?_)
    · have hF := hm_nf hF c63
      refine lv_iload_n hx hb dX6_picked_70 rfl (lv_at hl 0 rfl) ?_
      refine lv_iconst (v := 1) hx hb dX6_picked_71 (by decide) ?_
      refine lv_icmp_ne (tgt := 79) hx hb dX6_picked_72 (by decide) (fun c72 => ?_) (fun c72 => ?_)
      · have hF := hm_nf hF c72
        refine lv_iload hx hb dX6_picked_79 (lv_at hl 3 rfl) ?_
        obtain rfl := Option.some.inj hF
        exact hm_ri S hr hlk X rfl rfl dX6_picked_81
      · have hF := hm_if hF c72
        refine lv_iload_n hx hb dX6_picked_75 rfl (lv_at hl 2 rfl) ?_
        refine lv_goto (tgt := 81) hx hb dX6_picked_76 (by decide) ?_
        obtain rfl := Option.some.inj hF
        exact hm_ri S hr hlk X rfl rfl dX6_picked_81
    · have hF := hm_if hF c63
      refine lv_iload_n hx hb dX6_picked_66 rfl (lv_at hl 1 rfl) ?_
      refine lv_goto (tgt := 81) hx hb dX6_picked_67 (by decide) ?_
      obtain rfl := Option.some.inj hF
      exact hm_ri S hr hlk X rfl rfl dX6_picked_81
  have hl12 : ∀ (k12 : Nat) (v2 : Int32) (v3 : Int32) (v4 : Int32) (v5 : Int32), f_X6_picked_l12 (A 1) x0 k12 v2 v3 v4 v5 = some q → ∀ (H : Heap) (locs : List Loc), hm_X g AA s H locs ([[(a 0, .inr (6, [.ref (a 1), .ref (a 2), .ref (a 3)]))], [hm_cz g (a 1) 191 (A 0)], [hm_cj g (a 2) 382 (J 0)], [hm_cz g (a 3) 191 (A 1)]] : List va_W).flatten → ∀ ls : Array Slot, lv_has ls 6 [(0, .ref (a 0)), (1, .int x0), (2, .int v2), (3, .int v3), (4, .int v4), (5, .int v5)] → W p l e rm_X6_picked s m args below meth c H locs 0 0 (MQ below (hm_Qi g AA ([hm_wSu g a A J] : List va_W).flatten q) args s 0 0 AA) (F0 m 12 ls []) := by
    intro k12
    induction k12 with
    | zero =>
      intro v2 v3 v4 v5 hF
      rw [f_X6_picked_l12_z] at hF
      cases hF
    | succ k12 ih12 =>
      have hl56 : ∀ (v2 : Int32) (v3 : Int32) (v4 : Int32) (v5 : Int32), f_X6_picked_l56 (fun zv2 zv3 zv4 zv5 => f_X6_picked_l12 (A 1) x0 k12 zv2 zv3 zv4 zv5) v2 v3 v4 v5 = some q → ∀ (H : Heap) (locs : List Loc), hm_X g AA s H locs ([[(a 0, .inr (6, [.ref (a 1), .ref (a 2), .ref (a 3)]))], [hm_cz g (a 1) 191 (A 0)], [hm_cj g (a 2) 382 (J 0)], [hm_cz g (a 3) 191 (A 1)]] : List va_W).flatten → ∀ ls : Array Slot, lv_has ls 6 [(0, .ref (a 0)), (1, .int x0), (2, .int v2), (3, .int v3), (4, .int v4), (5, .int v5)] → W p l e rm_X6_picked s m args below meth c H locs 0 0 (MQ below (hm_Qi g AA ([hm_wSu g a A J] : List va_W).flatten q) args s 0 0 AA) (F0 m 56 ls []) := by
        intro v2 v3 v4 v5 hF H locs X ls hl
        unfold f_X6_picked_l56 at hF
        refine lv_iinc (v := (v5 + 1)) (lv' := [(5, .int (v5 + 1)), (0, .ref (a 0)), (1, .int x0), (2, .int v2), (3, .int v3), (4, .int v4)]) hx hb dX6_picked_56 hl (k := 5) rfl rfl (by decide) rfl (fun ls hl => ?_)
        refine lv_goto (tgt := 12) hx hb dX6_picked_59 (by decide) ?_
        exact ih12 v2 v3 v4 (v5 + 1) hF _ _ X _ (lv_sub hl [1, 2, 3, 4, 5, 0] rfl)
      have hl48 : ∀ (s48_0 : Int32) (v2 : Int32) (v5 : Int32), f_X6_picked_l48 (fun zv2 zv3 zv4 zv5 => f_X6_picked_l12 (A 1) x0 k12 zv2 zv3 zv4 zv5) s48_0 v2 v5 = some q → ∀ (H : Heap) (locs : List Loc), hm_X g AA s H locs ([[(a 0, .inr (6, [.ref (a 1), .ref (a 2), .ref (a 3)]))], [hm_cz g (a 1) 191 (A 0)], [hm_cj g (a 2) 382 (J 0)], [hm_cz g (a 3) 191 (A 1)]] : List va_W).flatten → ∀ ls : Array Slot, lv_has ls 6 [(0, .ref (a 0)), (1, .int x0), (2, .int v2), (5, .int v5)] → W p l e rm_X6_picked s m args below meth c H locs 0 0 (MQ below (hm_Qi g AA ([hm_wSu g a A J] : List va_W).flatten q) args s 0 0 AA) (F0 m 48 ls [.int s48_0]) := by
        intro s48_0 v2 v5 hF H locs X ls hl
        unfold f_X6_picked_l48 at hF
        refine lv_istore_n (lv' := [(3, .int s48_0), (0, .ref (a 0)), (1, .int x0), (2, .int v2), (5, .int v5)]) hx hb dX6_picked_48 rfl hl (by decide) rfl (fun ls hl => ?_)
        refine lv_bipush (v := 10) hx hb dX6_picked_49 (by decide) ?_
        refine lv_iload hx hb dX6_picked_51 (lv_at hl 4 rfl) ?_
        refine lv_iadd hx hb dX6_picked_53 ?_
        refine lv_istore (lv' := [(4, .int (10 + v5)), (3, .int s48_0), (0, .ref (a 0)), (1, .int x0), (2, .int v2), (5, .int v5)]) hx hb dX6_picked_54 hl (by decide) rfl (fun ls hl => ?_)
        exact hl56 v2 s48_0 (10 + v5) v5 hF _ _ X _ (lv_sub hl [2, 3, 4, 1, 0, 5] rfl)
      intro v2 v3 v4 v5 hF H locs X ls hl
      rw [f_X6_picked_l12_s] at hF
      refine lv_iload hx hb dX6_picked_12 (lv_at hl 5 rfl) ?_
      refine lv_sipush (v := 191) hx hb dX6_picked_14 (by decide) ?_
      refine lv_icmp_ge (tgt := 62) hx hb dX6_picked_17 (by decide) (fun c17 => ?_) (fun c17 => ?_)
      · have hF := hm_if hF c17
        exact hl62 v2 v3 v4 hF _ _ X _ (lv_sub hl [1, 2, 3, 4] rfl)
      · have hF := hm_nf hF c17
        refine lv_aload_n hx hb dX6_picked_20 rfl (lv_at hl 0 rfl) ?_
        refine hm_get S X hf_X6_19 0 rfl rfl dX6_picked_21 ?_
        refine lv_iload hx hb dX6_picked_24 (lv_at hl 5 rfl) ?_
        obtain ⟨t1, ht1, hF⟩ := hm_bd hF
        refine hm_zald S X ht1 3 rfl dX6_picked_26 ?_
        refine lv_if_eq (tgt := 56) hx hb dX6_picked_27 (by decide) (fun c27 => ?_) (fun c27 => ?_)
        · have hF := hm_if hF c27
          exact hl56 v2 v3 v4 v5 hF _ _ X _ (lv_sub hl [0, 1, 2, 3, 4, 5] rfl)
        · have hF := hm_nf hF c27
          refine lv_iinc (v := (v2 + 1)) (lv' := [(2, .int (v2 + 1)), (0, .ref (a 0)), (1, .int x0), (3, .int v3), (4, .int v4), (5, .int v5)]) hx hb dX6_picked_30 hl (k := 2) rfl rfl (by decide) rfl (fun ls hl => ?_)
          refine lv_iload_n hx hb dX6_picked_33 rfl (lv_at hl 3 rfl) ?_
          refine lv_bipush (v := (-9)) hx hb dX6_picked_34 (by decide) ?_
          refine lv_icmp_ne (tgt := 47) hx hb dX6_picked_36 (by decide) (fun c36 => ?_) (fun c36 => ?_)
          · have hF := hm_nf hF c36
            refine lv_iload_n hx hb dX6_picked_47 rfl (lv_at hl 3 rfl) ?_
            exact hl48 v3 (v2 + 1) v5 hF _ _ X _ (lv_sub hl [1, 2, 0, 5] rfl)
          · have hF := hm_if hF c36
            refine lv_bipush (v := 10) hx hb dX6_picked_39 (by decide) ?_
            refine lv_iload hx hb dX6_picked_41 (lv_at hl 5 rfl) ?_
            refine lv_iadd hx hb dX6_picked_43 ?_
            refine lv_goto (tgt := 48) hx hb dX6_picked_44 (by decide) ?_
            exact hl48 (10 + v5) (v2 + 1) v5 hF _ _ X _ (lv_sub hl [1, 2, 0, 5] rfl)
  unfold f_X6_picked at hF
  refine lv_iconst (v := 0) hx hb dX6_picked_0 (by decide) ?_
  refine lv_istore_n (lv' := [(2, .int 0), (0, .ref (a 0)), (1, .int x0)]) hx hb dX6_picked_1 rfl hl (by decide) rfl (fun ls hl => ?_)
  refine lv_bipush (v := (-9)) hx hb dX6_picked_2 (by decide) ?_
  refine lv_istore_n (lv' := [(3, .int (-9)), (2, .int 0), (0, .ref (a 0)), (1, .int x0)]) hx hb dX6_picked_4 rfl hl (by decide) rfl (fun ls hl => ?_)
  refine lv_bipush (v := (-9)) hx hb dX6_picked_5 (by decide) ?_
  refine lv_istore (lv' := [(4, .int (-9)), (3, .int (-9)), (2, .int 0), (0, .ref (a 0)), (1, .int x0)]) hx hb dX6_picked_7 hl (by decide) rfl (fun ls hl => ?_)
  refine lv_iconst (v := 0) hx hb dX6_picked_9 (by decide) ?_
  refine lv_istore (lv' := [(5, .int 0), (4, .int (-9)), (3, .int (-9)), (2, .int 0), (0, .ref (a 0)), (1, .int x0)]) hx hb dX6_picked_10 hl (by decide) rfl (fun ls hl => ?_)
  exact hl12 hm_fu 0 (-9) (-9) 0 hF _ _ X _ (lv_sub hl [4, 5, 3, 2, 1, 0] rfl)
