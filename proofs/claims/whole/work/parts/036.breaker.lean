def f_X0_chooseEnd_l152 (A_0 : Nat → Int32) (A_1 : Nat → Int32) (A_2 : Nat → Int32) (x1 : Int32) (v5 : Int32) (v6 : Int32) (v7 : Int32) : Option ((Nat → Int32) × (Nat → Int32) × (Nat → Int32)) :=
  (hm_wr 101 A_0 (x1 + 1) v5).bind fun f2 =>
  (hm_wr 101 A_1 (x1 + 1) v6).bind fun f3 =>
  (hm_wr 101 A_2 (x1 + 1) v7).bind fun f4 =>
  some (f2, f3, f4)
def f_X0_chooseEnd_l132 (J26 : Int32 → Int32 → Int32 → Int32 → Int32 → Option ((Nat → Int32) × (Nat → Int32) × (Nat → Int32))) (A_0 : Nat → Int32) (A_1 : Nat → Int32) (A_2 : Nat → Int32) (LeR_4 : hm_SR) (x1 : Int32) (v5 : Int32) (v6 : Int32) (v7 : Int32) (v8 : Int32) (v9 : Int32) : Option ((Nat → Int32) × (Nat → Int32) × (Nat → Int32)) :=
  (f_X1_beginBehind LeR_4 v9).bind fun t6 =>
  if t6 ≤ v8 then (
  J26 v5 v6 v7 v8 (v9 + 1))
  else (
  f_X0_chooseEnd_l152 A_0 A_1 A_2 x1 v5 v6 v7)
def f_X0_chooseEnd_l120 (J26 : Int32 → Int32 → Int32 → Int32 → Int32 → Option ((Nat → Int32) × (Nat → Int32) × (Nat → Int32))) (A_0 : Nat → Int32) (A_1 : Nat → Int32) (A_2 : Nat → Int32) (LeR_4 : hm_SR) (x1 : Int32) (v8 : Int32) (v9 : Int32) (v11 : Int32) (v12 : Int32) : Option ((Nat → Int32) × (Nat → Int32) × (Nat → Int32)) :=
  f_X0_chooseEnd_l132 J26 A_0 A_1 A_2 LeR_4 x1 v11 v12 v9 v8 v9
def f_X0_chooseEnd_l26 (A_0 : Nat → Int32) (A_1 : Nat → Int32) (A_2 : Nat → Int32) (LeR_0 : hm_SR) (LeR_1 : hm_SR) (LeR_2 : hm_SR) (LeR_4 : hm_SR) (LeZ_2 : Int32) (LeZ_3 : Int32) (x0 : Int32) (x1 : Int32) (x2 : Int32) : Nat → Int32 → Int32 → Int32 → Int32 → Int32 → Option ((Nat → Int32) × (Nat → Int32) × (Nat → Int32))
  | 0, _, _, _, _, _ => none
  | k + 1, v5, v6, v7, v8, v9 =>
  if x2 ≤ v9 then (
  f_X0_chooseEnd_l152 A_0 A_1 A_2 x1 v5 v6 v7)
  else (
  (f_X1_leftBy LeR_0 LeR_1 LeR_4 x0 x1 v9).bind fun t5 =>
  if t5 < 0 then (
  f_X0_chooseEnd_l132 (fun zv5 zv6 zv7 zv8 zv9 => f_X0_chooseEnd_l26 A_0 A_1 A_2 LeR_0 LeR_1 LeR_2 LeR_4 LeZ_2 LeZ_3 x0 x1 x2 k zv5 zv6 zv7 zv8 zv9) A_0 A_1 A_2 LeR_4 x1 v5 v6 v7 v8 v9)
  else (
  (hm_rd 101 A_1 (v9 + 1)).bind fun t7 =>
  if t7 < 0 then (
  f_X0_chooseEnd_l132 (fun zv5 zv6 zv7 zv8 zv9 => f_X0_chooseEnd_l26 A_0 A_1 A_2 LeR_0 LeR_1 LeR_2 LeR_4 LeZ_2 LeZ_3 x0 x1 x2 k zv5 zv6 zv7 zv8 zv9) A_0 A_1 A_2 LeR_4 x1 v5 v6 v7 v8 v9)
  else (
  (f_X1_costBy LeR_0 LeR_2 LeZ_2 LeZ_3 t5 x1 v9).bind fun t8 =>
  (hm_rd 101 A_0 (v9 + 1)).bind fun t9 =>
  (hm_rd 101 A_1 (v9 + 1)).bind fun t10 =>
  if v7 < 0 then (
  f_X0_chooseEnd_l120 (fun zv5 zv6 zv7 zv8 zv9 => f_X0_chooseEnd_l26 A_0 A_1 A_2 LeR_0 LeR_1 LeR_2 LeR_4 LeZ_2 LeZ_3 x0 x1 x2 k zv5 zv6 zv7 zv8 zv9) A_0 A_1 A_2 LeR_4 x1 v8 v9 (t8 + t9) (t10 + 1))
  else (
  if (t8 + t9) < v5 then (
  f_X0_chooseEnd_l120 (fun zv5 zv6 zv7 zv8 zv9 => f_X0_chooseEnd_l26 A_0 A_1 A_2 LeR_0 LeR_1 LeR_2 LeR_4 LeZ_2 LeZ_3 x0 x1 x2 k zv5 zv6 zv7 zv8 zv9) A_0 A_1 A_2 LeR_4 x1 v8 v9 (t8 + t9) (t10 + 1))
  else (
  if (t8 + t9) = v5 then (
  if v6 < (t10 + 1) then (
  f_X0_chooseEnd_l132 (fun zv5 zv6 zv7 zv8 zv9 => f_X0_chooseEnd_l26 A_0 A_1 A_2 LeR_0 LeR_1 LeR_2 LeR_4 LeZ_2 LeZ_3 x0 x1 x2 k zv5 zv6 zv7 zv8 zv9) A_0 A_1 A_2 LeR_4 x1 v5 v6 v7 v8 v9)
  else (
  f_X0_chooseEnd_l120 (fun zv5 zv6 zv7 zv8 zv9 => f_X0_chooseEnd_l26 A_0 A_1 A_2 LeR_0 LeR_1 LeR_2 LeR_4 LeZ_2 LeZ_3 x0 x1 x2 k zv5 zv6 zv7 zv8 zv9) A_0 A_1 A_2 LeR_4 x1 v8 v9 (t8 + t9) (t10 + 1)))
  else (
  f_X0_chooseEnd_l132 (fun zv5 zv6 zv7 zv8 zv9 => f_X0_chooseEnd_l26 A_0 A_1 A_2 LeR_0 LeR_1 LeR_2 LeR_4 LeZ_2 LeZ_3 x0 x1 x2 k zv5 zv6 zv7 zv8 zv9) A_0 A_1 A_2 LeR_4 x1 v5 v6 v7 v8 v9))))))
theorem f_X0_chooseEnd_l26_s (A_0 : Nat → Int32) (A_1 : Nat → Int32) (A_2 : Nat → Int32) (LeR_0 : hm_SR) (LeR_1 : hm_SR) (LeR_2 : hm_SR) (LeR_4 : hm_SR) (LeZ_2 : Int32) (LeZ_3 : Int32) (x0 : Int32) (x1 : Int32) (x2 : Int32) (k : Nat) (v5 : Int32) (v6 : Int32) (v7 : Int32) (v8 : Int32) (v9 : Int32) : f_X0_chooseEnd_l26 A_0 A_1 A_2 LeR_0 LeR_1 LeR_2 LeR_4 LeZ_2 LeZ_3 x0 x1 x2 (k + 1) v5 v6 v7 v8 v9 =
  if x2 ≤ v9 then (
  f_X0_chooseEnd_l152 A_0 A_1 A_2 x1 v5 v6 v7)
  else (
  (f_X1_leftBy LeR_0 LeR_1 LeR_4 x0 x1 v9).bind fun t5 =>
  if t5 < 0 then (
  f_X0_chooseEnd_l132 (fun zv5 zv6 zv7 zv8 zv9 => f_X0_chooseEnd_l26 A_0 A_1 A_2 LeR_0 LeR_1 LeR_2 LeR_4 LeZ_2 LeZ_3 x0 x1 x2 k zv5 zv6 zv7 zv8 zv9) A_0 A_1 A_2 LeR_4 x1 v5 v6 v7 v8 v9)
  else (
  (hm_rd 101 A_1 (v9 + 1)).bind fun t7 =>
  if t7 < 0 then (
  f_X0_chooseEnd_l132 (fun zv5 zv6 zv7 zv8 zv9 => f_X0_chooseEnd_l26 A_0 A_1 A_2 LeR_0 LeR_1 LeR_2 LeR_4 LeZ_2 LeZ_3 x0 x1 x2 k zv5 zv6 zv7 zv8 zv9) A_0 A_1 A_2 LeR_4 x1 v5 v6 v7 v8 v9)
  else (
  (f_X1_costBy LeR_0 LeR_2 LeZ_2 LeZ_3 t5 x1 v9).bind fun t8 =>
  (hm_rd 101 A_0 (v9 + 1)).bind fun t9 =>
  (hm_rd 101 A_1 (v9 + 1)).bind fun t10 =>
  if v7 < 0 then (
  f_X0_chooseEnd_l120 (fun zv5 zv6 zv7 zv8 zv9 => f_X0_chooseEnd_l26 A_0 A_1 A_2 LeR_0 LeR_1 LeR_2 LeR_4 LeZ_2 LeZ_3 x0 x1 x2 k zv5 zv6 zv7 zv8 zv9) A_0 A_1 A_2 LeR_4 x1 v8 v9 (t8 + t9) (t10 + 1))
  else (
  if (t8 + t9) < v5 then (
  f_X0_chooseEnd_l120 (fun zv5 zv6 zv7 zv8 zv9 => f_X0_chooseEnd_l26 A_0 A_1 A_2 LeR_0 LeR_1 LeR_2 LeR_4 LeZ_2 LeZ_3 x0 x1 x2 k zv5 zv6 zv7 zv8 zv9) A_0 A_1 A_2 LeR_4 x1 v8 v9 (t8 + t9) (t10 + 1))
  else (
  if (t8 + t9) = v5 then (
  if v6 < (t10 + 1) then (
  f_X0_chooseEnd_l132 (fun zv5 zv6 zv7 zv8 zv9 => f_X0_chooseEnd_l26 A_0 A_1 A_2 LeR_0 LeR_1 LeR_2 LeR_4 LeZ_2 LeZ_3 x0 x1 x2 k zv5 zv6 zv7 zv8 zv9) A_0 A_1 A_2 LeR_4 x1 v5 v6 v7 v8 v9)
  else (
  f_X0_chooseEnd_l120 (fun zv5 zv6 zv7 zv8 zv9 => f_X0_chooseEnd_l26 A_0 A_1 A_2 LeR_0 LeR_1 LeR_2 LeR_4 LeZ_2 LeZ_3 x0 x1 x2 k zv5 zv6 zv7 zv8 zv9) A_0 A_1 A_2 LeR_4 x1 v8 v9 (t8 + t9) (t10 + 1)))
  else (
  f_X0_chooseEnd_l132 (fun zv5 zv6 zv7 zv8 zv9 => f_X0_chooseEnd_l26 A_0 A_1 A_2 LeR_0 LeR_1 LeR_2 LeR_4 LeZ_2 LeZ_3 x0 x1 x2 k zv5 zv6 zv7 zv8 zv9) A_0 A_1 A_2 LeR_4 x1 v5 v6 v7 v8 v9)))))) := rfl
theorem f_X0_chooseEnd_l26_z (A_0 : Nat → Int32) (A_1 : Nat → Int32) (A_2 : Nat → Int32) (LeR_0 : hm_SR) (LeR_1 : hm_SR) (LeR_2 : hm_SR) (LeR_4 : hm_SR) (LeZ_2 : Int32) (LeZ_3 : Int32) (x0 : Int32) (x1 : Int32) (x2 : Int32) (v5 : Int32) (v6 : Int32) (v7 : Int32) (v8 : Int32) (v9 : Int32) : f_X0_chooseEnd_l26 A_0 A_1 A_2 LeR_0 LeR_1 LeR_2 LeR_4 LeZ_2 LeZ_3 x0 x1 x2 0 v5 v6 v7 v8 v9 = none := rfl
def f_X0_chooseEnd (A_0 : Nat → Int32) (A_1 : Nat → Int32) (A_2 : Nat → Int32) (LeR_0 : hm_SR) (LeR_1 : hm_SR) (LeR_2 : hm_SR) (LeR_4 : hm_SR) (LeZ_2 : Int32) (LeZ_3 : Int32) (x0 : Int32) (x1 : Int32) (x2 : Int32)  : Option ((Nat → Int32) × (Nat → Int32) × (Nat → Int32)) :=
  (f_X1_beginBehind LeR_4 x1).bind fun t1 =>
  f_X0_chooseEnd_l26 A_0 A_1 A_2 LeR_0 LeR_1 LeR_2 LeR_4 LeZ_2 LeZ_3 x0 x1 x2 hm_fu 0 (-1) (-1) ((x0 + 9) + t1) (x1 + 1)
abbrev rm_X0_chooseEnd : Room := { frames := 2, cells := 0, slots := 0, locals := 45 }
set_option maxHeartbeats 4000000 in
set_option maxRecDepth 100000 in
theorem c_X0_chooseEnd (l : Launch) (g : hm_G) (a : Nat → Nat) (A : Nat → Nat → Int32) (aLe : Nat → Nat) (LeR : Nat → hm_SR) (LeZ : Nat → Int32) (x0 : Int32) (x1 : Int32) (x2 : Int32) (q : (Nat → Int32) × (Nat → Int32) × (Nat → Int32)) (hF : f_X0_chooseEnd (A 0) (A 1) (A 2) (LeR 0) (LeR 1) (LeR 2) (LeR 4) (LeZ 2) (LeZ 3) x0 x1 x2 = some q) : hm_Mv l yX0_chooseEnd (Cond.code yX0_chooseEnd cX0_chooseEnd 13 none :: hm_W) rm_X0_chooseEnd g [.ref (a 0), .ref (aLe 0), .int x0, .int x1, .int x2] ([hm_wBr g a A, hm_wLe g aLe LeR LeZ] : List va_W).flatten ([hm_wBr g a (hm_up (hm_up (hm_up A 0 q.1) 1 q.2.1) 2 q.2.2), hm_wLe g aLe LeR LeZ] : List va_W).flatten := by
  refine hm_ofv [(0, .ref (a 0)), (1, .ref (aLe 0)), (2, .int x0), (3, .int x1), (4, .int x2)] (by decide) (own := RX0) rfl (Nat.le_of_ble_eq_true rfl) rfl rfl ?_
  intro p e s m args below meth c AA S hr hlk X ls hl
  have hx := S.1
  have hb := S.2.1
  have hown := S.2.2.2.1
  have hts := S.2.2.2.2
  have X := X.to (ws' := ([[(a 0, .inr (0, [.ref (a 1), .ref (a 2), .ref (a 3)]))], [hm_ci g (a 1) 101 (A 0)], [hm_ci g (a 2) 101 (A 1)], [hm_ci g (a 3) 101 (A 2)], hm_wLe g aLe LeR LeZ] : List va_W).flatten) rfl
  have hl152 : ∀ (v5 : Int32) (v6 : Int32) (v7 : Int32), f_X0_chooseEnd_l152 (A 0) (A 1) (A 2) x1 v5 v6 v7 = some q → ∀ (H : Heap) (locs : List Loc), hm_X g AA s H locs ([[(a 0, .inr (0, [.ref (a 1), .ref (a 2), .ref (a 3)]))], [hm_ci g (a 1) 101 (A 0)], [hm_ci g (a 2) 101 (A 1)], [hm_ci g (a 3) 101 (A 2)], hm_wLe g aLe LeR LeZ] : List va_W).flatten → ∀ ls : Array Slot, lv_has ls 13 [(0, .ref (a 0)), (3, .int x1), (5, .int v5), (6, .int v6), (7, .int v7)] → W p l e rm_X0_chooseEnd s m args below meth c H locs 0 0 (MQ below (hm_Qv g AA ([hm_wBr g a (hm_up (hm_up (hm_up A 0 q.1) 1 q.2.1) 2 q.2.2), hm_wLe g aLe LeR LeZ] : List va_W).flatten) args s 0 0 AA) (F0 m 152 ls []) := by
    intro v5 v6 v7 hF H locs X ls hl
    unfold f_X0_chooseEnd_l152 at hF
    refine lv_aload_n hx hb dX0_chooseEnd_152 rfl (lv_at hl 0 rfl) ?_
    refine hm_get S X hf_X0_9 0 rfl rfl dX0_chooseEnd_153 ?_
    refine lv_iload_n hx hb dX0_chooseEnd_156 rfl (lv_at hl 1 rfl) ?_
    refine lv_iconst (v := 1) hx hb dX0_chooseEnd_157 (by decide) ?_
    refine lv_iadd hx hb dX0_chooseEnd_158 ?_
    refine lv_iload hx hb dX0_chooseEnd_159 (lv_at hl 2 rfl) ?_
    obtain ⟨f2, hf2, hF⟩ := hm_bd hF
    refine hm_iast S X hf2 1 rfl dX0_chooseEnd_161 (fun H locs X => ?_)
    have X := X.to (ws' := ([[(a 0, .inr (0, [.ref (a 1), .ref (a 2), .ref (a 3)]))], [hm_ci g (a 1) 101 f2], [hm_ci g (a 2) 101 (A 1)], [hm_ci g (a 3) 101 (A 2)], hm_wLe g aLe LeR LeZ] : List va_W).flatten) rfl
    refine lv_aload_n hx hb dX0_chooseEnd_162 rfl (lv_at hl 0 rfl) ?_
    refine hm_get S X hf_X0_15 0 rfl rfl dX0_chooseEnd_163 ?_
    refine lv_iload_n hx hb dX0_chooseEnd_166 rfl (lv_at hl 1 rfl) ?_
    refine lv_iconst (v := 1) hx hb dX0_chooseEnd_167 (by decide) ?_
    refine lv_iadd hx hb dX0_chooseEnd_168 ?_
    refine lv_iload hx hb dX0_chooseEnd_169 (lv_at hl 3 rfl) ?_
    obtain ⟨f3, hf3, hF⟩ := hm_bd hF
    refine hm_iast S X hf3 2 rfl dX0_chooseEnd_171 (fun H locs X => ?_)
    have X := X.to (ws' := ([[(a 0, .inr (0, [.ref (a 1), .ref (a 2), .ref (a 3)]))], [hm_ci g (a 1) 101 f2], [hm_ci g (a 2) 101 f3], [hm_ci g (a 3) 101 (A 2)], hm_wLe g aLe LeR LeZ] : List va_W).flatten) rfl
    refine lv_aload_n hx hb dX0_chooseEnd_172 rfl (lv_at hl 0 rfl) ?_
    refine hm_get S X hf_X0_18 0 rfl rfl dX0_chooseEnd_173 ?_
    refine lv_iload_n hx hb dX0_chooseEnd_176 rfl (lv_at hl 1 rfl) ?_
    refine lv_iconst (v := 1) hx hb dX0_chooseEnd_177 (by decide) ?_
    refine lv_iadd hx hb dX0_chooseEnd_178 ?_
    refine lv_iload hx hb dX0_chooseEnd_179 (lv_at hl 4 rfl) ?_
    obtain ⟨f4, hf4, hF⟩ := hm_bd hF
    refine hm_iast S X hf4 3 rfl dX0_chooseEnd_181 (fun H locs X => ?_)
    have X := X.to (ws' := ([[(a 0, .inr (0, [.ref (a 1), .ref (a 2), .ref (a 3)]))], [hm_ci g (a 1) 101 f2], [hm_ci g (a 2) 101 f3], [hm_ci g (a 3) 101 f4], hm_wLe g aLe LeR LeZ] : List va_W).flatten) rfl
    obtain rfl := Option.some.inj hF
    exact hm_rv S hr hlk X rfl dX0_chooseEnd_182
  have hl26 : ∀ (k26 : Nat) (v5 : Int32) (v6 : Int32) (v7 : Int32) (v8 : Int32) (v9 : Int32), f_X0_chooseEnd_l26 (A 0) (A 1) (A 2) (LeR 0) (LeR 1) (LeR 2) (LeR 4) (LeZ 2) (LeZ 3) x0 x1 x2 k26 v5 v6 v7 v8 v9 = some q → ∀ (H : Heap) (locs : List Loc), hm_X g AA s H locs ([[(a 0, .inr (0, [.ref (a 1), .ref (a 2), .ref (a 3)]))], [hm_ci g (a 1) 101 (A 0)], [hm_ci g (a 2) 101 (A 1)], [hm_ci g (a 3) 101 (A 2)], hm_wLe g aLe LeR LeZ] : List va_W).flatten → ∀ ls : Array Slot, lv_has ls 13 [(0, .ref (a 0)), (1, .ref (aLe 0)), (2, .int x0), (3, .int x1), (4, .int x2), (5, .int v5), (6, .int v6), (7, .int v7), (8, .int v8), (9, .int v9)] → W p l e rm_X0_chooseEnd s m args below meth c H locs 0 0 (MQ below (hm_Qv g AA ([hm_wBr g a (hm_up (hm_up (hm_up A 0 q.1) 1 q.2.1) 2 q.2.2), hm_wLe g aLe LeR LeZ] : List va_W).flatten) args s 0 0 AA) (F0 m 26 ls []) := by
    intro k26
    induction k26 with
    | zero =>
      intro v5 v6 v7 v8 v9 hF
      rw [f_X0_chooseEnd_l26_z] at hF
      cases hF
    | succ k26 ih26 =>
      have hl132 : ∀ (v5 : Int32) (v6 : Int32) (v7 : Int32) (v8 : Int32) (v9 : Int32), f_X0_chooseEnd_l132 (fun zv5 zv6 zv7 zv8 zv9 => f_X0_chooseEnd_l26 (A 0) (A 1) (A 2) (LeR 0) (LeR 1) (LeR 2) (LeR 4) (LeZ 2) (LeZ 3) x0 x1 x2 k26 zv5 zv6 zv7 zv8 zv9) (A 0) (A 1) (A 2) (LeR 4) x1 v5 v6 v7 v8 v9 = some q → ∀ (H : Heap) (locs : List Loc), hm_X g AA s H locs ([[(a 0, .inr (0, [.ref (a 1), .ref (a 2), .ref (a 3)]))], [hm_ci g (a 1) 101 (A 0)], [hm_ci g (a 2) 101 (A 1)], [hm_ci g (a 3) 101 (A 2)], hm_wLe g aLe LeR LeZ] : List va_W).flatten → ∀ ls : Array Slot, lv_has ls 13 [(0, .ref (a 0)), (1, .ref (aLe 0)), (2, .int x0), (3, .int x1), (4, .int x2), (5, .int v5), (6, .int v6), (7, .int v7), (8, .int v8), (9, .int v9)] → W p l e rm_X0_chooseEnd s m args below meth c H locs 0 0 (MQ below (hm_Qv g AA ([hm_wBr g a (hm_up (hm_up (hm_up A 0 q.1) 1 q.2.1) 2 q.2.2), hm_wLe g aLe LeR LeZ] : List va_W).flatten) args s 0 0 AA) (F0 m 132 ls []) := by
        intro v5 v6 v7 v8 v9 hF H locs X ls hl
        unfold f_X0_chooseEnd_l132 at hF
        refine lv_aload_n hx hb dX0_chooseEnd_132 rfl (lv_at hl 1 rfl) ?_
        refine lv_iload hx hb dX0_chooseEnd_133 (lv_at hl 9 rfl) ?_
        obtain ⟨t6, ht6, hF⟩ := hm_bd hF
        refine hm_vi (As := [.int v9]) S X mw_X1_beginBehind hw_3_29 (c_X1_beginBehind l g aLe LeR LeZ v9 t6 ht6) (hm_mid [[(a 0, .inr (0, [.ref (a 1), .ref (a 2), .ref (a 3)]))], [hm_ci g (a 1) 101 (A 0)], [hm_ci g (a 2) 101 (A 1)], [hm_ci g (a 3) 101 (A 2)]] []) (hm_mid [[(a 0, .inr (0, [.ref (a 1), .ref (a 2), .ref (a 3)]))], [hm_ci g (a 1) 101 (A 0)], [hm_ci g (a 2) 101 (A 1)], [hm_ci g (a 3) 101 (A 2)]] [] (b := hm_wLe g aLe LeR LeZ)) rfl rfl rfl ⟨rfl, rfl, Nat.le_of_ble_eq_true rfl, Nat.le_of_ble_eq_true rfl⟩ rfl hl.1 rfl (Nat.le_of_ble_eq_true rfl) dX0_chooseEnd_135 ⟨Nat.zero_le _, Nat.zero_le _⟩ (fun H locs X => ?_)
        have X := X.to (ws' := ([[(a 0, .inr (0, [.ref (a 1), .ref (a 2), .ref (a 3)]))], [hm_ci g (a 1) 101 (A 0)], [hm_ci g (a 2) 101 (A 1)], [hm_ci g (a 3) 101 (A 2)], hm_wLe g aLe LeR LeZ] : List va_W).flatten) rfl
        refine lv_iload hx hb dX0_chooseEnd_138 (lv_at hl 8 rfl) ?_
        refine lv_icmp_le (tgt := 146) hx hb dX0_chooseEnd_140 (by decide) (fun c140 => ?_) (fun c140 => ?_)
        · have hF := hm_if hF c140
          refine lv_iinc (v := (v9 + 1)) (lv' := [(9, .int (v9 + 1)), (0, .ref (a 0)), (1, .ref (aLe 0)), (2, .int x0), (3, .int x1), (4, .int x2), (5, .int v5), (6, .int v6), (7, .int v7), (8, .int v8)]) hx hb dX0_chooseEnd_146 hl (k := 9) rfl rfl (by decide) rfl (fun ls hl => ?_)
          refine lv_goto (tgt := 26) hx hb dX0_chooseEnd_149 (by decide) ?_
          exact ih26 v5 v6 v7 v8 (v9 + 1) hF _ _ X _ (lv_sub hl [1, 2, 3, 4, 5, 6, 7, 8, 9, 0] rfl)
        · have hF := hm_nf hF c140
          refine lv_goto (tgt := 152) hx hb dX0_chooseEnd_143 (by decide) ?_
          exact hl152 v5 v6 v7 hF _ _ X _ (lv_sub hl [0, 3, 5, 6, 7] rfl)
      have hl120 : ∀ (v8 : Int32) (v9 : Int32) (v11 : Int32) (v12 : Int32), f_X0_chooseEnd_l120 (fun zv5 zv6 zv7 zv8 zv9 => f_X0_chooseEnd_l26 (A 0) (A 1) (A 2) (LeR 0) (LeR 1) (LeR 2) (LeR 4) (LeZ 2) (LeZ 3) x0 x1 x2 k26 zv5 zv6 zv7 zv8 zv9) (A 0) (A 1) (A 2) (LeR 4) x1 v8 v9 v11 v12 = some q → ∀ (H : Heap) (locs : List Loc), hm_X g AA s H locs ([[(a 0, .inr (0, [.ref (a 1), .ref (a 2), .ref (a 3)]))], [hm_ci g (a 1) 101 (A 0)], [hm_ci g (a 2) 101 (A 1)], [hm_ci g (a 3) 101 (A 2)], hm_wLe g aLe LeR LeZ] : List va_W).flatten → ∀ ls : Array Slot, lv_has ls 13 [(0, .ref (a 0)), (1, .ref (aLe 0)), (2, .int x0), (3, .int x1), (4, .int x2), (8, .int v8), (9, .int v9), (11, .int v11), (12, .int v12)] → W p l e rm_X0_chooseEnd s m args below meth c H locs 0 0 (MQ below (hm_Qv g AA ([hm_wBr g a (hm_up (hm_up (hm_up A 0 q.1) 1 q.2.1) 2 q.2.2), hm_wLe g aLe LeR LeZ] : List va_W).flatten) args s 0 0 AA) (F0 m 120 ls []) := by
        intro v8 v9 v11 v12 hF H locs X ls hl
        unfold f_X0_chooseEnd_l120 at hF
        refine lv_iload hx hb dX0_chooseEnd_120 (lv_at hl 7 rfl) ?_
        refine lv_istore (lv' := [(5, .int v11), (0, .ref (a 0)), (1, .ref (aLe 0)), (2, .int x0), (3, .int x1), (4, .int x2), (8, .int v8), (9, .int v9), (11, .int v11), (12, .int v12)]) hx hb dX0_chooseEnd_122 hl (by decide) rfl (fun ls hl => ?_)
        refine lv_iload hx hb dX0_chooseEnd_124 (lv_at hl 9 rfl) ?_
        refine lv_istore (lv' := [(6, .int v12), (5, .int v11), (0, .ref (a 0)), (1, .ref (aLe 0)), (2, .int x0), (3, .int x1), (4, .int x2), (8, .int v8), (9, .int v9), (11, .int v11), (12, .int v12)]) hx hb dX0_chooseEnd_126 hl (by decide) rfl (fun ls hl => ?_)
        refine lv_iload hx hb dX0_chooseEnd_128 (lv_at hl 8 rfl) ?_
        refine lv_istore (lv' := [(7, .int v9), (6, .int v12), (5, .int v11), (0, .ref (a 0)), (1, .ref (aLe 0)), (2, .int x0), (3, .int x1), (4, .int x2), (8, .int v8), (9, .int v9), (11, .int v11), (12, .int v12)]) hx hb dX0_chooseEnd_130 hl (by decide) rfl (fun ls hl => ?_)
        exact hl132 v11 v12 v9 v8 v9 hF _ _ X _ (lv_sub hl [3, 4, 5, 6, 7, 2, 1, 0, 8, 9] rfl)
      intro v5 v6 v7 v8 v9 hF H locs X ls hl
      rw [f_X0_chooseEnd_l26_s] at hF
      refine lv_iload hx hb dX0_chooseEnd_26 (lv_at hl 9 rfl) ?_
      refine lv_iload hx hb dX0_chooseEnd_28 (lv_at hl 4 rfl) ?_
      refine lv_icmp_ge (tgt := 152) hx hb dX0_chooseEnd_30 (by decide) (fun c30 => ?_) (fun c30 => ?_)
      · have hF := hm_if hF c30
        exact hl152 v5 v6 v7 hF _ _ X _ (lv_sub hl [0, 3, 5, 6, 7] rfl)
      · have hF := hm_nf hF c30
        refine lv_aload_n hx hb dX0_chooseEnd_33 rfl (lv_at hl 1 rfl) ?_
        refine lv_iload_n hx hb dX0_chooseEnd_34 rfl (lv_at hl 2 rfl) ?_
        refine lv_iload_n hx hb dX0_chooseEnd_35 rfl (lv_at hl 3 rfl) ?_
        refine lv_iload hx hb dX0_chooseEnd_36 (lv_at hl 9 rfl) ?_
        obtain ⟨t5, ht5, hF⟩ := hm_bd hF
        refine hm_vi (As := [.int x0, .int x1, .int v9]) S X mw_X1_leftBy hw_3_34 (c_X1_leftBy l g aLe LeR LeZ x0 x1 v9 t5 ht5) (hm_mid [[(a 0, .inr (0, [.ref (a 1), .ref (a 2), .ref (a 3)]))], [hm_ci g (a 1) 101 (A 0)], [hm_ci g (a 2) 101 (A 1)], [hm_ci g (a 3) 101 (A 2)]] []) (hm_mid [[(a 0, .inr (0, [.ref (a 1), .ref (a 2), .ref (a 3)]))], [hm_ci g (a 1) 101 (A 0)], [hm_ci g (a 2) 101 (A 1)], [hm_ci g (a 3) 101 (A 2)]] [] (b := hm_wLe g aLe LeR LeZ)) rfl rfl rfl ⟨rfl, rfl, Nat.le_of_ble_eq_true rfl, Nat.le_of_ble_eq_true rfl⟩ rfl hl.1 rfl (Nat.le_of_ble_eq_true rfl) dX0_chooseEnd_38 ⟨Nat.zero_le _, Nat.zero_le _⟩ (fun H locs X => ?_)
        have X := X.to (ws' := ([[(a 0, .inr (0, [.ref (a 1), .ref (a 2), .ref (a 3)]))], [hm_ci g (a 1) 101 (A 0)], [hm_ci g (a 2) 101 (A 1)], [hm_ci g (a 3) 101 (A 2)], hm_wLe g aLe LeR LeZ] : List va_W).flatten) rfl
        refine lv_istore (lv' := [(10, .int t5), (0, .ref (a 0)), (1, .ref (aLe 0)), (2, .int x0), (3, .int x1), (4, .int x2), (5, .int v5), (6, .int v6), (7, .int v7), (8, .int v8), (9, .int v9)]) hx hb dX0_chooseEnd_41 hl (by decide) rfl (fun ls hl => ?_)
        refine lv_iload hx hb dX0_chooseEnd_43 (lv_at hl 0 rfl) ?_
        refine lv_if_lt (tgt := 132) hx hb dX0_chooseEnd_45 (by decide) (fun c45 => ?_) (fun c45 => ?_)
        · have hF := hm_if hF c45
          exact hl132 v5 v6 v7 v8 v9 hF _ _ X _ (lv_sub hl [1, 2, 3, 4, 5, 6, 7, 8, 9, 10] rfl)
        · have hF := hm_nf hF c45
          refine lv_aload_n hx hb dX0_chooseEnd_48 rfl (lv_at hl 1 rfl) ?_
          refine hm_get S X hf_X0_15 0 rfl rfl dX0_chooseEnd_49 ?_
          refine lv_iload hx hb dX0_chooseEnd_52 (lv_at hl 10 rfl) ?_
          refine lv_iconst (v := 1) hx hb dX0_chooseEnd_54 (by decide) ?_
          refine lv_iadd hx hb dX0_chooseEnd_55 ?_
          obtain ⟨t7, ht7, hF⟩ := hm_bd hF
          refine hm_iald S X ht7 2 rfl dX0_chooseEnd_56 ?_
          refine lv_if_lt (tgt := 132) hx hb dX0_chooseEnd_57 (by decide) (fun c57 => ?_) (fun c57 => ?_)
          · have hF := hm_if hF c57
            exact hl132 v5 v6 v7 v8 v9 hF _ _ X _ (lv_sub hl [1, 2, 3, 4, 5, 6, 7, 8, 9, 10] rfl)
          · have hF := hm_nf hF c57
            refine lv_aload_n hx hb dX0_chooseEnd_60 rfl (lv_at hl 2 rfl) ?_
            refine lv_iload hx hb dX0_chooseEnd_61 (lv_at hl 0 rfl) ?_
            refine lv_iload_n hx hb dX0_chooseEnd_63 rfl (lv_at hl 4 rfl) ?_
            refine lv_iload hx hb dX0_chooseEnd_64 (lv_at hl 10 rfl) ?_
            obtain ⟨t8, ht8, hF⟩ := hm_bd hF
            refine hm_vi (As := [.int t5, .int x1, .int v9]) S X mw_X1_costBy hw_3_38 (c_X1_costBy l g aLe LeR LeZ t5 x1 v9 t8 ht8) (hm_mid [[(a 0, .inr (0, [.ref (a 1), .ref (a 2), .ref (a 3)]))], [hm_ci g (a 1) 101 (A 0)], [hm_ci g (a 2) 101 (A 1)], [hm_ci g (a 3) 101 (A 2)]] []) (hm_mid [[(a 0, .inr (0, [.ref (a 1), .ref (a 2), .ref (a 3)]))], [hm_ci g (a 1) 101 (A 0)], [hm_ci g (a 2) 101 (A 1)], [hm_ci g (a 3) 101 (A 2)]] [] (b := hm_wLe g aLe LeR LeZ)) rfl rfl rfl ⟨rfl, rfl, Nat.le_of_ble_eq_true rfl, Nat.le_of_ble_eq_true rfl⟩ rfl hl.1 rfl (Nat.le_of_ble_eq_true rfl) dX0_chooseEnd_66 ⟨Nat.zero_le _, Nat.zero_le _⟩ (fun H locs X => ?_)
            have X := X.to (ws' := ([[(a 0, .inr (0, [.ref (a 1), .ref (a 2), .ref (a 3)]))], [hm_ci g (a 1) 101 (A 0)], [hm_ci g (a 2) 101 (A 1)], [hm_ci g (a 3) 101 (A 2)], hm_wLe g aLe LeR LeZ] : List va_W).flatten) rfl
            refine lv_aload_n hx hb dX0_chooseEnd_69 rfl (lv_at hl 1 rfl) ?_
            refine hm_get S X hf_X0_9 0 rfl rfl dX0_chooseEnd_70 ?_
            refine lv_iload hx hb dX0_chooseEnd_73 (lv_at hl 10 rfl) ?_
            refine lv_iconst (v := 1) hx hb dX0_chooseEnd_75 (by decide) ?_
            refine lv_iadd hx hb dX0_chooseEnd_76 ?_
            obtain ⟨t9, ht9, hF⟩ := hm_bd hF
            refine hm_iald S X ht9 1 rfl dX0_chooseEnd_77 ?_
            refine lv_iadd hx hb dX0_chooseEnd_78 ?_
            refine lv_istore (lv' := [(11, .int (t8 + t9)), (10, .int t5), (0, .ref (a 0)), (1, .ref (aLe 0)), (2, .int x0), (3, .int x1), (4, .int x2), (5, .int v5), (6, .int v6), (7, .int v7), (8, .int v8), (9, .int v9)]) hx hb dX0_chooseEnd_79 hl (by decide) rfl (fun ls hl => ?_)
            refine lv_aload_n hx hb dX0_chooseEnd_81 rfl (lv_at hl 2 rfl) ?_
            refine hm_get S X hf_X0_15 0 rfl rfl dX0_chooseEnd_82 ?_
            refine lv_iload hx hb dX0_chooseEnd_85 (lv_at hl 11 rfl) ?_
            refine lv_iconst (v := 1) hx hb dX0_chooseEnd_87 (by decide) ?_
            refine lv_iadd hx hb dX0_chooseEnd_88 ?_
            obtain ⟨t10, ht10, hF⟩ := hm_bd hF
            refine hm_iald S X ht10 2 rfl dX0_chooseEnd_89 ?_
            refine lv_iconst (v := 1) hx hb dX0_chooseEnd_90 (by decide) ?_
            refine lv_iadd hx hb dX0_chooseEnd_91 ?_
            refine lv_istore (lv' := [(12, .int (t10 + 1)), (11, .int (t8 + t9)), (10, .int t5), (0, .ref (a 0)), (1, .ref (aLe 0)), (2, .int x0), (3, .int x1), (4, .int x2), (5, .int v5), (6, .int v6), (7, .int v7), (8, .int v8), (9, .int v9)]) hx hb dX0_chooseEnd_92 hl (by decide) rfl (fun ls hl => ?_)
            refine lv_iload hx hb dX0_chooseEnd_94 (lv_at hl 10 rfl) ?_
            refine lv_if_lt (tgt := 120) hx hb dX0_chooseEnd_96 (by decide) (fun c96 => ?_) (fun c96 => ?_)
            · have hF := hm_if hF c96
              exact hl120 v8 v9 (t8 + t9) (t10 + 1) hF _ _ X _ (lv_sub hl [3, 4, 5, 6, 7, 11, 12, 1, 0] rfl)
            · have hF := hm_nf hF c96
              refine lv_iload hx hb dX0_chooseEnd_99 (lv_at hl 1 rfl) ?_
              refine lv_iload hx hb dX0_chooseEnd_101 (lv_at hl 8 rfl) ?_
              refine lv_icmp_lt (tgt := 120) hx hb dX0_chooseEnd_103 (by decide) (fun c103 => ?_) (fun c103 => ?_)
              · have hF := hm_if hF c103
                exact hl120 v8 v9 (t8 + t9) (t10 + 1) hF _ _ X _ (lv_sub hl [3, 4, 5, 6, 7, 11, 12, 1, 0] rfl)
              · have hF := hm_nf hF c103
                refine lv_iload hx hb dX0_chooseEnd_106 (lv_at hl 1 rfl) ?_
                refine lv_iload hx hb dX0_chooseEnd_108 (lv_at hl 8 rfl) ?_
                refine lv_icmp_ne (tgt := 132) hx hb dX0_chooseEnd_110 (by decide) (fun c110 => ?_) (fun c110 => ?_)
                · have hF := hm_nf hF c110
                  exact hl132 v5 v6 v7 v8 v9 hF _ _ X _ (lv_sub hl [3, 4, 5, 6, 7, 8, 9, 10, 11, 12] rfl)
                · have hF := hm_if hF c110
                  refine lv_iload hx hb dX0_chooseEnd_113 (lv_at hl 0 rfl) ?_
                  refine lv_iload hx hb dX0_chooseEnd_115 (lv_at hl 9 rfl) ?_
                  refine lv_icmp_gt (tgt := 132) hx hb dX0_chooseEnd_117 (by decide) (fun c117 => ?_) (fun c117 => ?_)
                  · have hF := hm_if hF c117
                    exact hl132 v5 v6 v7 v8 v9 hF _ _ X _ (lv_sub hl [3, 4, 5, 6, 7, 8, 9, 10, 11, 12] rfl)
                  · have hF := hm_nf hF c117
                    exact hl120 v8 v9 (t8 + t9) (t10 + 1) hF _ _ X _ (lv_sub hl [3, 4, 5, 6, 7, 11, 12, 1, 0] rfl)
  unfold f_X0_chooseEnd at hF
  refine lv_iconst (v := 0) hx hb dX0_chooseEnd_0 (by decide) ?_
  refine lv_istore (lv' := [(5, .int 0), (0, .ref (a 0)), (1, .ref (aLe 0)), (2, .int x0), (3, .int x1), (4, .int x2)]) hx hb dX0_chooseEnd_1 hl (by decide) rfl (fun ls hl => ?_)
  refine lv_iconst (v := (-1)) hx hb dX0_chooseEnd_3 (by decide) ?_
  refine lv_istore (lv' := [(6, .int (-1)), (5, .int 0), (0, .ref (a 0)), (1, .ref (aLe 0)), (2, .int x0), (3, .int x1), (4, .int x2)]) hx hb dX0_chooseEnd_4 hl (by decide) rfl (fun ls hl => ?_)
  refine lv_iconst (v := (-1)) hx hb dX0_chooseEnd_6 (by decide) ?_
  refine lv_istore (lv' := [(7, .int (-1)), (6, .int (-1)), (5, .int 0), (0, .ref (a 0)), (1, .ref (aLe 0)), (2, .int x0), (3, .int x1), (4, .int x2)]) hx hb dX0_chooseEnd_7 hl (by decide) rfl (fun ls hl => ?_)
  refine lv_iload_n hx hb dX0_chooseEnd_9 rfl (lv_at hl 5 rfl) ?_
  refine lv_bipush (v := 9) hx hb dX0_chooseEnd_10 (by decide) ?_
  refine lv_iadd hx hb dX0_chooseEnd_12 ?_
  refine lv_aload_n hx hb dX0_chooseEnd_13 rfl (lv_at hl 4 rfl) ?_
  refine lv_iload_n hx hb dX0_chooseEnd_14 rfl (lv_at hl 6 rfl) ?_
  obtain ⟨t1, ht1, hF⟩ := hm_bd hF
  refine hm_vi (As := [.int x1]) S X mw_X1_beginBehind hw_3_29 (c_X1_beginBehind l g aLe LeR LeZ x1 t1 ht1) (hm_mid [[(a 0, .inr (0, [.ref (a 1), .ref (a 2), .ref (a 3)]))], [hm_ci g (a 1) 101 (A 0)], [hm_ci g (a 2) 101 (A 1)], [hm_ci g (a 3) 101 (A 2)]] []) (hm_mid [[(a 0, .inr (0, [.ref (a 1), .ref (a 2), .ref (a 3)]))], [hm_ci g (a 1) 101 (A 0)], [hm_ci g (a 2) 101 (A 1)], [hm_ci g (a 3) 101 (A 2)]] [] (b := hm_wLe g aLe LeR LeZ)) rfl rfl rfl ⟨rfl, rfl, Nat.le_of_ble_eq_true rfl, Nat.le_of_ble_eq_true rfl⟩ rfl hl.1 rfl (Nat.le_of_ble_eq_true rfl) dX0_chooseEnd_15 ⟨Nat.zero_le _, Nat.zero_le _⟩ (fun H locs X => ?_)
  have X := X.to (ws' := ([[(a 0, .inr (0, [.ref (a 1), .ref (a 2), .ref (a 3)]))], [hm_ci g (a 1) 101 (A 0)], [hm_ci g (a 2) 101 (A 1)], [hm_ci g (a 3) 101 (A 2)], hm_wLe g aLe LeR LeZ] : List va_W).flatten) rfl
  refine lv_iadd hx hb dX0_chooseEnd_18 ?_
  refine lv_istore (lv' := [(8, .int ((x0 + 9) + t1)), (7, .int (-1)), (6, .int (-1)), (5, .int 0), (0, .ref (a 0)), (1, .ref (aLe 0)), (2, .int x0), (3, .int x1), (4, .int x2)]) hx hb dX0_chooseEnd_19 hl (by decide) rfl (fun ls hl => ?_)
  refine lv_iload_n hx hb dX0_chooseEnd_21 rfl (lv_at hl 7 rfl) ?_
  refine lv_iconst (v := 1) hx hb dX0_chooseEnd_22 (by decide) ?_
  refine lv_iadd hx hb dX0_chooseEnd_23 ?_
  refine lv_istore (lv' := [(9, .int (x1 + 1)), (8, .int ((x0 + 9) + t1)), (7, .int (-1)), (6, .int (-1)), (5, .int 0), (0, .ref (a 0)), (1, .ref (aLe 0)), (2, .int x0), (3, .int x1), (4, .int x2)]) hx hb dX0_chooseEnd_24 hl (by decide) rfl (fun ls hl => ?_)
  exact hl26 hm_fu 0 (-1) (-1) ((x0 + 9) + t1) (x1 + 1) hF _ _ X _ (lv_sub hl [5, 6, 7, 8, 9, 4, 3, 2, 1, 0] rfl)
def f_X0_solve_l40 (LeR_0 : hm_SR) (LeR_1 : hm_SR) (LeR_2 : hm_SR) (LeR_4 : hm_SR) (LeZ_2 : Int32) (LeZ_3 : Int32) (x0 : Int32) : Nat → Int32 → Int32 → (Nat → Int32) → (Nat → Int32) → (Nat → Int32) → Option ((Nat → Int32) × (Nat → Int32) × (Nat → Int32))
  | 0, _, _, _, _, _ => none
  | k + 1, v3, v4, wA_0, wA_1, wA_2 =>
  if v4 < (-1) then (
  some (wA_0, wA_1, wA_2))
  else (
  (f_X0_chooseEnd wA_0 wA_1 wA_2 LeR_0 LeR_1 LeR_2 LeR_4 LeZ_2 LeZ_3 x0 v4 v3).bind fun t5 =>
  f_X0_solve_l40 LeR_0 LeR_1 LeR_2 LeR_4 LeZ_2 LeZ_3 x0 k v3 (v4 + (-1)) t5.1 t5.2.1 t5.2.2)
theorem f_X0_solve_l40_s (LeR_0 : hm_SR) (LeR_1 : hm_SR) (LeR_2 : hm_SR) (LeR_4 : hm_SR) (LeZ_2 : Int32) (LeZ_3 : Int32) (x0 : Int32) (k : Nat) (v3 : Int32) (v4 : Int32) (wA_0 : Nat → Int32) (wA_1 : Nat → Int32) (wA_2 : Nat → Int32) : f_X0_solve_l40 LeR_0 LeR_1 LeR_2 LeR_4 LeZ_2 LeZ_3 x0 (k + 1) v3 v4 wA_0 wA_1 wA_2 =
  if v4 < (-1) then (
  some (wA_0, wA_1, wA_2))
  else (
  (f_X0_chooseEnd wA_0 wA_1 wA_2 LeR_0 LeR_1 LeR_2 LeR_4 LeZ_2 LeZ_3 x0 v4 v3).bind fun t5 =>
  f_X0_solve_l40 LeR_0 LeR_1 LeR_2 LeR_4 LeZ_2 LeZ_3 x0 k v3 (v4 + (-1)) t5.1 t5.2.1 t5.2.2) := rfl
theorem f_X0_solve_l40_z (LeR_0 : hm_SR) (LeR_1 : hm_SR) (LeR_2 : hm_SR) (LeR_4 : hm_SR) (LeZ_2 : Int32) (LeZ_3 : Int32) (x0 : Int32) (v3 : Int32) (v4 : Int32) (wA_0 : Nat → Int32) (wA_1 : Nat → Int32) (wA_2 : Nat → Int32) : f_X0_solve_l40 LeR_0 LeR_1 LeR_2 LeR_4 LeZ_2 LeZ_3 x0 0 v3 v4 wA_0 wA_1 wA_2 = none := rfl
def f_X0_solve (A_0 : Nat → Int32) (A_1 : Nat → Int32) (A_2 : Nat → Int32) (LeR_0 : hm_SR) (LeR_1 : hm_SR) (LeR_2 : hm_SR) (LeR_4 : hm_SR) (LeZ_2 : Int32) (LeZ_3 : Int32) (x0 : Int32)  : Option ((Nat → Int32) × (Nat → Int32) × (Nat → Int32)) :=
  (f_X1_places LeR_0).bind fun t1 =>
  (hm_wr 101 A_0 (if 0 < (if 100 < t1 then 100 else t1) then (if 100 < t1 then 100 else t1) else 0) 0).bind fun f2 =>
  (hm_wr 101 A_1 (if 0 < (if 100 < t1 then 100 else t1) then (if 100 < t1 then 100 else t1) else 0) 0).bind fun f3 =>
  (hm_wr 101 A_2 (if 0 < (if 100 < t1 then 100 else t1) then (if 100 < t1 then 100 else t1) else 0) (if 0 < (if 100 < t1 then 100 else t1) then (if 100 < t1 then 100 else t1) else 0)).bind fun f4 =>
  f_X0_solve_l40 LeR_0 LeR_1 LeR_2 LeR_4 LeZ_2 LeZ_3 x0 hm_fu (if 0 < (if 100 < t1 then 100 else t1) then (if 100 < t1 then 100 else t1) else 0) ((if 0 < (if 100 < t1 then 100 else t1) then (if 100 < t1 then 100 else t1) else 0) - 2) f2 f3 f4
abbrev rm_X0_solve : Room := { frames := 3, cells := 0, slots := 0, locals := 77 }
set_option maxHeartbeats 4000000 in
set_option maxRecDepth 100000 in
theorem c_X0_solve (l : Launch) (g : hm_G) (a : Nat → Nat) (A : Nat → Nat → Int32) (aLe : Nat → Nat) (LeR : Nat → hm_SR) (LeZ : Nat → Int32) (x0 : Int32) (q : (Nat → Int32) × (Nat → Int32) × (Nat → Int32)) (hF : f_X0_solve (A 0) (A 1) (A 2) (LeR 0) (LeR 1) (LeR 2) (LeR 4) (LeZ 2) (LeZ 3) x0 = some q) : hm_Mv l yX0_solve (Cond.code yX0_solve cX0_solve 5 none :: hm_W) rm_X0_solve g [.ref (a 0), .ref (aLe 0), .int x0] ([hm_wBr g a A, hm_wLe g aLe LeR LeZ] : List va_W).flatten ([hm_wBr g a (hm_up (hm_up (hm_up A 0 q.1) 1 q.2.1) 2 q.2.2), hm_wLe g aLe LeR LeZ] : List va_W).flatten := by
  refine hm_ofv [(0, .ref (a 0)), (1, .ref (aLe 0)), (2, .int x0)] (by decide) (own := RX0) rfl (Nat.le_of_ble_eq_true rfl) rfl rfl ?_
  intro p e s m args below meth c AA S hr hlk X ls hl
  have hx := S.1
  have hb := S.2.1
  have hown := S.2.2.2.1
  have hts := S.2.2.2.2
  have X := X.to (ws' := ([[(a 0, .inr (0, [.ref (a 1), .ref (a 2), .ref (a 3)]))], [hm_ci g (a 1) 101 (A 0)], [hm_ci g (a 2) 101 (A 1)], [hm_ci g (a 3) 101 (A 2)], hm_wLe g aLe LeR LeZ] : List va_W).flatten) rfl
  have hl40 : ∀ (k40 : Nat) (v3 : Int32) (v4 : Int32) (wA_0 : Nat → Int32) (wA_1 : Nat → Int32) (wA_2 : Nat → Int32), f_X0_solve_l40 (LeR 0) (LeR 1) (LeR 2) (LeR 4) (LeZ 2) (LeZ 3) x0 k40 v3 v4 wA_0 wA_1 wA_2 = some q → ∀ (H : Heap) (locs : List Loc), hm_X g AA s H locs ([[(a 0, .inr (0, [.ref (a 1), .ref (a 2), .ref (a 3)]))], [hm_ci g (a 1) 101 wA_0], [hm_ci g (a 2) 101 wA_1], [hm_ci g (a 3) 101 wA_2], hm_wLe g aLe LeR LeZ] : List va_W).flatten → ∀ ls : Array Slot, lv_has ls 5 [(0, .ref (a 0)), (1, .ref (aLe 0)), (2, .int x0), (3, .int v3), (4, .int v4)] → W p l e rm_X0_solve s m args below meth c H locs 0 0 (MQ below (hm_Qv g AA ([hm_wBr g a (hm_up (hm_up (hm_up A 0 q.1) 1 q.2.1) 2 q.2.2), hm_wLe g aLe LeR LeZ] : List va_W).flatten) args s 0 0 AA) (F0 m 40 ls []) := by
    intro k40
    induction k40 with
    | zero =>
      intro v3 v4 wA_0 wA_1 wA_2 hF
      rw [f_X0_solve_l40_z] at hF
      cases hF
    | succ k40 ih40 =>
      intro v3 v4 wA_0 wA_1 wA_2 hF H locs X ls hl
      rw [f_X0_solve_l40_s] at hF
      refine lv_iload hx hb dX0_solve_40 (lv_at hl 4 rfl) ?_
      refine lv_iconst (v := (-1)) hx hb dX0_solve_42 (by decide) ?_
      refine lv_icmp_lt (tgt := 61) hx hb dX0_solve_43 (by decide) (fun c43 => ?_) (fun c43 => ?_)
      · have hF := hm_if hF c43
        obtain rfl := Option.some.inj hF
        exact hm_rv S hr hlk X rfl dX0_solve_61
      · have hF := hm_nf hF c43
        refine lv_aload_n hx hb dX0_solve_46 rfl (lv_at hl 0 rfl) ?_
        refine lv_aload_n hx hb dX0_solve_47 rfl (lv_at hl 1 rfl) ?_
        refine lv_iload_n hx hb dX0_solve_48 rfl (lv_at hl 2 rfl) ?_
        refine lv_iload hx hb dX0_solve_49 (lv_at hl 4 rfl) ?_
        refine lv_iload_n hx hb dX0_solve_51 rfl (lv_at hl 3 rfl) ?_
        obtain ⟨t5, ht5, hF⟩ := hm_bd hF
        refine hm_vv (As := [.ref (aLe 0), .int x0, .int v4, .int v3]) S X mw_X0_chooseEnd hw_3_25 (c_X0_chooseEnd l g a (hm_up (hm_up (hm_up A 0 wA_0) 1 wA_1) 2 wA_2) aLe LeR LeZ x0 v4 v3 t5 ht5) (hm_cq (n := 5) [0, 1, 2, 3, 4] [] rfl (by decide +kernel) rfl rfl) (hm_cq (bs := [[(a 0, .inr (0, [.ref (a 1), .ref (a 2), .ref (a 3)]))], [hm_ci g (a 1) 101 t5.1], [hm_ci g (a 2) 101 t5.2.1], [hm_ci g (a 3) 101 t5.2.2], hm_wLe g aLe LeR LeZ]) (n := 5) [0, 1, 2, 3, 4] [] rfl (by decide +kernel) rfl rfl) rfl rfl rfl ⟨rfl, rfl, Nat.le_of_ble_eq_true rfl, Nat.le_of_ble_eq_true rfl⟩ rfl hl.1 rfl (Nat.le_of_ble_eq_true rfl) dX0_solve_52 ⟨Nat.zero_le _, Nat.zero_le _⟩ (fun H locs X => ?_)
        have X := X.to (ws' := ([[(a 0, .inr (0, [.ref (a 1), .ref (a 2), .ref (a 3)]))], [hm_ci g (a 1) 101 t5.1], [hm_ci g (a 2) 101 t5.2.1], [hm_ci g (a 3) 101 t5.2.2], hm_wLe g aLe LeR LeZ] : List va_W).flatten) rfl
        refine lv_iinc (v := (v4 + (-1))) (lv' := [(4, .int (v4 + (-1))), (0, .ref (a 0)), (1, .ref (aLe 0)), (2, .int x0), (3, .int v3)]) hx hb dX0_solve_55 hl (k := 4) rfl rfl (by decide) rfl (fun ls hl => ?_)
        refine lv_goto (tgt := 40) hx hb dX0_solve_58 (by decide) ?_
        exact ih40 v3 (v4 + (-1)) t5.1 t5.2.1 t5.2.2 hF _ _ X _ (lv_sub hl [1, 2, 3, 4, 0] rfl)
  unfold f_X0_solve at hF
  refine lv_iconst (v := 0) hx hb dX0_solve_0 (by decide) ?_
  refine lv_aload_n hx hb dX0_solve_1 rfl (lv_at hl 1 rfl) ?_
  obtain ⟨t1, ht1, hF⟩ := hm_bd hF
  refine hm_vi (As := []) S X mw_X1_places hw_3_16 (c_X1_places l g aLe LeR LeZ t1 ht1) (hm_mid [[(a 0, .inr (0, [.ref (a 1), .ref (a 2), .ref (a 3)]))], [hm_ci g (a 1) 101 (A 0)], [hm_ci g (a 2) 101 (A 1)], [hm_ci g (a 3) 101 (A 2)]] []) (hm_mid [[(a 0, .inr (0, [.ref (a 1), .ref (a 2), .ref (a 3)]))], [hm_ci g (a 1) 101 (A 0)], [hm_ci g (a 2) 101 (A 1)], [hm_ci g (a 3) 101 (A 2)]] [] (b := hm_wLe g aLe LeR LeZ)) rfl rfl rfl ⟨rfl, rfl, Nat.le_of_ble_eq_true rfl, Nat.le_of_ble_eq_true rfl⟩ rfl hl.1 rfl (Nat.le_of_ble_eq_true rfl) dX0_solve_2 ⟨Nat.zero_le _, Nat.zero_le _⟩ (fun H locs X => ?_)
  have X := X.to (ws' := ([[(a 0, .inr (0, [.ref (a 1), .ref (a 2), .ref (a 3)]))], [hm_ci g (a 1) 101 (A 0)], [hm_ci g (a 2) 101 (A 1)], [hm_ci g (a 3) 101 (A 2)], hm_wLe g aLe LeR LeZ] : List va_W).flatten) rfl
  refine lv_bipush (v := 100) hx hb dX0_solve_5 (by decide) ?_
  refine hm_mmin S hl.1 hw_3_21 (Nat.le_of_ble_eq_true rfl) (Nat.le_of_ble_eq_true rfl) (Nat.zero_le _) (Nat.zero_le _) dX0_solve_7 ?_
  refine hm_mmax S hl.1 hw_3_24 (Nat.le_of_ble_eq_true rfl) (Nat.le_of_ble_eq_true rfl) (Nat.zero_le _) (Nat.zero_le _) dX0_solve_10 ?_
  refine lv_istore_n (lv' := [(3, .int (if 0 < (if 100 < t1 then 100 else t1) then (if 100 < t1 then 100 else t1) else 0)), (0, .ref (a 0)), (1, .ref (aLe 0)), (2, .int x0)]) hx hb dX0_solve_13 rfl hl (by decide) rfl (fun ls hl => ?_)
  refine lv_aload_n hx hb dX0_solve_14 rfl (lv_at hl 1 rfl) ?_
  refine hm_get S X hf_X0_9 0 rfl rfl dX0_solve_15 ?_
  refine lv_iload_n hx hb dX0_solve_18 rfl (lv_at hl 0 rfl) ?_
  refine lv_iconst (v := 0) hx hb dX0_solve_19 (by decide) ?_
  obtain ⟨f2, hf2, hF⟩ := hm_bd hF
  refine hm_iast S X hf2 1 rfl dX0_solve_20 (fun H locs X => ?_)
  have X := X.to (ws' := ([[(a 0, .inr (0, [.ref (a 1), .ref (a 2), .ref (a 3)]))], [hm_ci g (a 1) 101 f2], [hm_ci g (a 2) 101 (A 1)], [hm_ci g (a 3) 101 (A 2)], hm_wLe g aLe LeR LeZ] : List va_W).flatten) rfl
  refine lv_aload_n hx hb dX0_solve_21 rfl (lv_at hl 1 rfl) ?_
  refine hm_get S X hf_X0_15 0 rfl rfl dX0_solve_22 ?_
  refine lv_iload_n hx hb dX0_solve_25 rfl (lv_at hl 0 rfl) ?_
  refine lv_iconst (v := 0) hx hb dX0_solve_26 (by decide) ?_
  obtain ⟨f3, hf3, hF⟩ := hm_bd hF
  refine hm_iast S X hf3 2 rfl dX0_solve_27 (fun H locs X => ?_)
  have X := X.to (ws' := ([[(a 0, .inr (0, [.ref (a 1), .ref (a 2), .ref (a 3)]))], [hm_ci g (a 1) 101 f2], [hm_ci g (a 2) 101 f3], [hm_ci g (a 3) 101 (A 2)], hm_wLe g aLe LeR LeZ] : List va_W).flatten) rfl
  refine lv_aload_n hx hb dX0_solve_28 rfl (lv_at hl 1 rfl) ?_
  refine hm_get S X hf_X0_18 0 rfl rfl dX0_solve_29 ?_
  refine lv_iload_n hx hb dX0_solve_32 rfl (lv_at hl 0 rfl) ?_
  refine lv_iload_n hx hb dX0_solve_33 rfl (lv_at hl 0 rfl) ?_
  obtain ⟨f4, hf4, hF⟩ := hm_bd hF
  refine hm_iast S X hf4 3 rfl dX0_solve_34 (fun H locs X => ?_)
  have X := X.to (ws' := ([[(a 0, .inr (0, [.ref (a 1), .ref (a 2), .ref (a 3)]))], [hm_ci g (a 1) 101 f2], [hm_ci g (a 2) 101 f3], [hm_ci g (a 3) 101 f4], hm_wLe g aLe LeR LeZ] : List va_W).flatten) rfl
  refine lv_iload_n hx hb dX0_solve_35 rfl (lv_at hl 0 rfl) ?_
  refine lv_iconst (v := 2) hx hb dX0_solve_36 (by decide) ?_
  refine lv_isub hx hb dX0_solve_37 ?_
  refine lv_istore (lv' := [(4, .int ((if 0 < (if 100 < t1 then 100 else t1) then (if 100 < t1 then 100 else t1) else 0) - 2)), (3, .int (if 0 < (if 100 < t1 then 100 else t1) then (if 100 < t1 then 100 else t1) else 0)), (0, .ref (a 0)), (1, .ref (aLe 0)), (2, .int x0)]) hx hb dX0_solve_38 hl (by decide) rfl (fun ls hl => ?_)
  exact hl40 hm_fu (if 0 < (if 100 < t1 then 100 else t1) then (if 100 < t1 then 100 else t1) else 0) ((if 0 < (if 100 < t1 then 100 else t1) then (if 100 < t1 then 100 else t1) else 0) - 2) f2 f3 f4 hF _ _ X _ (lv_sub hl [2, 3, 4, 1, 0] rfl)
def f_X0_hasPage (A_1 : Nat → Int32)  : Option (Int32) :=
  (hm_rd 101 A_1 0).bind fun t1 =>
  if t1 < 0 then (
  some (0))
  else (
  some (1))
abbrev rm_X0_hasPage : Room := { frames := 0, cells := 0, slots := 0, locals := 0 }
set_option maxHeartbeats 4000000 in
set_option maxRecDepth 100000 in
theorem c_X0_hasPage (l : Launch) (g : hm_G) (a : Nat → Nat) (A : Nat → Nat → Int32) (q : Int32) (hF : f_X0_hasPage (A 1) = some q) : hm_Mi l yX0_hasPage (Cond.code yX0_hasPage cX0_hasPage 1 (some .boolean) :: hm_W) rm_X0_hasPage g [.ref (a 0)] ([hm_wBr g a A] : List va_W).flatten ([hm_wBr g a A] : List va_W).flatten q := by
  refine hm_ofi [(0, .ref (a 0))] (by decide) (own := RX0) rfl (Nat.le_of_ble_eq_true rfl) rfl rfl ?_
  intro p e s m args below meth c AA S hr hlk X ls hl
  have hx := S.1
  have hb := S.2.1
  have hown := S.2.2.2.1
  have hts := S.2.2.2.2
  have X := X.to (ws' := ([[(a 0, .inr (0, [.ref (a 1), .ref (a 2), .ref (a 3)]))], [hm_ci g (a 1) 101 (A 0)], [hm_ci g (a 2) 101 (A 1)], [hm_ci g (a 3) 101 (A 2)]] : List va_W).flatten) rfl
  unfold f_X0_hasPage at hF
  refine lv_aload_n hx hb dX0_hasPage_0 rfl (lv_at hl 0 rfl) ?_
  refine hm_get S X hf_X0_15 0 rfl rfl dX0_hasPage_1 ?_
  refine lv_iconst (v := 0) hx hb dX0_hasPage_4 (by decide) ?_
  obtain ⟨t1, ht1, hF⟩ := hm_bd hF
  refine hm_iald S X ht1 2 rfl dX0_hasPage_5 ?_
  refine lv_if_lt (tgt := 13) hx hb dX0_hasPage_6 (by decide) (fun c6 => ?_) (fun c6 => ?_)
  · have hF := hm_if hF c6
    refine lv_iconst (v := 0) hx hb dX0_hasPage_13 (by decide) ?_
    obtain rfl := Option.some.inj hF
    exact hm_rz S hr hlk X rfl rfl (Or.inl rfl) dX0_hasPage_14
  · have hF := hm_nf hF c6
    refine lv_iconst (v := 1) hx hb dX0_hasPage_9 (by decide) ?_
    refine lv_goto (tgt := 14) hx hb dX0_hasPage_10 (by decide) ?_
    obtain rfl := Option.some.inj hF
    exact hm_rz S hr hlk X rfl rfl (Or.inr rfl) dX0_hasPage_14
def f_X0_cost (A_0 : Nat → Int32)  : Option (Int32) :=
  (hm_rd 101 A_0 0).bind fun t1 =>
  some (t1)
abbrev rm_X0_cost : Room := { frames := 0, cells := 0, slots := 0, locals := 0 }
set_option maxHeartbeats 4000000 in
set_option maxRecDepth 100000 in
theorem c_X0_cost (l : Launch) (g : hm_G) (a : Nat → Nat) (A : Nat → Nat → Int32) (q : Int32) (hF : f_X0_cost (A 0) = some q) : hm_Mi l yX0_cost (Cond.code yX0_cost cX0_cost 1 (some .int) :: hm_W) rm_X0_cost g [.ref (a 0)] ([hm_wBr g a A] : List va_W).flatten ([hm_wBr g a A] : List va_W).flatten q := by
  refine hm_ofi [(0, .ref (a 0))] (by decide) (own := RX0) rfl (Nat.le_of_ble_eq_true rfl) rfl rfl ?_
  intro p e s m args below meth c AA S hr hlk X ls hl
  have hx := S.1
  have hb := S.2.1
  have hown := S.2.2.2.1
  have hts := S.2.2.2.2
  have X := X.to (ws' := ([[(a 0, .inr (0, [.ref (a 1), .ref (a 2), .ref (a 3)]))], [hm_ci g (a 1) 101 (A 0)], [hm_ci g (a 2) 101 (A 1)], [hm_ci g (a 3) 101 (A 2)]] : List va_W).flatten) rfl
  unfold f_X0_cost at hF
  refine lv_aload_n hx hb dX0_cost_0 rfl (lv_at hl 0 rfl) ?_
  refine hm_get S X hf_X0_9 0 rfl rfl dX0_cost_1 ?_
  refine lv_iconst (v := 0) hx hb dX0_cost_4 (by decide) ?_
  obtain ⟨t1, ht1, hF⟩ := hm_bd hF
  refine hm_iald S X ht1 1 rfl dX0_cost_5 ?_
  obtain rfl := Option.some.inj hF
  exact hm_ri S hr hlk X rfl rfl dX0_cost_6
def f_X0_lineCount (A_1 : Nat → Int32)  : Option (Int32) :=
  (hm_rd 101 A_1 0).bind fun t1 =>
  some (t1)
abbrev rm_X0_lineCount : Room := { frames := 0, cells := 0, slots := 0, locals := 0 }
set_option maxHeartbeats 4000000 in
set_option maxRecDepth 100000 in
theorem c_X0_lineCount (l : Launch) (g : hm_G) (a : Nat → Nat) (A : Nat → Nat → Int32) (q : Int32) (hF : f_X0_lineCount (A 1) = some q) : hm_Mi l yX0_lineCount (Cond.code yX0_lineCount cX0_lineCount 1 (some .int) :: hm_W) rm_X0_lineCount g [.ref (a 0)] ([hm_wBr g a A] : List va_W).flatten ([hm_wBr g a A] : List va_W).flatten q := by
  refine hm_ofi [(0, .ref (a 0))] (by decide) (own := RX0) rfl (Nat.le_of_ble_eq_true rfl) rfl rfl ?_
  intro p e s m args below meth c AA S hr hlk X ls hl
  have hx := S.1
  have hb := S.2.1
  have hown := S.2.2.2.1
  have hts := S.2.2.2.2
  have X := X.to (ws' := ([[(a 0, .inr (0, [.ref (a 1), .ref (a 2), .ref (a 3)]))], [hm_ci g (a 1) 101 (A 0)], [hm_ci g (a 2) 101 (A 1)], [hm_ci g (a 3) 101 (A 2)]] : List va_W).flatten) rfl
  unfold f_X0_lineCount at hF
  refine lv_aload_n hx hb dX0_lineCount_0 rfl (lv_at hl 0 rfl) ?_
  refine hm_get S X hf_X0_15 0 rfl rfl dX0_lineCount_1 ?_
  refine lv_iconst (v := 0) hx hb dX0_lineCount_4 (by decide) ?_
  obtain ⟨t1, ht1, hF⟩ := hm_bd hF
  refine hm_iald S X ht1 2 rfl dX0_lineCount_5 ?_
  obtain rfl := Option.some.inj hF
  exact hm_ri S hr hlk X rfl rfl dX0_lineCount_6
def f_X0_endBehind (A_2 : Nat → Int32) (x0 : Int32)  : Option (Int32) :=
  if (x0 + 1) < 0 then (
  some ((-1)))
  else (
  if (101 : Int32) ≤ (x0 + 1) then (
  some ((-1)))
  else (
  (hm_rd 101 A_2 (x0 + 1)).bind fun t1 =>
  some (t1)))
abbrev rm_X0_endBehind : Room := { frames := 0, cells := 0, slots := 0, locals := 0 }
set_option maxHeartbeats 4000000 in
set_option maxRecDepth 100000 in
theorem c_X0_endBehind (l : Launch) (g : hm_G) (a : Nat → Nat) (A : Nat → Nat → Int32) (x0 : Int32) (q : Int32) (hF : f_X0_endBehind (A 2) x0 = some q) : hm_Mi l yX0_endBehind (Cond.code yX0_endBehind cX0_endBehind 3 (some .int) :: hm_W) rm_X0_endBehind g [.ref (a 0), .int x0] ([hm_wBr g a A] : List va_W).flatten ([hm_wBr g a A] : List va_W).flatten q := by
  refine hm_ofi [(0, .ref (a 0)), (1, .int x0)] (by decide) (own := RX0) rfl (Nat.le_of_ble_eq_true rfl) rfl rfl ?_
  intro p e s m args below meth c AA S hr hlk X ls hl
  have hx := S.1
  have hb := S.2.1
  have hown := S.2.2.2.1
  have hts := S.2.2.2.2
  have X := X.to (ws' := ([[(a 0, .inr (0, [.ref (a 1), .ref (a 2), .ref (a 3)]))], [hm_ci g (a 1) 101 (A 0)], [hm_ci g (a 2) 101 (A 1)], [hm_ci g (a 3) 101 (A 2)]] : List va_W).flatten) rfl
  unfold f_X0_endBehind at hF
  refine lv_iload_n hx hb dX0_endBehind_0 rfl (lv_at hl 1 rfl) ?_
  refine lv_iconst (v := 1) hx hb dX0_endBehind_1 (by decide) ?_
  refine lv_iadd hx hb dX0_endBehind_2 ?_
  refine lv_istore_n (lv' := [(2, .int (x0 + 1)), (0, .ref (a 0)), (1, .int x0)]) hx hb dX0_endBehind_3 rfl hl (by decide) rfl (fun ls hl => ?_)
  refine lv_iload_n hx hb dX0_endBehind_4 rfl (lv_at hl 0 rfl) ?_
  refine lv_if_lt (tgt := 26) hx hb dX0_endBehind_5 (by decide) (fun c5 => ?_) (fun c5 => ?_)
  · have hF := hm_if hF c5
    refine lv_iconst (v := (-1)) hx hb dX0_endBehind_26 (by decide) ?_
    obtain rfl := Option.some.inj hF
    exact hm_ri S hr hlk X rfl rfl dX0_endBehind_27
  · have hF := hm_nf hF c5
    refine lv_iload_n hx hb dX0_endBehind_8 rfl (lv_at hl 0 rfl) ?_
    refine lv_aload_n hx hb dX0_endBehind_9 rfl (lv_at hl 1 rfl) ?_
    refine hm_get S X hf_X0_18 0 rfl rfl dX0_endBehind_10 ?_
    refine hm_alen (v := 101) S X 3 0 rfl rfl rfl dX0_endBehind_13 ?_
    refine lv_icmp_ge (tgt := 26) hx hb dX0_endBehind_14 (by decide) (fun c14 => ?_) (fun c14 => ?_)
    · have hF := hm_if hF c14
      refine lv_iconst (v := (-1)) hx hb dX0_endBehind_26 (by decide) ?_
      obtain rfl := Option.some.inj hF
      exact hm_ri S hr hlk X rfl rfl dX0_endBehind_27
    · have hF := hm_nf hF c14
      refine lv_aload_n hx hb dX0_endBehind_17 rfl (lv_at hl 1 rfl) ?_
      refine hm_get S X hf_X0_18 0 rfl rfl dX0_endBehind_18 ?_
      refine lv_iload_n hx hb dX0_endBehind_21 rfl (lv_at hl 0 rfl) ?_
      obtain ⟨t1, ht1, hF⟩ := hm_bd hF
      refine hm_iald S X ht1 3 rfl dX0_endBehind_22 ?_
      refine lv_goto (tgt := 27) hx hb dX0_endBehind_23 (by decide) ?_
      obtain rfl := Option.some.inj hF
      exact hm_ri S hr hlk X rfl rfl dX0_endBehind_27
