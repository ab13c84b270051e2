def f_X2_size (r : hm_SR)  : Option (Int32) :=
  some (r.1)
abbrev rm_X2_size : Room := { frames := 0, cells := 0, slots := 0, locals := 0 }
set_option maxHeartbeats 4000000 in
set_option maxRecDepth 100000 in
theorem c_X2_size (l : Launch) (g : hm_G) (h b n : Nat) (r : hm_SR) (q : Int32) (hF : f_X2_size r = some q) : hm_Mi l yX2_size (Cond.code yX2_size cX2_size 1 (some .int) :: hm_W) rm_X2_size g [.ref h] ([hm_row g h b n r] : List va_W).flatten ([hm_row g h b n r] : List va_W).flatten q := by
  refine hm_ofi [(0, .ref h)] (by decide) (own := RX2) rfl (Nat.le_of_ble_eq_true rfl) rfl rfl ?_
  intro p e s m args below meth c AA S hr hlk X ls hl
  have hx := S.1
  have hb := S.2.1
  have hown := S.2.2.2.1
  have hts := S.2.2.2.2
  unfold f_X2_size at hF
  refine lv_aload_n hx hb dX2_size_0 rfl (lv_at hl 0 rfl) ?_
  refine hm_get S X hf_X2_19 0 rfl rfl dX2_size_1 ?_
  obtain rfl := Option.some.inj hF
  exact hm_ri S hr hlk X rfl rfl dX2_size_4
def f_X2_get (n : Nat) (r : hm_SR) (x0 : Int32)  : Option (Int32) :=
  if x0 < 0 then (
  some (0))
  else (
  if r.1 ≤ x0 then (
  some (0))
  else (
  if (nI n) ≤ x0 then (
  some (0))
  else (
  (hm_rd n r.2 x0).bind fun t1 =>
  some (t1))))
abbrev rm_X2_get : Room := { frames := 0, cells := 0, slots := 0, locals := 0 }
set_option maxHeartbeats 4000000 in
set_option maxRecDepth 100000 in
theorem c_X2_get (l : Launch) (g : hm_G) (h b n : Nat) (r : hm_SR) (x0 : Int32) (q : Int32) (hF : f_X2_get n r x0 = some q) : hm_Mi l yX2_get (Cond.code yX2_get cX2_get 2 (some .int) :: hm_W) rm_X2_get g [.ref h, .int x0] ([hm_row g h b n r] : List va_W).flatten ([hm_row g h b n r] : List va_W).flatten q := by
  refine hm_ofi [(0, .ref h), (1, .int x0)] (by decide) (own := RX2) rfl (Nat.le_of_ble_eq_true rfl) rfl rfl ?_
  intro p e s m args below meth c AA S hr hlk X ls hl
  have hx := S.1
  have hb := S.2.1
  have hown := S.2.2.2.1
  have hts := S.2.2.2.2
  unfold f_X2_get at hF
  refine lv_iload_n hx hb dX2_get_0 rfl (lv_at hl 1 rfl) ?_
  refine lv_if_lt (tgt := 30) hx hb dX2_get_1 (by decide) (fun c1 => ?_) (fun c1 => ?_)
  · have hF := hm_if hF c1
    refine lv_iconst (v := 0) hx hb dX2_get_30 (by decide) ?_
    obtain rfl := Option.some.inj hF
    exact hm_ri S hr hlk X rfl rfl dX2_get_31
  · have hF := hm_nf hF c1
    refine lv_iload_n hx hb dX2_get_4 rfl (lv_at hl 1 rfl) ?_
    refine lv_aload_n hx hb dX2_get_5 rfl (lv_at hl 0 rfl) ?_
    refine hm_get S X hf_X2_19 0 rfl rfl dX2_get_6 ?_
    refine lv_icmp_ge (tgt := 30) hx hb dX2_get_9 (by decide) (fun c9 => ?_) (fun c9 => ?_)
    · have hF := hm_if hF c9
      refine lv_iconst (v := 0) hx hb dX2_get_30 (by decide) ?_
      obtain rfl := Option.some.inj hF
      exact hm_ri S hr hlk X rfl rfl dX2_get_31
    · have hF := hm_nf hF c9
      refine lv_iload_n hx hb dX2_get_12 rfl (lv_at hl 1 rfl) ?_
      refine lv_aload_n hx hb dX2_get_13 rfl (lv_at hl 0 rfl) ?_
      refine hm_get S X hf_X2_13 0 rfl rfl dX2_get_14 ?_
      refine hm_alen (v := (nI n)) S X 1 0 rfl rfl rfl dX2_get_17 ?_
      refine lv_icmp_ge (tgt := 30) hx hb dX2_get_18 (by decide) (fun c18 => ?_) (fun c18 => ?_)
      · have hF := hm_if hF c18
        refine lv_iconst (v := 0) hx hb dX2_get_30 (by decide) ?_
        obtain rfl := Option.some.inj hF
        exact hm_ri S hr hlk X rfl rfl dX2_get_31
      · have hF := hm_nf hF c18
        refine lv_aload_n hx hb dX2_get_21 rfl (lv_at hl 0 rfl) ?_
        refine hm_get S X hf_X2_13 0 rfl rfl dX2_get_22 ?_
        refine lv_iload_n hx hb dX2_get_25 rfl (lv_at hl 1 rfl) ?_
        obtain ⟨t1, ht1, hF⟩ := hm_bd hF
        refine hm_iald S X ht1 1 rfl dX2_get_26 ?_
        refine lv_goto (tgt := 31) hx hb dX2_get_27 (by decide) ?_
        obtain rfl := Option.some.inj hF
        exact hm_ri S hr hlk X rfl rfl dX2_get_31
def f_X2_empty (r : hm_SR)  : Option (hm_SR) :=
  some ((0, r.2))
abbrev rm_X2_empty : Room := { frames := 0, cells := 0, slots := 0, locals := 0 }
set_option maxHeartbeats 4000000 in
set_option maxRecDepth 100000 in
theorem c_X2_empty (l : Launch) (g : hm_G) (h b n : Nat) (r : hm_SR) (q : hm_SR) (hF : f_X2_empty r = some q) : hm_Mv l yX2_empty (Cond.code yX2_empty cX2_empty 1 none :: hm_W) rm_X2_empty g [.ref h] ([hm_row g h b n r] : List va_W).flatten ([hm_row g h b n q] : List va_W).flatten := by
  refine hm_ofv [(0, .ref h)] (by decide) (own := RX2) rfl (Nat.le_of_ble_eq_true rfl) rfl rfl ?_
  intro p e s m args below meth c AA S hr hlk X ls hl
  have hx := S.1
  have hb := S.2.1
  have hown := S.2.2.2.1
  have hts := S.2.2.2.2
  unfold f_X2_empty at hF
  refine lv_aload_n hx hb dX2_empty_0 rfl (lv_at hl 0 rfl) ?_
  refine lv_iconst (v := 0) hx hb dX2_empty_1 (by decide) ?_
  refine hm_put S X hf_X2_19 hg_X2_size 0 rfl rfl rfl (Nat.le_of_ble_eq_true rfl) dX2_empty_2 (fun H locs X => ?_)
  have X := X.to (ws' := ([hm_row g h b n (0, r.2)] : List va_W).flatten) rfl
  obtain rfl := Option.some.inj hF
  exact hm_rv S hr hlk X rfl dX2_empty_5
def f_X2_add (n : Nat) (r : hm_SR) (x0 : Int32)  : Option (Int32 × hm_SR) :=
  if r.1 < 0 then (
  some (0, r))
  else (
  if r.1 < (nI n) then (
  (hm_wr n r.2 r.1 x0).bind fun f1 =>
  some (1, ((r.1 + 1), f1)))
  else (
  some (0, r)))
abbrev rm_X2_add : Room := { frames := 0, cells := 0, slots := 0, locals := 0 }
set_option maxHeartbeats 4000000 in
set_option maxRecDepth 100000 in
theorem c_X2_add (l : Launch) (g : hm_G) (h b n : Nat) (r : hm_SR) (x0 : Int32) (q : Int32 × hm_SR) (hF : f_X2_add n r x0 = some q) : hm_Mi l yX2_add (Cond.code yX2_add cX2_add 2 (some .boolean) :: hm_W) rm_X2_add g [.ref h, .int x0] ([hm_row g h b n r] : List va_W).flatten ([hm_row g h b n q.2] : List va_W).flatten q.1 := by
  refine hm_ofi [(0, .ref h), (1, .int x0)] (by decide) (own := RX2) rfl (Nat.le_of_ble_eq_true rfl) rfl rfl ?_
  intro p e s m args below meth c AA S hr hlk X ls hl
  have hx := S.1
  have hb := S.2.1
  have hown := S.2.2.2.1
  have hts := S.2.2.2.2
  unfold f_X2_add at hF
  refine lv_aload_n hx hb dX2_add_0 rfl (lv_at hl 0 rfl) ?_
  refine hm_get S X hf_X2_19 0 rfl rfl dX2_add_1 ?_
  refine lv_if_lt (tgt := 19) hx hb dX2_add_4 (by decide) (fun c4 => ?_) (fun c4 => ?_)
  · have hF := hm_if hF c4
    refine lv_iconst (v := 0) hx hb dX2_add_19 (by decide) ?_
    obtain rfl := Option.some.inj hF
    exact hm_rz S hr hlk X rfl rfl (Or.inl rfl) dX2_add_20
  · have hF := hm_nf hF c4
    refine lv_aload_n hx hb dX2_add_7 rfl (lv_at hl 0 rfl) ?_
    refine hm_get S X hf_X2_19 0 rfl rfl dX2_add_8 ?_
    refine lv_aload_n hx hb dX2_add_11 rfl (lv_at hl 0 rfl) ?_
    refine hm_get S X hf_X2_13 0 rfl rfl dX2_add_12 ?_
    refine hm_alen (v := (nI n)) S X 1 0 rfl rfl rfl dX2_add_15 ?_
    refine lv_icmp_lt (tgt := 21) hx hb dX2_add_16 (by decide) (fun c16 => ?_) (fun c16 => ?_)
    · have hF := hm_if hF c16
      refine lv_aload_n hx hb dX2_add_21 rfl (lv_at hl 0 rfl) ?_
      refine hm_get S X hf_X2_13 0 rfl rfl dX2_add_22 ?_
      refine lv_aload_n hx hb dX2_add_25 rfl (lv_at hl 0 rfl) ?_
      refine hm_get S X hf_X2_19 0 rfl rfl dX2_add_26 ?_
      refine lv_iload_n hx hb dX2_add_29 rfl (lv_at hl 1 rfl) ?_
      obtain ⟨f1, hf1, hF⟩ := hm_bd hF
      refine hm_iast S X hf1 1 rfl dX2_add_30 (fun H locs X => ?_)
      have X := X.to (ws' := ([hm_row g h b n (r.1, f1)] : List va_W).flatten) rfl
      refine lv_aload_n hx hb dX2_add_31 rfl (lv_at hl 0 rfl) ?_
      refine lv_dup hx hb dX2_add_32 rfl ?_
      refine hm_get S X hf_X2_19 0 rfl rfl dX2_add_33 ?_
      refine lv_iconst (v := 1) hx hb dX2_add_36 (by decide) ?_
      refine lv_iadd hx hb dX2_add_37 ?_
      refine hm_put S X hf_X2_19 hg_X2_size 0 rfl rfl rfl (Nat.le_of_ble_eq_true rfl) dX2_add_38 (fun H locs X => ?_)
      have X := X.to (ws' := ([hm_row g h b n ((r.1 + 1), f1)] : List va_W).flatten) rfl
      refine lv_iconst (v := 1) hx hb dX2_add_41 (by decide) ?_
      obtain rfl := Option.some.inj hF
      exact hm_rz S hr hlk X rfl rfl (Or.inr rfl) dX2_add_42
    · have hF := hm_nf hF c16
      refine lv_iconst (v := 0) hx hb dX2_add_19 (by decide) ?_
      obtain rfl := Option.some.inj hF
      exact hm_rz S hr hlk X rfl rfl (Or.inl rfl) dX2_add_20
def f_X2_set (n : Nat) (r : hm_SR) (x0 : Int32) (x1 : Int32)  : Option (hm_SR) :=
  if x0 < 0 then (
  some (r))
  else (
  if r.1 ≤ x0 then (
  some (r))
  else (
  if (nI n) ≤ x0 then (
  some (r))
  else (
  (hm_wr n r.2 x0 x1).bind fun f1 =>
  some ((r.1, f1)))))
abbrev rm_X2_set : Room := { frames := 0, cells := 0, slots := 0, locals := 0 }
set_option maxHeartbeats 4000000 in
set_option maxRecDepth 100000 in
theorem c_X2_set (l : Launch) (g : hm_G) (h b n : Nat) (r : hm_SR) (x0 : Int32) (x1 : Int32) (q : hm_SR) (hF : f_X2_set n r x0 x1 = some q) : hm_Mv l yX2_set (Cond.code yX2_set cX2_set 3 none :: hm_W) rm_X2_set g [.ref h, .int x0, .int x1] ([hm_row g h b n r] : List va_W).flatten ([hm_row g h b n q] : List va_W).flatten := by
  refine hm_ofv [(0, .ref h), (1, .int x0), (2, .int x1)] (by decide) (own := RX2) rfl (Nat.le_of_ble_eq_true rfl) rfl rfl ?_
  intro p e s m args below meth c AA S hr hlk X ls hl
  have hx := S.1
  have hb := S.2.1
  have hown := S.2.2.2.1
  have hts := S.2.2.2.2
  unfold f_X2_set at hF
  refine lv_iload_n hx hb dX2_set_0 rfl (lv_at hl 1 rfl) ?_
  refine lv_if_lt (tgt := 28) hx hb dX2_set_1 (by decide) (fun c1 => ?_) (fun c1 => ?_)
  · have hF := hm_if hF c1
    obtain rfl := Option.some.inj hF
    exact hm_rv S hr hlk X rfl dX2_set_28
  · have hF := hm_nf hF c1
    refine lv_iload_n hx hb dX2_set_4 rfl (lv_at hl 1 rfl) ?_
    refine lv_aload_n hx hb dX2_set_5 rfl (lv_at hl 0 rfl) ?_
    refine hm_get S X hf_X2_19 0 rfl rfl dX2_set_6 ?_
    refine lv_icmp_ge (tgt := 28) hx hb dX2_set_9 (by decide) (fun c9 => ?_) (fun c9 => ?_)
    · have hF := hm_if hF c9
      obtain rfl := Option.some.inj hF
      exact hm_rv S hr hlk X rfl dX2_set_28
    · have hF := hm_nf hF c9
      refine lv_iload_n hx hb dX2_set_12 rfl (lv_at hl 1 rfl) ?_
      refine lv_aload_n hx hb dX2_set_13 rfl (lv_at hl 0 rfl) ?_
      refine hm_get S X hf_X2_13 0 rfl rfl dX2_set_14 ?_
      refine hm_alen (v := (nI n)) S X 1 0 rfl rfl rfl dX2_set_17 ?_
      refine lv_icmp_ge (tgt := 28) hx hb dX2_set_18 (by decide) (fun c18 => ?_) (fun c18 => ?_)
      · have hF := hm_if hF c18
        obtain rfl := Option.some.inj hF
        exact hm_rv S hr hlk X rfl dX2_set_28
      · have hF := hm_nf hF c18
        refine lv_aload_n hx hb dX2_set_21 rfl (lv_at hl 0 rfl) ?_
        refine hm_get S X hf_X2_13 0 rfl rfl dX2_set_22 ?_
        refine lv_iload_n hx hb dX2_set_25 rfl (lv_at hl 1 rfl) ?_
        refine lv_iload_n hx hb dX2_set_26 rfl (lv_at hl 2 rfl) ?_
        obtain ⟨f1, hf1, hF⟩ := hm_bd hF
        refine hm_iast S X hf1 1 rfl dX2_set_27 (fun H locs X => ?_)
        have X := X.to (ws' := ([hm_row g h b n (r.1, f1)] : List va_W).flatten) rfl
        obtain rfl := Option.some.inj hF
        exact hm_rv S hr hlk X rfl dX2_set_28
def f_X2_drop (r : hm_SR)  : Option (hm_SR) :=
  if r.1 ≤ 0 then (
  some (r))
  else (
  some (((r.1 - 1), r.2)))
abbrev rm_X2_drop : Room := { frames := 0, cells := 0, slots := 0, locals := 0 }
set_option maxHeartbeats 4000000 in
set_option maxRecDepth 100000 in
theorem c_X2_drop (l : Launch) (g : hm_G) (h b n : Nat) (r : hm_SR) (q : hm_SR) (hF : f_X2_drop r = some q) : hm_Mv l yX2_drop (Cond.code yX2_drop cX2_drop 1 none :: hm_W) rm_X2_drop g [.ref h] ([hm_row g h b n r] : List va_W).flatten ([hm_row g h b n q] : List va_W).flatten := by
  refine hm_ofv [(0, .ref h)] (by decide) (own := RX2) rfl (Nat.le_of_ble_eq_true rfl) rfl rfl ?_
  intro p e s m args below meth c AA S hr hlk X ls hl
  have hx := S.1
  have hb := S.2.1
  have hown := S.2.2.2.1
  have hts := S.2.2.2.2
  unfold f_X2_drop at hF
  refine lv_aload_n hx hb dX2_drop_0 rfl (lv_at hl 0 rfl) ?_
  refine hm_get S X hf_X2_19 0 rfl rfl dX2_drop_1 ?_
  refine lv_if_le (tgt := 17) hx hb dX2_drop_4 (by decide) (fun c4 => ?_) (fun c4 => ?_)
  · have hF := hm_if hF c4
    obtain rfl := Option.some.inj hF
    exact hm_rv S hr hlk X rfl dX2_drop_17
  · have hF := hm_nf hF c4
    refine lv_aload_n hx hb dX2_drop_7 rfl (lv_at hl 0 rfl) ?_
    refine lv_dup hx hb dX2_drop_8 rfl ?_
    refine hm_get S X hf_X2_19 0 rfl rfl dX2_drop_9 ?_
    refine lv_iconst (v := 1) hx hb dX2_drop_12 (by decide) ?_
    refine lv_isub hx hb dX2_drop_13 ?_
    refine hm_put S X hf_X2_19 hg_X2_size 0 rfl rfl rfl (Nat.le_of_ble_eq_true rfl) dX2_drop_14 (fun H locs X => ?_)
    have X := X.to (ws' := ([hm_row g h b n ((r.1 - 1), r.2)] : List va_W).flatten) rfl
    obtain rfl := Option.some.inj hF
    exact hm_rv S hr hlk X rfl dX2_drop_17
def f_X2_dropFirst_l28  (wself_0 : hm_SR) : Option (hm_SR) :=
  (f_X2_drop wself_0).bind fun t1 =>
  some (t1)
def f_X2_dropFirst_l2 (n : Nat) : Nat → Int32 → hm_SR → Option (hm_SR)
  | 0, _, _ => none
  | k + 1, v1, wself_0 =>
  if wself_0.1 ≤ v1 then (
  f_X2_dropFirst_l28 wself_0)
  else (
  (f_X2_get n wself_0 v1).bind fun t2 =>
  (f_X2_set n wself_0 (v1 - 1) t2).bind fun t3 =>
  f_X2_dropFirst_l2 n k (v1 + 1) t3)
theorem f_X2_dropFirst_l2_s (n : Nat) (k : Nat) (v1 : Int32) (wself_0 : hm_SR) : f_X2_dropFirst_l2 n (k + 1) v1 wself_0 =
  if wself_0.1 ≤ v1 then (
  f_X2_dropFirst_l28 wself_0)
  else (
  (f_X2_get n wself_0 v1).bind fun t2 =>
  (f_X2_set n wself_0 (v1 - 1) t2).bind fun t3 =>
  f_X2_dropFirst_l2 n k (v1 + 1) t3) := rfl
theorem f_X2_dropFirst_l2_z (n : Nat) (v1 : Int32) (wself_0 : hm_SR) : f_X2_dropFirst_l2 n 0 v1 wself_0 = none := rfl
def f_X2_dropFirst (n : Nat) (r : hm_SR)  : Option (hm_SR) :=
  f_X2_dropFirst_l2 n hm_fu 1 r
abbrev rm_X2_dropFirst : Room := { frames := 1, cells := 0, slots := 0, locals := 22 }
set_option maxHeartbeats 4000000 in
set_option maxRecDepth 100000 in
theorem c_X2_dropFirst (l : Launch) (g : hm_G) (h b n : Nat) (r : hm_SR) (q : hm_SR) (hF : f_X2_dropFirst n r = some q) : hm_Mv l yX2_dropFirst (Cond.code yX2_dropFirst cX2_dropFirst 2 none :: hm_W) rm_X2_dropFirst g [.ref h] ([hm_row g h b n r] : List va_W).flatten ([hm_row g h b n q] : List va_W).flatten := by
  refine hm_ofv [(0, .ref h)] (by decide) (own := RX2) rfl (Nat.le_of_ble_eq_true rfl) rfl rfl ?_
  intro p e s m args below meth c AA S hr hlk X ls hl
  have hx := S.1
  have hb := S.2.1
  have hown := S.2.2.2.1
  have hts := S.2.2.2.2
  have hl28 : ∀ (wself_0 : hm_SR), f_X2_dropFirst_l28 wself_0 = some q → ∀ (H : Heap) (locs : List Loc), hm_X g AA s H locs ([hm_row g h b n wself_0] : List va_W).flatten → ∀ ls : Array Slot, lv_has ls 2 [(0, .ref h)] → W p l e rm_X2_dropFirst s m args below meth c H locs 0 0 (MQ below (hm_Qv g AA ([hm_row g h b n q] : List va_W).flatten) args s 0 0 AA) (F0 m 28 ls []) := by
    intro wself_0 hF H locs X ls hl
    unfold f_X2_dropFirst_l28 at hF
    refine lv_aload_n hx hb dX2_dropFirst_28 rfl (lv_at hl 0 rfl) ?_
    obtain ⟨t1, ht1, hF⟩ := hm_bd hF
    refine hm_vv (As := []) S X mw_X2_drop hw_2_177 (c_X2_drop l g h b n wself_0 t1 ht1) (hm_mid [] []) (hm_mid [] [] (b := hm_row g h b n t1)) rfl rfl rfl ⟨rfl, rfl, Nat.le_of_ble_eq_true rfl, Nat.le_of_ble_eq_true rfl⟩ rfl hl.1 rfl (Nat.le_of_ble_eq_true rfl) dX2_dropFirst_29 ⟨Nat.zero_le _, Nat.zero_le _⟩ (fun H locs X => ?_)
    have X := X.to (ws' := ([hm_row g h b n t1] : List va_W).flatten) rfl
    obtain rfl := Option.some.inj hF
    exact hm_rv S hr hlk X rfl dX2_dropFirst_32
  have hl2 : ∀ (k2 : Nat) (v1 : Int32) (wself_0 : hm_SR), f_X2_dropFirst_l2 n k2 v1 wself_0 = some q → ∀ (H : Heap) (locs : List Loc), hm_X g AA s H locs ([hm_row g h b n wself_0] : List va_W).flatten → ∀ ls : Array Slot, lv_has ls 2 [(0, .ref h), (1, .int v1)] → W p l e rm_X2_dropFirst s m args below meth c H locs 0 0 (MQ below (hm_Qv g AA ([hm_row g h b n q] : List va_W).flatten) args s 0 0 AA) (F0 m 2 ls []) := by
    intro k2
    induction k2 with
    | zero =>
      intro v1 wself_0 hF
      rw [f_X2_dropFirst_l2_z] at hF
      cases hF
    | succ k2 ih2 =>
      intro v1 wself_0 hF H locs X ls hl
      rw [f_X2_dropFirst_l2_s] at hF
      refine lv_iload_n hx hb dX2_dropFirst_2 rfl (lv_at hl 1 rfl) ?_
      refine lv_aload_n hx hb dX2_dropFirst_3 rfl (lv_at hl 0 rfl) ?_
      refine hm_get S X hf_X2_19 0 rfl rfl dX2_dropFirst_4 ?_
      refine lv_icmp_ge (tgt := 28) hx hb dX2_dropFirst_7 (by decide) (fun c7 => ?_) (fun c7 => ?_)
      · have hF := hm_if hF c7
        exact hl28 wself_0 hF _ _ X _ (lv_sub hl [0] rfl)
      · have hF := hm_nf hF c7
        refine lv_aload_n hx hb dX2_dropFirst_10 rfl (lv_at hl 0 rfl) ?_
        refine lv_iload_n hx hb dX2_dropFirst_11 rfl (lv_at hl 1 rfl) ?_
        refine lv_iconst (v := 1) hx hb dX2_dropFirst_12 (by decide) ?_
        refine lv_isub hx hb dX2_dropFirst_13 ?_
        refine lv_aload_n hx hb dX2_dropFirst_14 rfl (lv_at hl 0 rfl) ?_
        refine lv_iload_n hx hb dX2_dropFirst_15 rfl (lv_at hl 1 rfl) ?_
        obtain ⟨t2, ht2, hF⟩ := hm_bd hF
        refine hm_vi (As := [.int v1]) S X mw_X2_get hw_2_172 (c_X2_get l g h b n wself_0 v1 t2 ht2) (hm_mid [] []) (hm_mid [] [] (b := hm_row g h b n wself_0)) rfl rfl rfl ⟨rfl, rfl, Nat.le_of_ble_eq_true rfl, Nat.le_of_ble_eq_true rfl⟩ rfl hl.1 rfl (Nat.le_of_ble_eq_true rfl) dX2_dropFirst_16 ⟨Nat.zero_le _, Nat.zero_le _⟩ (fun H locs X => ?_)
        have X := X.to (ws' := ([hm_row g h b n wself_0] : List va_W).flatten) rfl
        obtain ⟨t3, ht3, hF⟩ := hm_bd hF
        refine hm_vv (As := [.int (v1 - 1), .int t2]) S X mw_X2_set hw_2_173 (c_X2_set l g h b n wself_0 (v1 - 1) t2 t3 ht3) (hm_mid [] []) (hm_mid [] [] (b := hm_row g h b n t3)) rfl rfl rfl ⟨rfl, rfl, Nat.le_of_ble_eq_true rfl, Nat.le_of_ble_eq_true rfl⟩ rfl hl.1 rfl (Nat.le_of_ble_eq_true rfl) dX2_dropFirst_19 ⟨Nat.zero_le _, Nat.zero_le _⟩ (fun H locs X => ?_)
        have X := X.to (ws' := ([hm_row g h b n t3] : List va_W).flatten) rfl
        refine lv_iinc (v := (v1 + 1)) (lv' := [(1, .int (v1 + 1)), (0, .ref h)]) hx hb dX2_dropFirst_22 hl (k := 1) rfl rfl (by decide) rfl (fun ls hl => ?_)
        refine lv_goto (tgt := 2) hx hb dX2_dropFirst_25 (by decide) ?_
        exact ih2 (v1 + 1) t3 hF _ _ X _ (lv_sub hl [1, 0] rfl)
  unfold f_X2_dropFirst at hF
  refine lv_iconst (v := 1) hx hb dX2_dropFirst_0 (by decide) ?_
  refine lv_istore_n (lv' := [(1, .int 1), (0, .ref h)]) hx hb dX2_dropFirst_1 rfl hl (by decide) rfl (fun ls hl => ?_)
  exact hl2 hm_fu 1 r hF _ _ X _ (lv_sub hl [1, 0] rfl)
