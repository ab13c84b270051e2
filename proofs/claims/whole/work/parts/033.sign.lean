def f_X7_isLetter (x0 : Int32)  : Option (Int32) :=
  if x0 < 97 then (
  some (0))
  else (
  if (122 : Int32) < x0 then (
  some (0))
  else (
  some (1)))
abbrev rm_X7_isLetter : Room := { frames := 0, cells := 0, slots := 0, locals := 0 }
set_option maxHeartbeats 4000000 in
set_option maxRecDepth 100000 in
theorem c_X7_isLetter (l : Launch) (g : hm_G) (x0 : Int32) (q : Int32) (hF : f_X7_isLetter x0 = some q) : hm_Mi l yX7_isLetter (Cond.code yX7_isLetter cX7_isLetter 1 (some .boolean) :: hm_W) rm_X7_isLetter g [.int x0] ([] : va_W) ([] : va_W) q := by
  refine hm_ofi [(0, .int x0)] (by decide) (own := RX7) rfl (Nat.le_of_ble_eq_true rfl) rfl rfl ?_
  intro p e s m args below meth c AA S hr hlk X ls hl
  have hx := S.1
  have hb := S.2.1
  have hown := S.2.2.2.1
  have hts := S.2.2.2.2
  unfold f_X7_isLetter at hF
  refine lv_iload_n hx hb dX7_isLetter_0 rfl (lv_at hl 0 rfl) ?_
  refine lv_bipush (v := 97) hx hb dX7_isLetter_1 (by decide) ?_
  refine lv_icmp_lt (tgt := 16) hx hb dX7_isLetter_3 (by decide) (fun c3 => ?_) (fun c3 => ?_)
  · have hF := hm_if hF c3
    refine lv_iconst (v := 0) hx hb dX7_isLetter_16 (by decide) ?_
    obtain rfl := Option.some.inj hF
    exact hm_rz S hr hlk X rfl rfl (Or.inl rfl) dX7_isLetter_17
  · have hF := hm_nf hF c3
    refine lv_iload_n hx hb dX7_isLetter_6 rfl (lv_at hl 0 rfl) ?_
    refine lv_bipush (v := 122) hx hb dX7_isLetter_7 (by decide) ?_
    refine lv_icmp_gt (tgt := 16) hx hb dX7_isLetter_9 (by decide) (fun c9 => ?_) (fun c9 => ?_)
    · have hF := hm_if hF c9
      refine lv_iconst (v := 0) hx hb dX7_isLetter_16 (by decide) ?_
      obtain rfl := Option.some.inj hF
      exact hm_rz S hr hlk X rfl rfl (Or.inl rfl) dX7_isLetter_17
    · have hF := hm_nf hF c9
      refine lv_iconst (v := 1) hx hb dX7_isLetter_12 (by decide) ?_
      refine lv_goto (tgt := 17) hx hb dX7_isLetter_13 (by decide) ?_
      obtain rfl := Option.some.inj hF
      exact hm_rz S hr hlk X rfl rfl (Or.inr rfl) dX7_isLetter_17
def f_X7_markNumber (x0 : Int32)  : Option (Int32) :=
  if x0 = 39 then (
  some (3))
  else (
  if x0 = 40 then (
  some ((-1)))
  else (
  if x0 = 41 then (
  some ((-1)))
  else (
  if x0 = 42 then (
  some ((-1)))
  else (
  if x0 = 43 then (
  some ((-1)))
  else (
  if x0 = 44 then (
  some (1))
  else (
  if x0 = 45 then (
  some (2))
  else (
  if x0 = 46 then (
  some (0))
  else (
  some ((-1))))))))))
abbrev rm_X7_markNumber : Room := { frames := 0, cells := 0, slots := 0, locals := 0 }
set_option maxHeartbeats 4000000 in
set_option maxRecDepth 100000 in
theorem c_X7_markNumber (l : Launch) (g : hm_G) (x0 : Int32) (q : Int32) (hF : f_X7_markNumber x0 = some q) : hm_Mi l yX7_markNumber (Cond.code yX7_markNumber cX7_markNumber 1 (some .int) :: hm_W) rm_X7_markNumber g [.int x0] ([] : va_W) ([] : va_W) q := by
  refine hm_ofi [(0, .int x0)] (by decide) (own := RX7) rfl (Nat.le_of_ble_eq_true rfl) rfl rfl ?_
  intro p e s m args below meth c AA S hr hlk X ls hl
  have hx := S.1
  have hb := S.2.1
  have hown := S.2.2.2.1
  have hts := S.2.2.2.2
  unfold f_X7_markNumber at hF
  refine lv_iload_n hx hb dX7_markNumber_0 rfl (lv_at hl 0 rfl) ?_
  by_cases c1_0 : x0 = 39
  · have hF := hm_if hF c1_0
    refine hm_tabIn (off := 53) (tgt := 54) (k := 39) hx hb dX7_markNumber_1 c1_0 (by decide) (by decide) (by decide) rfl (by decide) ?_
    refine lv_iconst (v := 3) hx hb dX7_markNumber_54 (by decide) ?_
    obtain rfl := Option.some.inj hF
    exact hm_ri S hr hlk X rfl rfl dX7_markNumber_55
  · have hF := hm_nf hF c1_0
    by_cases c1_1 : x0 = 40
    · have hF := hm_if hF c1_1
      refine hm_tabIn (off := 55) (tgt := 56) (k := 40) hx hb dX7_markNumber_1 c1_1 (by decide) (by decide) (by decide) rfl (by decide) ?_
      refine lv_iconst (v := (-1)) hx hb dX7_markNumber_56 (by decide) ?_
      obtain rfl := Option.some.inj hF
      exact hm_ri S hr hlk X rfl rfl dX7_markNumber_57
    · have hF := hm_nf hF c1_1
      by_cases c1_2 : x0 = 41
      · have hF := hm_if hF c1_2
        refine hm_tabIn (off := 55) (tgt := 56) (k := 41) hx hb dX7_markNumber_1 c1_2 (by decide) (by decide) (by decide) rfl (by decide) ?_
        refine lv_iconst (v := (-1)) hx hb dX7_markNumber_56 (by decide) ?_
        obtain rfl := Option.some.inj hF
        exact hm_ri S hr hlk X rfl rfl dX7_markNumber_57
      · have hF := hm_nf hF c1_2
        by_cases c1_3 : x0 = 42
        · have hF := hm_if hF c1_3
          refine hm_tabIn (off := 55) (tgt := 56) (k := 42) hx hb dX7_markNumber_1 c1_3 (by decide) (by decide) (by decide) rfl (by decide) ?_
          refine lv_iconst (v := (-1)) hx hb dX7_markNumber_56 (by decide) ?_
          obtain rfl := Option.some.inj hF
          exact hm_ri S hr hlk X rfl rfl dX7_markNumber_57
        · have hF := hm_nf hF c1_3
          by_cases c1_4 : x0 = 43
          · have hF := hm_if hF c1_4
            refine hm_tabIn (off := 55) (tgt := 56) (k := 43) hx hb dX7_markNumber_1 c1_4 (by decide) (by decide) (by decide) rfl (by decide) ?_
            refine lv_iconst (v := (-1)) hx hb dX7_markNumber_56 (by decide) ?_
            obtain rfl := Option.some.inj hF
            exact hm_ri S hr hlk X rfl rfl dX7_markNumber_57
          · have hF := hm_nf hF c1_4
            by_cases c1_5 : x0 = 44
            · have hF := hm_if hF c1_5
              refine hm_tabIn (off := 49) (tgt := 50) (k := 44) hx hb dX7_markNumber_1 c1_5 (by decide) (by decide) (by decide) rfl (by decide) ?_
              refine lv_iconst (v := 1) hx hb dX7_markNumber_50 (by decide) ?_
              obtain rfl := Option.some.inj hF
              exact hm_ri S hr hlk X rfl rfl dX7_markNumber_51
            · have hF := hm_nf hF c1_5
              by_cases c1_6 : x0 = 45
              · have hF := hm_if hF c1_6
                refine hm_tabIn (off := 51) (tgt := 52) (k := 45) hx hb dX7_markNumber_1 c1_6 (by decide) (by decide) (by decide) rfl (by decide) ?_
                refine lv_iconst (v := 2) hx hb dX7_markNumber_52 (by decide) ?_
                obtain rfl := Option.some.inj hF
                exact hm_ri S hr hlk X rfl rfl dX7_markNumber_53
              · have hF := hm_nf hF c1_6
                by_cases c1_7 : x0 = 46
                · have hF := hm_if hF c1_7
                  refine hm_tabIn (off := 47) (tgt := 48) (k := 46) hx hb dX7_markNumber_1 c1_7 (by decide) (by decide) (by decide) rfl (by decide) ?_
                  refine lv_iconst (v := 0) hx hb dX7_markNumber_48 (by decide) ?_
                  obtain rfl := Option.some.inj hF
                  exact hm_ri S hr hlk X rfl rfl dX7_markNumber_49
                · have hF := hm_nf hF c1_7
                  refine lv_tableOut (tgt := 56) hx hb dX7_markNumber_1 (hm_out 39 46 [39, 40, 41, 42, 43, 44, 45, 46] (by decide) (List.forall_mem_cons.mpr ⟨c1_0, List.forall_mem_cons.mpr ⟨c1_1, List.forall_mem_cons.mpr ⟨c1_2, List.forall_mem_cons.mpr ⟨c1_3, List.forall_mem_cons.mpr ⟨c1_4, List.forall_mem_cons.mpr ⟨c1_5, List.forall_mem_cons.mpr ⟨c1_6, List.forall_mem_cons.mpr ⟨c1_7, fun _ h => absurd h List.not_mem_nil⟩⟩⟩⟩⟩⟩⟩⟩)) (by decide) ?_
                  refine lv_iconst (v := (-1)) hx hb dX7_markNumber_56 (by decide) ?_
                  obtain rfl := Option.some.inj hF
                  exact hm_ri S hr hlk X rfl rfl dX7_markNumber_57
def f_X7_widthSlot (x0 : Int32)  : Option (Int32) :=
  (f_X7_isLetter x0).bind fun t1 =>
  if t1 = 0 then (
  (f_X7_markNumber x0).bind fun t2 =>
  if (0 : Int32) ≤ t2 then (
  some ((26 + t2)))
  else (
  some ((-1))))
  else (
  some ((x0 - 97)))
abbrev rm_X7_widthSlot : Room := { frames := 1, cells := 0, slots := 0, locals := 20 }
set_option maxHeartbeats 4000000 in
set_option maxRecDepth 100000 in
theorem c_X7_widthSlot (l : Launch) (g : hm_G) (x0 : Int32) (q : Int32) (hF : f_X7_widthSlot x0 = some q) : hm_Mi l yX7_widthSlot (Cond.code yX7_widthSlot cX7_widthSlot 2 (some .int) :: hm_W) rm_X7_widthSlot g [.int x0] ([] : va_W) ([] : va_W) q := by
  refine hm_ofi [(0, .int x0)] (by decide) (own := RX7) rfl (Nat.le_of_ble_eq_true rfl) rfl rfl ?_
  intro p e s m args below meth c AA S hr hlk X ls hl
  have hx := S.1
  have hb := S.2.1
  have hown := S.2.2.2.1
  have hts := S.2.2.2.2
  unfold f_X7_widthSlot at hF
  refine lv_iload_n hx hb dX7_widthSlot_0 rfl (lv_at hl 0 rfl) ?_
  obtain ⟨t1, ht1, hF⟩ := hm_bd hF
  refine hm_si S X mw_X7_isLetter hw_2_55 (c_X7_isLetter l g x0 t1 ht1) (List.Perm.refl _) (List.Perm.refl _) ⟨rfl, rfl, Nat.le_of_ble_eq_true rfl, Nat.le_of_ble_eq_true rfl⟩ rfl hl.1 rfl (Nat.le_of_ble_eq_true rfl) dX7_widthSlot_1 ⟨Nat.zero_le _, Nat.zero_le _⟩ (fun H locs X => ?_)
  refine lv_if_eq (tgt := 12) hx hb dX7_widthSlot_4 (by decide) (fun c4 => ?_) (fun c4 => ?_)
  · have hF := hm_if hF c4
    refine lv_iload_n hx hb dX7_widthSlot_12 rfl (lv_at hl 0 rfl) ?_
    obtain ⟨t2, ht2, hF⟩ := hm_bd hF
    refine hm_si S X mw_X7_markNumber hw_2_58 (c_X7_markNumber l g x0 t2 ht2) (List.Perm.refl _) (List.Perm.refl _) ⟨rfl, rfl, Nat.le_of_ble_eq_true rfl, Nat.le_of_ble_eq_true rfl⟩ rfl hl.1 rfl (Nat.le_of_ble_eq_true rfl) dX7_widthSlot_13 ⟨Nat.zero_le _, Nat.zero_le _⟩ (fun H locs X => ?_)
    refine lv_istore_n (lv' := [(1, .int t2), (0, .int x0)]) hx hb dX7_widthSlot_16 rfl hl (by decide) rfl (fun ls hl => ?_)
    refine lv_iload_n hx hb dX7_widthSlot_17 rfl (lv_at hl 0 rfl) ?_
    refine lv_if_ge (tgt := 25) hx hb dX7_widthSlot_18 (by decide) (fun c18 => ?_) (fun c18 => ?_)
    · have hF := hm_if hF c18
      refine lv_bipush (v := 26) hx hb dX7_widthSlot_25 (by decide) ?_
      refine lv_iload_n hx hb dX7_widthSlot_27 rfl (lv_at hl 0 rfl) ?_
      refine lv_iadd hx hb dX7_widthSlot_28 ?_
      obtain rfl := Option.some.inj hF
      exact hm_ri S hr hlk X rfl rfl dX7_widthSlot_29
    · have hF := hm_nf hF c18
      refine lv_iconst (v := (-1)) hx hb dX7_widthSlot_21 (by decide) ?_
      refine lv_goto (tgt := 29) hx hb dX7_widthSlot_22 (by decide) ?_
      obtain rfl := Option.some.inj hF
      exact hm_ri S hr hlk X rfl rfl dX7_widthSlot_29
  · have hF := hm_nf hF c4
    refine lv_iload_n hx hb dX7_widthSlot_7 rfl (lv_at hl 0 rfl) ?_
    refine lv_bipush (v := 97) hx hb dX7_widthSlot_8 (by decide) ?_
    refine lv_isub hx hb dX7_widthSlot_10 ?_
    obtain rfl := Option.some.inj hF
    exact hm_ri S hr hlk X rfl rfl dX7_widthSlot_11
def f_X7_hangSlot (x0 : Int32)  : Option (Int32) :=
  (f_X7_markNumber x0).bind fun t1 =>
  if (0 : Int32) ≤ t1 then (
  some ((30 + t1)))
  else (
  some ((-1)))
abbrev rm_X7_hangSlot : Room := { frames := 1, cells := 0, slots := 0, locals := 20 }
set_option maxHeartbeats 4000000 in
set_option maxRecDepth 100000 in
theorem c_X7_hangSlot (l : Launch) (g : hm_G) (x0 : Int32) (q : Int32) (hF : f_X7_hangSlot x0 = some q) : hm_Mi l yX7_hangSlot (Cond.code yX7_hangSlot cX7_hangSlot 2 (some .int) :: hm_W) rm_X7_hangSlot g [.int x0] ([] : va_W) ([] : va_W) q := by
  refine hm_ofi [(0, .int x0)] (by decide) (own := RX7) rfl (Nat.le_of_ble_eq_true rfl) rfl rfl ?_
  intro p e s m args below meth c AA S hr hlk X ls hl
  have hx := S.1
  have hb := S.2.1
  have hown := S.2.2.2.1
  have hts := S.2.2.2.2
  unfold f_X7_hangSlot at hF
  refine lv_iload_n hx hb dX7_hangSlot_0 rfl (lv_at hl 0 rfl) ?_
  obtain ⟨t1, ht1, hF⟩ := hm_bd hF
  refine hm_si S X mw_X7_markNumber hw_2_58 (c_X7_markNumber l g x0 t1 ht1) (List.Perm.refl _) (List.Perm.refl _) ⟨rfl, rfl, Nat.le_of_ble_eq_true rfl, Nat.le_of_ble_eq_true rfl⟩ rfl hl.1 rfl (Nat.le_of_ble_eq_true rfl) dX7_hangSlot_1 ⟨Nat.zero_le _, Nat.zero_le _⟩ (fun H locs X => ?_)
  refine lv_istore_n (lv' := [(1, .int t1), (0, .int x0)]) hx hb dX7_hangSlot_4 rfl hl (by decide) rfl (fun ls hl => ?_)
  refine lv_iload_n hx hb dX7_hangSlot_5 rfl (lv_at hl 0 rfl) ?_
  refine lv_if_ge (tgt := 13) hx hb dX7_hangSlot_6 (by decide) (fun c6 => ?_) (fun c6 => ?_)
  · have hF := hm_if hF c6
    refine lv_bipush (v := 30) hx hb dX7_hangSlot_13 (by decide) ?_
    refine lv_iload_n hx hb dX7_hangSlot_15 rfl (lv_at hl 0 rfl) ?_
    refine lv_iadd hx hb dX7_hangSlot_16 ?_
    obtain rfl := Option.some.inj hF
    exact hm_ri S hr hlk X rfl rfl dX7_hangSlot_17
  · have hF := hm_nf hF c6
    refine lv_iconst (v := (-1)) hx hb dX7_hangSlot_9 (by decide) ?_
    refine lv_goto (tgt := 17) hx hb dX7_hangSlot_10 (by decide) ?_
    obtain rfl := Option.some.inj hF
    exact hm_ri S hr hlk X rfl rfl dX7_hangSlot_17
def f_X7_isPlainSign (x0 : Int32)  : Option (Int32) :=
  (f_X7_widthSlot x0).bind fun t1 =>
  if t1 < 0 then (
  some (0))
  else (
  some (1))
abbrev rm_X7_isPlainSign : Room := { frames := 2, cells := 0, slots := 0, locals := 41 }
set_option maxHeartbeats 4000000 in
set_option maxRecDepth 100000 in
theorem c_X7_isPlainSign (l : Launch) (g : hm_G) (x0 : Int32) (q : Int32) (hF : f_X7_isPlainSign x0 = some q) : hm_Mi l yX7_isPlainSign (Cond.code yX7_isPlainSign cX7_isPlainSign 1 (some .boolean) :: hm_W) rm_X7_isPlainSign g [.int x0] ([] : va_W) ([] : va_W) q := by
  refine hm_ofi [(0, .int x0)] (by decide) (own := RX7) rfl (Nat.le_of_ble_eq_true rfl) rfl rfl ?_
  intro p e s m args below meth c AA S hr hlk X ls hl
  have hx := S.1
  have hb := S.2.1
  have hown := S.2.2.2.1
  have hts := S.2.2.2.2
  unfold f_X7_isPlainSign at hF
  refine lv_iload_n hx hb dX7_isPlainSign_0 rfl (lv_at hl 0 rfl) ?_
  obtain ⟨t1, ht1, hF⟩ := hm_bd hF
  refine hm_si S X mw_X7_widthSlot hw_2_52 (c_X7_widthSlot l g x0 t1 ht1) (List.Perm.refl _) (List.Perm.refl _) ⟨rfl, rfl, Nat.le_of_ble_eq_true rfl, Nat.le_of_ble_eq_true rfl⟩ rfl hl.1 rfl (Nat.le_of_ble_eq_true rfl) dX7_isPlainSign_1 ⟨Nat.zero_le _, Nat.zero_le _⟩ (fun H locs X => ?_)
  refine lv_if_lt (tgt := 11) hx hb dX7_isPlainSign_4 (by decide) (fun c4 => ?_) (fun c4 => ?_)
  · have hF := hm_if hF c4
    refine lv_iconst (v := 0) hx hb dX7_isPlainSign_11 (by decide) ?_
    obtain rfl := Option.some.inj hF
    exact hm_rz S hr hlk X rfl rfl (Or.inl rfl) dX7_isPlainSign_12
  · have hF := hm_nf hF c4
    refine lv_iconst (v := 1) hx hb dX7_isPlainSign_7 (by decide) ?_
    refine lv_goto (tgt := 12) hx hb dX7_isPlainSign_8 (by decide) ?_
    obtain rfl := Option.some.inj hF
    exact hm_rz S hr hlk X rfl rfl (Or.inr rfl) dX7_isPlainSign_12
def f_X7_isBetweenSigns (n1 : Nat) (r1 : hm_SR) (x0 : Int32)  : Option (Int32) :=
  if x0 ≤ 0 then (
  some (0))
  else (
  (f_X2_size r1).bind fun t1 =>
  if t1 ≤ (x0 + 1) then (
  some (0))
  else (
  (f_X2_get n1 r1 (x0 - 1)).bind fun t2 =>
  (f_X7_isPlainSign t2).bind fun t3 =>
  if t3 = 0 then (
  some (0))
  else (
  (f_X2_get n1 r1 (x0 + 1)).bind fun t4 =>
  (f_X7_isPlainSign t4).bind fun t5 =>
  if t5 = 0 then (
  some (0))
  else (
  some (1)))))
abbrev rm_X7_isBetweenSigns : Room := { frames := 3, cells := 0, slots := 0, locals := 61 }
set_option maxHeartbeats 4000000 in
set_option maxRecDepth 100000 in
theorem c_X7_isBetweenSigns (l : Launch) (g : hm_G) (h1 b1 n1 : Nat) (r1 : hm_SR) (x0 : Int32) (q : Int32) (hF : f_X7_isBetweenSigns n1 r1 x0 = some q) : hm_Mi l yX7_isBetweenSigns (Cond.code yX7_isBetweenSigns cX7_isBetweenSigns 2 (some .boolean) :: hm_W) rm_X7_isBetweenSigns g [.ref h1, .int x0] ([hm_row g h1 b1 n1 r1] : List va_W).flatten ([hm_row g h1 b1 n1 r1] : List va_W).flatten q := by
  refine hm_ofi [(0, .ref h1), (1, .int x0)] (by decide) (own := RX7) rfl (Nat.le_of_ble_eq_true rfl) rfl rfl ?_
  intro p e s m args below meth c AA S hr hlk X ls hl
  have hx := S.1
  have hb := S.2.1
  have hown := S.2.2.2.1
  have hts := S.2.2.2.2
  unfold f_X7_isBetweenSigns at hF
  refine lv_iload_n hx hb dX7_isBetweenSigns_0 rfl (lv_at hl 1 rfl) ?_
  refine lv_if_le (tgt := 44) hx hb dX7_isBetweenSigns_1 (by decide) (fun c1 => ?_) (fun c1 => ?_)
  · have hF := hm_if hF c1
    refine lv_iconst (v := 0) hx hb dX7_isBetweenSigns_44 (by decide) ?_
    obtain rfl := Option.some.inj hF
    exact hm_rz S hr hlk X rfl rfl (Or.inl rfl) dX7_isBetweenSigns_45
  · have hF := hm_nf hF c1
    refine lv_iload_n hx hb dX7_isBetweenSigns_4 rfl (lv_at hl 1 rfl) ?_
    refine lv_iconst (v := 1) hx hb dX7_isBetweenSigns_5 (by decide) ?_
    refine lv_iadd hx hb dX7_isBetweenSigns_6 ?_
    refine lv_aload_n hx hb dX7_isBetweenSigns_7 rfl (lv_at hl 0 rfl) ?_
    obtain ⟨t1, ht1, hF⟩ := hm_bd hF
    refine hm_vi (As := []) S X mw_X2_size hw_2_26 (c_X2_size l g h1 b1 n1 r1 t1 ht1) (hm_mid [] []) (hm_mid [] [] (b := hm_row g h1 b1 n1 r1)) rfl rfl rfl ⟨rfl, rfl, Nat.le_of_ble_eq_true rfl, Nat.le_of_ble_eq_true rfl⟩ rfl hl.1 rfl (Nat.le_of_ble_eq_true rfl) dX7_isBetweenSigns_8 ⟨Nat.zero_le _, Nat.zero_le _⟩ (fun H locs X => ?_)
    have X := X.to (ws' := ([hm_row g h1 b1 n1 r1] : List va_W).flatten) rfl
    refine lv_icmp_ge (tgt := 44) hx hb dX7_isBetweenSigns_11 (by decide) (fun c11 => ?_) (fun c11 => ?_)
    · have hF := hm_if hF c11
      refine lv_iconst (v := 0) hx hb dX7_isBetweenSigns_44 (by decide) ?_
      obtain rfl := Option.some.inj hF
      exact hm_rz S hr hlk X rfl rfl (Or.inl rfl) dX7_isBetweenSigns_45
    · have hF := hm_nf hF c11
      refine lv_aload_n hx hb dX7_isBetweenSigns_14 rfl (lv_at hl 0 rfl) ?_
      refine lv_iload_n hx hb dX7_isBetweenSigns_15 rfl (lv_at hl 1 rfl) ?_
      refine lv_iconst (v := 1) hx hb dX7_isBetweenSigns_16 (by decide) ?_
      refine lv_isub hx hb dX7_isBetweenSigns_17 ?_
      obtain ⟨t2, ht2, hF⟩ := hm_bd hF
      refine hm_vi (As := [.int (x0 - 1)]) S X mw_X2_get hw_2_42 (c_X2_get l g h1 b1 n1 r1 (x0 - 1) t2 ht2) (hm_mid [] []) (hm_mid [] [] (b := hm_row g h1 b1 n1 r1)) rfl rfl rfl ⟨rfl, rfl, Nat.le_of_ble_eq_true rfl, Nat.le_of_ble_eq_true rfl⟩ rfl hl.1 rfl (Nat.le_of_ble_eq_true rfl) dX7_isBetweenSigns_18 ⟨Nat.zero_le _, Nat.zero_le _⟩ (fun H locs X => ?_)
      have X := X.to (ws' := ([hm_row g h1 b1 n1 r1] : List va_W).flatten) rfl
      obtain ⟨t3, ht3, hF⟩ := hm_bd hF
      refine hm_si S X mw_X7_isPlainSign hw_2_49 (c_X7_isPlainSign l g t2 t3 ht3) hm_non hm_non ⟨rfl, rfl, Nat.le_of_ble_eq_true rfl, Nat.le_of_ble_eq_true rfl⟩ rfl hl.1 rfl (Nat.le_of_ble_eq_true rfl) dX7_isBetweenSigns_21 ⟨Nat.zero_le _, Nat.zero_le _⟩ (fun H locs X => ?_)
      have X := X.to (ws' := ([hm_row g h1 b1 n1 r1] : List va_W).flatten) rfl
      refine lv_if_eq (tgt := 44) hx hb dX7_isBetweenSigns_24 (by decide) (fun c24 => ?_) (fun c24 => ?_)
      · have hF := hm_if hF c24
        refine lv_iconst (v := 0) hx hb dX7_isBetweenSigns_44 (by decide) ?_
        obtain rfl := Option.some.inj hF
        exact hm_rz S hr hlk X rfl rfl (Or.inl rfl) dX7_isBetweenSigns_45
      · have hF := hm_nf hF c24
        refine lv_aload_n hx hb dX7_isBetweenSigns_27 rfl (lv_at hl 0 rfl) ?_
        refine lv_iload_n hx hb dX7_isBetweenSigns_28 rfl (lv_at hl 1 rfl) ?_
        refine lv_iconst (v := 1) hx hb dX7_isBetweenSigns_29 (by decide) ?_
        refine lv_iadd hx hb dX7_isBetweenSigns_30 ?_
        obtain ⟨t4, ht4, hF⟩ := hm_bd hF
        refine hm_vi (As := [.int (x0 + 1)]) S X mw_X2_get hw_2_42 (c_X2_get l g h1 b1 n1 r1 (x0 + 1) t4 ht4) (hm_mid [] []) (hm_mid [] [] (b := hm_row g h1 b1 n1 r1)) rfl rfl rfl ⟨rfl, rfl, Nat.le_of_ble_eq_true rfl, Nat.le_of_ble_eq_true rfl⟩ rfl hl.1 rfl (Nat.le_of_ble_eq_true rfl) dX7_isBetweenSigns_31 ⟨Nat.zero_le _, Nat.zero_le _⟩ (fun H locs X => ?_)
        have X := X.to (ws' := ([hm_row g h1 b1 n1 r1] : List va_W).flatten) rfl
        obtain ⟨t5, ht5, hF⟩ := hm_bd hF
        refine hm_si S X mw_X7_isPlainSign hw_2_49 (c_X7_isPlainSign l g t4 t5 ht5) hm_non hm_non ⟨rfl, rfl, Nat.le_of_ble_eq_true rfl, Nat.le_of_ble_eq_true rfl⟩ rfl hl.1 rfl (Nat.le_of_ble_eq_true rfl) dX7_isBetweenSigns_34 ⟨Nat.zero_le _, Nat.zero_le _⟩ (fun H locs X => ?_)
        have X := X.to (ws' := ([hm_row g h1 b1 n1 r1] : List va_W).flatten) rfl
        refine lv_if_eq (tgt := 44) hx hb dX7_isBetweenSigns_37 (by decide) (fun c37 => ?_) (fun c37 => ?_)
        · have hF := hm_if hF c37
          refine lv_iconst (v := 0) hx hb dX7_isBetweenSigns_44 (by decide) ?_
          obtain rfl := Option.some.inj hF
          exact hm_rz S hr hlk X rfl rfl (Or.inl rfl) dX7_isBetweenSigns_45
        · have hF := hm_nf hF c37
          refine lv_iconst (v := 1) hx hb dX7_isBetweenSigns_40 (by decide) ?_
          refine lv_goto (tgt := 45) hx hb dX7_isBetweenSigns_41 (by decide) ?_
          obtain rfl := Option.some.inj hF
          exact hm_rz S hr hlk X rfl rfl (Or.inr rfl) dX7_isBetweenSigns_45
def f_X7_faultOf_l90 (J6 : Int32 → Int32 → Int32 → Option (Int32)) (v1 : Int32) (v2 : Int32) (v3 : Int32) : Option (Int32) :=
  J6 v1 v2 (v3 + 1)
def f_X7_faultOf_l71 (J6 : Int32 → Int32 → Int32 → Option (Int32)) (s71_0 : Int32) (s71_1 : Int32) (v2 : Int32) (v3 : Int32) : Option (Int32) :=
  if (16 : Int32) < (v2 + 1) then (
  some (v3))
  else (
  if (s71_1 + s71_0) ≤ 30 then (
  f_X7_faultOf_l90 J6 (s71_1 + s71_0) (v2 + 1) v3)
  else (
  some (v3)))
def f_X7_faultOf_l61 (J6 : Int32 → Int32 → Int32 → Option (Int32)) (v1 : Int32) (v2 : Int32) (v3 : Int32) : Option (Int32) :=
  if v2 = 0 then (
  f_X7_faultOf_l71 J6 1 v1 v2 v3)
  else (
  f_X7_faultOf_l71 J6 0 v1 v2 v3)
def f_X7_faultOf_l6 (n1 : Nat) (r1 : hm_SR) : Nat → Int32 → Int32 → Int32 → Option (Int32)
  | 0, _, _, _ => none
  | k + 1, v1, v2, v3 =>
  (f_X2_size r1).bind fun t1 =>
  if t1 ≤ v3 then (
  some ((-1)))
  else (
  (f_X2_get n1 r1 v3).bind fun t2 =>
  if t2 = 32 then (
  f_X7_faultOf_l90 (fun zv1 zv2 zv3 => f_X7_faultOf_l6 n1 r1 k zv1 zv2 zv3) v1 0 v3)
  else (
  if t2 = 47 then (
  (f_X7_isBetweenSigns n1 r1 v3).bind fun t4 =>
  if t4 = 0 then (
  some (v3))
  else (
  f_X7_faultOf_l61 (fun zv1 zv2 zv3 => f_X7_faultOf_l6 n1 r1 k zv1 zv2 zv3) v1 v2 v3))
  else (
  (f_X7_isPlainSign t2).bind fun t3 =>
  if t3 = 0 then (
  some (v3))
  else (
  f_X7_faultOf_l61 (fun zv1 zv2 zv3 => f_X7_faultOf_l6 n1 r1 k zv1 zv2 zv3) v1 v2 v3))))
theorem f_X7_faultOf_l6_s (n1 : Nat) (r1 : hm_SR) (k : Nat) (v1 : Int32) (v2 : Int32) (v3 : Int32) : f_X7_faultOf_l6 n1 r1 (k + 1) v1 v2 v3 =
  (f_X2_size r1).bind fun t1 =>
  if t1 ≤ v3 then (
  some ((-1)))
  else (
  (f_X2_get n1 r1 v3).bind fun t2 =>
  if t2 = 32 then (
  f_X7_faultOf_l90 (fun zv1 zv2 zv3 => f_X7_faultOf_l6 n1 r1 k zv1 zv2 zv3) v1 0 v3)
  else (
  if t2 = 47 then (
  (f_X7_isBetweenSigns n1 r1 v3).bind fun t4 =>
  if t4 = 0 then (
  some (v3))
  else (
  f_X7_faultOf_l61 (fun zv1 zv2 zv3 => f_X7_faultOf_l6 n1 r1 k zv1 zv2 zv3) v1 v2 v3))
  else (
  (f_X7_isPlainSign t2).bind fun t3 =>
  if t3 = 0 then (
  some (v3))
  else (
  f_X7_faultOf_l61 (fun zv1 zv2 zv3 => f_X7_faultOf_l6 n1 r1 k zv1 zv2 zv3) v1 v2 v3)))) := rfl
theorem f_X7_faultOf_l6_z (n1 : Nat) (r1 : hm_SR) (v1 : Int32) (v2 : Int32) (v3 : Int32) : f_X7_faultOf_l6 n1 r1 0 v1 v2 v3 = none := rfl
def f_X7_faultOf (n1 : Nat) (r1 : hm_SR)  : Option (Int32) :=
  f_X7_faultOf_l6 n1 r1 hm_fu 0 0 0
abbrev rm_X7_faultOf : Room := { frames := 4, cells := 0, slots := 0, locals := 82 }
set_option maxHeartbeats 4000000 in
set_option maxRecDepth 100000 in
theorem c_X7_faultOf (l : Launch) (g : hm_G) (h1 b1 n1 : Nat) (r1 : hm_SR) (q : Int32) (hF : f_X7_faultOf n1 r1 = some q) : hm_Mi l yX7_faultOf (Cond.code yX7_faultOf cX7_faultOf 5 (some .int) :: hm_W) rm_X7_faultOf g [.ref h1] ([hm_row g h1 b1 n1 r1] : List va_W).flatten ([hm_row g h1 b1 n1 r1] : List va_W).flatten q := by
  refine hm_ofi [(0, .ref h1)] (by decide) (own := RX7) rfl (Nat.le_of_ble_eq_true rfl) rfl rfl ?_
  intro p e s m args below meth c AA S hr hlk X ls hl
  have hx := S.1
  have hb := S.2.1
  have hown := S.2.2.2.1
  have hts := S.2.2.2.2
  have hl6 : ∀ (k6 : Nat) (v1 : Int32) (v2 : Int32) (v3 : Int32), f_X7_faultOf_l6 n1 r1 k6 v1 v2 v3 = some q → ∀ (H : Heap) (locs : List Loc), hm_X g AA s H locs ([hm_row g h1 b1 n1 r1] : List va_W).flatten → ∀ ls : Array Slot, lv_has ls 5 [(0, .ref h1), (1, .int v1), (2, .int v2), (3, .int v3)] → W p l e rm_X7_faultOf s m args below meth c H locs 0 0 (MQ below (hm_Qi g AA ([hm_row g h1 b1 n1 r1] : List va_W).flatten q) args s 0 0 AA) (F0 m 6 ls []) := by
    intro k6
    induction k6 with
    | zero =>
      intro v1 v2 v3 hF
      rw [f_X7_faultOf_l6_z] at hF
      cases hF
    | succ k6 ih6 =>
      have hl90 : ∀ (v1 : Int32) (v2 : Int32) (v3 : Int32), f_X7_faultOf_l90 (fun zv1 zv2 zv3 => f_X7_faultOf_l6 n1 r1 k6 zv1 zv2 zv3) v1 v2 v3 = some q → ∀ (H : Heap) (locs : List Loc), hm_X g AA s H locs ([hm_row g h1 b1 n1 r1] : List va_W).flatten → ∀ ls : Array Slot, lv_has ls 5 [(0, .ref h1), (1, .int v1), (2, .int v2), (3, .int v3)] → W p l e rm_X7_faultOf s m args below meth c H locs 0 0 (MQ below (hm_Qi g AA ([hm_row g h1 b1 n1 r1] : List va_W).flatten q) args s 0 0 AA) (F0 m 90 ls []) := by
        intro v1 v2 v3 hF H locs X ls hl
        unfold f_X7_faultOf_l90 at hF
        refine lv_iinc (v := (v3 + 1)) (lv' := [(3, .int (v3 + 1)), (0, .ref h1), (1, .int v1), (2, .int v2)]) hx hb dX7_faultOf_90 hl (k := 3) rfl rfl (by decide) rfl (fun ls hl => ?_)
        refine lv_goto (tgt := 6) hx hb dX7_faultOf_93 (by decide) ?_
        exact ih6 v1 v2 (v3 + 1) hF _ _ X _ (lv_sub hl [1, 2, 3, 0] rfl)
      have hl71 : ∀ (s71_0 : Int32) (s71_1 : Int32) (v2 : Int32) (v3 : Int32), f_X7_faultOf_l71 (fun zv1 zv2 zv3 => f_X7_faultOf_l6 n1 r1 k6 zv1 zv2 zv3) s71_0 s71_1 v2 v3 = some q → ∀ (H : Heap) (locs : List Loc), hm_X g AA s H locs ([hm_row g h1 b1 n1 r1] : List va_W).flatten → ∀ ls : Array Slot, lv_has ls 5 [(0, .ref h1), (2, .int v2), (3, .int v3)] → W p l e rm_X7_faultOf s m args below meth c H locs 0 0 (MQ below (hm_Qi g AA ([hm_row g h1 b1 n1 r1] : List va_W).flatten q) args s 0 0 AA) (F0 m 71 ls [.int s71_0, .int s71_1]) := by
        intro s71_0 s71_1 v2 v3 hF H locs X ls hl
        unfold f_X7_faultOf_l71 at hF
        refine lv_iadd hx hb dX7_faultOf_71 ?_
        refine lv_istore_n (lv' := [(1, .int (s71_1 + s71_0)), (0, .ref h1), (2, .int v2), (3, .int v3)]) hx hb dX7_faultOf_72 rfl hl (by decide) rfl (fun ls hl => ?_)
        refine lv_iinc (v := (v2 + 1)) (lv' := [(2, .int (v2 + 1)), (1, .int (s71_1 + s71_0)), (0, .ref h1), (3, .int v3)]) hx hb dX7_faultOf_73 hl (k := 2) rfl rfl (by decide) rfl (fun ls hl => ?_)
        refine lv_iload_n hx hb dX7_faultOf_76 rfl (lv_at hl 0 rfl) ?_
        refine lv_bipush (v := 16) hx hb dX7_faultOf_77 (by decide) ?_
        refine lv_icmp_gt (tgt := 88) hx hb dX7_faultOf_79 (by decide) (fun c79 => ?_) (fun c79 => ?_)
        · have hF := hm_if hF c79
          refine lv_iload_n hx hb dX7_faultOf_88 rfl (lv_at hl 3 rfl) ?_
          obtain rfl := Option.some.inj hF
          exact hm_ri S hr hlk X rfl rfl dX7_faultOf_89
        · have hF := hm_nf hF c79
          refine lv_iload_n hx hb dX7_faultOf_82 rfl (lv_at hl 1 rfl) ?_
          refine lv_bipush (v := 30) hx hb dX7_faultOf_83 (by decide) ?_
          refine lv_icmp_le (tgt := 90) hx hb dX7_faultOf_85 (by decide) (fun c85 => ?_) (fun c85 => ?_)
          · have hF := hm_if hF c85
            exact hl90 (s71_1 + s71_0) (v2 + 1) v3 hF _ _ X _ (lv_sub hl [2, 1, 0, 3] rfl)
          · have hF := hm_nf hF c85
            refine lv_iload_n hx hb dX7_faultOf_88 rfl (lv_at hl 3 rfl) ?_
            obtain rfl := Option.some.inj hF
            exact hm_ri S hr hlk X rfl rfl dX7_faultOf_89
      have hl61 : ∀ (v1 : Int32) (v2 : Int32) (v3 : Int32), f_X7_faultOf_l61 (fun zv1 zv2 zv3 => f_X7_faultOf_l6 n1 r1 k6 zv1 zv2 zv3) v1 v2 v3 = some q → ∀ (H : Heap) (locs : List Loc), hm_X g AA s H locs ([hm_row g h1 b1 n1 r1] : List va_W).flatten → ∀ ls : Array Slot, lv_has ls 5 [(0, .ref h1), (1, .int v1), (2, .int v2), (3, .int v3)] → W p l e rm_X7_faultOf s m args below meth c H locs 0 0 (MQ below (hm_Qi g AA ([hm_row g h1 b1 n1 r1] : List va_W).flatten q) args s 0 0 AA) (F0 m 61 ls []) := by
        intro v1 v2 v3 hF H locs X ls hl
        unfold f_X7_faultOf_l61 at hF
        refine lv_iload_n hx hb dX7_faultOf_61 rfl (lv_at hl 1 rfl) ?_
        refine lv_iload_n hx hb dX7_faultOf_62 rfl (lv_at hl 2 rfl) ?_
        refine lv_if_ne (tgt := 70) hx hb dX7_faultOf_63 (by decide) (fun c63 => ?_) (fun c63 => ?_)
        · have hF := hm_nf hF c63
          refine lv_iconst (v := 0) hx hb dX7_faultOf_70 (by decide) ?_
          exact hl71 0 v1 v2 v3 hF _ _ X _ (lv_sub hl [0, 2, 3] rfl)
        · have hF := hm_if hF c63
          refine lv_iconst (v := 1) hx hb dX7_faultOf_66 (by decide) ?_
          refine lv_goto (tgt := 71) hx hb dX7_faultOf_67 (by decide) ?_
          exact hl71 1 v1 v2 v3 hF _ _ X _ (lv_sub hl [0, 2, 3] rfl)
      intro v1 v2 v3 hF H locs X ls hl
      rw [f_X7_faultOf_l6_s] at hF
      refine lv_iload_n hx hb dX7_faultOf_6 rfl (lv_at hl 3 rfl) ?_
      refine lv_aload_n hx hb dX7_faultOf_7 rfl (lv_at hl 0 rfl) ?_
      obtain ⟨t1, ht1, hF⟩ := hm_bd hF
      refine hm_vi (As := []) S X mw_X2_size hw_2_26 (c_X2_size l g h1 b1 n1 r1 t1 ht1) (hm_mid [] []) (hm_mid [] [] (b := hm_row g h1 b1 n1 r1)) rfl rfl rfl ⟨rfl, rfl, Nat.le_of_ble_eq_true rfl, Nat.le_of_ble_eq_true rfl⟩ rfl hl.1 rfl (Nat.le_of_ble_eq_true rfl) dX7_faultOf_8 ⟨Nat.zero_le _, Nat.zero_le _⟩ (fun H locs X => ?_)
      have X := X.to (ws' := ([hm_row g h1 b1 n1 r1] : List va_W).flatten) rfl
      refine lv_icmp_ge (tgt := 96) hx hb dX7_faultOf_11 (by decide) (fun c11 => ?_) (fun c11 => ?_)
      · have hF := hm_if hF c11
        refine lv_iconst (v := (-1)) hx hb dX7_faultOf_96 (by decide) ?_
        obtain rfl := Option.some.inj hF
        exact hm_ri S hr hlk X rfl rfl dX7_faultOf_97
      · have hF := hm_nf hF c11
        refine lv_aload_n hx hb dX7_faultOf_14 rfl (lv_at hl 0 rfl) ?_
        refine lv_iload_n hx hb dX7_faultOf_15 rfl (lv_at hl 3 rfl) ?_
        obtain ⟨t2, ht2, hF⟩ := hm_bd hF
        refine hm_vi (As := [.int v3]) S X mw_X2_get hw_2_42 (c_X2_get l g h1 b1 n1 r1 v3 t2 ht2) (hm_mid [] []) (hm_mid [] [] (b := hm_row g h1 b1 n1 r1)) rfl rfl rfl ⟨rfl, rfl, Nat.le_of_ble_eq_true rfl, Nat.le_of_ble_eq_true rfl⟩ rfl hl.1 rfl (Nat.le_of_ble_eq_true rfl) dX7_faultOf_16 ⟨Nat.zero_le _, Nat.zero_le _⟩ (fun H locs X => ?_)
        have X := X.to (ws' := ([hm_row g h1 b1 n1 r1] : List va_W).flatten) rfl
        refine lv_istore (lv' := [(4, .int t2), (0, .ref h1), (1, .int v1), (2, .int v2), (3, .int v3)]) hx hb dX7_faultOf_19 hl (by decide) rfl (fun ls hl => ?_)
        refine lv_iload hx hb dX7_faultOf_21 (lv_at hl 0 rfl) ?_
        refine lv_bipush (v := 32) hx hb dX7_faultOf_23 (by decide) ?_
        refine lv_icmp_ne (tgt := 33) hx hb dX7_faultOf_25 (by decide) (fun c25 => ?_) (fun c25 => ?_)
        · have hF := hm_nf hF c25
          refine lv_iload hx hb dX7_faultOf_33 (lv_at hl 0 rfl) ?_
          refine lv_bipush (v := 47) hx hb dX7_faultOf_35 (by decide) ?_
          refine lv_icmp_ne (tgt := 51) hx hb dX7_faultOf_37 (by decide) (fun c37 => ?_) (fun c37 => ?_)
          · have hF := hm_nf hF c37
            refine lv_iload hx hb dX7_faultOf_51 (lv_at hl 0 rfl) ?_
            obtain ⟨t3, ht3, hF⟩ := hm_bd hF
            refine hm_si S X mw_X7_isPlainSign hw_2_49 (c_X7_isPlainSign l g t2 t3 ht3) hm_non hm_non ⟨rfl, rfl, Nat.le_of_ble_eq_true rfl, Nat.le_of_ble_eq_true rfl⟩ rfl hl.1 rfl (Nat.le_of_ble_eq_true rfl) dX7_faultOf_53 ⟨Nat.zero_le _, Nat.zero_le _⟩ (fun H locs X => ?_)
            have X := X.to (ws' := ([hm_row g h1 b1 n1 r1] : List va_W).flatten) rfl
            refine lv_if_ne (tgt := 61) hx hb dX7_faultOf_56 (by decide) (fun c56 => ?_) (fun c56 => ?_)
            · have hF := hm_nf hF c56
              exact hl61 v1 v2 v3 hF _ _ X _ (lv_sub hl [1, 2, 3, 4] rfl)
            · have hF := hm_if hF c56
              refine lv_iload_n hx hb dX7_faultOf_59 rfl (lv_at hl 4 rfl) ?_
              obtain rfl := Option.some.inj hF
              exact hm_ri S hr hlk X rfl rfl dX7_faultOf_60
          · have hF := hm_if hF c37
            refine lv_aload_n hx hb dX7_faultOf_40 rfl (lv_at hl 1 rfl) ?_
            refine lv_iload_n hx hb dX7_faultOf_41 rfl (lv_at hl 4 rfl) ?_
            obtain ⟨t4, ht4, hF⟩ := hm_bd hF
            refine hm_si S X mw_X7_isBetweenSigns hw_2_46 (c_X7_isBetweenSigns l g h1 b1 n1 r1 v3 t4 ht4) (hm_mid [] []) (hm_mid [] [] (b := hm_row g h1 b1 n1 r1)) ⟨rfl, rfl, Nat.le_of_ble_eq_true rfl, Nat.le_of_ble_eq_true rfl⟩ rfl hl.1 rfl (Nat.le_of_ble_eq_true rfl) dX7_faultOf_42 ⟨Nat.zero_le _, Nat.zero_le _⟩ (fun H locs X => ?_)
            have X := X.to (ws' := ([hm_row g h1 b1 n1 r1] : List va_W).flatten) rfl
            refine lv_if_ne (tgt := 61) hx hb dX7_faultOf_45 (by decide) (fun c45 => ?_) (fun c45 => ?_)
            · have hF := hm_nf hF c45
              exact hl61 v1 v2 v3 hF _ _ X _ (lv_sub hl [1, 2, 3, 4] rfl)
            · have hF := hm_if hF c45
              refine lv_goto (tgt := 59) hx hb dX7_faultOf_48 (by decide) ?_
              refine lv_iload_n hx hb dX7_faultOf_59 rfl (lv_at hl 4 rfl) ?_
              obtain rfl := Option.some.inj hF
              exact hm_ri S hr hlk X rfl rfl dX7_faultOf_60
        · have hF := hm_if hF c25
          refine lv_iconst (v := 0) hx hb dX7_faultOf_28 (by decide) ?_
          refine lv_istore_n (lv' := [(2, .int 0), (4, .int t2), (0, .ref h1), (1, .int v1), (3, .int v3)]) hx hb dX7_faultOf_29 rfl hl (by decide) rfl (fun ls hl => ?_)
          refine lv_goto (tgt := 90) hx hb dX7_faultOf_30 (by decide) ?_
          exact hl90 v1 0 v3 hF _ _ X _ (lv_sub hl [2, 3, 0, 4] rfl)
  unfold f_X7_faultOf at hF
  refine lv_iconst (v := 0) hx hb dX7_faultOf_0 (by decide) ?_
  refine lv_istore_n (lv' := [(1, .int 0), (0, .ref h1)]) hx hb dX7_faultOf_1 rfl hl (by decide) rfl (fun ls hl => ?_)
  refine lv_iconst (v := 0) hx hb dX7_faultOf_2 (by decide) ?_
  refine lv_istore_n (lv' := [(2, .int 0), (1, .int 0), (0, .ref h1)]) hx hb dX7_faultOf_3 rfl hl (by decide) rfl (fun ls hl => ?_)
  refine lv_iconst (v := 0) hx hb dX7_faultOf_4 (by decide) ?_
  refine lv_istore_n (lv' := [(3, .int 0), (2, .int 0), (1, .int 0), (0, .ref h1)]) hx hb dX7_faultOf_5 rfl hl (by decide) rfl (fun ls hl => ?_)
  exact hl6 hm_fu 0 0 0 hF _ _ X _ (lv_sub hl [3, 2, 1, 0] rfl)
