def f_X8_in (x0 : Int32) (x1 : Int32) (x2 : Int32)  : Option (Int32) :=
  if x0 < x1 then (
  some (0))
  else (
  if x2 < x0 then (
  some (0))
  else (
  some (1)))
abbrev rm_X8_in : Room := { frames := 0, cells := 0, slots := 0, locals := 0 }
set_option maxHeartbeats 4000000 in
set_option maxRecDepth 100000 in
theorem c_X8_in (l : Launch) (g : hm_G) (x0 : Int32) (x1 : Int32) (x2 : Int32) (q : Int32) (hF : f_X8_in x0 x1 x2 = some q) : hm_Mi l yX8_in (Cond.code yX8_in cX8_in 3 (some .boolean) :: hm_W) rm_X8_in g [.int x0, .int x1, .int x2] ([] : va_W) ([] : va_W) q := by
  refine hm_ofi [(0, .int x0), (1, .int x1), (2, .int x2)] (by decide) (own := RX8) rfl (Nat.le_of_ble_eq_true rfl) rfl rfl ?_
  intro p e s m args below meth c AA S hr hlk X ls hl
  have hx := S.1
  have hb := S.2.1
  have hown := S.2.2.2.1
  have hts := S.2.2.2.2
  unfold f_X8_in at hF
  refine lv_iload_n hx hb dX8_in_0 rfl (lv_at hl 0 rfl) ?_
  refine lv_iload_n hx hb dX8_in_1 rfl (lv_at hl 1 rfl) ?_
  refine lv_icmp_lt (tgt := 14) hx hb dX8_in_2 (by decide) (fun c2 => ?_) (fun c2 => ?_)
  · have hF := hm_if hF c2
    refine lv_iconst (v := 0) hx hb dX8_in_14 (by decide) ?_
    obtain rfl := Option.some.inj hF
    exact hm_rz S hr hlk X rfl rfl (Or.inl rfl) dX8_in_15
  · have hF := hm_nf hF c2
    refine lv_iload_n hx hb dX8_in_5 rfl (lv_at hl 0 rfl) ?_
    refine lv_iload_n hx hb dX8_in_6 rfl (lv_at hl 2 rfl) ?_
    refine lv_icmp_gt (tgt := 14) hx hb dX8_in_7 (by decide) (fun c7 => ?_) (fun c7 => ?_)
    · have hF := hm_if hF c7
      refine lv_iconst (v := 0) hx hb dX8_in_14 (by decide) ?_
      obtain rfl := Option.some.inj hF
      exact hm_rz S hr hlk X rfl rfl (Or.inl rfl) dX8_in_15
    · have hF := hm_nf hF c7
      refine lv_iconst (v := 1) hx hb dX8_in_10 (by decide) ?_
      refine lv_goto (tgt := 15) hx hb dX8_in_11 (by decide) ?_
      obtain rfl := Option.some.inj hF
      exact hm_rz S hr hlk X rfl rfl (Or.inr rfl) dX8_in_15
def f_X8_begins_l41 (A_9 : Nat → Int32) (wA_7 : Nat → Int32) : Option ((Nat → Int32) × (Nat → Int32) × Int32 × Int32 × Int32) :=
  (hm_wr 38 wA_7 34 3).bind fun f1 =>
  (hm_wr 38 f1 35 60).bind fun f2 =>
  (hm_wr 38 f2 36 50).bind fun f3 =>
  (hm_wr 38 f3 37 100).bind fun f4 =>
  (hm_wz 2 A_9 0 0).bind fun f5 =>
  (hm_wz 2 f5 1 0).bind fun f6 =>
  some (f4, f6, 0, 0, 0)
def f_X8_begins_l34 (J2 : Int32 → (Nat → Int32) → Option ((Nat → Int32) × (Nat → Int32) × Int32 × Int32 × Int32)) (s34_0 : Int32) (s34_1 : Int32) (v1 : Int32) (wA_7 : Nat → Int32) : Option ((Nat → Int32) × (Nat → Int32) × Int32 × Int32 × Int32) :=
  (hm_wr 38 wA_7 s34_1 s34_0).bind fun f7 =>
  J2 (v1 + 1) f7
def f_X8_begins_l2 (A_9 : Nat → Int32) : Nat → Int32 → (Nat → Int32) → Option ((Nat → Int32) × (Nat → Int32) × Int32 × Int32 × Int32)
  | 0, _, _ => none
  | k + 1, v1, wA_7 =>
  if (38 : Int32) ≤ v1 then (
  f_X8_begins_l41 A_9 wA_7)
  else (
  if (26 : Int32) ≤ v1 then (
  if (30 : Int32) ≤ v1 then (
  f_X8_begins_l34 (fun zv1 zwA_7 => f_X8_begins_l2 A_9 k zv1 zwA_7) 0 v1 v1 wA_7)
  else (
  f_X8_begins_l34 (fun zv1 zwA_7 => f_X8_begins_l2 A_9 k zv1 zwA_7) 2 v1 v1 wA_7))
  else (
  f_X8_begins_l34 (fun zv1 zwA_7 => f_X8_begins_l2 A_9 k zv1 zwA_7) 4 v1 v1 wA_7))
theorem f_X8_begins_l2_s (A_9 : Nat → Int32) (k : Nat) (v1 : Int32) (wA_7 : Nat → Int32) : f_X8_begins_l2 A_9 (k + 1) v1 wA_7 =
  if (38 : Int32) ≤ v1 then (
  f_X8_begins_l41 A_9 wA_7)
  else (
  if (26 : Int32) ≤ v1 then (
  if (30 : Int32) ≤ v1 then (
  f_X8_begins_l34 (fun zv1 zwA_7 => f_X8_begins_l2 A_9 k zv1 zwA_7) 0 v1 v1 wA_7)
  else (
  f_X8_begins_l34 (fun zv1 zwA_7 => f_X8_begins_l2 A_9 k zv1 zwA_7) 2 v1 v1 wA_7))
  else (
  f_X8_begins_l34 (fun zv1 zwA_7 => f_X8_begins_l2 A_9 k zv1 zwA_7) 4 v1 v1 wA_7)) := rfl
theorem f_X8_begins_l2_z (A_9 : Nat → Int32) (v1 : Int32) (wA_7 : Nat → Int32) : f_X8_begins_l2 A_9 0 v1 wA_7 = none := rfl
def f_X8_begins (A_7 : Nat → Int32) (A_9 : Nat → Int32)  : Option ((Nat → Int32) × (Nat → Int32) × Int32 × Int32 × Int32) :=
  f_X8_begins_l2 A_9 hm_fu 0 A_7
abbrev rm_X8_begins : Room := { frames := 0, cells := 0, slots := 0, locals := 0 }
set_option maxHeartbeats 4000000 in
set_option maxRecDepth 100000 in
theorem c_X8_begins (l : Launch) (g : hm_G) (a : Nat → Nat) (A : Nat → Nat → Int32) (Z : Nat → Int32) (q : (Nat → Int32) × (Nat → Int32) × Int32 × Int32 × Int32) (hF : f_X8_begins (A 7) (A 9) = some q) : hm_Mv l yX8_begins (Cond.code yX8_begins cX8_begins 2 none :: hm_W) rm_X8_begins g [.ref (a 0)] (hm_wMM g a A Z) (hm_wMM g a (hm_up (hm_up A 7 q.1) 9 q.2.1) (hm_up (hm_up (hm_up Z 4 q.2.2.1) 5 q.2.2.2.1) 6 q.2.2.2.2)) := by
  refine hm_ofv [(0, .ref (a 0))] (by decide) (own := RX8) rfl (Nat.le_of_ble_eq_true rfl) rfl rfl ?_
  intro p e s m args below meth c AA S hr hlk X ls hl
  have hx := S.1
  have hb := S.2.1
  have hown := S.2.2.2.1
  have hts := S.2.2.2.2
  have hl41 : ∀ (wA_7 : Nat → Int32), f_X8_begins_l41 (A 9) wA_7 = some q → ∀ (H : Heap) (locs : List Loc), hm_X g AA s H locs (hm_wMM g a (hm_up A 7 wA_7) Z) → ∀ ls : Array Slot, lv_has ls 2 [(0, .ref (a 0))] → W p l e rm_X8_begins s m args below meth c H locs 0 0 (MQ below (hm_Qv g AA (hm_wMM g a (hm_up (hm_up A 7 q.1) 9 q.2.1) (hm_up (hm_up (hm_up Z 4 q.2.2.1) 5 q.2.2.2.1) 6 q.2.2.2.2))) args s 0 0 AA) (F0 m 41 ls []) := by
    intro wA_7 hF H locs X ls hl
    unfold f_X8_begins_l41 at hF
    refine lv_aload_n hx hb dX8_begins_41 rfl (lv_at hl 0 rfl) ?_
    refine hm_get S X hf_X8_32 0 rfl rfl dX8_begins_42 ?_
    refine lv_bipush (v := 34) hx hb dX8_begins_45 (by decide) ?_
    refine lv_iconst (v := 3) hx hb dX8_begins_47 (by decide) ?_
    obtain ⟨f1, hf1, hF⟩ := hm_bd hF
    refine hm_iast S X hf1 8 rfl dX8_begins_48 (fun H locs X => ?_)
    have X := X.to (ws' := (hm_wMM g a (hm_up A 7 f1) Z)) rfl
    refine lv_aload_n hx hb dX8_begins_49 rfl (lv_at hl 0 rfl) ?_
    refine hm_get S X hf_X8_32 0 rfl rfl dX8_begins_50 ?_
    refine lv_bipush (v := 35) hx hb dX8_begins_53 (by decide) ?_
    refine lv_bipush (v := 60) hx hb dX8_begins_55 (by decide) ?_
    obtain ⟨f2, hf2, hF⟩ := hm_bd hF
    refine hm_iast S X hf2 8 rfl dX8_begins_57 (fun H locs X => ?_)
    have X := X.to (ws' := (hm_wMM g a (hm_up A 7 f2) Z)) rfl
    refine lv_aload_n hx hb dX8_begins_58 rfl (lv_at hl 0 rfl) ?_
    refine hm_get S X hf_X8_32 0 rfl rfl dX8_begins_59 ?_
    refine lv_bipush (v := 36) hx hb dX8_begins_62 (by decide) ?_
    refine lv_bipush (v := 50) hx hb dX8_begins_64 (by decide) ?_
    obtain ⟨f3, hf3, hF⟩ := hm_bd hF
    refine hm_iast S X hf3 8 rfl dX8_begins_66 (fun H locs X => ?_)
    have X := X.to (ws' := (hm_wMM g a (hm_up A 7 f3) Z)) rfl
    refine lv_aload_n hx hb dX8_begins_67 rfl (lv_at hl 0 rfl) ?_
    refine hm_get S X hf_X8_32 0 rfl rfl dX8_begins_68 ?_
    refine lv_bipush (v := 37) hx hb dX8_begins_71 (by decide) ?_
    refine lv_bipush (v := 100) hx hb dX8_begins_73 (by decide) ?_
    obtain ⟨f4, hf4, hF⟩ := hm_bd hF
    refine hm_iast S X hf4 8 rfl dX8_begins_75 (fun H locs X => ?_)
    have X := X.to (ws' := (hm_wMM g a (hm_up A 7 f4) Z)) rfl
    refine lv_aload_n hx hb dX8_begins_76 rfl (lv_at hl 0 rfl) ?_
    refine lv_iconst (v := 0) hx hb dX8_begins_77 (by decide) ?_
    refine hm_put S X hf_X8_89 hg_X8_undos 0 rfl rfl rfl (Nat.le_of_ble_eq_true rfl) dX8_begins_78 (fun H locs X => ?_)
    have X := X.to (ws' := (hm_wMM g a (hm_up A 7 f4) (hm_up Z 4 0))) rfl
    refine lv_aload_n hx hb dX8_begins_81 rfl (lv_at hl 0 rfl) ?_
    refine lv_iconst (v := 0) hx hb dX8_begins_82 (by decide) ?_
    refine hm_put S X hf_X8_93 hg_X8_drafted 0 rfl rfl rfl (Nat.le_of_ble_eq_true rfl) dX8_begins_83 (fun H locs X => ?_)
    have X := X.to (ws' := (hm_wMM g a (hm_up A 7 f4) (hm_up (hm_up Z 4 0) 5 0))) rfl
    refine lv_aload_n hx hb dX8_begins_86 rfl (lv_at hl 0 rfl) ?_
    refine lv_iconst (v := 0) hx hb dX8_begins_87 (by decide) ?_
    refine hm_put S X hf_X8_96 hg_X8_seen 0 rfl rfl rfl (Nat.le_of_ble_eq_true rfl) dX8_begins_88 (fun H locs X => ?_)
    have X := X.to (ws' := (hm_wMM g a (hm_up A 7 f4) (hm_up (hm_up (hm_up Z 4 0) 5 0) 6 0))) rfl
    refine lv_aload_n hx hb dX8_begins_91 rfl (lv_at hl 0 rfl) ?_
    refine hm_get S X hf_X8_38 0 rfl rfl dX8_begins_92 ?_
    refine lv_iconst (v := 0) hx hb dX8_begins_95 (by decide) ?_
    refine lv_iconst (v := 0) hx hb dX8_begins_96 (by decide) ?_
    obtain ⟨f5, hf5, hF⟩ := hm_bd hF
    refine hm_zast S X hf5 10 rfl dX8_begins_97 (fun H locs X => ?_)
    have X := X.to (ws' := (hm_wMM g a (hm_up (hm_up A 7 f4) 9 f5) (hm_up (hm_up (hm_up Z 4 0) 5 0) 6 0))) rfl
    refine lv_aload_n hx hb dX8_begins_98 rfl (lv_at hl 0 rfl) ?_
    refine hm_get S X hf_X8_38 0 rfl rfl dX8_begins_99 ?_
    refine lv_iconst (v := 1) hx hb dX8_begins_102 (by decide) ?_
    refine lv_iconst (v := 0) hx hb dX8_begins_103 (by decide) ?_
    obtain ⟨f6, hf6, hF⟩ := hm_bd hF
    refine hm_zast S X hf6 10 rfl dX8_begins_104 (fun H locs X => ?_)
    have X := X.to (ws' := (hm_wMM g a (hm_up (hm_up A 7 f4) 9 f6) (hm_up (hm_up (hm_up Z 4 0) 5 0) 6 0))) rfl
    obtain rfl := Option.some.inj hF
    exact hm_rv S hr hlk X rfl dX8_begins_105
  have hl2 : ∀ (k2 : Nat) (v1 : Int32) (wA_7 : Nat → Int32), f_X8_begins_l2 (A 9) k2 v1 wA_7 = some q → ∀ (H : Heap) (locs : List Loc), hm_X g AA s H locs (hm_wMM g a (hm_up A 7 wA_7) Z) → ∀ ls : Array Slot, lv_has ls 2 [(0, .ref (a 0)), (1, .int v1)] → W p l e rm_X8_begins s m args below meth c H locs 0 0 (MQ below (hm_Qv g AA (hm_wMM g a (hm_up (hm_up A 7 q.1) 9 q.2.1) (hm_up (hm_up (hm_up Z 4 q.2.2.1) 5 q.2.2.2.1) 6 q.2.2.2.2))) args s 0 0 AA) (F0 m 2 ls []) := by
    intro k2
    induction k2 with
    | zero =>
      intro v1 wA_7 hF
      rw [f_X8_begins_l2_z] at hF
      cases hF
    | succ k2 ih2 =>
      have hl34 : ∀ (s34_0 : Int32) (s34_1 : Int32) (v1 : Int32) (wA_7 : Nat → Int32), f_X8_begins_l34 (fun zv1 zwA_7 => f_X8_begins_l2 (A 9) k2 zv1 zwA_7) s34_0 s34_1 v1 wA_7 = some q → ∀ (H : Heap) (locs : List Loc), hm_X g AA s H locs (hm_wMM g a (hm_up A 7 wA_7) Z) → ∀ ls : Array Slot, lv_has ls 2 [(0, .ref (a 0)), (1, .int v1)] → W p l e rm_X8_begins s m args below meth c H locs 0 0 (MQ below (hm_Qv g AA (hm_wMM g a (hm_up (hm_up A 7 q.1) 9 q.2.1) (hm_up (hm_up (hm_up Z 4 q.2.2.1) 5 q.2.2.2.1) 6 q.2.2.2.2))) args s 0 0 AA) (F0 m 34 ls [.int s34_0, .int s34_1, .ref (a 8)]) := by
        intro s34_0 s34_1 v1 wA_7 hF H locs X ls hl
        unfold f_X8_begins_l34 at hF
        obtain ⟨f7, hf7, hF⟩ := hm_bd hF
        refine hm_iast S X hf7 8 rfl dX8_begins_34 (fun H locs X => ?_)
        have X := X.to (ws' := (hm_wMM g a (hm_up A 7 f7) Z)) rfl
        refine lv_iinc (v := (v1 + 1)) (lv' := [(1, .int (v1 + 1)), (0, .ref (a 0))]) hx hb dX8_begins_35 hl (k := 1) rfl rfl (by decide) rfl (fun ls hl => ?_)
        refine lv_goto (tgt := 2) hx hb dX8_begins_38 (by decide) ?_
        exact ih2 (v1 + 1) f7 hF _ _ X _ (lv_sub hl [1, 0] rfl)
      intro v1 wA_7 hF H locs X ls hl
      rw [f_X8_begins_l2_s] at hF
      refine lv_iload_n hx hb dX8_begins_2 rfl (lv_at hl 1 rfl) ?_
      refine lv_bipush (v := 38) hx hb dX8_begins_3 (by decide) ?_
      refine lv_icmp_ge (tgt := 41) hx hb dX8_begins_5 (by decide) (fun c5 => ?_) (fun c5 => ?_)
      · have hF := hm_if hF c5
        exact hl41 wA_7 hF _ _ X _ (lv_sub hl [0] rfl)
      · have hF := hm_nf hF c5
        refine lv_aload_n hx hb dX8_begins_8 rfl (lv_at hl 0 rfl) ?_
        refine hm_get S X hf_X8_32 0 rfl rfl dX8_begins_9 ?_
        refine lv_iload_n hx hb dX8_begins_12 rfl (lv_at hl 1 rfl) ?_
        refine lv_iload_n hx hb dX8_begins_13 rfl (lv_at hl 1 rfl) ?_
        refine lv_bipush (v := 26) hx hb dX8_begins_14 (by decide) ?_
        refine lv_icmp_ge (tgt := 23) hx hb dX8_begins_16 (by decide) (fun c16 => ?_) (fun c16 => ?_)
        · have hF := hm_if hF c16
          refine lv_iload_n hx hb dX8_begins_23 rfl (lv_at hl 1 rfl) ?_
          refine lv_bipush (v := 30) hx hb dX8_begins_24 (by decide) ?_
          refine lv_icmp_ge (tgt := 33) hx hb dX8_begins_26 (by decide) (fun c26 => ?_) (fun c26 => ?_)
          · have hF := hm_if hF c26
            refine lv_iconst (v := 0) hx hb dX8_begins_33 (by decide) ?_
            exact hl34 0 v1 v1 wA_7 hF _ _ X _ (lv_sub hl [0, 1] rfl)
          · have hF := hm_nf hF c26
            refine lv_iconst (v := 2) hx hb dX8_begins_29 (by decide) ?_
            refine lv_goto (tgt := 34) hx hb dX8_begins_30 (by decide) ?_
            exact hl34 2 v1 v1 wA_7 hF _ _ X _ (lv_sub hl [0, 1] rfl)
        · have hF := hm_nf hF c16
          refine lv_iconst (v := 4) hx hb dX8_begins_19 (by decide) ?_
          refine lv_goto (tgt := 34) hx hb dX8_begins_20 (by decide) ?_
          exact hl34 4 v1 v1 wA_7 hF _ _ X _ (lv_sub hl [0, 1] rfl)
  unfold f_X8_begins at hF
  refine lv_iconst (v := 0) hx hb dX8_begins_0 (by decide) ?_
  refine lv_istore_n (lv' := [(1, .int 0), (0, .ref (a 0))]) hx hb dX8_begins_1 rfl hl (by decide) rfl (fun ls hl => ?_)
  exact hl2 hm_fu 0 (A 7) hF _ _ (X.to (ws' := (hm_wMM g a (hm_up A 7 (A 7)) Z)) rfl) _ (lv_sub hl [1, 0] rfl)
def f_X8_type (A_0 : Nat → Int32) (Z_0 : Int32) (x0 : Int32)  : Option (Int32 × (Nat → Int32) × Int32) :=
  (f_X8_in x0 0 255).bind fun t1 =>
  if t1 = 0 then (
  some ((-1), A_0, Z_0))
  else (
  if Z_0 = 200 then (
  some ((-3), A_0, Z_0))
  else (
  (hm_wr 200 A_0 Z_0 x0).bind fun f2 =>
  some ((Z_0 + 1), f2, (Z_0 + 1))))
abbrev rm_X8_type : Room := { frames := 1, cells := 0, slots := 0, locals := 22 }
set_option maxHeartbeats 4000000 in
set_option maxRecDepth 100000 in
theorem c_X8_type (l : Launch) (g : hm_G) (a : Nat → Nat) (A : Nat → Nat → Int32) (Z : Nat → Int32) (x0 : Int32) (q : Int32 × (Nat → Int32) × Int32) (hF : f_X8_type (A 0) (Z 0) x0 = some q) : hm_Mi l yX8_type (Cond.code yX8_type cX8_type 2 (some .int) :: hm_W) rm_X8_type g [.ref (a 0), .int x0] (hm_wMM g a A Z) (hm_wMM g a (hm_up A 0 q.2.1) (hm_up Z 0 q.2.2)) q.1 := by
  refine hm_ofi [(0, .ref (a 0)), (1, .int x0)] (by decide) (own := RX8) rfl (Nat.le_of_ble_eq_true rfl) rfl rfl ?_
  intro p e s m args below meth c AA S hr hlk X ls hl
  have hx := S.1
  have hb := S.2.1
  have hown := S.2.2.2.1
  have hts := S.2.2.2.2
  unfold f_X8_type at hF
  refine lv_iload_n hx hb dX8_type_0 rfl (lv_at hl 1 rfl) ?_
  refine lv_iconst (v := 0) hx hb dX8_type_1 (by decide) ?_
  refine lv_sipush (v := 255) hx hb dX8_type_2 (by decide) ?_
  obtain ⟨t1, ht1, hF⟩ := hm_bd hF
  refine hm_si S X mw_X8_in hw_4_193 (c_X8_in l g x0 0 255 t1 ht1) (List.Perm.refl _) (List.Perm.refl _) ⟨rfl, rfl, Nat.le_of_ble_eq_true rfl, Nat.le_of_ble_eq_true rfl⟩ rfl hl.1 rfl (Nat.le_of_ble_eq_true rfl) dX8_type_5 ⟨Nat.zero_le _, Nat.zero_le _⟩ (fun H locs X => ?_)
  refine lv_if_ne (tgt := 13) hx hb dX8_type_8 (by decide) (fun c8 => ?_) (fun c8 => ?_)
  · have hF := hm_nf hF c8
    refine lv_aload_n hx hb dX8_type_13 rfl (lv_at hl 0 rfl) ?_
    refine hm_get S X hf_X8_103 0 rfl rfl dX8_type_14 ?_
    refine lv_sipush (v := 200) hx hb dX8_type_17 (by decide) ?_
    refine lv_icmp_ne (tgt := 26) hx hb dX8_type_20 (by decide) (fun c20 => ?_) (fun c20 => ?_)
    · have hF := hm_nf hF c20
      refine lv_aload_n hx hb dX8_type_26 rfl (lv_at hl 0 rfl) ?_
      refine hm_get S X hf_X8_7 0 rfl rfl dX8_type_27 ?_
      refine lv_aload_n hx hb dX8_type_30 rfl (lv_at hl 0 rfl) ?_
      refine hm_get S X hf_X8_103 0 rfl rfl dX8_type_31 ?_
      refine lv_iload_n hx hb dX8_type_34 rfl (lv_at hl 1 rfl) ?_
      obtain ⟨f2, hf2, hF⟩ := hm_bd hF
      refine hm_iast S X hf2 1 rfl dX8_type_35 (fun H locs X => ?_)
      have X := X.to (ws' := (hm_wMM g a (hm_up A 0 f2) Z)) rfl
      refine lv_aload_n hx hb dX8_type_36 rfl (lv_at hl 0 rfl) ?_
      refine lv_dup hx hb dX8_type_37 rfl ?_
      refine hm_get S X hf_X8_103 0 rfl rfl dX8_type_38 ?_
      refine lv_iconst (v := 1) hx hb dX8_type_41 (by decide) ?_
      refine lv_iadd hx hb dX8_type_42 ?_
      refine hm_put S X hf_X8_103 hg_X8_letters 0 rfl rfl rfl (Nat.le_of_ble_eq_true rfl) dX8_type_43 (fun H locs X => ?_)
      have X := X.to (ws' := (hm_wMM g a (hm_up A 0 f2) (hm_up Z 0 ((Z 0) + 1)))) rfl
      refine lv_aload_n hx hb dX8_type_46 rfl (lv_at hl 0 rfl) ?_
      refine hm_get S X hf_X8_103 0 rfl rfl dX8_type_47 ?_
      obtain rfl := Option.some.inj hF
      exact hm_ri S hr hlk X rfl rfl dX8_type_50
    · have hF := hm_if hF c20
      refine lv_bipush (v := (-3)) hx hb dX8_type_23 (by decide) ?_
      obtain rfl := Option.some.inj hF
      exact hm_ri S hr hlk X rfl rfl dX8_type_25
  · have hF := hm_if hF c8
    refine lv_iconst (v := (-1)) hx hb dX8_type_11 (by decide) ?_
    obtain rfl := Option.some.inj hF
    exact hm_ri S hr hlk X rfl rfl dX8_type_12
def f_X8_clear (Z_0 : Int32)  : Option (Int32 × Int32) :=
  some (Z_0, 0)
abbrev rm_X8_clear : Room := { frames := 0, cells := 0, slots := 0, locals := 0 }
set_option maxHeartbeats 4000000 in
set_option maxRecDepth 100000 in
theorem c_X8_clear (l : Launch) (g : hm_G) (a : Nat → Nat) (A : Nat → Nat → Int32) (Z : Nat → Int32) (q : Int32 × Int32) (hF : f_X8_clear (Z 0) = some q) : hm_Mi l yX8_clear (Cond.code yX8_clear cX8_clear 2 (some .int) :: hm_W) rm_X8_clear g [.ref (a 0)] (hm_wMM g a A Z) (hm_wMM g a A (hm_up Z 0 q.2)) q.1 := by
  refine hm_ofi [(0, .ref (a 0))] (by decide) (own := RX8) rfl (Nat.le_of_ble_eq_true rfl) rfl rfl ?_
  intro p e s m args below meth c AA S hr hlk X ls hl
  have hx := S.1
  have hb := S.2.1
  have hown := S.2.2.2.1
  have hts := S.2.2.2.2
  unfold f_X8_clear at hF
  refine lv_aload_n hx hb dX8_clear_0 rfl (lv_at hl 0 rfl) ?_
  refine hm_get S X hf_X8_103 0 rfl rfl dX8_clear_1 ?_
  refine lv_istore_n (lv' := [(1, .int (Z 0)), (0, .ref (a 0))]) hx hb dX8_clear_4 rfl hl (by decide) rfl (fun ls hl => ?_)
  refine lv_aload_n hx hb dX8_clear_5 rfl (lv_at hl 1 rfl) ?_
  refine lv_iconst (v := 0) hx hb dX8_clear_6 (by decide) ?_
  refine hm_put S X hf_X8_103 hg_X8_letters 0 rfl rfl rfl (Nat.le_of_ble_eq_true rfl) dX8_clear_7 (fun H locs X => ?_)
  have X := X.to (ws' := (hm_wMM g a A (hm_up Z 0 0))) rfl
  refine lv_iload_n hx hb dX8_clear_10 rfl (lv_at hl 0 rfl) ?_
  obtain rfl := Option.some.inj hF
  exact hm_ri S hr hlk X rfl rfl dX8_clear_11
def f_X8_markOf (x0 : Int32)  : Option (Int32) :=
  if x0 = 46 then (
  some (0))
  else (
  if x0 = 44 then (
  some (1))
  else (
  if x0 = 45 then (
  some (2))
  else (
  if x0 = 39 then (
  some (3))
  else (
  some ((-9))))))
abbrev rm_X8_markOf : Room := { frames := 0, cells := 0, slots := 0, locals := 0 }
set_option maxHeartbeats 4000000 in
set_option maxRecDepth 100000 in
theorem c_X8_markOf (l : Launch) (g : hm_G) (x0 : Int32) (q : Int32) (hF : f_X8_markOf x0 = some q) : hm_Mi l yX8_markOf (Cond.code yX8_markOf cX8_markOf 1 (some .int) :: hm_W) rm_X8_markOf g [.int x0] ([] : va_W) ([] : va_W) q := by
  refine hm_ofi [(0, .int x0)] (by decide) (own := RX8) rfl (Nat.le_of_ble_eq_true rfl) rfl rfl ?_
  intro p e s m args below meth c AA S hr hlk X ls hl
  have hx := S.1
  have hb := S.2.1
  have hown := S.2.2.2.1
  have hts := S.2.2.2.2
  unfold f_X8_markOf at hF
  refine lv_iload_n hx hb dX8_markOf_0 rfl (lv_at hl 0 rfl) ?_
  refine lv_bipush (v := 46) hx hb dX8_markOf_1 (by decide) ?_
  refine lv_icmp_ne (tgt := 10) hx hb dX8_markOf_3 (by decide) (fun c3 => ?_) (fun c3 => ?_)
  · have hF := hm_nf hF c3
    refine lv_iload_n hx hb dX8_markOf_10 rfl (lv_at hl 0 rfl) ?_
    refine lv_bipush (v := 44) hx hb dX8_markOf_11 (by decide) ?_
    refine lv_icmp_ne (tgt := 20) hx hb dX8_markOf_13 (by decide) (fun c13 => ?_) (fun c13 => ?_)
    · have hF := hm_nf hF c13
      refine lv_iload_n hx hb dX8_markOf_20 rfl (lv_at hl 0 rfl) ?_
      refine lv_bipush (v := 45) hx hb dX8_markOf_21 (by decide) ?_
      refine lv_icmp_ne (tgt := 30) hx hb dX8_markOf_23 (by decide) (fun c23 => ?_) (fun c23 => ?_)
      · have hF := hm_nf hF c23
        refine lv_iload_n hx hb dX8_markOf_30 rfl (lv_at hl 0 rfl) ?_
        refine lv_bipush (v := 39) hx hb dX8_markOf_31 (by decide) ?_
        refine lv_icmp_ne (tgt := 40) hx hb dX8_markOf_33 (by decide) (fun c33 => ?_) (fun c33 => ?_)
        · have hF := hm_nf hF c33
          refine lv_bipush (v := (-9)) hx hb dX8_markOf_40 (by decide) ?_
          obtain rfl := Option.some.inj hF
          exact hm_ri S hr hlk X rfl rfl dX8_markOf_42
        · have hF := hm_if hF c33
          refine lv_iconst (v := 3) hx hb dX8_markOf_36 (by decide) ?_
          refine lv_goto (tgt := 42) hx hb dX8_markOf_37 (by decide) ?_
          obtain rfl := Option.some.inj hF
          exact hm_ri S hr hlk X rfl rfl dX8_markOf_42
      · have hF := hm_if hF c23
        refine lv_iconst (v := 2) hx hb dX8_markOf_26 (by decide) ?_
        refine lv_goto (tgt := 42) hx hb dX8_markOf_27 (by decide) ?_
        obtain rfl := Option.some.inj hF
        exact hm_ri S hr hlk X rfl rfl dX8_markOf_42
    · have hF := hm_if hF c13
      refine lv_iconst (v := 1) hx hb dX8_markOf_16 (by decide) ?_
      refine lv_goto (tgt := 42) hx hb dX8_markOf_17 (by decide) ?_
      obtain rfl := Option.some.inj hF
      exact hm_ri S hr hlk X rfl rfl dX8_markOf_42
  · have hF := hm_if hF c3
    refine lv_iconst (v := 0) hx hb dX8_markOf_6 (by decide) ?_
    refine lv_goto (tgt := 42) hx hb dX8_markOf_7 (by decide) ?_
    obtain rfl := Option.some.inj hF
    exact hm_ri S hr hlk X rfl rfl dX8_markOf_42
def f_X8_isWhole_l20   : Option (Int32) :=
  some (1)
def f_X8_isWhole (x0 : Int32)  : Option (Int32) :=
  (f_X8_in x0 97 122).bind fun t1 =>
  if t1 = 0 then (
  (f_X8_markOf x0).bind fun t2 =>
  if t2 = (-9) then (
  some (0))
  else (
  f_X8_isWhole_l20))
  else (
  f_X8_isWhole_l20)
abbrev rm_X8_isWhole : Room := { frames := 1, cells := 0, slots := 0, locals := 22 }
set_option maxHeartbeats 4000000 in
set_option maxRecDepth 100000 in
theorem c_X8_isWhole (l : Launch) (g : hm_G) (x0 : Int32) (q : Int32) (hF : f_X8_isWhole x0 = some q) : hm_Mi l yX8_isWhole (Cond.code yX8_isWhole cX8_isWhole 1 (some .boolean) :: hm_W) rm_X8_isWhole g [.int x0] ([] : va_W) ([] : va_W) q := by
  refine hm_ofi [(0, .int x0)] (by decide) (own := RX8) rfl (Nat.le_of_ble_eq_true rfl) rfl rfl ?_
  intro p e s m args below meth c AA S hr hlk X ls hl
  have hx := S.1
  have hb := S.2.1
  have hown := S.2.2.2.1
  have hts := S.2.2.2.2
  have hl20 : f_X8_isWhole_l20 = some q → ∀ (H : Heap) (locs : List Loc), hm_X g AA s H locs ([] : va_W) → ∀ ls : Array Slot, lv_has ls 1 [] → W p l e rm_X8_isWhole s m args below meth c H locs 0 0 (MQ below (hm_Qi g AA ([] : va_W) q) args s 0 0 AA) (F0 m 20 ls []) := by
    intro hF H locs X ls hl
    unfold f_X8_isWhole_l20 at hF
    refine lv_iconst (v := 1) hx hb dX8_isWhole_20 (by decide) ?_
    refine lv_goto (tgt := 25) hx hb dX8_isWhole_21 (by decide) ?_
    obtain rfl := Option.some.inj hF
    exact hm_rz S hr hlk X rfl rfl (Or.inr rfl) dX8_isWhole_25
  unfold f_X8_isWhole at hF
  refine lv_iload_n hx hb dX8_isWhole_0 rfl (lv_at hl 0 rfl) ?_
  refine lv_bipush (v := 97) hx hb dX8_isWhole_1 (by decide) ?_
  refine lv_bipush (v := 122) hx hb dX8_isWhole_3 (by decide) ?_
  obtain ⟨t1, ht1, hF⟩ := hm_bd hF
  refine hm_si S X mw_X8_in hw_4_193 (c_X8_in l g x0 97 122 t1 ht1) (List.Perm.refl _) (List.Perm.refl _) ⟨rfl, rfl, Nat.le_of_ble_eq_true rfl, Nat.le_of_ble_eq_true rfl⟩ rfl hl.1 rfl (Nat.le_of_ble_eq_true rfl) dX8_isWhole_5 ⟨Nat.zero_le _, Nat.zero_le _⟩ (fun H locs X => ?_)
  refine lv_if_ne (tgt := 20) hx hb dX8_isWhole_8 (by decide) (fun c8 => ?_) (fun c8 => ?_)
  · have hF := hm_nf hF c8
    exact hl20  hF _ _ X _ (lv_sub hl [] rfl)
  · have hF := hm_if hF c8
    refine lv_iload_n hx hb dX8_isWhole_11 rfl (lv_at hl 0 rfl) ?_
    obtain ⟨t2, ht2, hF⟩ := hm_bd hF
    refine hm_si S X mw_X8_markOf hw_4_215 (c_X8_markOf l g x0 t2 ht2) (List.Perm.refl _) (List.Perm.refl _) ⟨rfl, rfl, Nat.le_of_ble_eq_true rfl, Nat.le_of_ble_eq_true rfl⟩ rfl hl.1 rfl (Nat.le_of_ble_eq_true rfl) dX8_isWhole_12 ⟨Nat.zero_le _, Nat.zero_le _⟩ (fun H locs X => ?_)
    refine lv_bipush (v := (-9)) hx hb dX8_isWhole_15 (by decide) ?_
    refine lv_icmp_eq (tgt := 24) hx hb dX8_isWhole_17 (by decide) (fun c17 => ?_) (fun c17 => ?_)
    · have hF := hm_if hF c17
      refine lv_iconst (v := 0) hx hb dX8_isWhole_24 (by decide) ?_
      obtain rfl := Option.some.inj hF
      exact hm_rz S hr hlk X rfl rfl (Or.inl rfl) dX8_isWhole_25
    · have hF := hm_nf hF c17
      exact hl20  hF _ _ X _ (lv_sub hl [] rfl)
def f_X8_isWholeAt (A_0 : Nat → Int32) (Z_0 : Int32) (x0 : Int32)  : Option (Int32) :=
  (f_X8_in x0 0 (Z_0 - 1)).bind fun t1 =>
  if t1 = 0 then (
  some (0))
  else (
  (hm_rd 200 A_0 x0).bind fun t2 =>
  (f_X8_isWhole t2).bind fun t3 =>
  if t3 = 0 then (
  some (0))
  else (
  some (1)))
abbrev rm_X8_isWholeAt : Room := { frames := 2, cells := 0, slots := 0, locals := 42 }
set_option maxHeartbeats 4000000 in
set_option maxRecDepth 100000 in
theorem c_X8_isWholeAt (l : Launch) (g : hm_G) (a : Nat → Nat) (A : Nat → Nat → Int32) (Z : Nat → Int32) (x0 : Int32) (q : Int32) (hF : f_X8_isWholeAt (A 0) (Z 0) x0 = some q) : hm_Mi l yX8_isWholeAt (Cond.code yX8_isWholeAt cX8_isWholeAt 2 (some .boolean) :: hm_W) rm_X8_isWholeAt g [.ref (a 0), .int x0] (hm_wMM g a A Z) (hm_wMM g a A Z) q := by
  refine hm_ofi [(0, .ref (a 0)), (1, .int x0)] (by decide) (own := RX8) rfl (Nat.le_of_ble_eq_true rfl) rfl rfl ?_
  intro p e s m args below meth c AA S hr hlk X ls hl
  have hx := S.1
  have hb := S.2.1
  have hown := S.2.2.2.1
  have hts := S.2.2.2.2
  unfold f_X8_isWholeAt at hF
  refine lv_iload_n hx hb dX8_isWholeAt_0 rfl (lv_at hl 1 rfl) ?_
  refine lv_iconst (v := 0) hx hb dX8_isWholeAt_1 (by decide) ?_
  refine lv_aload_n hx hb dX8_isWholeAt_2 rfl (lv_at hl 0 rfl) ?_
  refine hm_get S X hf_X8_103 0 rfl rfl dX8_isWholeAt_3 ?_
  refine lv_iconst (v := 1) hx hb dX8_isWholeAt_6 (by decide) ?_
  refine lv_isub hx hb dX8_isWholeAt_7 ?_
  obtain ⟨t1, ht1, hF⟩ := hm_bd hF
  refine hm_si S X mw_X8_in hw_4_193 (c_X8_in l g x0 0 ((Z 0) - 1) t1 ht1) (List.Perm.refl _) (List.Perm.refl _) ⟨rfl, rfl, Nat.le_of_ble_eq_true rfl, Nat.le_of_ble_eq_true rfl⟩ rfl hl.1 rfl (Nat.le_of_ble_eq_true rfl) dX8_isWholeAt_8 ⟨Nat.zero_le _, Nat.zero_le _⟩ (fun H locs X => ?_)
  refine lv_if_eq (tgt := 30) hx hb dX8_isWholeAt_11 (by decide) (fun c11 => ?_) (fun c11 => ?_)
  · have hF := hm_if hF c11
    refine lv_iconst (v := 0) hx hb dX8_isWholeAt_30 (by decide) ?_
    obtain rfl := Option.some.inj hF
    exact hm_rz S hr hlk X rfl rfl (Or.inl rfl) dX8_isWholeAt_31
  · have hF := hm_nf hF c11
    refine lv_aload_n hx hb dX8_isWholeAt_14 rfl (lv_at hl 0 rfl) ?_
    refine hm_get S X hf_X8_7 0 rfl rfl dX8_isWholeAt_15 ?_
    refine lv_iload_n hx hb dX8_isWholeAt_18 rfl (lv_at hl 1 rfl) ?_
    obtain ⟨t2, ht2, hF⟩ := hm_bd hF
    refine hm_iald S X ht2 1 rfl dX8_isWholeAt_19 ?_
    obtain ⟨t3, ht3, hF⟩ := hm_bd hF
    refine hm_si S X mw_X8_isWhole hw_4_212 (c_X8_isWhole l g t2 t3 ht3) (List.Perm.refl _) (List.Perm.refl _) ⟨rfl, rfl, Nat.le_of_ble_eq_true rfl, Nat.le_of_ble_eq_true rfl⟩ rfl hl.1 rfl (Nat.le_of_ble_eq_true rfl) dX8_isWholeAt_20 ⟨Nat.zero_le _, Nat.zero_le _⟩ (fun H locs X => ?_)
    refine lv_if_eq (tgt := 30) hx hb dX8_isWholeAt_23 (by decide) (fun c23 => ?_) (fun c23 => ?_)
    · have hF := hm_if hF c23
      refine lv_iconst (v := 0) hx hb dX8_isWholeAt_30 (by decide) ?_
      obtain rfl := Option.some.inj hF
      exact hm_rz S hr hlk X rfl rfl (Or.inl rfl) dX8_isWholeAt_31
    · have hF := hm_nf hF c23
      refine lv_iconst (v := 1) hx hb dX8_isWholeAt_26 (by decide) ?_
      refine lv_goto (tgt := 31) hx hb dX8_isWholeAt_27 (by decide) ?_
      obtain rfl := Option.some.inj hF
      exact hm_rz S hr hlk X rfl rfl (Or.inr rfl) dX8_isWholeAt_31
def f_X8_fault_l111 (J6 : Int32 → Int32 → Int32 → Option (Int32)) (s111_0 : Int32) (v1 : Int32) (v3 : Int32) : Option (Int32) :=
  if (16 : Int32) < s111_0 then (
  some (v3))
  else (
  if v1 ≤ 30 then (
  J6 v1 s111_0 (v3 + 1))
  else (
  some (v3)))
def f_X8_fault_l95 (J6 : Int32 → Int32 → Int32 → Option (Int32)) (s95_0 : Int32) (s95_1 : Int32) (v2 : Int32) (v3 : Int32) (v4 : Int32) : Option (Int32) :=
  if v4 = 32 then (
  f_X8_fault_l111 J6 0 (s95_1 + s95_0) v3)
  else (
  f_X8_fault_l111 J6 (v2 + 1) (s95_1 + s95_0) v3)
def f_X8_fault_l94 (J6 : Int32 → Int32 → Int32 → Option (Int32)) (s94_0 : Int32) (v2 : Int32) (v3 : Int32) (v4 : Int32) : Option (Int32) :=
  f_X8_fault_l95 J6 0 s94_0 v2 v3 v4
def f_X8_fault_l78 (J6 : Int32 → Int32 → Int32 → Option (Int32)) (v1 : Int32) (v2 : Int32) (v3 : Int32) (v4 : Int32) : Option (Int32) :=
  if v4 = 32 then (
  f_X8_fault_l94 J6 v1 v2 v3 v4)
  else (
  if v2 = 0 then (
  f_X8_fault_l95 J6 1 v1 v2 v3 v4)
  else (
  f_X8_fault_l94 J6 v1 v2 v3 v4))
def f_X8_fault_l54 (J6 : Int32 → Int32 → Int32 → Option (Int32)) (s54_0 : Int32) (v1 : Int32) (v2 : Int32) (v3 : Int32) (v4 : Int32) : Option (Int32) :=
  if v4 = 32 then (
  f_X8_fault_l78 J6 v1 v2 v3 v4)
  else (
  (f_X8_isWhole v4).bind fun t2 =>
  if t2 = 0 then (
  if s54_0 = 0 then (
  some (v3))
  else (
  f_X8_fault_l78 J6 v1 v2 v3 v4))
  else (
  f_X8_fault_l78 J6 v1 v2 v3 v4))
def f_X8_fault_l53 (J6 : Int32 → Int32 → Int32 → Option (Int32)) (v1 : Int32) (v2 : Int32) (v3 : Int32) (v4 : Int32) : Option (Int32) :=
  f_X8_fault_l54 J6 0 v1 v2 v3 v4
def f_X8_fault_l6 (A_0 : Nat → Int32) (Z_0 : Int32) : Nat → Int32 → Int32 → Int32 → Option (Int32)
  | 0, _, _, _ => none
  | k + 1, v1, v2, v3 =>
  if Z_0 ≤ v3 then (
  some ((-9)))
  else (
  (hm_rd 200 A_0 v3).bind fun t1 =>
  if t1 = 47 then (
  (f_X8_isWholeAt A_0 Z_0 (v3 - 1)).bind fun t3 =>
  if t3 = 0 then (
  f_X8_fault_l53 (fun zv1 zv2 zv3 => f_X8_fault_l6 A_0 Z_0 k zv1 zv2 zv3) v1 v2 v3 t1)
  else (
  (f_X8_isWholeAt A_0 Z_0 (v3 + 1)).bind fun t4 =>
  if t4 = 0 then (
  f_X8_fault_l53 (fun zv1 zv2 zv3 => f_X8_fault_l6 A_0 Z_0 k zv1 zv2 zv3) v1 v2 v3 t1)
  else (
  f_X8_fault_l54 (fun zv1 zv2 zv3 => f_X8_fault_l6 A_0 Z_0 k zv1 zv2 zv3) 1 v1 v2 v3 t1)))
  else (
  f_X8_fault_l53 (fun zv1 zv2 zv3 => f_X8_fault_l6 A_0 Z_0 k zv1 zv2 zv3) v1 v2 v3 t1))
theorem f_X8_fault_l6_s (A_0 : Nat → Int32) (Z_0 : Int32) (k : Nat) (v1 : Int32) (v2 : Int32) (v3 : Int32) : f_X8_fault_l6 A_0 Z_0 (k + 1) v1 v2 v3 =
  if Z_0 ≤ v3 then (
  some ((-9)))
  else (
  (hm_rd 200 A_0 v3).bind fun t1 =>
  if t1 = 47 then (
  (f_X8_isWholeAt A_0 Z_0 (v3 - 1)).bind fun t3 =>
  if t3 = 0 then (
  f_X8_fault_l53 (fun zv1 zv2 zv3 => f_X8_fault_l6 A_0 Z_0 k zv1 zv2 zv3) v1 v2 v3 t1)
  else (
  (f_X8_isWholeAt A_0 Z_0 (v3 + 1)).bind fun t4 =>
  if t4 = 0 then (
  f_X8_fault_l53 (fun zv1 zv2 zv3 => f_X8_fault_l6 A_0 Z_0 k zv1 zv2 zv3) v1 v2 v3 t1)
  else (
  f_X8_fault_l54 (fun zv1 zv2 zv3 => f_X8_fault_l6 A_0 Z_0 k zv1 zv2 zv3) 1 v1 v2 v3 t1)))
  else (
  f_X8_fault_l53 (fun zv1 zv2 zv3 => f_X8_fault_l6 A_0 Z_0 k zv1 zv2 zv3) v1 v2 v3 t1)) := rfl
theorem f_X8_fault_l6_z (A_0 : Nat → Int32) (Z_0 : Int32) (v1 : Int32) (v2 : Int32) (v3 : Int32) : f_X8_fault_l6 A_0 Z_0 0 v1 v2 v3 = none := rfl
def f_X8_fault (A_0 : Nat → Int32) (Z_0 : Int32)  : Option (Int32) :=
  f_X8_fault_l6 A_0 Z_0 hm_fu 0 0 0
abbrev rm_X8_fault : Room := { frames := 3, cells := 0, slots := 0, locals := 63 }
set_option maxHeartbeats 4000000 in
set_option maxRecDepth 100000 in
theorem c_X8_fault (l : Launch) (g : hm_G) (a : Nat → Nat) (A : Nat → Nat → Int32) (Z : Nat → Int32) (q : Int32) (hF : f_X8_fault (A 0) (Z 0) = some q) : hm_Mi l yX8_fault (Cond.code yX8_fault cX8_fault 6 (some .int) :: hm_W) rm_X8_fault g [.ref (a 0)] (hm_wMM g a A Z) (hm_wMM g a A Z) q := by
  refine hm_ofi [(0, .ref (a 0))] (by decide) (own := RX8) rfl (Nat.le_of_ble_eq_true rfl) rfl rfl ?_
  intro p e s m args below meth c AA S hr hlk X ls hl
  have hx := S.1
  have hb := S.2.1
  have hown := S.2.2.2.1
  have hts := S.2.2.2.2
  have hl6 : ∀ (k6 : Nat) (v1 : Int32) (v2 : Int32) (v3 : Int32), f_X8_fault_l6 (A 0) (Z 0) k6 v1 v2 v3 = some q → ∀ (H : Heap) (locs : List Loc), hm_X g AA s H locs (hm_wMM g a A Z) → ∀ ls : Array Slot, lv_has ls 6 [(0, .ref (a 0)), (1, .int v1), (2, .int v2), (3, .int v3)] → W p l e rm_X8_fault s m args below meth c H locs 0 0 (MQ below (hm_Qi g AA (hm_wMM g a A Z) q) args s 0 0 AA) (F0 m 6 ls []) := by
    intro k6
    induction k6 with
    | zero =>
      intro v1 v2 v3 hF
      rw [f_X8_fault_l6_z] at hF
      cases hF
    | succ k6 ih6 =>
      have hl111 : ∀ (s111_0 : Int32) (v1 : Int32) (v3 : Int32), f_X8_fault_l111 (fun zv1 zv2 zv3 => f_X8_fault_l6 (A 0) (Z 0) k6 zv1 zv2 zv3) s111_0 v1 v3 = some q → ∀ (H : Heap) (locs : List Loc), hm_X g AA s H locs (hm_wMM g a A Z) → ∀ ls : Array Slot, lv_has ls 6 [(0, .ref (a 0)), (1, .int v1), (3, .int v3)] → W p l e rm_X8_fault s m args below meth c H locs 0 0 (MQ below (hm_Qi g AA (hm_wMM g a A Z) q) args s 0 0 AA) (F0 m 111 ls [.int s111_0]) := by
        intro s111_0 v1 v3 hF H locs X ls hl
        unfold f_X8_fault_l111 at hF
        refine lv_istore_n (lv' := [(2, .int s111_0), (0, .ref (a 0)), (1, .int v1), (3, .int v3)]) hx hb dX8_fault_111 rfl hl (by decide) rfl (fun ls hl => ?_)
        refine lv_iload_n hx hb dX8_fault_112 rfl (lv_at hl 0 rfl) ?_
        refine lv_bipush (v := 16) hx hb dX8_fault_113 (by decide) ?_
        refine lv_icmp_gt (tgt := 124) hx hb dX8_fault_115 (by decide) (fun c115 => ?_) (fun c115 => ?_)
        · have hF := hm_if hF c115
          refine lv_iload_n hx hb dX8_fault_124 rfl (lv_at hl 3 rfl) ?_
          obtain rfl := Option.some.inj hF
          exact hm_ri S hr hlk X rfl rfl dX8_fault_125
        · have hF := hm_nf hF c115
          refine lv_iload_n hx hb dX8_fault_118 rfl (lv_at hl 2 rfl) ?_
          refine lv_bipush (v := 30) hx hb dX8_fault_119 (by decide) ?_
          refine lv_icmp_le (tgt := 126) hx hb dX8_fault_121 (by decide) (fun c121 => ?_) (fun c121 => ?_)
          · have hF := hm_if hF c121
            refine lv_iinc (v := (v3 + 1)) (lv' := [(3, .int (v3 + 1)), (2, .int s111_0), (0, .ref (a 0)), (1, .int v1)]) hx hb dX8_fault_126 hl (k := 3) rfl rfl (by decide) rfl (fun ls hl => ?_)
            refine lv_goto (tgt := 6) hx hb dX8_fault_129 (by decide) ?_
            exact ih6 v1 s111_0 (v3 + 1) hF _ _ X _ (lv_sub hl [2, 3, 1, 0] rfl)
          · have hF := hm_nf hF c121
            refine lv_iload_n hx hb dX8_fault_124 rfl (lv_at hl 3 rfl) ?_
            obtain rfl := Option.some.inj hF
            exact hm_ri S hr hlk X rfl rfl dX8_fault_125
      have hl95 : ∀ (s95_0 : Int32) (s95_1 : Int32) (v2 : Int32) (v3 : Int32) (v4 : Int32), f_X8_fault_l95 (fun zv1 zv2 zv3 => f_X8_fault_l6 (A 0) (Z 0) k6 zv1 zv2 zv3) s95_0 s95_1 v2 v3 v4 = some q → ∀ (H : Heap) (locs : List Loc), hm_X g AA s H locs (hm_wMM g a A Z) → ∀ ls : Array Slot, lv_has ls 6 [(0, .ref (a 0)), (2, .int v2), (3, .int v3), (4, .int v4)] → W p l e rm_X8_fault s m args below meth c H locs 0 0 (MQ below (hm_Qi g AA (hm_wMM g a A Z) q) args s 0 0 AA) (F0 m 95 ls [.int s95_0, .int s95_1]) := by
        intro s95_0 s95_1 v2 v3 v4 hF H locs X ls hl
        unfold f_X8_fault_l95 at hF
        refine lv_iadd hx hb dX8_fault_95 ?_
        refine lv_istore_n (lv' := [(1, .int (s95_1 + s95_0)), (0, .ref (a 0)), (2, .int v2), (3, .int v3), (4, .int v4)]) hx hb dX8_fault_96 rfl hl (by decide) rfl (fun ls hl => ?_)
        refine lv_iload hx hb dX8_fault_97 (lv_at hl 4 rfl) ?_
        refine lv_bipush (v := 32) hx hb dX8_fault_99 (by decide) ?_
        refine lv_icmp_ne (tgt := 108) hx hb dX8_fault_101 (by decide) (fun c101 => ?_) (fun c101 => ?_)
        · have hF := hm_nf hF c101
          refine lv_iload_n hx hb dX8_fault_108 rfl (lv_at hl 2 rfl) ?_
          refine lv_iconst (v := 1) hx hb dX8_fault_109 (by decide) ?_
          refine lv_iadd hx hb dX8_fault_110 ?_
          exact hl111 (v2 + 1) (s95_1 + s95_0) v3 hF _ _ X _ (lv_sub hl [1, 0, 3] rfl)
        · have hF := hm_if hF c101
          refine lv_iconst (v := 0) hx hb dX8_fault_104 (by decide) ?_
          refine lv_goto (tgt := 111) hx hb dX8_fault_105 (by decide) ?_
          exact hl111 0 (s95_1 + s95_0) v3 hF _ _ X _ (lv_sub hl [1, 0, 3] rfl)
      have hl94 : ∀ (s94_0 : Int32) (v2 : Int32) (v3 : Int32) (v4 : Int32), f_X8_fault_l94 (fun zv1 zv2 zv3 => f_X8_fault_l6 (A 0) (Z 0) k6 zv1 zv2 zv3) s94_0 v2 v3 v4 = some q → ∀ (H : Heap) (locs : List Loc), hm_X g AA s H locs (hm_wMM g a A Z) → ∀ ls : Array Slot, lv_has ls 6 [(0, .ref (a 0)), (2, .int v2), (3, .int v3), (4, .int v4)] → W p l e rm_X8_fault s m args below meth c H locs 0 0 (MQ below (hm_Qi g AA (hm_wMM g a A Z) q) args s 0 0 AA) (F0 m 94 ls [.int s94_0]) := by
        intro s94_0 v2 v3 v4 hF H locs X ls hl
        unfold f_X8_fault_l94 at hF
        refine lv_iconst (v := 0) hx hb dX8_fault_94 (by decide) ?_
        exact hl95 0 s94_0 v2 v3 v4 hF _ _ X _ (lv_sub hl [0, 1, 2, 3] rfl)
      have hl78 : ∀ (v1 : Int32) (v2 : Int32) (v3 : Int32) (v4 : Int32), f_X8_fault_l78 (fun zv1 zv2 zv3 => f_X8_fault_l6 (A 0) (Z 0) k6 zv1 zv2 zv3) v1 v2 v3 v4 = some q → ∀ (H : Heap) (locs : List Loc), hm_X g AA s H locs (hm_wMM g a A Z) → ∀ ls : Array Slot, lv_has ls 6 [(0, .ref (a 0)), (1, .int v1), (2, .int v2), (3, .int v3), (4, .int v4)] → W p l e rm_X8_fault s m args below meth c H locs 0 0 (MQ below (hm_Qi g AA (hm_wMM g a A Z) q) args s 0 0 AA) (F0 m 78 ls []) := by
        intro v1 v2 v3 v4 hF H locs X ls hl
        unfold f_X8_fault_l78 at hF
        refine lv_iload_n hx hb dX8_fault_78 rfl (lv_at hl 1 rfl) ?_
        refine lv_iload hx hb dX8_fault_79 (lv_at hl 4 rfl) ?_
        refine lv_bipush (v := 32) hx hb dX8_fault_81 (by decide) ?_
        refine lv_icmp_eq (tgt := 94) hx hb dX8_fault_83 (by decide) (fun c83 => ?_) (fun c83 => ?_)
        · have hF := hm_if hF c83
          exact hl94 v1 v2 v3 v4 hF _ _ X _ (lv_sub hl [0, 2, 3, 4] rfl)
        · have hF := hm_nf hF c83
          refine lv_iload_n hx hb dX8_fault_86 rfl (lv_at hl 2 rfl) ?_
          refine lv_if_ne (tgt := 94) hx hb dX8_fault_87 (by decide) (fun c87 => ?_) (fun c87 => ?_)
          · have hF := hm_nf hF c87
            exact hl94 v1 v2 v3 v4 hF _ _ X _ (lv_sub hl [0, 2, 3, 4] rfl)
          · have hF := hm_if hF c87
            refine lv_iconst (v := 1) hx hb dX8_fault_90 (by decide) ?_
            refine lv_goto (tgt := 95) hx hb dX8_fault_91 (by decide) ?_
            exact hl95 1 v1 v2 v3 v4 hF _ _ X _ (lv_sub hl [0, 2, 3, 4] rfl)
      have hl54 : ∀ (s54_0 : Int32) (v1 : Int32) (v2 : Int32) (v3 : Int32) (v4 : Int32), f_X8_fault_l54 (fun zv1 zv2 zv3 => f_X8_fault_l6 (A 0) (Z 0) k6 zv1 zv2 zv3) s54_0 v1 v2 v3 v4 = some q → ∀ (H : Heap) (locs : List Loc), hm_X g AA s H locs (hm_wMM g a A Z) → ∀ ls : Array Slot, lv_has ls 6 [(0, .ref (a 0)), (1, .int v1), (2, .int v2), (3, .int v3), (4, .int v4)] → W p l e rm_X8_fault s m args below meth c H locs 0 0 (MQ below (hm_Qi g AA (hm_wMM g a A Z) q) args s 0 0 AA) (F0 m 54 ls [.int s54_0]) := by
        intro s54_0 v1 v2 v3 v4 hF H locs X ls hl
        unfold f_X8_fault_l54 at hF
        refine lv_istore (lv' := [(5, .int s54_0), (0, .ref (a 0)), (1, .int v1), (2, .int v2), (3, .int v3), (4, .int v4)]) hx hb dX8_fault_54 hl (by decide) rfl (fun ls hl => ?_)
        refine lv_iload hx hb dX8_fault_56 (lv_at hl 5 rfl) ?_
        refine lv_bipush (v := 32) hx hb dX8_fault_58 (by decide) ?_
        refine lv_icmp_eq (tgt := 78) hx hb dX8_fault_60 (by decide) (fun c60 => ?_) (fun c60 => ?_)
        · have hF := hm_if hF c60
          exact hl78 v1 v2 v3 v4 hF _ _ X _ (lv_sub hl [1, 2, 3, 4, 5] rfl)
        · have hF := hm_nf hF c60
          refine lv_iload hx hb dX8_fault_63 (lv_at hl 5 rfl) ?_
          obtain ⟨t2, ht2, hF⟩ := hm_bd hF
          refine hm_si S X mw_X8_isWhole hw_4_212 (c_X8_isWhole l g v4 t2 ht2) (List.Perm.refl _) (List.Perm.refl _) ⟨rfl, rfl, Nat.le_of_ble_eq_true rfl, Nat.le_of_ble_eq_true rfl⟩ rfl hl.1 rfl (Nat.le_of_ble_eq_true rfl) dX8_fault_65 ⟨Nat.zero_le _, Nat.zero_le _⟩ (fun H locs X => ?_)
          refine lv_if_ne (tgt := 78) hx hb dX8_fault_68 (by decide) (fun c68 => ?_) (fun c68 => ?_)
          · have hF := hm_nf hF c68
            exact hl78 v1 v2 v3 v4 hF _ _ X _ (lv_sub hl [1, 2, 3, 4, 5] rfl)
          · have hF := hm_if hF c68
            refine lv_iload hx hb dX8_fault_71 (lv_at hl 0 rfl) ?_
            refine lv_if_ne (tgt := 78) hx hb dX8_fault_73 (by decide) (fun c73 => ?_) (fun c73 => ?_)
            · have hF := hm_nf hF c73
              exact hl78 v1 v2 v3 v4 hF _ _ X _ (lv_sub hl [1, 2, 3, 4, 5] rfl)
            · have hF := hm_if hF c73
              refine lv_iload_n hx hb dX8_fault_76 rfl (lv_at hl 4 rfl) ?_
              obtain rfl := Option.some.inj hF
              exact hm_ri S hr hlk X rfl rfl dX8_fault_77
      have hl53 : ∀ (v1 : Int32) (v2 : Int32) (v3 : Int32) (v4 : Int32), f_X8_fault_l53 (fun zv1 zv2 zv3 => f_X8_fault_l6 (A 0) (Z 0) k6 zv1 zv2 zv3) v1 v2 v3 v4 = some q → ∀ (H : Heap) (locs : List Loc), hm_X g AA s H locs (hm_wMM g a A Z) → ∀ ls : Array Slot, lv_has ls 6 [(0, .ref (a 0)), (1, .int v1), (2, .int v2), (3, .int v3), (4, .int v4)] → W p l e rm_X8_fault s m args below meth c H locs 0 0 (MQ below (hm_Qi g AA (hm_wMM g a A Z) q) args s 0 0 AA) (F0 m 53 ls []) := by
        intro v1 v2 v3 v4 hF H locs X ls hl
        unfold f_X8_fault_l53 at hF
        refine lv_iconst (v := 0) hx hb dX8_fault_53 (by decide) ?_
        exact hl54 0 v1 v2 v3 v4 hF _ _ X _ (lv_sub hl [0, 1, 2, 3, 4] rfl)
      intro v1 v2 v3 hF H locs X ls hl
      rw [f_X8_fault_l6_s] at hF
      refine lv_iload_n hx hb dX8_fault_6 rfl (lv_at hl 3 rfl) ?_
      refine lv_aload_n hx hb dX8_fault_7 rfl (lv_at hl 0 rfl) ?_
      refine hm_get S X hf_X8_103 0 rfl rfl dX8_fault_8 ?_
      refine lv_icmp_ge (tgt := 132) hx hb dX8_fault_11 (by decide) (fun c11 => ?_) (fun c11 => ?_)
      · have hF := hm_if hF c11
        refine lv_bipush (v := (-9)) hx hb dX8_fault_132 (by decide) ?_
        obtain rfl := Option.some.inj hF
        exact hm_ri S hr hlk X rfl rfl dX8_fault_134
      · have hF := hm_nf hF c11
        refine lv_aload_n hx hb dX8_fault_14 rfl (lv_at hl 0 rfl) ?_
        refine hm_get S X hf_X8_7 0 rfl rfl dX8_fault_15 ?_
        refine lv_iload_n hx hb dX8_fault_18 rfl (lv_at hl 3 rfl) ?_
        obtain ⟨t1, ht1, hF⟩ := hm_bd hF
        refine hm_iald S X ht1 1 rfl dX8_fault_19 ?_
        refine lv_istore (lv' := [(4, .int t1), (0, .ref (a 0)), (1, .int v1), (2, .int v2), (3, .int v3)]) hx hb dX8_fault_20 hl (by decide) rfl (fun ls hl => ?_)
        refine lv_iload hx hb dX8_fault_22 (lv_at hl 0 rfl) ?_
        refine lv_bipush (v := 47) hx hb dX8_fault_24 (by decide) ?_
        refine lv_icmp_ne (tgt := 53) hx hb dX8_fault_26 (by decide) (fun c26 => ?_) (fun c26 => ?_)
        · have hF := hm_nf hF c26
          exact hl53 v1 v2 v3 t1 hF _ _ X _ (lv_sub hl [1, 2, 3, 4, 0] rfl)
        · have hF := hm_if hF c26
          refine lv_aload_n hx hb dX8_fault_29 rfl (lv_at hl 1 rfl) ?_
          refine lv_iload_n hx hb dX8_fault_30 rfl (lv_at hl 4 rfl) ?_
          refine lv_iconst (v := 1) hx hb dX8_fault_31 (by decide) ?_
          refine lv_isub hx hb dX8_fault_32 ?_
          obtain ⟨t3, ht3, hF⟩ := hm_bd hF
          refine hm_vi (As := [.int (v3 - 1)]) S X mw_X8_isWholeAt hw_4_208 (c_X8_isWholeAt l g a A Z (v3 - 1) t3 ht3) hm_same hm_same rfl rfl rfl ⟨rfl, rfl, Nat.le_of_ble_eq_true rfl, Nat.le_of_ble_eq_true rfl⟩ rfl hl.1 rfl (Nat.le_of_ble_eq_true rfl) dX8_fault_33 ⟨Nat.zero_le _, Nat.zero_le _⟩ (fun H locs X => ?_)
          refine lv_if_eq (tgt := 53) hx hb dX8_fault_36 (by decide) (fun c36 => ?_) (fun c36 => ?_)
          · have hF := hm_if hF c36
            exact hl53 v1 v2 v3 t1 hF _ _ X _ (lv_sub hl [1, 2, 3, 4, 0] rfl)
          · have hF := hm_nf hF c36
            refine lv_aload_n hx hb dX8_fault_39 rfl (lv_at hl 1 rfl) ?_
            refine lv_iload_n hx hb dX8_fault_40 rfl (lv_at hl 4 rfl) ?_
            refine lv_iconst (v := 1) hx hb dX8_fault_41 (by decide) ?_
            refine lv_iadd hx hb dX8_fault_42 ?_
            obtain ⟨t4, ht4, hF⟩ := hm_bd hF
            refine hm_vi (As := [.int (v3 + 1)]) S X mw_X8_isWholeAt hw_4_208 (c_X8_isWholeAt l g a A Z (v3 + 1) t4 ht4) hm_same hm_same rfl rfl rfl ⟨rfl, rfl, Nat.le_of_ble_eq_true rfl, Nat.le_of_ble_eq_true rfl⟩ rfl hl.1 rfl (Nat.le_of_ble_eq_true rfl) dX8_fault_43 ⟨Nat.zero_le _, Nat.zero_le _⟩ (fun H locs X => ?_)
            refine lv_if_eq (tgt := 53) hx hb dX8_fault_46 (by decide) (fun c46 => ?_) (fun c46 => ?_)
            · have hF := hm_if hF c46
              exact hl53 v1 v2 v3 t1 hF _ _ X _ (lv_sub hl [1, 2, 3, 4, 0] rfl)
            · have hF := hm_nf hF c46
              refine lv_iconst (v := 1) hx hb dX8_fault_49 (by decide) ?_
              refine lv_goto (tgt := 54) hx hb dX8_fault_50 (by decide) ?_
              exact hl54 1 v1 v2 v3 t1 hF _ _ X _ (lv_sub hl [1, 2, 3, 4, 0] rfl)
  unfold f_X8_fault at hF
  refine lv_iconst (v := 0) hx hb dX8_fault_0 (by decide) ?_
  refine lv_istore_n (lv' := [(1, .int 0), (0, .ref (a 0))]) hx hb dX8_fault_1 rfl hl (by decide) rfl (fun ls hl => ?_)
  refine lv_iconst (v := 0) hx hb dX8_fault_2 (by decide) ?_
  refine lv_istore_n (lv' := [(2, .int 0), (1, .int 0), (0, .ref (a 0))]) hx hb dX8_fault_3 rfl hl (by decide) rfl (fun ls hl => ?_)
  refine lv_iconst (v := 0) hx hb dX8_fault_4 (by decide) ?_
  refine lv_istore_n (lv' := [(3, .int 0), (2, .int 0), (1, .int 0), (0, .ref (a 0))]) hx hb dX8_fault_5 rfl hl (by decide) rfl (fun ls hl => ?_)
  exact hl6 hm_fu 0 0 0 hF _ _ X _ (lv_sub hl [3, 2, 1, 0] rfl)
def f_X8_laysPlace (A_4 : Nat → Int32) (A_5 : Nat → Int32) (A_6 : Nat → Int32) (Z_3 : Int32) (x0 : Int32) (x1 : Int32) (x2 : Int32)  : Option ((Nat → Int32) × (Nat → Int32) × (Nat → Int32) × Int32) :=
  (hm_wr 104 A_4 Z_3 x0).bind fun f1 =>
  (hm_wr 104 A_5 Z_3 x1).bind fun f2 =>
  (hm_wz 104 A_6 Z_3 x2).bind fun f3 =>
  some (f1, f2, f3, (Z_3 + 1))
abbrev rm_X8_laysPlace : Room := { frames := 0, cells := 0, slots := 0, locals := 0 }
set_option maxHeartbeats 4000000 in
set_option maxRecDepth 100000 in
theorem c_X8_laysPlace (l : Launch) (g : hm_G) (a : Nat → Nat) (A : Nat → Nat → Int32) (Z : Nat → Int32) (x0 : Int32) (x1 : Int32) (x2 : Int32) (q : (Nat → Int32) × (Nat → Int32) × (Nat → Int32) × Int32) (hF : f_X8_laysPlace (A 4) (A 5) (A 6) (Z 3) x0 x1 x2 = some q) : hm_Mv l yX8_laysPlace (Cond.code yX8_laysPlace cX8_laysPlace 4 none :: hm_W) rm_X8_laysPlace g [.ref (a 0), .int x0, .int x1, .int x2] (hm_wMM g a A Z) (hm_wMM g a (hm_up (hm_up (hm_up A 4 q.1) 5 q.2.1) 6 q.2.2.1) (hm_up Z 3 q.2.2.2)) := by
  refine hm_ofv [(0, .ref (a 0)), (1, .int x0), (2, .int x1), (3, .int x2)] (by decide) (own := RX8) rfl (Nat.le_of_ble_eq_true rfl) rfl rfl ?_
  intro p e s m args below meth c AA S hr hlk X ls hl
  have hx := S.1
  have hb := S.2.1
  have hown := S.2.2.2.1
  have hts := S.2.2.2.2
  unfold f_X8_laysPlace at hF
  refine lv_aload_n hx hb dX8_laysPlace_0 rfl (lv_at hl 0 rfl) ?_
  refine hm_get S X hf_X8_22 0 rfl rfl dX8_laysPlace_1 ?_
  refine lv_aload_n hx hb dX8_laysPlace_4 rfl (lv_at hl 0 rfl) ?_
  refine hm_get S X hf_X8_117 0 rfl rfl dX8_laysPlace_5 ?_
  refine lv_iload_n hx hb dX8_laysPlace_8 rfl (lv_at hl 1 rfl) ?_
  obtain ⟨f1, hf1, hF⟩ := hm_bd hF
  refine hm_iast S X hf1 5 rfl dX8_laysPlace_9 (fun H locs X => ?_)
  have X := X.to (ws' := (hm_wMM g a (hm_up A 4 f1) Z)) rfl
  refine lv_aload_n hx hb dX8_laysPlace_10 rfl (lv_at hl 0 rfl) ?_
  refine hm_get S X hf_X8_25 0 rfl rfl dX8_laysPlace_11 ?_
  refine lv_aload_n hx hb dX8_laysPlace_14 rfl (lv_at hl 0 rfl) ?_
  refine hm_get S X hf_X8_117 0 rfl rfl dX8_laysPlace_15 ?_
  refine lv_iload_n hx hb dX8_laysPlace_18 rfl (lv_at hl 2 rfl) ?_
  obtain ⟨f2, hf2, hF⟩ := hm_bd hF
  refine hm_iast S X hf2 6 rfl dX8_laysPlace_19 (fun H locs X => ?_)
  have X := X.to (ws' := (hm_wMM g a (hm_up (hm_up A 4 f1) 5 f2) Z)) rfl
  refine lv_aload_n hx hb dX8_laysPlace_20 rfl (lv_at hl 0 rfl) ?_
  refine hm_get S X hf_X8_28 0 rfl rfl dX8_laysPlace_21 ?_
  refine lv_aload_n hx hb dX8_laysPlace_24 rfl (lv_at hl 0 rfl) ?_
  refine hm_get S X hf_X8_117 0 rfl rfl dX8_laysPlace_25 ?_
  refine lv_iload_n hx hb dX8_laysPlace_28 rfl (lv_at hl 3 rfl) ?_
  obtain ⟨f3, hf3, hF⟩ := hm_bd hF
  refine hm_zast S X hf3 7 rfl dX8_laysPlace_29 (fun H locs X => ?_)
  have X := X.to (ws' := (hm_wMM g a (hm_up (hm_up (hm_up A 4 f1) 5 f2) 6 f3) Z)) rfl
  refine lv_aload_n hx hb dX8_laysPlace_30 rfl (lv_at hl 0 rfl) ?_
  refine lv_dup hx hb dX8_laysPlace_31 rfl ?_
  refine hm_get S X hf_X8_117 0 rfl rfl dX8_laysPlace_32 ?_
  refine lv_iconst (v := 1) hx hb dX8_laysPlace_35 (by decide) ?_
  refine lv_iadd hx hb dX8_laysPlace_36 ?_
  refine hm_put S X hf_X8_117 hg_X8_places 0 rfl rfl rfl (Nat.le_of_ble_eq_true rfl) dX8_laysPlace_37 (fun H locs X => ?_)
  have X := X.to (ws' := (hm_wMM g a (hm_up (hm_up (hm_up A 4 f1) 5 f2) 6 f3) (hm_up Z 3 ((Z 3) + 1)))) rfl
  obtain rfl := Option.some.inj hF
  exact hm_rv S hr hlk X rfl dX8_laysPlace_40
def f_X8_words_l198 (A_7 : Nat → Int32) (A_9 : Nat → Int32) (wA_1 : Nat → Int32) (wA_2 : Nat → Int32) (wA_3 : Nat → Int32) (wA_4 : Nat → Int32) (wA_5 : Nat → Int32) (wA_6 : Nat → Int32) (wZ_1 : Int32) (wZ_2 : Int32) (wZ_3 : Int32) : Option (Int32 × (Nat → Int32) × (Nat → Int32) × (Nat → Int32) × (Nat → Int32) × (Nat → Int32) × (Nat → Int32) × (Nat → Int32) × (Nat → Int32) × Int32 × Int32 × Int32 × Int32 × Int32 × Int32 × Int32) :=
  (f_X8_begins A_7 A_9).bind fun t2 =>
  some (wZ_2, wA_1, wA_2, wA_3, wA_4, wA_5, wA_6, t2.1, t2.2.1, 0, wZ_1, wZ_2, wZ_3, t2.2.2.1, t2.2.2.2.1, t2.2.2.2.2)
def f_X8_words_l192 (J36 : Int32 → (Nat → Int32) → (Nat → Int32) → (Nat → Int32) → (Nat → Int32) → (Nat → Int32) → (Nat → Int32) → Int32 → Int32 → Int32 → Option (Int32 × (Nat → Int32) × (Nat → Int32) × (Nat → Int32) × (Nat → Int32) × (Nat → Int32) × (Nat → Int32) × (Nat → Int32) × (Nat → Int32) × Int32 × Int32 × Int32 × Int32 × Int32 × Int32 × Int32)) (v2 : Int32) (wA_1 : Nat → Int32) (wA_2 : Nat → Int32) (wA_3 : Nat → Int32) (wA_4 : Nat → Int32) (wA_5 : Nat → Int32) (wA_6 : Nat → Int32) (wZ_1 : Int32) (wZ_2 : Int32) (wZ_3 : Int32) : Option (Int32 × (Nat → Int32) × (Nat → Int32) × (Nat → Int32) × (Nat → Int32) × (Nat → Int32) × (Nat → Int32) × (Nat → Int32) × (Nat → Int32) × Int32 × Int32 × Int32 × Int32 × Int32 × Int32 × Int32) :=
  J36 (v2 + 1) wA_1 wA_2 wA_3 wA_4 wA_5 wA_6 wZ_1 wZ_2 wZ_3
def f_X8_words_l164 (J36 : Int32 → (Nat → Int32) → (Nat → Int32) → (Nat → Int32) → (Nat → Int32) → (Nat → Int32) → (Nat → Int32) → Int32 → Int32 → Int32 → Option (Int32 × (Nat → Int32) × (Nat → Int32) × (Nat → Int32) × (Nat → Int32) × (Nat → Int32) × (Nat → Int32) × (Nat → Int32) × (Nat → Int32) × Int32 × Int32 × Int32 × Int32 × Int32 × Int32 × Int32)) (v2 : Int32) (wA_1 : Nat → Int32) (wA_2 : Nat → Int32) (wA_3 : Nat → Int32) (wA_4 : Nat → Int32) (wA_5 : Nat → Int32) (wA_6 : Nat → Int32) (wZ_1 : Int32) (wZ_2 : Int32) (wZ_3 : Int32) : Option (Int32 × (Nat → Int32) × (Nat → Int32) × (Nat → Int32) × (Nat → Int32) × (Nat → Int32) × (Nat → Int32) × (Nat → Int32) × (Nat → Int32) × Int32 × Int32 × Int32 × Int32 × Int32 × Int32 × Int32) :=
  (hm_wr 30 wA_3 (wZ_2 - 1) (v2 + 1)).bind fun f7 =>
  (f_X8_laysPlace wA_4 wA_5 wA_6 wZ_3 (wZ_2 - 1) (v2 + 1) 0).bind fun t8 =>
  f_X8_words_l192 J36 v2 wA_1 wA_2 f7 t8.1 t8.2.1 t8.2.2.1 wZ_1 wZ_2 t8.2.2.2
def f_X8_words_l137 (J36 : Int32 → (Nat → Int32) → (Nat → Int32) → (Nat → Int32) → (Nat → Int32) → (Nat → Int32) → (Nat → Int32) → Int32 → Int32 → Int32 → Option (Int32 × (Nat → Int32) × (Nat → Int32) × (Nat → Int32) × (Nat → Int32) × (Nat → Int32) × (Nat → Int32) × (Nat → Int32) × (Nat → Int32) × Int32 × Int32 × Int32 × Int32 × Int32 × Int32 × Int32)) (A_0 : Nat → Int32) (v2 : Int32) (v3 : Int32) (wA_1 : Nat → Int32) (wA_2 : Nat → Int32) (wA_3 : Nat → Int32) (wA_4 : Nat → Int32) (wA_5 : Nat → Int32) (wA_6 : Nat → Int32) (wZ_1 : Int32) (wZ_2 : Int32) (wZ_3 : Int32) : Option (Int32 × (Nat → Int32) × (Nat → Int32) × (Nat → Int32) × (Nat → Int32) × (Nat → Int32) × (Nat → Int32) × (Nat → Int32) × (Nat → Int32) × Int32 × Int32 × Int32 × Int32 × Int32 × Int32 × Int32) :=
  if v3 = 0 then (
  f_X8_words_l192 J36 v2 wA_1 wA_2 wA_3 wA_4 wA_5 wA_6 wZ_1 wZ_2 wZ_3)
  else (
  if (v2 + 1) = wZ_1 then (
  f_X8_words_l164 J36 v2 wA_1 wA_2 wA_3 wA_4 wA_5 wA_6 wZ_1 wZ_2 wZ_3)
  else (
  (hm_rd 200 A_0 (v2 + 1)).bind fun t9 =>
  if t9 = 32 then (
  f_X8_words_l164 J36 v2 wA_1 wA_2 wA_3 wA_4 wA_5 wA_6 wZ_1 wZ_2 wZ_3)
  else (
  f_X8_words_l192 J36 v2 wA_1 wA_2 wA_3 wA_4 wA_5 wA_6 wZ_1 wZ_2 wZ_3)))
def f_X8_words_l114 (J36 : Int32 → (Nat → Int32) → (Nat → Int32) → (Nat → Int32) → (Nat → Int32) → (Nat → Int32) → (Nat → Int32) → Int32 → Int32 → Int32 → Option (Int32 × (Nat → Int32) × (Nat → Int32) × (Nat → Int32) × (Nat → Int32) × (Nat → Int32) × (Nat → Int32) × (Nat → Int32) × (Nat → Int32) × Int32 × Int32 × Int32 × Int32 × Int32 × Int32 × Int32)) (A_0 : Nat → Int32) (v2 : Int32) (v3 : Int32) (wA_1 : Nat → Int32) (wA_2 : Nat → Int32) (wA_3 : Nat → Int32) (wA_4 : Nat → Int32) (wA_5 : Nat → Int32) (wA_6 : Nat → Int32) (wZ_1 : Int32) (wZ_2 : Int32) (wZ_3 : Int32) : Option (Int32 × (Nat → Int32) × (Nat → Int32) × (Nat → Int32) × (Nat → Int32) × (Nat → Int32) × (Nat → Int32) × (Nat → Int32) × (Nat → Int32) × Int32 × Int32 × Int32 × Int32 × Int32 × Int32 × Int32) :=
  (hm_rd 200 A_0 v2).bind fun t6 =>
  if t6 = 47 then (
  (f_X8_laysPlace wA_4 wA_5 wA_6 wZ_3 (wZ_2 - 1) v2 1).bind fun t10 =>
  f_X8_words_l137 J36 A_0 v2 v3 wA_1 wA_2 wA_3 t10.1 t10.2.1 t10.2.2.1 wZ_1 wZ_2 t10.2.2.2)
  else (
  f_X8_words_l137 J36 A_0 v2 v3 wA_1 wA_2 wA_3 wA_4 wA_5 wA_6 wZ_1 wZ_2 wZ_3)
def f_X8_words_l94 (J36 : Int32 → (Nat → Int32) → (Nat → Int32) → (Nat → Int32) → (Nat → Int32) → (Nat → Int32) → (Nat → Int32) → Int32 → Int32 → Int32 → Option (Int32 × (Nat → Int32) × (Nat → Int32) × (Nat → Int32) × (Nat → Int32) × (Nat → Int32) × (Nat → Int32) × (Nat → Int32) × (Nat → Int32) × Int32 × Int32 × Int32 × Int32 × Int32 × Int32 × Int32)) (A_0 : Nat → Int32) (v2 : Int32) (v3 : Int32) (wA_1 : Nat → Int32) (wA_2 : Nat → Int32) (wA_3 : Nat → Int32) (wA_4 : Nat → Int32) (wA_5 : Nat → Int32) (wA_6 : Nat → Int32) (wZ_1 : Int32) (wZ_2 : Int32) (wZ_3 : Int32) : Option (Int32 × (Nat → Int32) × (Nat → Int32) × (Nat → Int32) × (Nat → Int32) × (Nat → Int32) × (Nat → Int32) × (Nat → Int32) × (Nat → Int32) × Int32 × Int32 × Int32 × Int32 × Int32 × Int32 × Int32) :=
  (hm_wr 30 wA_2 wZ_2 v2).bind fun f11 =>
  f_X8_words_l114 J36 A_0 v2 v3 wA_1 f11 wA_3 wA_4 wA_5 wA_6 wZ_1 (wZ_2 + 1) wZ_3
def f_X8_words_l72 (J36 : Int32 → (Nat → Int32) → (Nat → Int32) → (Nat → Int32) → (Nat → Int32) → (Nat → Int32) → (Nat → Int32) → Int32 → Int32 → Int32 → Option (Int32 × (Nat → Int32) × (Nat → Int32) × (Nat → Int32) × (Nat → Int32) × (Nat → Int32) × (Nat → Int32) × (Nat → Int32) × (Nat → Int32) × Int32 × Int32 × Int32 × Int32 × Int32 × Int32 × Int32)) (A_0 : Nat → Int32) (s72_0 : Int32) (v2 : Int32) (wA_1 : Nat → Int32) (wA_2 : Nat → Int32) (wA_3 : Nat → Int32) (wA_4 : Nat → Int32) (wA_5 : Nat → Int32) (wA_6 : Nat → Int32) (wZ_1 : Int32) (wZ_2 : Int32) (wZ_3 : Int32) : Option (Int32 × (Nat → Int32) × (Nat → Int32) × (Nat → Int32) × (Nat → Int32) × (Nat → Int32) × (Nat → Int32) × (Nat → Int32) × (Nat → Int32) × Int32 × Int32 × Int32 × Int32 × Int32 × Int32 × Int32) :=
  if s72_0 = 0 then (
  f_X8_words_l114 J36 A_0 v2 s72_0 wA_1 wA_2 wA_3 wA_4 wA_5 wA_6 wZ_1 wZ_2 wZ_3)
  else (
  if v2 = 0 then (
  f_X8_words_l94 J36 A_0 v2 s72_0 wA_1 wA_2 wA_3 wA_4 wA_5 wA_6 wZ_1 wZ_2 wZ_3)
  else (
  (hm_rd 200 A_0 (v2 - 1)).bind fun t12 =>
  if t12 = 32 then (
  f_X8_words_l94 J36 A_0 v2 s72_0 wA_1 wA_2 wA_3 wA_4 wA_5 wA_6 wZ_1 wZ_2 wZ_3)
  else (
  f_X8_words_l114 J36 A_0 v2 s72_0 wA_1 wA_2 wA_3 wA_4 wA_5 wA_6 wZ_1 wZ_2 wZ_3)))
def f_X8_words_l36 (A_0 : Nat → Int32) (A_7 : Nat → Int32) (A_9 : Nat → Int32) : Nat → Int32 → (Nat → Int32) → (Nat → Int32) → (Nat → Int32) → (Nat → Int32) → (Nat → Int32) → (Nat → Int32) → Int32 → Int32 → Int32 → Option (Int32 × (Nat → Int32) × (Nat → Int32) × (Nat → Int32) × (Nat → Int32) × (Nat → Int32) × (Nat → Int32) × (Nat → Int32) × (Nat → Int32) × Int32 × Int32 × Int32 × Int32 × Int32 × Int32 × Int32)
  | 0, _, _, _, _, _, _, _, _, _, _ => none
  | k + 1, v2, wA_1, wA_2, wA_3, wA_4, wA_5, wA_6, wZ_1, wZ_2, wZ_3 =>
  if wZ_1 ≤ v2 then (
  f_X8_words_l198 A_7 A_9 wA_1 wA_2 wA_3 wA_4 wA_5 wA_6 wZ_1 wZ_2 wZ_3)
  else (
  (hm_rd 200 A_0 v2).bind fun t3 =>
  (hm_wr 200 wA_1 v2 t3).bind fun f4 =>
  (hm_rd 200 A_0 v2).bind fun t5 =>
  if t5 = 32 then (
  f_X8_words_l72 (fun zv2 zwA_1 zwA_2 zwA_3 zwA_4 zwA_5 zwA_6 zwZ_1 zwZ_2 zwZ_3 => f_X8_words_l36 A_0 A_7 A_9 k zv2 zwA_1 zwA_2 zwA_3 zwA_4 zwA_5 zwA_6 zwZ_1 zwZ_2 zwZ_3) A_0 0 v2 f4 wA_2 wA_3 wA_4 wA_5 wA_6 wZ_1 wZ_2 wZ_3)
  else (
  f_X8_words_l72 (fun zv2 zwA_1 zwA_2 zwA_3 zwA_4 zwA_5 zwA_6 zwZ_1 zwZ_2 zwZ_3 => f_X8_words_l36 A_0 A_7 A_9 k zv2 zwA_1 zwA_2 zwA_3 zwA_4 zwA_5 zwA_6 zwZ_1 zwZ_2 zwZ_3) A_0 1 v2 f4 wA_2 wA_3 wA_4 wA_5 wA_6 wZ_1 wZ_2 wZ_3))
theorem f_X8_words_l36_s (A_0 : Nat → Int32) (A_7 : Nat → Int32) (A_9 : Nat → Int32) (k : Nat) (v2 : Int32) (wA_1 : Nat → Int32) (wA_2 : Nat → Int32) (wA_3 : Nat → Int32) (wA_4 : Nat → Int32) (wA_5 : Nat → Int32) (wA_6 : Nat → Int32) (wZ_1 : Int32) (wZ_2 : Int32) (wZ_3 : Int32) : f_X8_words_l36 A_0 A_7 A_9 (k + 1) v2 wA_1 wA_2 wA_3 wA_4 wA_5 wA_6 wZ_1 wZ_2 wZ_3 =
  if wZ_1 ≤ v2 then (
  f_X8_words_l198 A_7 A_9 wA_1 wA_2 wA_3 wA_4 wA_5 wA_6 wZ_1 wZ_2 wZ_3)
  else (
  (hm_rd 200 A_0 v2).bind fun t3 =>
  (hm_wr 200 wA_1 v2 t3).bind fun f4 =>
  (hm_rd 200 A_0 v2).bind fun t5 =>
  if t5 = 32 then (
  f_X8_words_l72 (fun zv2 zwA_1 zwA_2 zwA_3 zwA_4 zwA_5 zwA_6 zwZ_1 zwZ_2 zwZ_3 => f_X8_words_l36 A_0 A_7 A_9 k zv2 zwA_1 zwA_2 zwA_3 zwA_4 zwA_5 zwA_6 zwZ_1 zwZ_2 zwZ_3) A_0 0 v2 f4 wA_2 wA_3 wA_4 wA_5 wA_6 wZ_1 wZ_2 wZ_3)
  else (
  f_X8_words_l72 (fun zv2 zwA_1 zwA_2 zwA_3 zwA_4 zwA_5 zwA_6 zwZ_1 zwZ_2 zwZ_3 => f_X8_words_l36 A_0 A_7 A_9 k zv2 zwA_1 zwA_2 zwA_3 zwA_4 zwA_5 zwA_6 zwZ_1 zwZ_2 zwZ_3) A_0 1 v2 f4 wA_2 wA_3 wA_4 wA_5 wA_6 wZ_1 wZ_2 wZ_3)) := rfl
theorem f_X8_words_l36_z (A_0 : Nat → Int32) (A_7 : Nat → Int32) (A_9 : Nat → Int32) (v2 : Int32) (wA_1 : Nat → Int32) (wA_2 : Nat → Int32) (wA_3 : Nat → Int32) (wA_4 : Nat → Int32) (wA_5 : Nat → Int32) (wA_6 : Nat → Int32) (wZ_1 : Int32) (wZ_2 : Int32) (wZ_3 : Int32) : f_X8_words_l36 A_0 A_7 A_9 0 v2 wA_1 wA_2 wA_3 wA_4 wA_5 wA_6 wZ_1 wZ_2 wZ_3 = none := rfl
def f_X8_words (A_0 : Nat → Int32) (A_1 : Nat → Int32) (A_2 : Nat → Int32) (A_3 : Nat → Int32) (A_4 : Nat → Int32) (A_5 : Nat → Int32) (A_6 : Nat → Int32) (A_7 : Nat → Int32) (A_9 : Nat → Int32) (Z_0 : Int32) (Z_1 : Int32) (Z_2 : Int32) (Z_3 : Int32) (Z_4 : Int32) (Z_5 : Int32) (Z_6 : Int32)  : Option (Int32 × (Nat → Int32) × (Nat → Int32) × (Nat → Int32) × (Nat → Int32) × (Nat → Int32) × (Nat → Int32) × (Nat → Int32) × (Nat → Int32) × Int32 × Int32 × Int32 × Int32 × Int32 × Int32 × Int32) :=
  (f_X8_fault A_0 Z_0).bind fun t1 =>
  if t1 = (-9) then (
  f_X8_words_l36 A_0 A_7 A_9 hm_fu 0 A_1 A_2 A_3 A_4 A_5 A_6 Z_0 0 0)
  else (
  some (((-10) - t1), A_1, A_2, A_3, A_4, A_5, A_6, A_7, A_9, Z_0, Z_1, Z_2, Z_3, Z_4, Z_5, Z_6))
abbrev rm_X8_words : Room := { frames := 4, cells := 0, slots := 0, locals := 88 }
set_option maxHeartbeats 4000000 in
set_option maxRecDepth 100000 in
theorem c_X8_words (l : Launch) (g : hm_G) (a : Nat → Nat) (A : Nat → Nat → Int32) (Z : Nat → Int32) (q : Int32 × (Nat → Int32) × (Nat → Int32) × (Nat → Int32) × (Nat → Int32) × (Nat → Int32) × (Nat → Int32) × (Nat → Int32) × (Nat → Int32) × Int32 × Int32 × Int32 × Int32 × Int32 × Int32 × Int32) (hF : f_X8_words (A 0) (A 1) (A 2) (A 3) (A 4) (A 5) (A 6) (A 7) (A 9) (Z 0) (Z 1) (Z 2) (Z 3) (Z 4) (Z 5) (Z 6) = some q) : hm_Mi l yX8_words (Cond.code yX8_words cX8_words 4 (some .int) :: hm_W) rm_X8_words g [.ref (a 0)] (hm_wMM g a A Z) (hm_wMM g a (hm_up (hm_up (hm_up (hm_up (hm_up (hm_up (hm_up (hm_up A 1 q.2.1) 2 q.2.2.1) 3 q.2.2.2.1) 4 q.2.2.2.2.1) 5 q.2.2.2.2.2.1) 6 q.2.2.2.2.2.2.1) 7 q.2.2.2.2.2.2.2.1) 9 q.2.2.2.2.2.2.2.2.1) (hm_up (hm_up (hm_up (hm_up (hm_up (hm_up (hm_up Z 0 q.2.2.2.2.2.2.2.2.2.1) 1 q.2.2.2.2.2.2.2.2.2.2.1) 2 q.2.2.2.2.2.2.2.2.2.2.2.1) 3 q.2.2.2.2.2.2.2.2.2.2.2.2.1) 4 q.2.2.2.2.2.2.2.2.2.2.2.2.2.1) 5 q.2.2.2.2.2.2.2.2.2.2.2.2.2.2.1) 6 q.2.2.2.2.2.2.2.2.2.2.2.2.2.2.2)) q.1 := by
  refine hm_ofi [(0, .ref (a 0))] (by decide) (own := RX8) rfl (Nat.le_of_ble_eq_true rfl) rfl rfl ?_
  intro p e s m args below meth c AA S hr hlk X ls hl
  have hx := S.1
  have hb := S.2.1
  have hown := S.2.2.2.1
  have hts := S.2.2.2.2
  have hl198 : ∀ (wA_1 : Nat → Int32) (wA_2 : Nat → Int32) (wA_3 : Nat → Int32) (wA_4 : Nat → Int32) (wA_5 : Nat → Int32) (wA_6 : Nat → Int32) (wZ_1 : Int32) (wZ_2 : Int32) (wZ_3 : Int32), f_X8_words_l198 (A 7) (A 9) wA_1 wA_2 wA_3 wA_4 wA_5 wA_6 wZ_1 wZ_2 wZ_3 = some q → ∀ (H : Heap) (locs : List Loc), hm_X g AA s H locs (hm_wMM g a (hm_up (hm_up (hm_up (hm_up (hm_up (hm_up A 1 wA_1) 2 wA_2) 3 wA_3) 4 wA_4) 5 wA_5) 6 wA_6) (hm_up (hm_up (hm_up Z 1 wZ_1) 2 wZ_2) 3 wZ_3)) → ∀ ls : Array Slot, lv_has ls 4 [(0, .ref (a 0))] → W p l e rm_X8_words s m args below meth c H locs 0 0 (MQ below (hm_Qi g AA (hm_wMM g a (hm_up (hm_up (hm_up (hm_up (hm_up (hm_up (hm_up (hm_up A 1 q.2.1) 2 q.2.2.1) 3 q.2.2.2.1) 4 q.2.2.2.2.1) 5 q.2.2.2.2.2.1) 6 q.2.2.2.2.2.2.1) 7 q.2.2.2.2.2.2.2.1) 9 q.2.2.2.2.2.2.2.2.1) (hm_up (hm_up (hm_up (hm_up (hm_up (hm_up (hm_up Z 0 q.2.2.2.2.2.2.2.2.2.1) 1 q.2.2.2.2.2.2.2.2.2.2.1) 2 q.2.2.2.2.2.2.2.2.2.2.2.1) 3 q.2.2.2.2.2.2.2.2.2.2.2.2.1) 4 q.2.2.2.2.2.2.2.2.2.2.2.2.2.1) 5 q.2.2.2.2.2.2.2.2.2.2.2.2.2.2.1) 6 q.2.2.2.2.2.2.2.2.2.2.2.2.2.2.2)) q.1) args s 0 0 AA) (F0 m 198 ls []) := by
    intro wA_1 wA_2 wA_3 wA_4 wA_5 wA_6 wZ_1 wZ_2 wZ_3 hF H locs X ls hl
    unfold f_X8_words_l198 at hF
    refine lv_aload_n hx hb dX8_words_198 rfl (lv_at hl 0 rfl) ?_
    refine lv_iconst (v := 0) hx hb dX8_words_199 (by decide) ?_
    refine hm_put S X hf_X8_103 hg_X8_letters 0 rfl rfl rfl (Nat.le_of_ble_eq_true rfl) dX8_words_200 (fun H locs X => ?_)
    have X := X.to (ws' := (hm_wMM g a (hm_up (hm_up (hm_up (hm_up (hm_up (hm_up A 1 wA_1) 2 wA_2) 3 wA_3) 4 wA_4) 5 wA_5) 6 wA_6) (hm_up (hm_up (hm_up (hm_up Z 0 0) 1 wZ_1) 2 wZ_2) 3 wZ_3))) rfl
    refine lv_aload_n hx hb dX8_words_203 rfl (lv_at hl 0 rfl) ?_
    obtain ⟨t2, ht2, hF⟩ := hm_bd hF
    refine hm_vv (As := []) S X mw_X8_begins hw_4_73 (c_X8_begins l g a (hm_up (hm_up (hm_up (hm_up (hm_up (hm_up A 1 wA_1) 2 wA_2) 3 wA_3) 4 wA_4) 5 wA_5) 6 wA_6) (hm_up (hm_up (hm_up (hm_up Z 0 0) 1 wZ_1) 2 wZ_2) 3 wZ_3) t2 ht2) hm_same hm_same rfl rfl rfl ⟨rfl, rfl, Nat.le_of_ble_eq_true rfl, Nat.le_of_ble_eq_true rfl⟩ rfl hl.1 rfl (Nat.le_of_ble_eq_true rfl) dX8_words_204 ⟨Nat.zero_le _, Nat.zero_le _⟩ (fun H locs X => ?_)
    refine lv_aload_n hx hb dX8_words_207 rfl (lv_at hl 0 rfl) ?_
    refine hm_get S X hf_X8_127 0 rfl rfl dX8_words_208 ?_
    obtain rfl := Option.some.inj hF
    exact hm_ri S hr hlk X rfl rfl dX8_words_211
  have hl36 : ∀ (k36 : Nat) (v2 : Int32) (wA_1 : Nat → Int32) (wA_2 : Nat → Int32) (wA_3 : Nat → Int32) (wA_4 : Nat → Int32) (wA_5 : Nat → Int32) (wA_6 : Nat → Int32) (wZ_1 : Int32) (wZ_2 : Int32) (wZ_3 : Int32), f_X8_words_l36 (A 0) (A 7) (A 9) k36 v2 wA_1 wA_2 wA_3 wA_4 wA_5 wA_6 wZ_1 wZ_2 wZ_3 = some q → ∀ (H : Heap) (locs : List Loc), hm_X g AA s H locs (hm_wMM g a (hm_up (hm_up (hm_up (hm_up (hm_up (hm_up A 1 wA_1) 2 wA_2) 3 wA_3) 4 wA_4) 5 wA_5) 6 wA_6) (hm_up (hm_up (hm_up Z 1 wZ_1) 2 wZ_2) 3 wZ_3)) → ∀ ls : Array Slot, lv_has ls 4 [(0, .ref (a 0)), (2, .int v2)] → W p l e rm_X8_words s m args below meth c H locs 0 0 (MQ below (hm_Qi g AA (hm_wMM g a (hm_up (hm_up (hm_up (hm_up (hm_up (hm_up (hm_up (hm_up A 1 q.2.1) 2 q.2.2.1) 3 q.2.2.2.1) 4 q.2.2.2.2.1) 5 q.2.2.2.2.2.1) 6 q.2.2.2.2.2.2.1) 7 q.2.2.2.2.2.2.2.1) 9 q.2.2.2.2.2.2.2.2.1) (hm_up (hm_up (hm_up (hm_up (hm_up (hm_up (hm_up Z 0 q.2.2.2.2.2.2.2.2.2.1) 1 q.2.2.2.2.2.2.2.2.2.2.1) 2 q.2.2.2.2.2.2.2.2.2.2.2.1) 3 q.2.2.2.2.2.2.2.2.2.2.2.2.1) 4 q.2.2.2.2.2.2.2.2.2.2.2.2.2.1) 5 q.2.2.2.2.2.2.2.2.2.2.2.2.2.2.1) 6 q.2.2.2.2.2.2.2.2.2.2.2.2.2.2.2)) q.1) args s 0 0 AA) (F0 m 36 ls []) := by
    intro k36
    induction k36 with
    | zero =>
      intro v2 wA_1 wA_2 wA_3 wA_4 wA_5 wA_6 wZ_1 wZ_2 wZ_3 hF
      rw [f_X8_words_l36_z] at hF
      cases hF
    | succ k36 ih36 =>
      have hl192 : ∀ (v2 : Int32) (wA_1 : Nat → Int32) (wA_2 : Nat → Int32) (wA_3 : Nat → Int32) (wA_4 : Nat → Int32) (wA_5 : Nat → Int32) (wA_6 : Nat → Int32) (wZ_1 : Int32) (wZ_2 : Int32) (wZ_3 : Int32), f_X8_words_l192 (fun zv2 zwA_1 zwA_2 zwA_3 zwA_4 zwA_5 zwA_6 zwZ_1 zwZ_2 zwZ_3 => f_X8_words_l36 (A 0) (A 7) (A 9) k36 zv2 zwA_1 zwA_2 zwA_3 zwA_4 zwA_5 zwA_6 zwZ_1 zwZ_2 zwZ_3) v2 wA_1 wA_2 wA_3 wA_4 wA_5 wA_6 wZ_1 wZ_2 wZ_3 = some q → ∀ (H : Heap) (locs : List Loc), hm_X g AA s H locs (hm_wMM g a (hm_up (hm_up (hm_up (hm_up (hm_up (hm_up A 1 wA_1) 2 wA_2) 3 wA_3) 4 wA_4) 5 wA_5) 6 wA_6) (hm_up (hm_up (hm_up Z 1 wZ_1) 2 wZ_2) 3 wZ_3)) → ∀ ls : Array Slot, lv_has ls 4 [(0, .ref (a 0)), (2, .int v2)] → W p l e rm_X8_words s m args below meth c H locs 0 0 (MQ below (hm_Qi g AA (hm_wMM g a (hm_up (hm_up (hm_up (hm_up (hm_up (hm_up (hm_up (hm_up A 1 q.2.1) 2 q.2.2.1) 3 q.2.2.2.1) 4 q.2.2.2.2.1) 5 q.2.2.2.2.2.1) 6 q.2.2.2.2.2.2.1) 7 q.2.2.2.2.2.2.2.1) 9 q.2.2.2.2.2.2.2.2.1) (hm_up (hm_up (hm_up (hm_up (hm_up (hm_up (hm_up Z 0 q.2.2.2.2.2.2.2.2.2.1) 1 q.2.2.2.2.2.2.2.2.2.2.1) 2 q.2.2.2.2.2.2.2.2.2.2.2.1) 3 q.2.2.2.2.2.2.2.2.2.2.2.2.1) 4 q.2.2.2.2.2.2.2.2.2.2.2.2.2.1) 5 q.2.2.2.2.2.2.2.2.2.2.2.2.2.2.1) 6 q.2.2.2.2.2.2.2.2.2.2.2.2.2.2.2)) q.1) args s 0 0 AA) (F0 m 192 ls []) := by
        intro v2 wA_1 wA_2 wA_3 wA_4 wA_5 wA_6 wZ_1 wZ_2 wZ_3 hF H locs X ls hl
        unfold f_X8_words_l192 at hF
        refine lv_iinc (v := (v2 + 1)) (lv' := [(2, .int (v2 + 1)), (0, .ref (a 0))]) hx hb dX8_words_192 hl (k := 1) rfl rfl (by decide) rfl (fun ls hl => ?_)
        refine lv_goto (tgt := 36) hx hb dX8_words_195 (by decide) ?_
        exact ih36 (v2 + 1) wA_1 wA_2 wA_3 wA_4 wA_5 wA_6 wZ_1 wZ_2 wZ_3 hF _ _ X _ (lv_sub hl [1, 0] rfl)
      have hl164 : ∀ (v2 : Int32) (wA_1 : Nat → Int32) (wA_2 : Nat → Int32) (wA_3 : Nat → Int32) (wA_4 : Nat → Int32) (wA_5 : Nat → Int32) (wA_6 : Nat → Int32) (wZ_1 : Int32) (wZ_2 : Int32) (wZ_3 : Int32), f_X8_words_l164 (fun zv2 zwA_1 zwA_2 zwA_3 zwA_4 zwA_5 zwA_6 zwZ_1 zwZ_2 zwZ_3 => f_X8_words_l36 (A 0) (A 7) (A 9) k36 zv2 zwA_1 zwA_2 zwA_3 zwA_4 zwA_5 zwA_6 zwZ_1 zwZ_2 zwZ_3) v2 wA_1 wA_2 wA_3 wA_4 wA_5 wA_6 wZ_1 wZ_2 wZ_3 = some q → ∀ (H : Heap) (locs : List Loc), hm_X g AA s H locs (hm_wMM g a (hm_up (hm_up (hm_up (hm_up (hm_up (hm_up A 1 wA_1) 2 wA_2) 3 wA_3) 4 wA_4) 5 wA_5) 6 wA_6) (hm_up (hm_up (hm_up Z 1 wZ_1) 2 wZ_2) 3 wZ_3)) → ∀ ls : Array Slot, lv_has ls 4 [(0, .ref (a 0)), (2, .int v2)] → W p l e rm_X8_words s m args below meth c H locs 0 0 (MQ below (hm_Qi g AA (hm_wMM g a (hm_up (hm_up (hm_up (hm_up (hm_up (hm_up (hm_up (hm_up A 1 q.2.1) 2 q.2.2.1) 3 q.2.2.2.1) 4 q.2.2.2.2.1) 5 q.2.2.2.2.2.1) 6 q.2.2.2.2.2.2.1) 7 q.2.2.2.2.2.2.2.1) 9 q.2.2.2.2.2.2.2.2.1) (hm_up (hm_up (hm_up (hm_up (hm_up (hm_up (hm_up Z 0 q.2.2.2.2.2.2.2.2.2.1) 1 q.2.2.2.2.2.2.2.2.2.2.1) 2 q.2.2.2.2.2.2.2.2.2.2.2.1) 3 q.2.2.2.2.2.2.2.2.2.2.2.2.1) 4 q.2.2.2.2.2.2.2.2.2.2.2.2.2.1) 5 q.2.2.2.2.2.2.2.2.2.2.2.2.2.2.1) 6 q.2.2.2.2.2.2.2.2.2.2.2.2.2.2.2)) q.1) args s 0 0 AA) (F0 m 164 ls []) := by
        intro v2 wA_1 wA_2 wA_3 wA_4 wA_5 wA_6 wZ_1 wZ_2 wZ_3 hF H locs X ls hl
        unfold f_X8_words_l164 at hF
        refine lv_aload_n hx hb dX8_words_164 rfl (lv_at hl 0 rfl) ?_
        refine hm_get S X hf_X8_19 0 rfl rfl dX8_words_165 ?_
        refine lv_aload_n hx hb dX8_words_168 rfl (lv_at hl 0 rfl) ?_
        refine hm_get S X hf_X8_127 0 rfl rfl dX8_words_169 ?_
        refine lv_iconst (v := 1) hx hb dX8_words_172 (by decide) ?_
        refine lv_isub hx hb dX8_words_173 ?_
        refine lv_iload_n hx hb dX8_words_174 rfl (lv_at hl 1 rfl) ?_
        refine lv_iconst (v := 1) hx hb dX8_words_175 (by decide) ?_
        refine lv_iadd hx hb dX8_words_176 ?_
        obtain ⟨f7, hf7, hF⟩ := hm_bd hF
        refine hm_iast S X hf7 4 rfl dX8_words_177 (fun H locs X => ?_)
        have X := X.to (ws' := (hm_wMM g a (hm_up (hm_up (hm_up (hm_up (hm_up (hm_up A 1 wA_1) 2 wA_2) 3 f7) 4 wA_4) 5 wA_5) 6 wA_6) (hm_up (hm_up (hm_up Z 1 wZ_1) 2 wZ_2) 3 wZ_3))) rfl
        refine lv_aload_n hx hb dX8_words_178 rfl (lv_at hl 0 rfl) ?_
        refine lv_aload_n hx hb dX8_words_179 rfl (lv_at hl 0 rfl) ?_
        refine hm_get S X hf_X8_127 0 rfl rfl dX8_words_180 ?_
        refine lv_iconst (v := 1) hx hb dX8_words_183 (by decide) ?_
        refine lv_isub hx hb dX8_words_184 ?_
        refine lv_iload_n hx hb dX8_words_185 rfl (lv_at hl 1 rfl) ?_
        refine lv_iconst (v := 1) hx hb dX8_words_186 (by decide) ?_
        refine lv_iadd hx hb dX8_words_187 ?_
        refine lv_iconst (v := 0) hx hb dX8_words_188 (by decide) ?_
        obtain ⟨t8, ht8, hF⟩ := hm_bd hF
        refine hm_vv (As := [.int (wZ_2 - 1), .int (v2 + 1), .int 0]) S X mw_X8_laysPlace hw_4_218 (c_X8_laysPlace l g a (hm_up (hm_up (hm_up (hm_up (hm_up (hm_up A 1 wA_1) 2 wA_2) 3 f7) 4 wA_4) 5 wA_5) 6 wA_6) (hm_up (hm_up (hm_up Z 1 wZ_1) 2 wZ_2) 3 wZ_3) (wZ_2 - 1) (v2 + 1) 0 t8 ht8) hm_same hm_same rfl rfl rfl ⟨rfl, rfl, Nat.le_of_ble_eq_true rfl, Nat.le_of_ble_eq_true rfl⟩ rfl hl.1 rfl (Nat.le_of_ble_eq_true rfl) dX8_words_189 ⟨Nat.zero_le _, Nat.zero_le _⟩ (fun H locs X => ?_)
        exact hl192 v2 wA_1 wA_2 f7 t8.1 t8.2.1 t8.2.2.1 wZ_1 wZ_2 t8.2.2.2 hF _ _ X _ (lv_sub hl [0, 1] rfl)
      have hl137 : ∀ (v2 : Int32) (v3 : Int32) (wA_1 : Nat → Int32) (wA_2 : Nat → Int32) (wA_3 : Nat → Int32) (wA_4 : Nat → Int32) (wA_5 : Nat → Int32) (wA_6 : Nat → Int32) (wZ_1 : Int32) (wZ_2 : Int32) (wZ_3 : Int32), f_X8_words_l137 (fun zv2 zwA_1 zwA_2 zwA_3 zwA_4 zwA_5 zwA_6 zwZ_1 zwZ_2 zwZ_3 => f_X8_words_l36 (A 0) (A 7) (A 9) k36 zv2 zwA_1 zwA_2 zwA_3 zwA_4 zwA_5 zwA_6 zwZ_1 zwZ_2 zwZ_3) (A 0) v2 v3 wA_1 wA_2 wA_3 wA_4 wA_5 wA_6 wZ_1 wZ_2 wZ_3 = some q → ∀ (H : Heap) (locs : List Loc), hm_X g AA s H locs (hm_wMM g a (hm_up (hm_up (hm_up (hm_up (hm_up (hm_up A 1 wA_1) 2 wA_2) 3 wA_3) 4 wA_4) 5 wA_5) 6 wA_6) (hm_up (hm_up (hm_up Z 1 wZ_1) 2 wZ_2) 3 wZ_3)) → ∀ ls : Array Slot, lv_has ls 4 [(0, .ref (a 0)), (2, .int v2), (3, .int v3)] → W p l e rm_X8_words s m args below meth c H locs 0 0 (MQ below (hm_Qi g AA (hm_wMM g a (hm_up (hm_up (hm_up (hm_up (hm_up (hm_up (hm_up (hm_up A 1 q.2.1) 2 q.2.2.1) 3 q.2.2.2.1) 4 q.2.2.2.2.1) 5 q.2.2.2.2.2.1) 6 q.2.2.2.2.2.2.1) 7 q.2.2.2.2.2.2.2.1) 9 q.2.2.2.2.2.2.2.2.1) (hm_up (hm_up (hm_up (hm_up (hm_up (hm_up (hm_up Z 0 q.2.2.2.2.2.2.2.2.2.1) 1 q.2.2.2.2.2.2.2.2.2.2.1) 2 q.2.2.2.2.2.2.2.2.2.2.2.1) 3 q.2.2.2.2.2.2.2.2.2.2.2.2.1) 4 q.2.2.2.2.2.2.2.2.2.2.2.2.2.1) 5 q.2.2.2.2.2.2.2.2.2.2.2.2.2.2.1) 6 q.2.2.2.2.2.2.2.2.2.2.2.2.2.2.2)) q.1) args s 0 0 AA) (F0 m 137 ls []) := by
        intro v2 v3 wA_1 wA_2 wA_3 wA_4 wA_5 wA_6 wZ_1 wZ_2 wZ_3 hF H locs X ls hl
        unfold f_X8_words_l137 at hF
        refine lv_iload_n hx hb dX8_words_137 rfl (lv_at hl 2 rfl) ?_
        refine lv_if_eq (tgt := 192) hx hb dX8_words_138 (by decide) (fun c138 => ?_) (fun c138 => ?_)
        · have hF := hm_if hF c138
          exact hl192 v2 wA_1 wA_2 wA_3 wA_4 wA_5 wA_6 wZ_1 wZ_2 wZ_3 hF _ _ X _ (lv_sub hl [0, 1] rfl)
        · have hF := hm_nf hF c138
          refine lv_iload_n hx hb dX8_words_141 rfl (lv_at hl 1 rfl) ?_
          refine lv_iconst (v := 1) hx hb dX8_words_142 (by decide) ?_
          refine lv_iadd hx hb dX8_words_143 ?_
          refine lv_aload_n hx hb dX8_words_144 rfl (lv_at hl 0 rfl) ?_
          refine hm_get S X hf_X8_124 0 rfl rfl dX8_words_145 ?_
          refine lv_icmp_eq (tgt := 164) hx hb dX8_words_148 (by decide) (fun c148 => ?_) (fun c148 => ?_)
          · have hF := hm_if hF c148
            exact hl164 v2 wA_1 wA_2 wA_3 wA_4 wA_5 wA_6 wZ_1 wZ_2 wZ_3 hF _ _ X _ (lv_sub hl [0, 1] rfl)
          · have hF := hm_nf hF c148
            refine lv_aload_n hx hb dX8_words_151 rfl (lv_at hl 0 rfl) ?_
            refine hm_get S X hf_X8_7 0 rfl rfl dX8_words_152 ?_
            refine lv_iload_n hx hb dX8_words_155 rfl (lv_at hl 1 rfl) ?_
            refine lv_iconst (v := 1) hx hb dX8_words_156 (by decide) ?_
            refine lv_iadd hx hb dX8_words_157 ?_
            obtain ⟨t9, ht9, hF⟩ := hm_bd hF
            refine hm_iald S X ht9 1 rfl dX8_words_158 ?_
            refine lv_bipush (v := 32) hx hb dX8_words_159 (by decide) ?_
            refine lv_icmp_ne (tgt := 192) hx hb dX8_words_161 (by decide) (fun c161 => ?_) (fun c161 => ?_)
            · have hF := hm_nf hF c161
              exact hl192 v2 wA_1 wA_2 wA_3 wA_4 wA_5 wA_6 wZ_1 wZ_2 wZ_3 hF _ _ X _ (lv_sub hl [0, 1] rfl)
            · have hF := hm_if hF c161
              exact hl164 v2 wA_1 wA_2 wA_3 wA_4 wA_5 wA_6 wZ_1 wZ_2 wZ_3 hF _ _ X _ (lv_sub hl [0, 1] rfl)
      have hl114 : ∀ (v2 : Int32) (v3 : Int32) (wA_1 : Nat → Int32) (wA_2 : Nat → Int32) (wA_3 : Nat → Int32) (wA_4 : Nat → Int32) (wA_5 : Nat → Int32) (wA_6 : Nat → Int32) (wZ_1 : Int32) (wZ_2 : Int32) (wZ_3 : Int32), f_X8_words_l114 (fun zv2 zwA_1 zwA_2 zwA_3 zwA_4 zwA_5 zwA_6 zwZ_1 zwZ_2 zwZ_3 => f_X8_words_l36 (A 0) (A 7) (A 9) k36 zv2 zwA_1 zwA_2 zwA_3 zwA_4 zwA_5 zwA_6 zwZ_1 zwZ_2 zwZ_3) (A 0) v2 v3 wA_1 wA_2 wA_3 wA_4 wA_5 wA_6 wZ_1 wZ_2 wZ_3 = some q → ∀ (H : Heap) (locs : List Loc), hm_X g AA s H locs (hm_wMM g a (hm_up (hm_up (hm_up (hm_up (hm_up (hm_up A 1 wA_1) 2 wA_2) 3 wA_3) 4 wA_4) 5 wA_5) 6 wA_6) (hm_up (hm_up (hm_up Z 1 wZ_1) 2 wZ_2) 3 wZ_3)) → ∀ ls : Array Slot, lv_has ls 4 [(0, .ref (a 0)), (2, .int v2), (3, .int v3)] → W p l e rm_X8_words s m args below meth c H locs 0 0 (MQ below (hm_Qi g AA (hm_wMM g a (hm_up (hm_up (hm_up (hm_up (hm_up (hm_up (hm_up (hm_up A 1 q.2.1) 2 q.2.2.1) 3 q.2.2.2.1) 4 q.2.2.2.2.1) 5 q.2.2.2.2.2.1) 6 q.2.2.2.2.2.2.1) 7 q.2.2.2.2.2.2.2.1) 9 q.2.2.2.2.2.2.2.2.1) (hm_up (hm_up (hm_up (hm_up (hm_up (hm_up (hm_up Z 0 q.2.2.2.2.2.2.2.2.2.1) 1 q.2.2.2.2.2.2.2.2.2.2.1) 2 q.2.2.2.2.2.2.2.2.2.2.2.1) 3 q.2.2.2.2.2.2.2.2.2.2.2.2.1) 4 q.2.2.2.2.2.2.2.2.2.2.2.2.2.1) 5 q.2.2.2.2.2.2.2.2.2.2.2.2.2.2.1) 6 q.2.2.2.2.2.2.2.2.2.2.2.2.2.2.2)) q.1) args s 0 0 AA) (F0 m 114 ls []) := by
        intro v2 v3 wA_1 wA_2 wA_3 wA_4 wA_5 wA_6 wZ_1 wZ_2 wZ_3 hF H locs X ls hl
        unfold f_X8_words_l114 at hF
        refine lv_aload_n hx hb dX8_words_114 rfl (lv_at hl 0 rfl) ?_
        refine hm_get S X hf_X8_7 0 rfl rfl dX8_words_115 ?_
        refine lv_iload_n hx hb dX8_words_118 rfl (lv_at hl 1 rfl) ?_
        obtain ⟨t6, ht6, hF⟩ := hm_bd hF
        refine hm_iald S X ht6 1 rfl dX8_words_119 ?_
        refine lv_bipush (v := 47) hx hb dX8_words_120 (by decide) ?_
        refine lv_icmp_ne (tgt := 137) hx hb dX8_words_122 (by decide) (fun c122 => ?_) (fun c122 => ?_)
        · have hF := hm_nf hF c122
          exact hl137 v2 v3 wA_1 wA_2 wA_3 wA_4 wA_5 wA_6 wZ_1 wZ_2 wZ_3 hF _ _ X _ (lv_sub hl [0, 1, 2] rfl)
        · have hF := hm_if hF c122
          refine lv_aload_n hx hb dX8_words_125 rfl (lv_at hl 0 rfl) ?_
          refine lv_aload_n hx hb dX8_words_126 rfl (lv_at hl 0 rfl) ?_
          refine hm_get S X hf_X8_127 0 rfl rfl dX8_words_127 ?_
          refine lv_iconst (v := 1) hx hb dX8_words_130 (by decide) ?_
          refine lv_isub hx hb dX8_words_131 ?_
          refine lv_iload_n hx hb dX8_words_132 rfl (lv_at hl 1 rfl) ?_
          refine lv_iconst (v := 1) hx hb dX8_words_133 (by decide) ?_
          obtain ⟨t10, ht10, hF⟩ := hm_bd hF
          refine hm_vv (As := [.int (wZ_2 - 1), .int v2, .int 1]) S X mw_X8_laysPlace hw_4_218 (c_X8_laysPlace l g a (hm_up (hm_up (hm_up (hm_up (hm_up (hm_up A 1 wA_1) 2 wA_2) 3 wA_3) 4 wA_4) 5 wA_5) 6 wA_6) (hm_up (hm_up (hm_up Z 1 wZ_1) 2 wZ_2) 3 wZ_3) (wZ_2 - 1) v2 1 t10 ht10) hm_same hm_same rfl rfl rfl ⟨rfl, rfl, Nat.le_of_ble_eq_true rfl, Nat.le_of_ble_eq_true rfl⟩ rfl hl.1 rfl (Nat.le_of_ble_eq_true rfl) dX8_words_134 ⟨Nat.zero_le _, Nat.zero_le _⟩ (fun H locs X => ?_)
          exact hl137 v2 v3 wA_1 wA_2 wA_3 t10.1 t10.2.1 t10.2.2.1 wZ_1 wZ_2 t10.2.2.2 hF _ _ X _ (lv_sub hl [0, 1, 2] rfl)
      have hl94 : ∀ (v2 : Int32) (v3 : Int32) (wA_1 : Nat → Int32) (wA_2 : Nat → Int32) (wA_3 : Nat → Int32) (wA_4 : Nat → Int32) (wA_5 : Nat → Int32) (wA_6 : Nat → Int32) (wZ_1 : Int32) (wZ_2 : Int32) (wZ_3 : Int32), f_X8_words_l94 (fun zv2 zwA_1 zwA_2 zwA_3 zwA_4 zwA_5 zwA_6 zwZ_1 zwZ_2 zwZ_3 => f_X8_words_l36 (A 0) (A 7) (A 9) k36 zv2 zwA_1 zwA_2 zwA_3 zwA_4 zwA_5 zwA_6 zwZ_1 zwZ_2 zwZ_3) (A 0) v2 v3 wA_1 wA_2 wA_3 wA_4 wA_5 wA_6 wZ_1 wZ_2 wZ_3 = some q → ∀ (H : Heap) (locs : List Loc), hm_X g AA s H locs (hm_wMM g a (hm_up (hm_up (hm_up (hm_up (hm_up (hm_up A 1 wA_1) 2 wA_2) 3 wA_3) 4 wA_4) 5 wA_5) 6 wA_6) (hm_up (hm_up (hm_up Z 1 wZ_1) 2 wZ_2) 3 wZ_3)) → ∀ ls : Array Slot, lv_has ls 4 [(0, .ref (a 0)), (2, .int v2), (3, .int v3)] → W p l e rm_X8_words s m args below meth c H locs 0 0 (MQ below (hm_Qi g AA (hm_wMM g a (hm_up (hm_up (hm_up (hm_up (hm_up (hm_up (hm_up (hm_up A 1 q.2.1) 2 q.2.2.1) 3 q.2.2.2.1) 4 q.2.2.2.2.1) 5 q.2.2.2.2.2.1) 6 q.2.2.2.2.2.2.1) 7 q.2.2.2.2.2.2.2.1) 9 q.2.2.2.2.2.2.2.2.1) (hm_up (hm_up (hm_up (hm_up (hm_up (hm_up (hm_up Z 0 q.2.2.2.2.2.2.2.2.2.1) 1 q.2.2.2.2.2.2.2.2.2.2.1) 2 q.2.2.2.2.2.2.2.2.2.2.2.1) 3 q.2.2.2.2.2.2.2.2.2.2.2.2.1) 4 q.2.2.2.2.2.2.2.2.2.2.2.2.2.1) 5 q.2.2.2.2.2.2.2.2.2.2.2.2.2.2.1) 6 q.2.2.2.2.2.2.2.2.2.2.2.2.2.2.2)) q.1) args s 0 0 AA) (F0 m 94 ls []) := by
        intro v2 v3 wA_1 wA_2 wA_3 wA_4 wA_5 wA_6 wZ_1 wZ_2 wZ_3 hF H locs X ls hl
        unfold f_X8_words_l94 at hF
        refine lv_aload_n hx hb dX8_words_94 rfl (lv_at hl 0 rfl) ?_
        refine hm_get S X hf_X8_16 0 rfl rfl dX8_words_95 ?_
        refine lv_aload_n hx hb dX8_words_98 rfl (lv_at hl 0 rfl) ?_
        refine hm_get S X hf_X8_127 0 rfl rfl dX8_words_99 ?_
        refine lv_iload_n hx hb dX8_words_102 rfl (lv_at hl 1 rfl) ?_
        obtain ⟨f11, hf11, hF⟩ := hm_bd hF
        refine hm_iast S X hf11 3 rfl dX8_words_103 (fun H locs X => ?_)
        have X := X.to (ws' := (hm_wMM g a (hm_up (hm_up (hm_up (hm_up (hm_up (hm_up A 1 wA_1) 2 f11) 3 wA_3) 4 wA_4) 5 wA_5) 6 wA_6) (hm_up (hm_up (hm_up Z 1 wZ_1) 2 wZ_2) 3 wZ_3))) rfl
        refine lv_aload_n hx hb dX8_words_104 rfl (lv_at hl 0 rfl) ?_
        refine lv_dup hx hb dX8_words_105 rfl ?_
        refine hm_get S X hf_X8_127 0 rfl rfl dX8_words_106 ?_
        refine lv_iconst (v := 1) hx hb dX8_words_109 (by decide) ?_
        refine lv_iadd hx hb dX8_words_110 ?_
        refine hm_put S X hf_X8_127 hg_X8_words 0 rfl rfl rfl (Nat.le_of_ble_eq_true rfl) dX8_words_111 (fun H locs X => ?_)
        have X := X.to (ws' := (hm_wMM g a (hm_up (hm_up (hm_up (hm_up (hm_up (hm_up A 1 wA_1) 2 f11) 3 wA_3) 4 wA_4) 5 wA_5) 6 wA_6) (hm_up (hm_up (hm_up Z 1 wZ_1) 2 (wZ_2 + 1)) 3 wZ_3))) rfl
        exact hl114 v2 v3 wA_1 f11 wA_3 wA_4 wA_5 wA_6 wZ_1 (wZ_2 + 1) wZ_3 hF _ _ X _ (lv_sub hl [0, 1, 2] rfl)
      have hl72 : ∀ (s72_0 : Int32) (v2 : Int32) (wA_1 : Nat → Int32) (wA_2 : Nat → Int32) (wA_3 : Nat → Int32) (wA_4 : Nat → Int32) (wA_5 : Nat → Int32) (wA_6 : Nat → Int32) (wZ_1 : Int32) (wZ_2 : Int32) (wZ_3 : Int32), f_X8_words_l72 (fun zv2 zwA_1 zwA_2 zwA_3 zwA_4 zwA_5 zwA_6 zwZ_1 zwZ_2 zwZ_3 => f_X8_words_l36 (A 0) (A 7) (A 9) k36 zv2 zwA_1 zwA_2 zwA_3 zwA_4 zwA_5 zwA_6 zwZ_1 zwZ_2 zwZ_3) (A 0) s72_0 v2 wA_1 wA_2 wA_3 wA_4 wA_5 wA_6 wZ_1 wZ_2 wZ_3 = some q → ∀ (H : Heap) (locs : List Loc), hm_X g AA s H locs (hm_wMM g a (hm_up (hm_up (hm_up (hm_up (hm_up (hm_up A 1 wA_1) 2 wA_2) 3 wA_3) 4 wA_4) 5 wA_5) 6 wA_6) (hm_up (hm_up (hm_up Z 1 wZ_1) 2 wZ_2) 3 wZ_3)) → ∀ ls : Array Slot, lv_has ls 4 [(0, .ref (a 0)), (2, .int v2)] → W p l e rm_X8_words s m args below meth c H locs 0 0 (MQ below (hm_Qi g AA (hm_wMM g a (hm_up (hm_up (hm_up (hm_up (hm_up (hm_up (hm_up (hm_up A 1 q.2.1) 2 q.2.2.1) 3 q.2.2.2.1) 4 q.2.2.2.2.1) 5 q.2.2.2.2.2.1) 6 q.2.2.2.2.2.2.1) 7 q.2.2.2.2.2.2.2.1) 9 q.2.2.2.2.2.2.2.2.1) (hm_up (hm_up (hm_up (hm_up (hm_up (hm_up (hm_up Z 0 q.2.2.2.2.2.2.2.2.2.1) 1 q.2.2.2.2.2.2.2.2.2.2.1) 2 q.2.2.2.2.2.2.2.2.2.2.2.1) 3 q.2.2.2.2.2.2.2.2.2.2.2.2.1) 4 q.2.2.2.2.2.2.2.2.2.2.2.2.2.1) 5 q.2.2.2.2.2.2.2.2.2.2.2.2.2.2.1) 6 q.2.2.2.2.2.2.2.2.2.2.2.2.2.2.2)) q.1) args s 0 0 AA) (F0 m 72 ls [.int s72_0]) := by
        intro s72_0 v2 wA_1 wA_2 wA_3 wA_4 wA_5 wA_6 wZ_1 wZ_2 wZ_3 hF H locs X ls hl
        unfold f_X8_words_l72 at hF
        refine lv_istore_n (lv' := [(3, .int s72_0), (0, .ref (a 0)), (2, .int v2)]) hx hb dX8_words_72 rfl hl (by decide) rfl (fun ls hl => ?_)
        refine lv_iload_n hx hb dX8_words_73 rfl (lv_at hl 0 rfl) ?_
        refine lv_if_eq (tgt := 114) hx hb dX8_words_74 (by decide) (fun c74 => ?_) (fun c74 => ?_)
        · have hF := hm_if hF c74
          exact hl114 v2 s72_0 wA_1 wA_2 wA_3 wA_4 wA_5 wA_6 wZ_1 wZ_2 wZ_3 hF _ _ X _ (lv_sub hl [1, 2, 0] rfl)
        · have hF := hm_nf hF c74
          refine lv_iload_n hx hb dX8_words_77 rfl (lv_at hl 2 rfl) ?_
          refine lv_if_eq (tgt := 94) hx hb dX8_words_78 (by decide) (fun c78 => ?_) (fun c78 => ?_)
          · have hF := hm_if hF c78
            exact hl94 v2 s72_0 wA_1 wA_2 wA_3 wA_4 wA_5 wA_6 wZ_1 wZ_2 wZ_3 hF _ _ X _ (lv_sub hl [1, 2, 0] rfl)
          · have hF := hm_nf hF c78
            refine lv_aload_n hx hb dX8_words_81 rfl (lv_at hl 1 rfl) ?_
            refine hm_get S X hf_X8_7 0 rfl rfl dX8_words_82 ?_
            refine lv_iload_n hx hb dX8_words_85 rfl (lv_at hl 2 rfl) ?_
            refine lv_iconst (v := 1) hx hb dX8_words_86 (by decide) ?_
            refine lv_isub hx hb dX8_words_87 ?_
            obtain ⟨t12, ht12, hF⟩ := hm_bd hF
            refine hm_iald S X ht12 1 rfl dX8_words_88 ?_
            refine lv_bipush (v := 32) hx hb dX8_words_89 (by decide) ?_
            refine lv_icmp_ne (tgt := 114) hx hb dX8_words_91 (by decide) (fun c91 => ?_) (fun c91 => ?_)
            · have hF := hm_nf hF c91
              exact hl114 v2 s72_0 wA_1 wA_2 wA_3 wA_4 wA_5 wA_6 wZ_1 wZ_2 wZ_3 hF _ _ X _ (lv_sub hl [1, 2, 0] rfl)
            · have hF := hm_if hF c91
              exact hl94 v2 s72_0 wA_1 wA_2 wA_3 wA_4 wA_5 wA_6 wZ_1 wZ_2 wZ_3 hF _ _ X _ (lv_sub hl [1, 2, 0] rfl)
      intro v2 wA_1 wA_2 wA_3 wA_4 wA_5 wA_6 wZ_1 wZ_2 wZ_3 hF H locs X ls hl
      rw [f_X8_words_l36_s] at hF
      refine lv_iload_n hx hb dX8_words_36 rfl (lv_at hl 1 rfl) ?_
      refine lv_aload_n hx hb dX8_words_37 rfl (lv_at hl 0 rfl) ?_
      refine hm_get S X hf_X8_124 0 rfl rfl dX8_words_38 ?_
      refine lv_icmp_ge (tgt := 198) hx hb dX8_words_41 (by decide) (fun c41 => ?_) (fun c41 => ?_)
      · have hF := hm_if hF c41
        exact hl198 wA_1 wA_2 wA_3 wA_4 wA_5 wA_6 wZ_1 wZ_2 wZ_3 hF _ _ X _ (lv_sub hl [0] rfl)
      · have hF := hm_nf hF c41
        refine lv_aload_n hx hb dX8_words_44 rfl (lv_at hl 0 rfl) ?_
        refine hm_get S X hf_X8_13 0 rfl rfl dX8_words_45 ?_
        refine lv_iload_n hx hb dX8_words_48 rfl (lv_at hl 1 rfl) ?_
        refine lv_aload_n hx hb dX8_words_49 rfl (lv_at hl 0 rfl) ?_
        refine hm_get S X hf_X8_7 0 rfl rfl dX8_words_50 ?_
        refine lv_iload_n hx hb dX8_words_53 rfl (lv_at hl 1 rfl) ?_
        obtain ⟨t3, ht3, hF⟩ := hm_bd hF
        refine hm_iald S X ht3 1 rfl dX8_words_54 ?_
        obtain ⟨f4, hf4, hF⟩ := hm_bd hF
        refine hm_iast S X hf4 2 rfl dX8_words_55 (fun H locs X => ?_)
        have X := X.to (ws' := (hm_wMM g a (hm_up (hm_up (hm_up (hm_up (hm_up (hm_up A 1 f4) 2 wA_2) 3 wA_3) 4 wA_4) 5 wA_5) 6 wA_6) (hm_up (hm_up (hm_up Z 1 wZ_1) 2 wZ_2) 3 wZ_3))) rfl
        refine lv_aload_n hx hb dX8_words_56 rfl (lv_at hl 0 rfl) ?_
        refine hm_get S X hf_X8_7 0 rfl rfl dX8_words_57 ?_
        refine lv_iload_n hx hb dX8_words_60 rfl (lv_at hl 1 rfl) ?_
        obtain ⟨t5, ht5, hF⟩ := hm_bd hF
        refine hm_iald S X ht5 1 rfl dX8_words_61 ?_
        refine lv_bipush (v := 32) hx hb dX8_words_62 (by decide) ?_
        refine lv_icmp_eq (tgt := 71) hx hb dX8_words_64 (by decide) (fun c64 => ?_) (fun c64 => ?_)
        · have hF := hm_if hF c64
          refine lv_iconst (v := 0) hx hb dX8_words_71 (by decide) ?_
          exact hl72 0 v2 f4 wA_2 wA_3 wA_4 wA_5 wA_6 wZ_1 wZ_2 wZ_3 hF _ _ X _ (lv_sub hl [0, 1] rfl)
        · have hF := hm_nf hF c64
          refine lv_iconst (v := 1) hx hb dX8_words_67 (by decide) ?_
          refine lv_goto (tgt := 72) hx hb dX8_words_68 (by decide) ?_
          exact hl72 1 v2 f4 wA_2 wA_3 wA_4 wA_5 wA_6 wZ_1 wZ_2 wZ_3 hF _ _ X _ (lv_sub hl [0, 1] rfl)
  unfold f_X8_words at hF
  refine lv_aload_n hx hb dX8_words_0 rfl (lv_at hl 0 rfl) ?_
  obtain ⟨t1, ht1, hF⟩ := hm_bd hF
  refine hm_vi (As := []) S X mw_X8_fault hw_4_204 (c_X8_fault l g a A Z t1 ht1) hm_same hm_same rfl rfl rfl ⟨rfl, rfl, Nat.le_of_ble_eq_true rfl, Nat.le_of_ble_eq_true rfl⟩ rfl hl.1 rfl (Nat.le_of_ble_eq_true rfl) dX8_words_1 ⟨Nat.zero_le _, Nat.zero_le _⟩ (fun H locs X => ?_)
  refine lv_istore_n (lv' := [(1, .int t1), (0, .ref (a 0))]) hx hb dX8_words_4 rfl hl (by decide) rfl (fun ls hl => ?_)
  refine lv_iload_n hx hb dX8_words_5 rfl (lv_at hl 0 rfl) ?_
  refine lv_bipush (v := (-9)) hx hb dX8_words_6 (by decide) ?_
  refine lv_icmp_eq (tgt := 16) hx hb dX8_words_8 (by decide) (fun c8 => ?_) (fun c8 => ?_)
  · have hF := hm_if hF c8
    refine lv_aload_n hx hb dX8_words_16 rfl (lv_at hl 1 rfl) ?_
    refine lv_aload_n hx hb dX8_words_17 rfl (lv_at hl 1 rfl) ?_
    refine hm_get S X hf_X8_103 0 rfl rfl dX8_words_18 ?_
    refine hm_put S X hf_X8_124 hg_X8_size 0 rfl rfl rfl (Nat.le_of_ble_eq_true rfl) dX8_words_21 (fun H locs X => ?_)
    have X := X.to (ws' := (hm_wMM g a A (hm_up Z 1 (Z 0)))) rfl
    refine lv_aload_n hx hb dX8_words_24 rfl (lv_at hl 1 rfl) ?_
    refine lv_iconst (v := 0) hx hb dX8_words_25 (by decide) ?_
    refine hm_put S X hf_X8_127 hg_X8_words 0 rfl rfl rfl (Nat.le_of_ble_eq_true rfl) dX8_words_26 (fun H locs X => ?_)
    have X := X.to (ws' := (hm_wMM g a A (hm_up (hm_up Z 1 (Z 0)) 2 0))) rfl
    refine lv_aload_n hx hb dX8_words_29 rfl (lv_at hl 1 rfl) ?_
    refine lv_iconst (v := 0) hx hb dX8_words_30 (by decide) ?_
    refine hm_put S X hf_X8_117 hg_X8_places 0 rfl rfl rfl (Nat.le_of_ble_eq_true rfl) dX8_words_31 (fun H locs X => ?_)
    have X := X.to (ws' := (hm_wMM g a A (hm_up (hm_up (hm_up Z 1 (Z 0)) 2 0) 3 0))) rfl
    refine lv_iconst (v := 0) hx hb dX8_words_34 (by decide) ?_
    refine lv_istore_n (lv' := [(2, .int 0), (1, .int t1), (0, .ref (a 0))]) hx hb dX8_words_35 rfl hl (by decide) rfl (fun ls hl => ?_)
    exact hl36 hm_fu 0 (A 1) (A 2) (A 3) (A 4) (A 5) (A 6) (Z 0) 0 0 hF _ _ (X.to (ws' := (hm_wMM g a (hm_up (hm_up (hm_up (hm_up (hm_up (hm_up A 1 (A 1)) 2 (A 2)) 3 (A 3)) 4 (A 4)) 5 (A 5)) 6 (A 6)) (hm_up (hm_up (hm_up Z 1 (Z 0)) 2 0) 3 0))) rfl) _ (lv_sub hl [2, 0] rfl)
  · have hF := hm_nf hF c8
    refine lv_bipush (v := (-10)) hx hb dX8_words_11 (by decide) ?_
    refine lv_iload_n hx hb dX8_words_13 rfl (lv_at hl 0 rfl) ?_
    refine lv_isub hx hb dX8_words_14 ?_
    obtain rfl := Option.some.inj hF
    exact hm_ri S hr hlk X rfl rfl dX8_words_15
def f_X8_isWord (Z_2 : Int32) (x0 : Int32)  : Option (Int32) :=
  (f_X8_in x0 0 (Z_2 - 1)).bind fun t1 =>
  (hm_bl t1).bind fun t2 =>
  some (t1)
abbrev rm_X8_isWord : Room := { frames := 1, cells := 0, slots := 0, locals := 22 }
set_option maxHeartbeats 4000000 in
set_option maxRecDepth 100000 in
theorem c_X8_isWord (l : Launch) (g : hm_G) (a : Nat → Nat) (A : Nat → Nat → Int32) (Z : Nat → Int32) (x0 : Int32) (q : Int32) (hF : f_X8_isWord (Z 2) x0 = some q) : hm_Mi l yX8_isWord (Cond.code yX8_isWord cX8_isWord 2 (some .boolean) :: hm_W) rm_X8_isWord g [.ref (a 0), .int x0] (hm_wMM g a A Z) (hm_wMM g a A Z) q := by
  refine hm_ofi [(0, .ref (a 0)), (1, .int x0)] (by decide) (own := RX8) rfl (Nat.le_of_ble_eq_true rfl) rfl rfl ?_
  intro p e s m args below meth c AA S hr hlk X ls hl
  have hx := S.1
  have hb := S.2.1
  have hown := S.2.2.2.1
  have hts := S.2.2.2.2
  unfold f_X8_isWord at hF
  refine lv_iload_n hx hb dX8_isWord_0 rfl (lv_at hl 1 rfl) ?_
  refine lv_iconst (v := 0) hx hb dX8_isWord_1 (by decide) ?_
  refine lv_aload_n hx hb dX8_isWord_2 rfl (lv_at hl 0 rfl) ?_
  refine hm_get S X hf_X8_127 0 rfl rfl dX8_isWord_3 ?_
  refine lv_iconst (v := 1) hx hb dX8_isWord_6 (by decide) ?_
  refine lv_isub hx hb dX8_isWord_7 ?_
  obtain ⟨t1, ht1, hF⟩ := hm_bd hF
  refine hm_si S X mw_X8_in hw_4_193 (c_X8_in l g x0 0 ((Z 2) - 1) t1 ht1) (List.Perm.refl _) (List.Perm.refl _) ⟨rfl, rfl, Nat.le_of_ble_eq_true rfl, Nat.le_of_ble_eq_true rfl⟩ rfl hl.1 rfl (Nat.le_of_ble_eq_true rfl) dX8_isWord_8 ⟨Nat.zero_le _, Nat.zero_le _⟩ (fun H locs X => ?_)
  obtain ⟨t2, ht2, hF⟩ := hm_bd hF
  obtain rfl := Option.some.inj hF
  exact hm_rz S hr hlk X rfl rfl (hm_bl_z ht2) dX8_isWord_11
def f_X8_word (A_1 : Nat → Int32) (A_2 : Nat → Int32) (A_3 : Nat → Int32) (Z_2 : Int32) (x0 : Int32) (x1 : Int32)  : Option (Int32) :=
  (f_X8_isWord Z_2 x0).bind fun t1 =>
  if t1 = 0 then (
  some ((-1)))
  else (
  if ((-1) : Int32) ≤ x1 then (
  (hm_rd 30 A_3 x0).bind fun t2 =>
  (hm_rd 30 A_2 x0).bind fun t3 =>
  if x1 = (-1) then (
  some ((t2 - t3)))
  else (
  if (t2 - t3) ≤ x1 then (
  some ((-9)))
  else (
  (hm_rd 30 A_2 x0).bind fun t4 =>
  (hm_rd 200 A_1 (t4 + x1)).bind fun t5 =>
  some (t5))))
  else (
  some ((-1))))
abbrev rm_X8_word : Room := { frames := 2, cells := 0, slots := 0, locals := 43 }
set_option maxHeartbeats 4000000 in
set_option maxRecDepth 100000 in
theorem c_X8_word (l : Launch) (g : hm_G) (a : Nat → Nat) (A : Nat → Nat → Int32) (Z : Nat → Int32) (x0 : Int32) (x1 : Int32) (q : Int32) (hF : f_X8_word (A 1) (A 2) (A 3) (Z 2) x0 x1 = some q) : hm_Mi l yX8_word (Cond.code yX8_word cX8_word 4 (some .int) :: hm_W) rm_X8_word g [.ref (a 0), .int x0, .int x1] (hm_wMM g a A Z) (hm_wMM g a A Z) q := by
  refine hm_ofi [(0, .ref (a 0)), (1, .int x0), (2, .int x1)] (by decide) (own := RX8) rfl (Nat.le_of_ble_eq_true rfl) rfl rfl ?_
  intro p e s m args below meth c AA S hr hlk X ls hl
  have hx := S.1
  have hb := S.2.1
  have hown := S.2.2.2.1
  have hts := S.2.2.2.2
  unfold f_X8_word at hF
  refine lv_aload_n hx hb dX8_word_0 rfl (lv_at hl 0 rfl) ?_
  refine lv_iload_n hx hb dX8_word_1 rfl (lv_at hl 1 rfl) ?_
  obtain ⟨t1, ht1, hF⟩ := hm_bd hF
  refine hm_vi (As := [.int x0]) S X mw_X8_isWord hw_4_226 (c_X8_isWord l g a A Z x0 t1 ht1) hm_same hm_same rfl rfl rfl ⟨rfl, rfl, Nat.le_of_ble_eq_true rfl, Nat.le_of_ble_eq_true rfl⟩ rfl hl.1 rfl (Nat.le_of_ble_eq_true rfl) dX8_word_2 ⟨Nat.zero_le _, Nat.zero_le _⟩ (fun H locs X => ?_)
  refine lv_if_eq (tgt := 13) hx hb dX8_word_5 (by decide) (fun c5 => ?_) (fun c5 => ?_)
  · have hF := hm_if hF c5
    refine lv_iconst (v := (-1)) hx hb dX8_word_13 (by decide) ?_
    obtain rfl := Option.some.inj hF
    exact hm_ri S hr hlk X rfl rfl dX8_word_14
  · have hF := hm_nf hF c5
    refine lv_iload_n hx hb dX8_word_8 rfl (lv_at hl 2 rfl) ?_
    refine lv_iconst (v := (-1)) hx hb dX8_word_9 (by decide) ?_
    refine lv_icmp_ge (tgt := 15) hx hb dX8_word_10 (by decide) (fun c10 => ?_) (fun c10 => ?_)
    · have hF := hm_if hF c10
      refine lv_aload_n hx hb dX8_word_15 rfl (lv_at hl 0 rfl) ?_
      refine hm_get S X hf_X8_19 0 rfl rfl dX8_word_16 ?_
      refine lv_iload_n hx hb dX8_word_19 rfl (lv_at hl 1 rfl) ?_
      obtain ⟨t2, ht2, hF⟩ := hm_bd hF
      refine hm_iald S X ht2 4 rfl dX8_word_20 ?_
      refine lv_aload_n hx hb dX8_word_21 rfl (lv_at hl 0 rfl) ?_
      refine hm_get S X hf_X8_16 0 rfl rfl dX8_word_22 ?_
      refine lv_iload_n hx hb dX8_word_25 rfl (lv_at hl 1 rfl) ?_
      obtain ⟨t3, ht3, hF⟩ := hm_bd hF
      refine hm_iald S X ht3 3 rfl dX8_word_26 ?_
      refine lv_isub hx hb dX8_word_27 ?_
      refine lv_istore_n (lv' := [(3, .int (t2 - t3)), (0, .ref (a 0)), (1, .int x0), (2, .int x1)]) hx hb dX8_word_28 rfl hl (by decide) rfl (fun ls hl => ?_)
      refine lv_iload_n hx hb dX8_word_29 rfl (lv_at hl 3 rfl) ?_
      refine lv_iconst (v := (-1)) hx hb dX8_word_30 (by decide) ?_
      refine lv_icmp_ne (tgt := 38) hx hb dX8_word_31 (by decide) (fun c31 => ?_) (fun c31 => ?_)
      · have hF := hm_nf hF c31
        refine lv_iload_n hx hb dX8_word_38 rfl (lv_at hl 3 rfl) ?_
        refine lv_iload_n hx hb dX8_word_39 rfl (lv_at hl 0 rfl) ?_
        refine lv_icmp_ge (tgt := 59) hx hb dX8_word_40 (by decide) (fun c40 => ?_) (fun c40 => ?_)
        · have hF := hm_if hF c40
          refine lv_bipush (v := (-9)) hx hb dX8_word_59 (by decide) ?_
          obtain rfl := Option.some.inj hF
          exact hm_ri S hr hlk X rfl rfl dX8_word_61
        · have hF := hm_nf hF c40
          refine lv_aload_n hx hb dX8_word_43 rfl (lv_at hl 1 rfl) ?_
          refine hm_get S X hf_X8_13 0 rfl rfl dX8_word_44 ?_
          refine lv_aload_n hx hb dX8_word_47 rfl (lv_at hl 1 rfl) ?_
          refine hm_get S X hf_X8_16 0 rfl rfl dX8_word_48 ?_
          refine lv_iload_n hx hb dX8_word_51 rfl (lv_at hl 2 rfl) ?_
          obtain ⟨t4, ht4, hF⟩ := hm_bd hF
          refine hm_iald S X ht4 3 rfl dX8_word_52 ?_
          refine lv_iload_n hx hb dX8_word_53 rfl (lv_at hl 3 rfl) ?_
          refine lv_iadd hx hb dX8_word_54 ?_
          obtain ⟨t5, ht5, hF⟩ := hm_bd hF
          refine hm_iald S X ht5 2 rfl dX8_word_55 ?_
          refine lv_goto (tgt := 61) hx hb dX8_word_56 (by decide) ?_
          obtain rfl := Option.some.inj hF
          exact hm_ri S hr hlk X rfl rfl dX8_word_61
      · have hF := hm_if hF c31
        refine lv_iload_n hx hb dX8_word_34 rfl (lv_at hl 0 rfl) ?_
        refine lv_goto (tgt := 61) hx hb dX8_word_35 (by decide) ?_
        obtain rfl := Option.some.inj hF
        exact hm_ri S hr hlk X rfl rfl dX8_word_61
    · have hF := hm_nf hF c10
      refine lv_iconst (v := (-1)) hx hb dX8_word_13 (by decide) ?_
      obtain rfl := Option.some.inj hF
      exact hm_ri S hr hlk X rfl rfl dX8_word_14
def f_X8_areAlike_l120 (A_3 : Nat → Int32) (x0 : Int32) (x1 : Int32) (v3 : Int32) (v4 : Int32) : Option (Int32) :=
  (hm_rd 30 A_3 x0).bind fun t6 =>
  if v3 = t6 then (
  (hm_rd 30 A_3 x1).bind fun t7 =>
  if v4 = t7 then (
  some (1))
  else (
  some (0)))
  else (
  some (0))
def f_X8_areAlike_l97 (J15 : Int32 → Int32 → Option (Int32)) (A_1 : Nat → Int32) (A_3 : Nat → Int32) (x0 : Int32) (x1 : Int32) (s97_0 : Int32) (v3 : Int32) (v4 : Int32) : Option (Int32) :=
  if s97_0 = 0 then (
  (hm_rd 200 A_1 v3).bind fun t8 =>
  (hm_rd 200 A_1 v4).bind fun t9 =>
  if t8 = t9 then (
  J15 (v3 + 1) (v4 + 1))
  else (
  f_X8_areAlike_l120 A_3 x0 x1 v3 v4))
  else (
  f_X8_areAlike_l120 A_3 x0 x1 v3 v4)
def f_X8_areAlike_l92 (J15 : Int32 → Int32 → Option (Int32)) (A_1 : Nat → Int32) (A_3 : Nat → Int32) (x0 : Int32) (x1 : Int32) (v3 : Int32) (v4 : Int32) : Option (Int32) :=
  f_X8_areAlike_l97 J15 A_1 A_3 x0 x1 1 v3 v4
def f_X8_areAlike_l71 (J15 : Int32 → Int32 → Option (Int32)) (A_1 : Nat → Int32) (A_3 : Nat → Int32) (x0 : Int32) (x1 : Int32) (v3 : Int32) (v4 : Int32) : Option (Int32) :=
  (hm_rd 30 A_3 x0).bind fun t5 =>
  if v3 = t5 then (
  f_X8_areAlike_l92 J15 A_1 A_3 x0 x1 v3 v4)
  else (
  (hm_rd 30 A_3 x1).bind fun t10 =>
  if v4 = t10 then (
  f_X8_areAlike_l92 J15 A_1 A_3 x0 x1 v3 v4)
  else (
  f_X8_areAlike_l97 J15 A_1 A_3 x0 x1 0 v3 v4))
def f_X8_areAlike_l42 (J15 : Int32 → Int32 → Option (Int32)) (A_1 : Nat → Int32) (A_3 : Nat → Int32) (x0 : Int32) (x1 : Int32) : Nat → Int32 → Int32 → Option (Int32)
  | 0, _, _ => none
  | k + 1, v3, v4 =>
  (hm_rd 30 A_3 x1).bind fun t4 =>
  if t4 ≤ v4 then (
  f_X8_areAlike_l71 J15 A_1 A_3 x0 x1 v3 v4)
  else (
  (hm_rd 200 A_1 v4).bind fun t11 =>
  if t11 = 47 then (
  f_X8_areAlike_l42 J15 A_1 A_3 x0 x1 k v3 (v4 + 1))
  else (
  f_X8_areAlike_l71 J15 A_1 A_3 x0 x1 v3 v4))
theorem f_X8_areAlike_l42_s (J15 : Int32 → Int32 → Option (Int32)) (A_1 : Nat → Int32) (A_3 : Nat → Int32) (x0 : Int32) (x1 : Int32) (k : Nat) (v3 : Int32) (v4 : Int32) : f_X8_areAlike_l42 J15 A_1 A_3 x0 x1 (k + 1) v3 v4 =
  (hm_rd 30 A_3 x1).bind fun t4 =>
  if t4 ≤ v4 then (
  f_X8_areAlike_l71 J15 A_1 A_3 x0 x1 v3 v4)
  else (
  (hm_rd 200 A_1 v4).bind fun t11 =>
  if t11 = 47 then (
  f_X8_areAlike_l42 J15 A_1 A_3 x0 x1 k v3 (v4 + 1))
  else (
  f_X8_areAlike_l71 J15 A_1 A_3 x0 x1 v3 v4)) := rfl
theorem f_X8_areAlike_l42_z (J15 : Int32 → Int32 → Option (Int32)) (A_1 : Nat → Int32) (A_3 : Nat → Int32) (x0 : Int32) (x1 : Int32) (v3 : Int32) (v4 : Int32) : f_X8_areAlike_l42 J15 A_1 A_3 x0 x1 0 v3 v4 = none := rfl
def f_X8_areAlike_l15 (A_1 : Nat → Int32) (A_3 : Nat → Int32) (x0 : Int32) (x1 : Int32) : Nat → Int32 → Int32 → Option (Int32)
  | 0, _, _ => none
  | k + 1, v3, v4 =>
  (hm_rd 30 A_3 x0).bind fun t3 =>
  if t3 ≤ v3 then (
  f_X8_areAlike_l42 (fun zv3 zv4 => f_X8_areAlike_l15 A_1 A_3 x0 x1 k zv3 zv4) A_1 A_3 x0 x1 hm_fu v3 v4)
  else (
  (hm_rd 200 A_1 v3).bind fun t12 =>
  if t12 = 47 then (
  f_X8_areAlike_l15 A_1 A_3 x0 x1 k (v3 + 1) v4)
  else (
  f_X8_areAlike_l42 (fun zv3 zv4 => f_X8_areAlike_l15 A_1 A_3 x0 x1 k zv3 zv4) A_1 A_3 x0 x1 hm_fu v3 v4))
theorem f_X8_areAlike_l15_s (A_1 : Nat → Int32) (A_3 : Nat → Int32) (x0 : Int32) (x1 : Int32) (k : Nat) (v3 : Int32) (v4 : Int32) : f_X8_areAlike_l15 A_1 A_3 x0 x1 (k + 1) v3 v4 =
  (hm_rd 30 A_3 x0).bind fun t3 =>
  if t3 ≤ v3 then (
  f_X8_areAlike_l42 (fun zv3 zv4 => f_X8_areAlike_l15 A_1 A_3 x0 x1 k zv3 zv4) A_1 A_3 x0 x1 hm_fu v3 v4)
  else (
  (hm_rd 200 A_1 v3).bind fun t12 =>
  if t12 = 47 then (
  f_X8_areAlike_l15 A_1 A_3 x0 x1 k (v3 + 1) v4)
  else (
  f_X8_areAlike_l42 (fun zv3 zv4 => f_X8_areAlike_l15 A_1 A_3 x0 x1 k zv3 zv4) A_1 A_3 x0 x1 hm_fu v3 v4)) := rfl
theorem f_X8_areAlike_l15_z (A_1 : Nat → Int32) (A_3 : Nat → Int32) (x0 : Int32) (x1 : Int32) (v3 : Int32) (v4 : Int32) : f_X8_areAlike_l15 A_1 A_3 x0 x1 0 v3 v4 = none := rfl
def f_X8_areAlike (A_1 : Nat → Int32) (A_2 : Nat → Int32) (A_3 : Nat → Int32) (x0 : Int32) (x1 : Int32)  : Option (Int32) :=
  (hm_rd 30 A_2 x0).bind fun t1 =>
  (hm_rd 30 A_2 x1).bind fun t2 =>
  f_X8_areAlike_l15 A_1 A_3 x0 x1 hm_fu t1 t2
abbrev rm_X8_areAlike : Room := { frames := 0, cells := 0, slots := 0, locals := 0 }
set_option maxHeartbeats 4000000 in
set_option maxRecDepth 100000 in
theorem c_X8_areAlike (l : Launch) (g : hm_G) (a : Nat → Nat) (A : Nat → Nat → Int32) (Z : Nat → Int32) (x0 : Int32) (x1 : Int32) (q : Int32) (hF : f_X8_areAlike (A 1) (A 2) (A 3) x0 x1 = some q) : hm_Mi l yX8_areAlike (Cond.code yX8_areAlike cX8_areAlike 6 (some .boolean) :: hm_W) rm_X8_areAlike g [.ref (a 0), .int x0, .int x1] (hm_wMM g a A Z) (hm_wMM g a A Z) q := by
  refine hm_ofi [(0, .ref (a 0)), (1, .int x0), (2, .int x1)] (by decide) (own := RX8) rfl (Nat.le_of_ble_eq_true rfl) rfl rfl ?_
  intro p e s m args below meth c AA S hr hlk X ls hl
  have hx := S.1
  have hb := S.2.1
  have hown := S.2.2.2.1
  have hts := S.2.2.2.2
  have hl120 : ∀ (v3 : Int32) (v4 : Int32), f_X8_areAlike_l120 (A 3) x0 x1 v3 v4 = some q → ∀ (H : Heap) (locs : List Loc), hm_X g AA s H locs (hm_wMM g a A Z) → ∀ ls : Array Slot, lv_has ls 6 [(0, .ref (a 0)), (1, .int x0), (2, .int x1), (3, .int v3), (4, .int v4)] → W p l e rm_X8_areAlike s m args below meth c H locs 0 0 (MQ below (hm_Qi g AA (hm_wMM g a A Z) q) args s 0 0 AA) (F0 m 120 ls []) := by
    intro v3 v4 hF H locs X ls hl
    unfold f_X8_areAlike_l120 at hF
    refine lv_iload_n hx hb dX8_areAlike_120 rfl (lv_at hl 3 rfl) ?_
    refine lv_aload_n hx hb dX8_areAlike_121 rfl (lv_at hl 0 rfl) ?_
    refine hm_get S X hf_X8_19 0 rfl rfl dX8_areAlike_122 ?_
    refine lv_iload_n hx hb dX8_areAlike_125 rfl (lv_at hl 1 rfl) ?_
    obtain ⟨t6, ht6, hF⟩ := hm_bd hF
    refine hm_iald S X ht6 4 rfl dX8_areAlike_126 ?_
    refine lv_icmp_ne (tgt := 145) hx hb dX8_areAlike_127 (by decide) (fun c127 => ?_) (fun c127 => ?_)
    · have hF := hm_nf hF c127
      refine lv_iconst (v := 0) hx hb dX8_areAlike_145 (by decide) ?_
      obtain rfl := Option.some.inj hF
      exact hm_rz S hr hlk X rfl rfl (Or.inl rfl) dX8_areAlike_146
    · have hF := hm_if hF c127
      refine lv_iload hx hb dX8_areAlike_130 (lv_at hl 4 rfl) ?_
      refine lv_aload_n hx hb dX8_areAlike_132 rfl (lv_at hl 0 rfl) ?_
      refine hm_get S X hf_X8_19 0 rfl rfl dX8_areAlike_133 ?_
      refine lv_iload_n hx hb dX8_areAlike_136 rfl (lv_at hl 2 rfl) ?_
      obtain ⟨t7, ht7, hF⟩ := hm_bd hF
      refine hm_iald S X ht7 4 rfl dX8_areAlike_137 ?_
      refine lv_icmp_ne (tgt := 145) hx hb dX8_areAlike_138 (by decide) (fun c138 => ?_) (fun c138 => ?_)
      · have hF := hm_nf hF c138
        refine lv_iconst (v := 0) hx hb dX8_areAlike_145 (by decide) ?_
        obtain rfl := Option.some.inj hF
        exact hm_rz S hr hlk X rfl rfl (Or.inl rfl) dX8_areAlike_146
      · have hF := hm_if hF c138
        refine lv_iconst (v := 1) hx hb dX8_areAlike_141 (by decide) ?_
        refine lv_goto (tgt := 146) hx hb dX8_areAlike_142 (by decide) ?_
        obtain rfl := Option.some.inj hF
        exact hm_rz S hr hlk X rfl rfl (Or.inr rfl) dX8_areAlike_146
  have hl15 : ∀ (k15 : Nat) (v3 : Int32) (v4 : Int32), f_X8_areAlike_l15 (A 1) (A 3) x0 x1 k15 v3 v4 = some q → ∀ (H : Heap) (locs : List Loc), hm_X g AA s H locs (hm_wMM g a A Z) → ∀ ls : Array Slot, lv_has ls 6 [(0, .ref (a 0)), (1, .int x0), (2, .int x1), (3, .int v3), (4, .int v4)] → W p l e rm_X8_areAlike s m args below meth c H locs 0 0 (MQ below (hm_Qi g AA (hm_wMM g a A Z) q) args s 0 0 AA) (F0 m 15 ls []) := by
    intro k15
    induction k15 with
    | zero =>
      intro v3 v4 hF
      rw [f_X8_areAlike_l15_z] at hF
      cases hF
    | succ k15 ih15 =>
      have hl97 : ∀ (s97_0 : Int32) (v3 : Int32) (v4 : Int32), f_X8_areAlike_l97 (fun zv3 zv4 => f_X8_areAlike_l15 (A 1) (A 3) x0 x1 k15 zv3 zv4) (A 1) (A 3) x0 x1 s97_0 v3 v4 = some q → ∀ (H : Heap) (locs : List Loc), hm_X g AA s H locs (hm_wMM g a A Z) → ∀ ls : Array Slot, lv_has ls 6 [(0, .ref (a 0)), (1, .int x0), (2, .int x1), (3, .int v3), (4, .int v4)] → W p l e rm_X8_areAlike s m args below meth c H locs 0 0 (MQ below (hm_Qi g AA (hm_wMM g a A Z) q) args s 0 0 AA) (F0 m 97 ls [.int s97_0]) := by
        intro s97_0 v3 v4 hF H locs X ls hl
        unfold f_X8_areAlike_l97 at hF
        refine lv_istore (lv' := [(5, .int s97_0), (0, .ref (a 0)), (1, .int x0), (2, .int x1), (3, .int v3), (4, .int v4)]) hx hb dX8_areAlike_97 hl (by decide) rfl (fun ls hl => ?_)
        refine lv_iload hx hb dX8_areAlike_99 (lv_at hl 0 rfl) ?_
        refine lv_if_ne (tgt := 120) hx hb dX8_areAlike_101 (by decide) (fun c101 => ?_) (fun c101 => ?_)
        · have hF := hm_nf hF c101
          exact hl120 v3 v4 hF _ _ X _ (lv_sub hl [1, 2, 3, 4, 5] rfl)
        · have hF := hm_if hF c101
          refine lv_aload_n hx hb dX8_areAlike_104 rfl (lv_at hl 1 rfl) ?_
          refine hm_get S X hf_X8_13 0 rfl rfl dX8_areAlike_105 ?_
          refine lv_iload_n hx hb dX8_areAlike_108 rfl (lv_at hl 4 rfl) ?_
          obtain ⟨t8, ht8, hF⟩ := hm_bd hF
          refine hm_iald S X ht8 2 rfl dX8_areAlike_109 ?_
          refine lv_aload_n hx hb dX8_areAlike_110 rfl (lv_at hl 1 rfl) ?_
          refine hm_get S X hf_X8_13 0 rfl rfl dX8_areAlike_111 ?_
          refine lv_iload hx hb dX8_areAlike_114 (lv_at hl 5 rfl) ?_
          obtain ⟨t9, ht9, hF⟩ := hm_bd hF
          refine hm_iald S X ht9 2 rfl dX8_areAlike_116 ?_
          refine lv_icmp_eq (tgt := 147) hx hb dX8_areAlike_117 (by decide) (fun c117 => ?_) (fun c117 => ?_)
          · have hF := hm_if hF c117
            refine lv_iinc (v := (v3 + 1)) (lv' := [(3, .int (v3 + 1)), (5, .int s97_0), (0, .ref (a 0)), (1, .int x0), (2, .int x1), (4, .int v4)]) hx hb dX8_areAlike_147 hl (k := 4) rfl rfl (by decide) rfl (fun ls hl => ?_)
            refine lv_iinc (v := (v4 + 1)) (lv' := [(4, .int (v4 + 1)), (3, .int (v3 + 1)), (5, .int s97_0), (0, .ref (a 0)), (1, .int x0), (2, .int x1)]) hx hb dX8_areAlike_150 hl (k := 5) rfl rfl (by decide) rfl (fun ls hl => ?_)
            refine lv_goto (tgt := 15) hx hb dX8_areAlike_153 (by decide) ?_
            exact ih15 (v3 + 1) (v4 + 1) hF _ _ X _ (lv_sub hl [3, 4, 5, 1, 0] rfl)
          · have hF := hm_nf hF c117
            exact hl120 v3 v4 hF _ _ X _ (lv_sub hl [1, 2, 3, 4, 5] rfl)
      have hl92 : ∀ (v3 : Int32) (v4 : Int32), f_X8_areAlike_l92 (fun zv3 zv4 => f_X8_areAlike_l15 (A 1) (A 3) x0 x1 k15 zv3 zv4) (A 1) (A 3) x0 x1 v3 v4 = some q → ∀ (H : Heap) (locs : List Loc), hm_X g AA s H locs (hm_wMM g a A Z) → ∀ ls : Array Slot, lv_has ls 6 [(0, .ref (a 0)), (1, .int x0), (2, .int x1), (3, .int v3), (4, .int v4)] → W p l e rm_X8_areAlike s m args below meth c H locs 0 0 (MQ below (hm_Qi g AA (hm_wMM g a A Z) q) args s 0 0 AA) (F0 m 92 ls []) := by
        intro v3 v4 hF H locs X ls hl
        unfold f_X8_areAlike_l92 at hF
        refine lv_iconst (v := 1) hx hb dX8_areAlike_92 (by decide) ?_
        refine lv_goto (tgt := 97) hx hb dX8_areAlike_93 (by decide) ?_
        exact hl97 1 v3 v4 hF _ _ X _ (lv_sub hl [0, 1, 2, 3, 4] rfl)
      have hl71 : ∀ (v3 : Int32) (v4 : Int32), f_X8_areAlike_l71 (fun zv3 zv4 => f_X8_areAlike_l15 (A 1) (A 3) x0 x1 k15 zv3 zv4) (A 1) (A 3) x0 x1 v3 v4 = some q → ∀ (H : Heap) (locs : List Loc), hm_X g AA s H locs (hm_wMM g a A Z) → ∀ ls : Array Slot, lv_has ls 6 [(0, .ref (a 0)), (1, .int x0), (2, .int x1), (3, .int v3), (4, .int v4)] → W p l e rm_X8_areAlike s m args below meth c H locs 0 0 (MQ below (hm_Qi g AA (hm_wMM g a A Z) q) args s 0 0 AA) (F0 m 71 ls []) := by
        intro v3 v4 hF H locs X ls hl
        unfold f_X8_areAlike_l71 at hF
        refine lv_iload_n hx hb dX8_areAlike_71 rfl (lv_at hl 3 rfl) ?_
        refine lv_aload_n hx hb dX8_areAlike_72 rfl (lv_at hl 0 rfl) ?_
        refine hm_get S X hf_X8_19 0 rfl rfl dX8_areAlike_73 ?_
        refine lv_iload_n hx hb dX8_areAlike_76 rfl (lv_at hl 1 rfl) ?_
        obtain ⟨t5, ht5, hF⟩ := hm_bd hF
        refine hm_iald S X ht5 4 rfl dX8_areAlike_77 ?_
        refine lv_icmp_eq (tgt := 92) hx hb dX8_areAlike_78 (by decide) (fun c78 => ?_) (fun c78 => ?_)
        · have hF := hm_if hF c78
          exact hl92 v3 v4 hF _ _ X _ (lv_sub hl [0, 1, 2, 3, 4] rfl)
        · have hF := hm_nf hF c78
          refine lv_iload hx hb dX8_areAlike_81 (lv_at hl 4 rfl) ?_
          refine lv_aload_n hx hb dX8_areAlike_83 rfl (lv_at hl 0 rfl) ?_
          refine hm_get S X hf_X8_19 0 rfl rfl dX8_areAlike_84 ?_
          refine lv_iload_n hx hb dX8_areAlike_87 rfl (lv_at hl 2 rfl) ?_
          obtain ⟨t10, ht10, hF⟩ := hm_bd hF
          refine hm_iald S X ht10 4 rfl dX8_areAlike_88 ?_
          refine lv_icmp_ne (tgt := 96) hx hb dX8_areAlike_89 (by decide) (fun c89 => ?_) (fun c89 => ?_)
          · have hF := hm_nf hF c89
            refine lv_iconst (v := 0) hx hb dX8_areAlike_96 (by decide) ?_
            exact hl97 0 v3 v4 hF _ _ X _ (lv_sub hl [0, 1, 2, 3, 4] rfl)
          · have hF := hm_if hF c89
            exact hl92 v3 v4 hF _ _ X _ (lv_sub hl [0, 1, 2, 3, 4] rfl)
      have hl42 : ∀ (k42 : Nat) (v3 : Int32) (v4 : Int32), f_X8_areAlike_l42 (fun zv3 zv4 => f_X8_areAlike_l15 (A 1) (A 3) x0 x1 k15 zv3 zv4) (A 1) (A 3) x0 x1 k42 v3 v4 = some q → ∀ (H : Heap) (locs : List Loc), hm_X g AA s H locs (hm_wMM g a A Z) → ∀ ls : Array Slot, lv_has ls 6 [(0, .ref (a 0)), (1, .int x0), (2, .int x1), (3, .int v3), (4, .int v4)] → W p l e rm_X8_areAlike s m args below meth c H locs 0 0 (MQ below (hm_Qi g AA (hm_wMM g a A Z) q) args s 0 0 AA) (F0 m 42 ls []) := by
        intro k42
        induction k42 with
        | zero =>
          intro v3 v4 hF
          rw [f_X8_areAlike_l42_z] at hF
          cases hF
        | succ k42 ih42 =>
          intro v3 v4 hF H locs X ls hl
          rw [f_X8_areAlike_l42_s] at hF
          refine lv_iload hx hb dX8_areAlike_42 (lv_at hl 4 rfl) ?_
          refine lv_aload_n hx hb dX8_areAlike_44 rfl (lv_at hl 0 rfl) ?_
          refine hm_get S X hf_X8_19 0 rfl rfl dX8_areAlike_45 ?_
          refine lv_iload_n hx hb dX8_areAlike_48 rfl (lv_at hl 2 rfl) ?_
          obtain ⟨t4, ht4, hF⟩ := hm_bd hF
          refine hm_iald S X ht4 4 rfl dX8_areAlike_49 ?_
          refine lv_icmp_ge (tgt := 71) hx hb dX8_areAlike_50 (by decide) (fun c50 => ?_) (fun c50 => ?_)
          · have hF := hm_if hF c50
            exact hl71 v3 v4 hF _ _ X _ (lv_sub hl [0, 1, 2, 3, 4] rfl)
          · have hF := hm_nf hF c50
            refine lv_aload_n hx hb dX8_areAlike_53 rfl (lv_at hl 0 rfl) ?_
            refine hm_get S X hf_X8_13 0 rfl rfl dX8_areAlike_54 ?_
            refine lv_iload hx hb dX8_areAlike_57 (lv_at hl 4 rfl) ?_
            obtain ⟨t11, ht11, hF⟩ := hm_bd hF
            refine hm_iald S X ht11 2 rfl dX8_areAlike_59 ?_
            refine lv_bipush (v := 47) hx hb dX8_areAlike_60 (by decide) ?_
            refine lv_icmp_ne (tgt := 71) hx hb dX8_areAlike_62 (by decide) (fun c62 => ?_) (fun c62 => ?_)
            · have hF := hm_nf hF c62
              exact hl71 v3 v4 hF _ _ X _ (lv_sub hl [0, 1, 2, 3, 4] rfl)
            · have hF := hm_if hF c62
              refine lv_iinc (v := (v4 + 1)) (lv' := [(4, .int (v4 + 1)), (0, .ref (a 0)), (1, .int x0), (2, .int x1), (3, .int v3)]) hx hb dX8_areAlike_65 hl (k := 4) rfl rfl (by decide) rfl (fun ls hl => ?_)
              refine lv_goto (tgt := 42) hx hb dX8_areAlike_68 (by decide) ?_
              exact ih42 v3 (v4 + 1) hF _ _ X _ (lv_sub hl [1, 2, 3, 4, 0] rfl)
      intro v3 v4 hF H locs X ls hl
      rw [f_X8_areAlike_l15_s] at hF
      refine lv_iload_n hx hb dX8_areAlike_15 rfl (lv_at hl 3 rfl) ?_
      refine lv_aload_n hx hb dX8_areAlike_16 rfl (lv_at hl 0 rfl) ?_
      refine hm_get S X hf_X8_19 0 rfl rfl dX8_areAlike_17 ?_
      refine lv_iload_n hx hb dX8_areAlike_20 rfl (lv_at hl 1 rfl) ?_
      obtain ⟨t3, ht3, hF⟩ := hm_bd hF
      refine hm_iald S X ht3 4 rfl dX8_areAlike_21 ?_
      refine lv_icmp_ge (tgt := 42) hx hb dX8_areAlike_22 (by decide) (fun c22 => ?_) (fun c22 => ?_)
      · have hF := hm_if hF c22
        exact hl42 hm_fu v3 v4 hF _ _ X _ (lv_sub hl [0, 1, 2, 3, 4] rfl)
      · have hF := hm_nf hF c22
        refine lv_aload_n hx hb dX8_areAlike_25 rfl (lv_at hl 0 rfl) ?_
        refine hm_get S X hf_X8_13 0 rfl rfl dX8_areAlike_26 ?_
        refine lv_iload_n hx hb dX8_areAlike_29 rfl (lv_at hl 3 rfl) ?_
        obtain ⟨t12, ht12, hF⟩ := hm_bd hF
        refine hm_iald S X ht12 2 rfl dX8_areAlike_30 ?_
        refine lv_bipush (v := 47) hx hb dX8_areAlike_31 (by decide) ?_
        refine lv_icmp_ne (tgt := 42) hx hb dX8_areAlike_33 (by decide) (fun c33 => ?_) (fun c33 => ?_)
        · have hF := hm_nf hF c33
          exact hl42 hm_fu v3 v4 hF _ _ X _ (lv_sub hl [0, 1, 2, 3, 4] rfl)
        · have hF := hm_if hF c33
          refine lv_iinc (v := (v3 + 1)) (lv' := [(3, .int (v3 + 1)), (0, .ref (a 0)), (1, .int x0), (2, .int x1), (4, .int v4)]) hx hb dX8_areAlike_36 hl (k := 3) rfl rfl (by decide) rfl (fun ls hl => ?_)
          refine lv_goto (tgt := 15) hx hb dX8_areAlike_39 (by decide) ?_
          exact ih15 (v3 + 1) v4 hF _ _ X _ (lv_sub hl [1, 2, 3, 0, 4] rfl)
  unfold f_X8_areAlike at hF
  refine lv_aload_n hx hb dX8_areAlike_0 rfl (lv_at hl 0 rfl) ?_
  refine hm_get S X hf_X8_16 0 rfl rfl dX8_areAlike_1 ?_
  refine lv_iload_n hx hb dX8_areAlike_4 rfl (lv_at hl 1 rfl) ?_
  obtain ⟨t1, ht1, hF⟩ := hm_bd hF
  refine hm_iald S X ht1 3 rfl dX8_areAlike_5 ?_
  refine lv_istore_n (lv' := [(3, .int t1), (0, .ref (a 0)), (1, .int x0), (2, .int x1)]) hx hb dX8_areAlike_6 rfl hl (by decide) rfl (fun ls hl => ?_)
  refine lv_aload_n hx hb dX8_areAlike_7 rfl (lv_at hl 1 rfl) ?_
  refine hm_get S X hf_X8_16 0 rfl rfl dX8_areAlike_8 ?_
  refine lv_iload_n hx hb dX8_areAlike_11 rfl (lv_at hl 3 rfl) ?_
  obtain ⟨t2, ht2, hF⟩ := hm_bd hF
  refine hm_iald S X ht2 3 rfl dX8_areAlike_12 ?_
  refine lv_istore (lv' := [(4, .int t2), (3, .int t1), (0, .ref (a 0)), (1, .int x0), (2, .int x1)]) hx hb dX8_areAlike_13 hl (by decide) rfl (fun ls hl => ?_)
  exact hl15 hm_fu t1 t2 hF _ _ X _ (lv_sub hl [2, 3, 4, 1, 0] rfl)
def f_X8_firstLike_l2 (A_1 : Nat → Int32) (A_2 : Nat → Int32) (A_3 : Nat → Int32) (x0 : Int32) : Nat → Int32 → Option (Int32)
  | 0, _ => none
  | k + 1, v2 =>
  (f_X8_areAlike A_1 A_2 A_3 v2 x0).bind fun t1 =>
  if t1 = 0 then (
  f_X8_firstLike_l2 A_1 A_2 A_3 x0 k (v2 + 1))
  else (
  some (v2))
theorem f_X8_firstLike_l2_s (A_1 : Nat → Int32) (A_2 : Nat → Int32) (A_3 : Nat → Int32) (x0 : Int32) (k : Nat) (v2 : Int32) : f_X8_firstLike_l2 A_1 A_2 A_3 x0 (k + 1) v2 =
  (f_X8_areAlike A_1 A_2 A_3 v2 x0).bind fun t1 =>
  if t1 = 0 then (
  f_X8_firstLike_l2 A_1 A_2 A_3 x0 k (v2 + 1))
  else (
  some (v2)) := rfl
theorem f_X8_firstLike_l2_z (A_1 : Nat → Int32) (A_2 : Nat → Int32) (A_3 : Nat → Int32) (x0 : Int32) (v2 : Int32) : f_X8_firstLike_l2 A_1 A_2 A_3 x0 0 v2 = none := rfl
def f_X8_firstLike (A_1 : Nat → Int32) (A_2 : Nat → Int32) (A_3 : Nat → Int32) (x0 : Int32)  : Option (Int32) :=
  f_X8_firstLike_l2 A_1 A_2 A_3 x0 hm_fu 0
abbrev rm_X8_firstLike : Room := { frames := 1, cells := 0, slots := 0, locals := 25 }
set_option maxHeartbeats 4000000 in
set_option maxRecDepth 100000 in
theorem c_X8_firstLike (l : Launch) (g : hm_G) (a : Nat → Nat) (A : Nat → Nat → Int32) (Z : Nat → Int32) (x0 : Int32) (q : Int32) (hF : f_X8_firstLike (A 1) (A 2) (A 3) x0 = some q) : hm_Mi l yX8_firstLike (Cond.code yX8_firstLike cX8_firstLike 3 (some .int) :: hm_W) rm_X8_firstLike g [.ref (a 0), .int x0] (hm_wMM g a A Z) (hm_wMM g a A Z) q := by
  refine hm_ofi [(0, .ref (a 0)), (1, .int x0)] (by decide) (own := RX8) rfl (Nat.le_of_ble_eq_true rfl) rfl rfl ?_
  intro p e s m args below meth c AA S hr hlk X ls hl
  have hx := S.1
  have hb := S.2.1
  have hown := S.2.2.2.1
  have hts := S.2.2.2.2
  have hl2 : ∀ (k2 : Nat) (v2 : Int32), f_X8_firstLike_l2 (A 1) (A 2) (A 3) x0 k2 v2 = some q → ∀ (H : Heap) (locs : List Loc), hm_X g AA s H locs (hm_wMM g a A Z) → ∀ ls : Array Slot, lv_has ls 3 [(0, .ref (a 0)), (1, .int x0), (2, .int v2)] → W p l e rm_X8_firstLike s m args below meth c H locs 0 0 (MQ below (hm_Qi g AA (hm_wMM g a A Z) q) args s 0 0 AA) (F0 m 2 ls []) := by
    intro k2
    induction k2 with
    | zero =>
      intro v2 hF
      rw [f_X8_firstLike_l2_z] at hF
      cases hF
    | succ k2 ih2 =>
      intro v2 hF H locs X ls hl
      rw [f_X8_firstLike_l2_s] at hF
      refine lv_aload_n hx hb dX8_firstLike_2 rfl (lv_at hl 0 rfl) ?_
      refine lv_iload_n hx hb dX8_firstLike_3 rfl (lv_at hl 2 rfl) ?_
      refine lv_iload_n hx hb dX8_firstLike_4 rfl (lv_at hl 1 rfl) ?_
      obtain ⟨t1, ht1, hF⟩ := hm_bd hF
      refine hm_vi (As := [.int v2, .int x0]) S X mw_X8_areAlike hw_4_238 (c_X8_areAlike l g a A Z v2 x0 t1 ht1) hm_same hm_same rfl rfl rfl ⟨rfl, rfl, Nat.le_of_ble_eq_true rfl, Nat.le_of_ble_eq_true rfl⟩ rfl hl.1 rfl (Nat.le_of_ble_eq_true rfl) dX8_firstLike_5 ⟨Nat.zero_le _, Nat.zero_le _⟩ (fun H locs X => ?_)
      refine lv_if_ne (tgt := 17) hx hb dX8_firstLike_8 (by decide) (fun c8 => ?_) (fun c8 => ?_)
      · have hF := hm_nf hF c8
        refine lv_iload_n hx hb dX8_firstLike_17 rfl (lv_at hl 2 rfl) ?_
        obtain rfl := Option.some.inj hF
        exact hm_ri S hr hlk X rfl rfl dX8_firstLike_18
      · have hF := hm_if hF c8
        refine lv_iinc (v := (v2 + 1)) (lv' := [(2, .int (v2 + 1)), (0, .ref (a 0)), (1, .int x0)]) hx hb dX8_firstLike_11 hl (k := 2) rfl rfl (by decide) rfl (fun ls hl => ?_)
        refine lv_goto (tgt := 2) hx hb dX8_firstLike_14 (by decide) ?_
        exact ih2 (v2 + 1) hF _ _ X _ (lv_sub hl [1, 2, 0] rfl)
  unfold f_X8_firstLike at hF
  refine lv_iconst (v := 0) hx hb dX8_firstLike_0 (by decide) ?_
  refine lv_istore_n (lv' := [(2, .int 0), (0, .ref (a 0)), (1, .int x0)]) hx hb dX8_firstLike_1 rfl hl (by decide) rfl (fun ls hl => ?_)
  exact hl2 hm_fu 0 hF _ _ X _ (lv_sub hl [1, 2, 0] rfl)
def f_X8_differents_l27 (J4 : Int32 → Int32 → Option (Int32)) (s27_0 : Int32) (s27_1 : Int32) (v2 : Int32) : Option (Int32) :=
  J4 (s27_1 + s27_0) (v2 + 1)
def f_X8_differents_l4 (A_1 : Nat → Int32) (A_2 : Nat → Int32) (A_3 : Nat → Int32) (Z_2 : Int32) : Nat → Int32 → Int32 → Option (Int32)
  | 0, _, _ => none
  | k + 1, v1, v2 =>
  if Z_2 ≤ v2 then (
  some (v1))
  else (
  (f_X8_firstLike A_1 A_2 A_3 v2).bind fun t1 =>
  if t1 = v2 then (
  f_X8_differents_l27 (fun zv1 zv2 => f_X8_differents_l4 A_1 A_2 A_3 Z_2 k zv1 zv2) 1 v1 v2)
  else (
  f_X8_differents_l27 (fun zv1 zv2 => f_X8_differents_l4 A_1 A_2 A_3 Z_2 k zv1 zv2) 0 v1 v2))
theorem f_X8_differents_l4_s (A_1 : Nat → Int32) (A_2 : Nat → Int32) (A_3 : Nat → Int32) (Z_2 : Int32) (k : Nat) (v1 : Int32) (v2 : Int32) : f_X8_differents_l4 A_1 A_2 A_3 Z_2 (k + 1) v1 v2 =
  if Z_2 ≤ v2 then (
  some (v1))
  else (
  (f_X8_firstLike A_1 A_2 A_3 v2).bind fun t1 =>
  if t1 = v2 then (
  f_X8_differents_l27 (fun zv1 zv2 => f_X8_differents_l4 A_1 A_2 A_3 Z_2 k zv1 zv2) 1 v1 v2)
  else (
  f_X8_differents_l27 (fun zv1 zv2 => f_X8_differents_l4 A_1 A_2 A_3 Z_2 k zv1 zv2) 0 v1 v2)) := rfl
theorem f_X8_differents_l4_z (A_1 : Nat → Int32) (A_2 : Nat → Int32) (A_3 : Nat → Int32) (Z_2 : Int32) (v1 : Int32) (v2 : Int32) : f_X8_differents_l4 A_1 A_2 A_3 Z_2 0 v1 v2 = none := rfl
def f_X8_differents (A_1 : Nat → Int32) (A_2 : Nat → Int32) (A_3 : Nat → Int32) (Z_2 : Int32)  : Option (Int32) :=
  f_X8_differents_l4 A_1 A_2 A_3 Z_2 hm_fu 0 0
abbrev rm_X8_differents : Room := { frames := 2, cells := 0, slots := 0, locals := 47 }
set_option maxHeartbeats 4000000 in
set_option maxRecDepth 100000 in
theorem c_X8_differents (l : Launch) (g : hm_G) (a : Nat → Nat) (A : Nat → Nat → Int32) (Z : Nat → Int32) (q : Int32) (hF : f_X8_differents (A 1) (A 2) (A 3) (Z 2) = some q) : hm_Mi l yX8_differents (Cond.code yX8_differents cX8_differents 3 (some .int) :: hm_W) rm_X8_differents g [.ref (a 0)] (hm_wMM g a A Z) (hm_wMM g a A Z) q := by
  refine hm_ofi [(0, .ref (a 0))] (by decide) (own := RX8) rfl (Nat.le_of_ble_eq_true rfl) rfl rfl ?_
  intro p e s m args below meth c AA S hr hlk X ls hl
  have hx := S.1
  have hb := S.2.1
  have hown := S.2.2.2.1
  have hts := S.2.2.2.2
  have hl4 : ∀ (k4 : Nat) (v1 : Int32) (v2 : Int32), f_X8_differents_l4 (A 1) (A 2) (A 3) (Z 2) k4 v1 v2 = some q → ∀ (H : Heap) (locs : List Loc), hm_X g AA s H locs (hm_wMM g a A Z) → ∀ ls : Array Slot, lv_has ls 3 [(0, .ref (a 0)), (1, .int v1), (2, .int v2)] → W p l e rm_X8_differents s m args below meth c H locs 0 0 (MQ below (hm_Qi g AA (hm_wMM g a A Z) q) args s 0 0 AA) (F0 m 4 ls []) := by
    intro k4
    induction k4 with
    | zero =>
      intro v1 v2 hF
      rw [f_X8_differents_l4_z] at hF
      cases hF
    | succ k4 ih4 =>
      have hl27 : ∀ (s27_0 : Int32) (s27_1 : Int32) (v2 : Int32), f_X8_differents_l27 (fun zv1 zv2 => f_X8_differents_l4 (A 1) (A 2) (A 3) (Z 2) k4 zv1 zv2) s27_0 s27_1 v2 = some q → ∀ (H : Heap) (locs : List Loc), hm_X g AA s H locs (hm_wMM g a A Z) → ∀ ls : Array Slot, lv_has ls 3 [(0, .ref (a 0)), (2, .int v2)] → W p l e rm_X8_differents s m args below meth c H locs 0 0 (MQ below (hm_Qi g AA (hm_wMM g a A Z) q) args s 0 0 AA) (F0 m 27 ls [.int s27_0, .int s27_1]) := by
        intro s27_0 s27_1 v2 hF H locs X ls hl
        unfold f_X8_differents_l27 at hF
        refine lv_iadd hx hb dX8_differents_27 ?_
        refine lv_istore_n (lv' := [(1, .int (s27_1 + s27_0)), (0, .ref (a 0)), (2, .int v2)]) hx hb dX8_differents_28 rfl hl (by decide) rfl (fun ls hl => ?_)
        refine lv_iinc (v := (v2 + 1)) (lv' := [(2, .int (v2 + 1)), (1, .int (s27_1 + s27_0)), (0, .ref (a 0))]) hx hb dX8_differents_29 hl (k := 2) rfl rfl (by decide) rfl (fun ls hl => ?_)
        refine lv_goto (tgt := 4) hx hb dX8_differents_32 (by decide) ?_
        exact ih4 (s27_1 + s27_0) (v2 + 1) hF _ _ X _ (lv_sub hl [2, 1, 0] rfl)
      intro v1 v2 hF H locs X ls hl
      rw [f_X8_differents_l4_s] at hF
      refine lv_iload_n hx hb dX8_differents_4 rfl (lv_at hl 2 rfl) ?_
      refine lv_aload_n hx hb dX8_differents_5 rfl (lv_at hl 0 rfl) ?_
      refine hm_get S X hf_X8_127 0 rfl rfl dX8_differents_6 ?_
      refine lv_icmp_ge (tgt := 35) hx hb dX8_differents_9 (by decide) (fun c9 => ?_) (fun c9 => ?_)
      · have hF := hm_if hF c9
        refine lv_iload_n hx hb dX8_differents_35 rfl (lv_at hl 1 rfl) ?_
        obtain rfl := Option.some.inj hF
        exact hm_ri S hr hlk X rfl rfl dX8_differents_36
      · have hF := hm_nf hF c9
        refine lv_iload_n hx hb dX8_differents_12 rfl (lv_at hl 1 rfl) ?_
        refine lv_aload_n hx hb dX8_differents_13 rfl (lv_at hl 0 rfl) ?_
        refine lv_iload_n hx hb dX8_differents_14 rfl (lv_at hl 2 rfl) ?_
        obtain ⟨t1, ht1, hF⟩ := hm_bd hF
        refine hm_vi (As := [.int v2]) S X mw_X8_firstLike hw_4_234 (c_X8_firstLike l g a A Z v2 t1 ht1) hm_same hm_same rfl rfl rfl ⟨rfl, rfl, Nat.le_of_ble_eq_true rfl, Nat.le_of_ble_eq_true rfl⟩ rfl hl.1 rfl (Nat.le_of_ble_eq_true rfl) dX8_differents_15 ⟨Nat.zero_le _, Nat.zero_le _⟩ (fun H locs X => ?_)
        refine lv_iload_n hx hb dX8_differents_18 rfl (lv_at hl 2 rfl) ?_
        refine lv_icmp_ne (tgt := 26) hx hb dX8_differents_19 (by decide) (fun c19 => ?_) (fun c19 => ?_)
        · have hF := hm_nf hF c19
          refine lv_iconst (v := 0) hx hb dX8_differents_26 (by decide) ?_
          exact hl27 0 v1 v2 hF _ _ X _ (lv_sub hl [0, 2] rfl)
        · have hF := hm_if hF c19
          refine lv_iconst (v := 1) hx hb dX8_differents_22 (by decide) ?_
          refine lv_goto (tgt := 27) hx hb dX8_differents_23 (by decide) ?_
          exact hl27 1 v1 v2 hF _ _ X _ (lv_sub hl [0, 2] rfl)
  unfold f_X8_differents at hF
  refine lv_iconst (v := 0) hx hb dX8_differents_0 (by decide) ?_
  refine lv_istore_n (lv' := [(1, .int 0), (0, .ref (a 0))]) hx hb dX8_differents_1 rfl hl (by decide) rfl (fun ls hl => ?_)
  refine lv_iconst (v := 0) hx hb dX8_differents_2 (by decide) ?_
  refine lv_istore_n (lv' := [(2, .int 0), (1, .int 0), (0, .ref (a 0))]) hx hb dX8_differents_3 rfl hl (by decide) rfl (fun ls hl => ?_)
  exact hl4 hm_fu 0 0 hF _ _ X _ (lv_sub hl [2, 1, 0] rfl)
def f_X8_different_l102 (J20 : Int32 → Int32 → Option (Int32)) (v3 : Int32) (v4 : Int32) : Option (Int32) :=
  J20 v3 (v4 + 1)
def f_X8_different_l87 (x1 : Int32) (v4 : Int32) (v5 : Int32) : Option (Int32) :=
  if x1 = 0 then (
  some (v4))
  else (
  some (v5))
def f_X8_different_l78 (J51 : Int32 → Int32 → Int32 → Option (Int32)) (s78_0 : Int32) (s78_1 : Int32) (v4 : Int32) (v6 : Int32) : Option (Int32) :=
  J51 v4 (s78_1 + s78_0) (v6 + 1)
def f_X8_different_l51 (A_1 : Nat → Int32) (A_2 : Nat → Int32) (A_3 : Nat → Int32) (Z_2 : Int32) (x1 : Int32) : Nat → Int32 → Int32 → Int32 → Option (Int32)
  | 0, _, _, _ => none
  | k + 1, v4, v5, v6 =>
  if Z_2 ≤ v6 then (
  f_X8_different_l87 x1 v4 v5)
  else (
  (f_X8_areAlike A_1 A_2 A_3 v4 v6).bind fun t3 =>
  if t3 = 0 then (
  f_X8_different_l78 (fun zv4 zv5 zv6 => f_X8_different_l51 A_1 A_2 A_3 Z_2 x1 k zv4 zv5 zv6) 0 v5 v4 v6)
  else (
  f_X8_different_l78 (fun zv4 zv5 zv6 => f_X8_different_l51 A_1 A_2 A_3 Z_2 x1 k zv4 zv5 zv6) 1 v5 v4 v6))
theorem f_X8_different_l51_s (A_1 : Nat → Int32) (A_2 : Nat → Int32) (A_3 : Nat → Int32) (Z_2 : Int32) (x1 : Int32) (k : Nat) (v4 : Int32) (v5 : Int32) (v6 : Int32) : f_X8_different_l51 A_1 A_2 A_3 Z_2 x1 (k + 1) v4 v5 v6 =
  if Z_2 ≤ v6 then (
  f_X8_different_l87 x1 v4 v5)
  else (
  (f_X8_areAlike A_1 A_2 A_3 v4 v6).bind fun t3 =>
  if t3 = 0 then (
  f_X8_different_l78 (fun zv4 zv5 zv6 => f_X8_different_l51 A_1 A_2 A_3 Z_2 x1 k zv4 zv5 zv6) 0 v5 v4 v6)
  else (
  f_X8_different_l78 (fun zv4 zv5 zv6 => f_X8_different_l51 A_1 A_2 A_3 Z_2 x1 k zv4 zv5 zv6) 1 v5 v4 v6)) := rfl
theorem f_X8_different_l51_z (A_1 : Nat → Int32) (A_2 : Nat → Int32) (A_3 : Nat → Int32) (Z_2 : Int32) (x1 : Int32) (v4 : Int32) (v5 : Int32) (v6 : Int32) : f_X8_different_l51 A_1 A_2 A_3 Z_2 x1 0 v4 v5 v6 = none := rfl
def f_X8_different_l20 (A_1 : Nat → Int32) (A_2 : Nat → Int32) (A_3 : Nat → Int32) (Z_2 : Int32) (x1 : Int32) : Nat → Int32 → Int32 → Option (Int32)
  | 0, _, _ => none
  | k + 1, v3, v4 =>
  if Z_2 ≤ v4 then (
  some ((-9)))
  else (
  (f_X8_firstLike A_1 A_2 A_3 v4).bind fun t2 =>
  if t2 = v4 then (
  if v3 = 0 then (
  f_X8_different_l51 A_1 A_2 A_3 Z_2 x1 hm_fu v4 0 v4)
  else (
  f_X8_different_l102 (fun zv3 zv4 => f_X8_different_l20 A_1 A_2 A_3 Z_2 x1 k zv3 zv4) (v3 + (-1)) v4))
  else (
  f_X8_different_l102 (fun zv3 zv4 => f_X8_different_l20 A_1 A_2 A_3 Z_2 x1 k zv3 zv4) v3 v4))
theorem f_X8_different_l20_s (A_1 : Nat → Int32) (A_2 : Nat → Int32) (A_3 : Nat → Int32) (Z_2 : Int32) (x1 : Int32) (k : Nat) (v3 : Int32) (v4 : Int32) : f_X8_different_l20 A_1 A_2 A_3 Z_2 x1 (k + 1) v3 v4 =
  if Z_2 ≤ v4 then (
  some ((-9)))
  else (
  (f_X8_firstLike A_1 A_2 A_3 v4).bind fun t2 =>
  if t2 = v4 then (
  if v3 = 0 then (
  f_X8_different_l51 A_1 A_2 A_3 Z_2 x1 hm_fu v4 0 v4)
  else (
  f_X8_different_l102 (fun zv3 zv4 => f_X8_different_l20 A_1 A_2 A_3 Z_2 x1 k zv3 zv4) (v3 + (-1)) v4))
  else (
  f_X8_different_l102 (fun zv3 zv4 => f_X8_different_l20 A_1 A_2 A_3 Z_2 x1 k zv3 zv4) v3 v4)) := rfl
theorem f_X8_different_l20_z (A_1 : Nat → Int32) (A_2 : Nat → Int32) (A_3 : Nat → Int32) (Z_2 : Int32) (x1 : Int32) (v3 : Int32) (v4 : Int32) : f_X8_different_l20 A_1 A_2 A_3 Z_2 x1 0 v3 v4 = none := rfl
def f_X8_different (A_1 : Nat → Int32) (A_2 : Nat → Int32) (A_3 : Nat → Int32) (Z_2 : Int32) (x0 : Int32) (x1 : Int32)  : Option (Int32) :=
  if x0 < 0 then (
  some ((-1)))
  else (
  (f_X8_in x1 0 1).bind fun t1 =>
  if t1 = 0 then (
  some ((-1)))
  else (
  f_X8_different_l20 A_1 A_2 A_3 Z_2 x1 hm_fu x0 0))
abbrev rm_X8_different : Room := { frames := 2, cells := 0, slots := 0, locals := 47 }
set_option maxHeartbeats 4000000 in
set_option maxRecDepth 100000 in
theorem c_X8_different (l : Launch) (g : hm_G) (a : Nat → Nat) (A : Nat → Nat → Int32) (Z : Nat → Int32) (x0 : Int32) (x1 : Int32) (q : Int32) (hF : f_X8_different (A 1) (A 2) (A 3) (Z 2) x0 x1 = some q) : hm_Mi l yX8_different (Cond.code yX8_different cX8_different 7 (some .int) :: hm_W) rm_X8_different g [.ref (a 0), .int x0, .int x1] (hm_wMM g a A Z) (hm_wMM g a A Z) q := by
  refine hm_ofi [(0, .ref (a 0)), (1, .int x0), (2, .int x1)] (by decide) (own := RX8) rfl (Nat.le_of_ble_eq_true rfl) rfl rfl ?_
  intro p e s m args below meth c AA S hr hlk X ls hl
  have hx := S.1
  have hb := S.2.1
  have hown := S.2.2.2.1
  have hts := S.2.2.2.2
  have hl87 : ∀ (v4 : Int32) (v5 : Int32), f_X8_different_l87 x1 v4 v5 = some q → ∀ (H : Heap) (locs : List Loc), hm_X g AA s H locs (hm_wMM g a A Z) → ∀ ls : Array Slot, lv_has ls 7 [(2, .int x1), (4, .int v4), (5, .int v5)] → W p l e rm_X8_different s m args below meth c H locs 0 0 (MQ below (hm_Qi g AA (hm_wMM g a A Z) q) args s 0 0 AA) (F0 m 87 ls []) := by
    intro v4 v5 hF H locs X ls hl
    unfold f_X8_different_l87 at hF
    refine lv_iload_n hx hb dX8_different_87 rfl (lv_at hl 0 rfl) ?_
    refine lv_if_ne (tgt := 96) hx hb dX8_different_88 (by decide) (fun c88 => ?_) (fun c88 => ?_)
    · have hF := hm_nf hF c88
      refine lv_iload hx hb dX8_different_96 (lv_at hl 2 rfl) ?_
      obtain rfl := Option.some.inj hF
      exact hm_ri S hr hlk X rfl rfl dX8_different_98
    · have hF := hm_if hF c88
      refine lv_iload hx hb dX8_different_91 (lv_at hl 1 rfl) ?_
      refine lv_goto (tgt := 98) hx hb dX8_different_93 (by decide) ?_
      obtain rfl := Option.some.inj hF
      exact hm_ri S hr hlk X rfl rfl dX8_different_98
  have hl51 : ∀ (k51 : Nat) (v4 : Int32) (v5 : Int32) (v6 : Int32), f_X8_different_l51 (A 1) (A 2) (A 3) (Z 2) x1 k51 v4 v5 v6 = some q → ∀ (H : Heap) (locs : List Loc), hm_X g AA s H locs (hm_wMM g a A Z) → ∀ ls : Array Slot, lv_has ls 7 [(0, .ref (a 0)), (2, .int x1), (4, .int v4), (5, .int v5), (6, .int v6)] → W p l e rm_X8_different s m args below meth c H locs 0 0 (MQ below (hm_Qi g AA (hm_wMM g a A Z) q) args s 0 0 AA) (F0 m 51 ls []) := by
    intro k51
    induction k51 with
    | zero =>
      intro v4 v5 v6 hF
      rw [f_X8_different_l51_z] at hF
      cases hF
    | succ k51 ih51 =>
      have hl78 : ∀ (s78_0 : Int32) (s78_1 : Int32) (v4 : Int32) (v6 : Int32), f_X8_different_l78 (fun zv4 zv5 zv6 => f_X8_different_l51 (A 1) (A 2) (A 3) (Z 2) x1 k51 zv4 zv5 zv6) s78_0 s78_1 v4 v6 = some q → ∀ (H : Heap) (locs : List Loc), hm_X g AA s H locs (hm_wMM g a A Z) → ∀ ls : Array Slot, lv_has ls 7 [(0, .ref (a 0)), (2, .int x1), (4, .int v4), (6, .int v6)] → W p l e rm_X8_different s m args below meth c H locs 0 0 (MQ below (hm_Qi g AA (hm_wMM g a A Z) q) args s 0 0 AA) (F0 m 78 ls [.int s78_0, .int s78_1]) := by
        intro s78_0 s78_1 v4 v6 hF H locs X ls hl
        unfold f_X8_different_l78 at hF
        refine lv_iadd hx hb dX8_different_78 ?_
        refine lv_istore (lv' := [(5, .int (s78_1 + s78_0)), (0, .ref (a 0)), (2, .int x1), (4, .int v4), (6, .int v6)]) hx hb dX8_different_79 hl (by decide) rfl (fun ls hl => ?_)
        refine lv_iinc (v := (v6 + 1)) (lv' := [(6, .int (v6 + 1)), (5, .int (s78_1 + s78_0)), (0, .ref (a 0)), (2, .int x1), (4, .int v4)]) hx hb dX8_different_81 hl (k := 4) rfl rfl (by decide) rfl (fun ls hl => ?_)
        refine lv_goto (tgt := 51) hx hb dX8_different_84 (by decide) ?_
        exact ih51 v4 (s78_1 + s78_0) (v6 + 1) hF _ _ X _ (lv_sub hl [2, 3, 4, 1, 0] rfl)
      intro v4 v5 v6 hF H locs X ls hl
      rw [f_X8_different_l51_s] at hF
      refine lv_iload hx hb dX8_different_51 (lv_at hl 4 rfl) ?_
      refine lv_aload_n hx hb dX8_different_53 rfl (lv_at hl 0 rfl) ?_
      refine hm_get S X hf_X8_127 0 rfl rfl dX8_different_54 ?_
      refine lv_icmp_ge (tgt := 87) hx hb dX8_different_57 (by decide) (fun c57 => ?_) (fun c57 => ?_)
      · have hF := hm_if hF c57
        exact hl87 v4 v5 hF _ _ X _ (lv_sub hl [1, 2, 3] rfl)
      · have hF := hm_nf hF c57
        refine lv_iload hx hb dX8_different_60 (lv_at hl 3 rfl) ?_
        refine lv_aload_n hx hb dX8_different_62 rfl (lv_at hl 0 rfl) ?_
        refine lv_iload hx hb dX8_different_63 (lv_at hl 2 rfl) ?_
        refine lv_iload hx hb dX8_different_65 (lv_at hl 4 rfl) ?_
        obtain ⟨t3, ht3, hF⟩ := hm_bd hF
        refine hm_vi (As := [.int v4, .int v6]) S X mw_X8_areAlike hw_4_238 (c_X8_areAlike l g a A Z v4 v6 t3 ht3) hm_same hm_same rfl rfl rfl ⟨rfl, rfl, Nat.le_of_ble_eq_true rfl, Nat.le_of_ble_eq_true rfl⟩ rfl hl.1 rfl (Nat.le_of_ble_eq_true rfl) dX8_different_67 ⟨Nat.zero_le _, Nat.zero_le _⟩ (fun H locs X => ?_)
        refine lv_if_eq (tgt := 77) hx hb dX8_different_70 (by decide) (fun c70 => ?_) (fun c70 => ?_)
        · have hF := hm_if hF c70
          refine lv_iconst (v := 0) hx hb dX8_different_77 (by decide) ?_
          exact hl78 0 v5 v4 v6 hF _ _ X _ (lv_sub hl [0, 1, 2, 4] rfl)
        · have hF := hm_nf hF c70
          refine lv_iconst (v := 1) hx hb dX8_different_73 (by decide) ?_
          refine lv_goto (tgt := 78) hx hb dX8_different_74 (by decide) ?_
          exact hl78 1 v5 v4 v6 hF _ _ X _ (lv_sub hl [0, 1, 2, 4] rfl)
  have hl20 : ∀ (k20 : Nat) (v3 : Int32) (v4 : Int32), f_X8_different_l20 (A 1) (A 2) (A 3) (Z 2) x1 k20 v3 v4 = some q → ∀ (H : Heap) (locs : List Loc), hm_X g AA s H locs (hm_wMM g a A Z) → ∀ ls : Array Slot, lv_has ls 7 [(0, .ref (a 0)), (2, .int x1), (3, .int v3), (4, .int v4)] → W p l e rm_X8_different s m args below meth c H locs 0 0 (MQ below (hm_Qi g AA (hm_wMM g a A Z) q) args s 0 0 AA) (F0 m 20 ls []) := by
    intro k20
    induction k20 with
    | zero =>
      intro v3 v4 hF
      rw [f_X8_different_l20_z] at hF
      cases hF
    | succ k20 ih20 =>
      have hl102 : ∀ (v3 : Int32) (v4 : Int32), f_X8_different_l102 (fun zv3 zv4 => f_X8_different_l20 (A 1) (A 2) (A 3) (Z 2) x1 k20 zv3 zv4) v3 v4 = some q → ∀ (H : Heap) (locs : List Loc), hm_X g AA s H locs (hm_wMM g a A Z) → ∀ ls : Array Slot, lv_has ls 7 [(0, .ref (a 0)), (2, .int x1), (3, .int v3), (4, .int v4)] → W p l e rm_X8_different s m args below meth c H locs 0 0 (MQ below (hm_Qi g AA (hm_wMM g a A Z) q) args s 0 0 AA) (F0 m 102 ls []) := by
        intro v3 v4 hF H locs X ls hl
        unfold f_X8_different_l102 at hF
        refine lv_iinc (v := (v4 + 1)) (lv' := [(4, .int (v4 + 1)), (0, .ref (a 0)), (2, .int x1), (3, .int v3)]) hx hb dX8_different_102 hl (k := 3) rfl rfl (by decide) rfl (fun ls hl => ?_)
        refine lv_goto (tgt := 20) hx hb dX8_different_105 (by decide) ?_
        exact ih20 v3 (v4 + 1) hF _ _ X _ (lv_sub hl [1, 2, 3, 0] rfl)
      intro v3 v4 hF H locs X ls hl
      rw [f_X8_different_l20_s] at hF
      refine lv_iload hx hb dX8_different_20 (lv_at hl 3 rfl) ?_
      refine lv_aload_n hx hb dX8_different_22 rfl (lv_at hl 0 rfl) ?_
      refine hm_get S X hf_X8_127 0 rfl rfl dX8_different_23 ?_
      refine lv_icmp_ge (tgt := 108) hx hb dX8_different_26 (by decide) (fun c26 => ?_) (fun c26 => ?_)
      · have hF := hm_if hF c26
        refine lv_bipush (v := (-9)) hx hb dX8_different_108 (by decide) ?_
        obtain rfl := Option.some.inj hF
        exact hm_ri S hr hlk X rfl rfl dX8_different_110
      · have hF := hm_nf hF c26
        refine lv_aload_n hx hb dX8_different_29 rfl (lv_at hl 0 rfl) ?_
        refine lv_iload hx hb dX8_different_30 (lv_at hl 3 rfl) ?_
        obtain ⟨t2, ht2, hF⟩ := hm_bd hF
        refine hm_vi (As := [.int v4]) S X mw_X8_firstLike hw_4_234 (c_X8_firstLike l g a A Z v4 t2 ht2) hm_same hm_same rfl rfl rfl ⟨rfl, rfl, Nat.le_of_ble_eq_true rfl, Nat.le_of_ble_eq_true rfl⟩ rfl hl.1 rfl (Nat.le_of_ble_eq_true rfl) dX8_different_32 ⟨Nat.zero_le _, Nat.zero_le _⟩ (fun H locs X => ?_)
        refine lv_iload hx hb dX8_different_35 (lv_at hl 3 rfl) ?_
        refine lv_icmp_ne (tgt := 102) hx hb dX8_different_37 (by decide) (fun c37 => ?_) (fun c37 => ?_)
        · have hF := hm_nf hF c37
          exact hl102 v3 v4 hF _ _ X _ (lv_sub hl [0, 1, 2, 3] rfl)
        · have hF := hm_if hF c37
          refine lv_iload_n hx hb dX8_different_40 rfl (lv_at hl 2 rfl) ?_
          refine lv_if_ne (tgt := 99) hx hb dX8_different_41 (by decide) (fun c41 => ?_) (fun c41 => ?_)
          · have hF := hm_nf hF c41
            refine lv_iinc (v := (v3 + (-1))) (lv' := [(3, .int (v3 + (-1))), (0, .ref (a 0)), (2, .int x1), (4, .int v4)]) hx hb dX8_different_99 hl (k := 2) rfl rfl (by decide) rfl (fun ls hl => ?_)
            exact hl102 (v3 + (-1)) v4 hF _ _ X _ (lv_sub hl [1, 2, 0, 3] rfl)
          · have hF := hm_if hF c41
            refine lv_iconst (v := 0) hx hb dX8_different_44 (by decide) ?_
            refine lv_istore (lv' := [(5, .int 0), (0, .ref (a 0)), (2, .int x1), (3, .int v3), (4, .int v4)]) hx hb dX8_different_45 hl (by decide) rfl (fun ls hl => ?_)
            refine lv_iload hx hb dX8_different_47 (lv_at hl 4 rfl) ?_
            refine lv_istore (lv' := [(6, .int v4), (5, .int 0), (0, .ref (a 0)), (2, .int x1), (3, .int v3), (4, .int v4)]) hx hb dX8_different_49 hl (by decide) rfl (fun ls hl => ?_)
            exact hl51 hm_fu v4 0 v4 hF _ _ X _ (lv_sub hl [2, 3, 5, 1, 0] rfl)
  unfold f_X8_different at hF
  refine lv_iload_n hx hb dX8_different_0 rfl (lv_at hl 1 rfl) ?_
  refine lv_if_lt (tgt := 13) hx hb dX8_different_1 (by decide) (fun c1 => ?_) (fun c1 => ?_)
  · have hF := hm_if hF c1
    refine lv_iconst (v := (-1)) hx hb dX8_different_13 (by decide) ?_
    obtain rfl := Option.some.inj hF
    exact hm_ri S hr hlk X rfl rfl dX8_different_14
  · have hF := hm_nf hF c1
    refine lv_iload_n hx hb dX8_different_4 rfl (lv_at hl 2 rfl) ?_
    refine lv_iconst (v := 0) hx hb dX8_different_5 (by decide) ?_
    refine lv_iconst (v := 1) hx hb dX8_different_6 (by decide) ?_
    obtain ⟨t1, ht1, hF⟩ := hm_bd hF
    refine hm_si S X mw_X8_in hw_4_193 (c_X8_in l g x1 0 1 t1 ht1) (List.Perm.refl _) (List.Perm.refl _) ⟨rfl, rfl, Nat.le_of_ble_eq_true rfl, Nat.le_of_ble_eq_true rfl⟩ rfl hl.1 rfl (Nat.le_of_ble_eq_true rfl) dX8_different_7 ⟨Nat.zero_le _, Nat.zero_le _⟩ (fun H locs X => ?_)
    refine lv_if_ne (tgt := 15) hx hb dX8_different_10 (by decide) (fun c10 => ?_) (fun c10 => ?_)
    · have hF := hm_nf hF c10
      refine lv_iload_n hx hb dX8_different_15 rfl (lv_at hl 1 rfl) ?_
      refine lv_istore_n (lv' := [(3, .int x0), (0, .ref (a 0)), (1, .int x0), (2, .int x1)]) hx hb dX8_different_16 rfl hl (by decide) rfl (fun ls hl => ?_)
      refine lv_iconst (v := 0) hx hb dX8_different_17 (by decide) ?_
      refine lv_istore (lv' := [(4, .int 0), (3, .int x0), (0, .ref (a 0)), (1, .int x0), (2, .int x1)]) hx hb dX8_different_18 hl (by decide) rfl (fun ls hl => ?_)
      exact hl20 hm_fu x0 0 hF _ _ X _ (lv_sub hl [2, 4, 1, 0] rfl)
    · have hF := hm_if hF c10
      refine lv_iconst (v := (-1)) hx hb dX8_different_13 (by decide) ?_
      obtain rfl := Option.some.inj hF
      exact hm_ri S hr hlk X rfl rfl dX8_different_14
def f_X8_isPlace (Z_3 : Int32) (x0 : Int32)  : Option (Int32) :=
  (f_X8_in x0 0 (Z_3 - 1)).bind fun t1 =>
  (hm_bl t1).bind fun t2 =>
  some (t1)
abbrev rm_X8_isPlace : Room := { frames := 1, cells := 0, slots := 0, locals := 22 }
set_option maxHeartbeats 4000000 in
set_option maxRecDepth 100000 in
theorem c_X8_isPlace (l : Launch) (g : hm_G) (a : Nat → Nat) (A : Nat → Nat → Int32) (Z : Nat → Int32) (x0 : Int32) (q : Int32) (hF : f_X8_isPlace (Z 3) x0 = some q) : hm_Mi l yX8_isPlace (Cond.code yX8_isPlace cX8_isPlace 2 (some .boolean) :: hm_W) rm_X8_isPlace g [.ref (a 0), .int x0] (hm_wMM g a A Z) (hm_wMM g a A Z) q := by
  refine hm_ofi [(0, .ref (a 0)), (1, .int x0)] (by decide) (own := RX8) rfl (Nat.le_of_ble_eq_true rfl) rfl rfl ?_
  intro p e s m args below meth c AA S hr hlk X ls hl
  have hx := S.1
  have hb := S.2.1
  have hown := S.2.2.2.1
  have hts := S.2.2.2.2
  unfold f_X8_isPlace at hF
  refine lv_iload_n hx hb dX8_isPlace_0 rfl (lv_at hl 1 rfl) ?_
  refine lv_iconst (v := 0) hx hb dX8_isPlace_1 (by decide) ?_
  refine lv_aload_n hx hb dX8_isPlace_2 rfl (lv_at hl 0 rfl) ?_
  refine hm_get S X hf_X8_117 0 rfl rfl dX8_isPlace_3 ?_
  refine lv_iconst (v := 1) hx hb dX8_isPlace_6 (by decide) ?_
  refine lv_isub hx hb dX8_isPlace_7 ?_
  obtain ⟨t1, ht1, hF⟩ := hm_bd hF
  refine hm_si S X mw_X8_in hw_4_193 (c_X8_in l g x0 0 ((Z 3) - 1) t1 ht1) (List.Perm.refl _) (List.Perm.refl _) ⟨rfl, rfl, Nat.le_of_ble_eq_true rfl, Nat.le_of_ble_eq_true rfl⟩ rfl hl.1 rfl (Nat.le_of_ble_eq_true rfl) dX8_isPlace_8 ⟨Nat.zero_le _, Nat.zero_le _⟩ (fun H locs X => ?_)
  obtain ⟨t2, ht2, hF⟩ := hm_bd hF
  obtain rfl := Option.some.inj hF
  exact hm_rz S hr hlk X rfl rfl (hm_bl_z ht2) dX8_isPlace_11
def f_X8_place_l71 (A_4 : Nat → Int32) (A_6 : Nat → Int32) (x0 : Int32) (x1 : Int32) (v3 : Int32) : Option (Int32) :=
  if x1 = 0 then (
  (hm_rd 104 A_4 x0).bind fun t7 =>
  some (t7))
  else (
  if x1 = 1 then (
  some (v3))
  else (
  (hm_rd 104 A_6 x0).bind fun t6 =>
  if t6 = 0 then (
  some (0))
  else (
  some (1))))
def f_X8_place_l63 (J34 : Int32 → Int32 → Option (Int32)) (s63_0 : Int32) (s63_1 : Int32) (v4 : Int32) : Option (Int32) :=
  J34 (s63_1 + s63_0) (v4 + 1)
def f_X8_place_l34 (A_1 : Nat → Int32) (A_4 : Nat → Int32) (A_5 : Nat → Int32) (A_6 : Nat → Int32) (x0 : Int32) (x1 : Int32) : Nat → Int32 → Int32 → Option (Int32)
  | 0, _, _ => none
  | k + 1, v3, v4 =>
  (hm_rd 104 A_5 x0).bind fun t5 =>
  if t5 ≤ v4 then (
  f_X8_place_l71 A_4 A_6 x0 x1 v3)
  else (
  (hm_rd 200 A_1 v4).bind fun t8 =>
  if t8 = 47 then (
  f_X8_place_l63 (fun zv3 zv4 => f_X8_place_l34 A_1 A_4 A_5 A_6 x0 x1 k zv3 zv4) 0 v3 v4)
  else (
  f_X8_place_l63 (fun zv3 zv4 => f_X8_place_l34 A_1 A_4 A_5 A_6 x0 x1 k zv3 zv4) 1 v3 v4))
theorem f_X8_place_l34_s (A_1 : Nat → Int32) (A_4 : Nat → Int32) (A_5 : Nat → Int32) (A_6 : Nat → Int32) (x0 : Int32) (x1 : Int32) (k : Nat) (v3 : Int32) (v4 : Int32) : f_X8_place_l34 A_1 A_4 A_5 A_6 x0 x1 (k + 1) v3 v4 =
  (hm_rd 104 A_5 x0).bind fun t5 =>
  if t5 ≤ v4 then (
  f_X8_place_l71 A_4 A_6 x0 x1 v3)
  else (
  (hm_rd 200 A_1 v4).bind fun t8 =>
  if t8 = 47 then (
  f_X8_place_l63 (fun zv3 zv4 => f_X8_place_l34 A_1 A_4 A_5 A_6 x0 x1 k zv3 zv4) 0 v3 v4)
  else (
  f_X8_place_l63 (fun zv3 zv4 => f_X8_place_l34 A_1 A_4 A_5 A_6 x0 x1 k zv3 zv4) 1 v3 v4)) := rfl
theorem f_X8_place_l34_z (A_1 : Nat → Int32) (A_4 : Nat → Int32) (A_5 : Nat → Int32) (A_6 : Nat → Int32) (x0 : Int32) (x1 : Int32) (v3 : Int32) (v4 : Int32) : f_X8_place_l34 A_1 A_4 A_5 A_6 x0 x1 0 v3 v4 = none := rfl
def f_X8_place (A_1 : Nat → Int32) (A_2 : Nat → Int32) (A_4 : Nat → Int32) (A_5 : Nat → Int32) (A_6 : Nat → Int32) (Z_3 : Int32) (x0 : Int32) (x1 : Int32)  : Option (Int32) :=
  (f_X8_isPlace Z_3 x0).bind fun t1 =>
  if t1 = 0 then (
  some ((-1)))
  else (
  (f_X8_in x1 0 2).bind fun t2 =>
  if t2 = 0 then (
  some ((-1)))
  else (
  (hm_rd 104 A_4 x0).bind fun t3 =>
  (hm_rd 30 A_2 t3).bind fun t4 =>
  f_X8_place_l34 A_1 A_4 A_5 A_6 x0 x1 hm_fu 0 t4))
abbrev rm_X8_place : Room := { frames := 2, cells := 0, slots := 0, locals := 43 }
set_option maxHeartbeats 4000000 in
set_option maxRecDepth 100000 in
theorem c_X8_place (l : Launch) (g : hm_G) (a : Nat → Nat) (A : Nat → Nat → Int32) (Z : Nat → Int32) (x0 : Int32) (x1 : Int32) (q : Int32) (hF : f_X8_place (A 1) (A 2) (A 4) (A 5) (A 6) (Z 3) x0 x1 = some q) : hm_Mi l yX8_place (Cond.code yX8_place cX8_place 5 (some .int) :: hm_W) rm_X8_place g [.ref (a 0), .int x0, .int x1] (hm_wMM g a A Z) (hm_wMM g a A Z) q := by
  refine hm_ofi [(0, .ref (a 0)), (1, .int x0), (2, .int x1)] (by decide) (own := RX8) rfl (Nat.le_of_ble_eq_true rfl) rfl rfl ?_
  intro p e s m args below meth c AA S hr hlk X ls hl
  have hx := S.1
  have hb := S.2.1
  have hown := S.2.2.2.1
  have hts := S.2.2.2.2
  have hl71 : ∀ (v3 : Int32), f_X8_place_l71 (A 4) (A 6) x0 x1 v3 = some q → ∀ (H : Heap) (locs : List Loc), hm_X g AA s H locs (hm_wMM g a A Z) → ∀ ls : Array Slot, lv_has ls 5 [(0, .ref (a 0)), (1, .int x0), (2, .int x1), (3, .int v3)] → W p l e rm_X8_place s m args below meth c H locs 0 0 (MQ below (hm_Qi g AA (hm_wMM g a A Z) q) args s 0 0 AA) (F0 m 71 ls []) := by
    intro v3 hF H locs X ls hl
    unfold f_X8_place_l71 at hF
    refine lv_iload_n hx hb dX8_place_71 rfl (lv_at hl 2 rfl) ?_
    refine lv_if_ne (tgt := 84) hx hb dX8_place_72 (by decide) (fun c72 => ?_) (fun c72 => ?_)
    · have hF := hm_nf hF c72
      refine lv_iload_n hx hb dX8_place_84 rfl (lv_at hl 2 rfl) ?_
      refine lv_iconst (v := 1) hx hb dX8_place_85 (by decide) ?_
      refine lv_icmp_ne (tgt := 93) hx hb dX8_place_86 (by decide) (fun c86 => ?_) (fun c86 => ?_)
      · have hF := hm_nf hF c86
        refine lv_aload_n hx hb dX8_place_93 rfl (lv_at hl 0 rfl) ?_
        refine hm_get S X hf_X8_28 0 rfl rfl dX8_place_94 ?_
        refine lv_iload_n hx hb dX8_place_97 rfl (lv_at hl 1 rfl) ?_
        obtain ⟨t6, ht6, hF⟩ := hm_bd hF
        refine hm_zald S X ht6 7 rfl dX8_place_98 ?_
        refine lv_if_eq (tgt := 106) hx hb dX8_place_99 (by decide) (fun c99 => ?_) (fun c99 => ?_)
        · have hF := hm_if hF c99
          refine lv_iconst (v := 0) hx hb dX8_place_106 (by decide) ?_
          obtain rfl := Option.some.inj hF
          exact hm_ri S hr hlk X rfl rfl dX8_place_107
        · have hF := hm_nf hF c99
          refine lv_iconst (v := 1) hx hb dX8_place_102 (by decide) ?_
          refine lv_goto (tgt := 107) hx hb dX8_place_103 (by decide) ?_
          obtain rfl := Option.some.inj hF
          exact hm_ri S hr hlk X rfl rfl dX8_place_107
      · have hF := hm_if hF c86
        refine lv_iload_n hx hb dX8_place_89 rfl (lv_at hl 3 rfl) ?_
        refine lv_goto (tgt := 107) hx hb dX8_place_90 (by decide) ?_
        obtain rfl := Option.some.inj hF
        exact hm_ri S hr hlk X rfl rfl dX8_place_107
    · have hF := hm_if hF c72
      refine lv_aload_n hx hb dX8_place_75 rfl (lv_at hl 0 rfl) ?_
      refine hm_get S X hf_X8_22 0 rfl rfl dX8_place_76 ?_
      refine lv_iload_n hx hb dX8_place_79 rfl (lv_at hl 1 rfl) ?_
      obtain ⟨t7, ht7, hF⟩ := hm_bd hF
      refine hm_iald S X ht7 5 rfl dX8_place_80 ?_
      refine lv_goto (tgt := 107) hx hb dX8_place_81 (by decide) ?_
      obtain rfl := Option.some.inj hF
      exact hm_ri S hr hlk X rfl rfl dX8_place_107
  have hl34 : ∀ (k34 : Nat) (v3 : Int32) (v4 : Int32), f_X8_place_l34 (A 1) (A 4) (A 5) (A 6) x0 x1 k34 v3 v4 = some q → ∀ (H : Heap) (locs : List Loc), hm_X g AA s H locs (hm_wMM g a A Z) → ∀ ls : Array Slot, lv_has ls 5 [(0, .ref (a 0)), (1, .int x0), (2, .int x1), (3, .int v3), (4, .int v4)] → W p l e rm_X8_place s m args below meth c H locs 0 0 (MQ below (hm_Qi g AA (hm_wMM g a A Z) q) args s 0 0 AA) (F0 m 34 ls []) := by
    intro k34
    induction k34 with
    | zero =>
      intro v3 v4 hF
      rw [f_X8_place_l34_z] at hF
      cases hF
    | succ k34 ih34 =>
      have hl63 : ∀ (s63_0 : Int32) (s63_1 : Int32) (v4 : Int32), f_X8_place_l63 (fun zv3 zv4 => f_X8_place_l34 (A 1) (A 4) (A 5) (A 6) x0 x1 k34 zv3 zv4) s63_0 s63_1 v4 = some q → ∀ (H : Heap) (locs : List Loc), hm_X g AA s H locs (hm_wMM g a A Z) → ∀ ls : Array Slot, lv_has ls 5 [(0, .ref (a 0)), (1, .int x0), (2, .int x1), (4, .int v4)] → W p l e rm_X8_place s m args below meth c H locs 0 0 (MQ below (hm_Qi g AA (hm_wMM g a A Z) q) args s 0 0 AA) (F0 m 63 ls [.int s63_0, .int s63_1]) := by
        intro s63_0 s63_1 v4 hF H locs X ls hl
        unfold f_X8_place_l63 at hF
        refine lv_iadd hx hb dX8_place_63 ?_
        refine lv_istore_n (lv' := [(3, .int (s63_1 + s63_0)), (0, .ref (a 0)), (1, .int x0), (2, .int x1), (4, .int v4)]) hx hb dX8_place_64 rfl hl (by decide) rfl (fun ls hl => ?_)
        refine lv_iinc (v := (v4 + 1)) (lv' := [(4, .int (v4 + 1)), (3, .int (s63_1 + s63_0)), (0, .ref (a 0)), (1, .int x0), (2, .int x1)]) hx hb dX8_place_65 hl (k := 4) rfl rfl (by decide) rfl (fun ls hl => ?_)
        refine lv_goto (tgt := 34) hx hb dX8_place_68 (by decide) ?_
        exact ih34 (s63_1 + s63_0) (v4 + 1) hF _ _ X _ (lv_sub hl [2, 3, 4, 1, 0] rfl)
      intro v3 v4 hF H locs X ls hl
      rw [f_X8_place_l34_s] at hF
      refine lv_iload hx hb dX8_place_34 (lv_at hl 4 rfl) ?_
      refine lv_aload_n hx hb dX8_place_36 rfl (lv_at hl 0 rfl) ?_
      refine hm_get S X hf_X8_25 0 rfl rfl dX8_place_37 ?_
      refine lv_iload_n hx hb dX8_place_40 rfl (lv_at hl 1 rfl) ?_
      obtain ⟨t5, ht5, hF⟩ := hm_bd hF
      refine hm_iald S X ht5 6 rfl dX8_place_41 ?_
      refine lv_icmp_ge (tgt := 71) hx hb dX8_place_42 (by decide) (fun c42 => ?_) (fun c42 => ?_)
      · have hF := hm_if hF c42
        exact hl71 v3 hF _ _ X _ (lv_sub hl [0, 1, 2, 3] rfl)
      · have hF := hm_nf hF c42
        refine lv_iload_n hx hb dX8_place_45 rfl (lv_at hl 3 rfl) ?_
        refine lv_aload_n hx hb dX8_place_46 rfl (lv_at hl 0 rfl) ?_
        refine hm_get S X hf_X8_13 0 rfl rfl dX8_place_47 ?_
        refine lv_iload hx hb dX8_place_50 (lv_at hl 4 rfl) ?_
        obtain ⟨t8, ht8, hF⟩ := hm_bd hF
        refine hm_iald S X ht8 2 rfl dX8_place_52 ?_
        refine lv_bipush (v := 47) hx hb dX8_place_53 (by decide) ?_
        refine lv_icmp_ne (tgt := 62) hx hb dX8_place_55 (by decide) (fun c55 => ?_) (fun c55 => ?_)
        · have hF := hm_nf hF c55
          refine lv_iconst (v := 1) hx hb dX8_place_62 (by decide) ?_
          exact hl63 1 v3 v4 hF _ _ X _ (lv_sub hl [0, 1, 2, 4] rfl)
        · have hF := hm_if hF c55
          refine lv_iconst (v := 0) hx hb dX8_place_58 (by decide) ?_
          refine lv_goto (tgt := 63) hx hb dX8_place_59 (by decide) ?_
          exact hl63 0 v3 v4 hF _ _ X _ (lv_sub hl [0, 1, 2, 4] rfl)
  unfold f_X8_place at hF
  refine lv_aload_n hx hb dX8_place_0 rfl (lv_at hl 0 rfl) ?_
  refine lv_iload_n hx hb dX8_place_1 rfl (lv_at hl 1 rfl) ?_
  obtain ⟨t1, ht1, hF⟩ := hm_bd hF
  refine hm_vi (As := [.int x0]) S X mw_X8_isPlace hw_5_6 (c_X8_isPlace l g a A Z x0 t1 ht1) hm_same hm_same rfl rfl rfl ⟨rfl, rfl, Nat.le_of_ble_eq_true rfl, Nat.le_of_ble_eq_true rfl⟩ rfl hl.1 rfl (Nat.le_of_ble_eq_true rfl) dX8_place_2 ⟨Nat.zero_le _, Nat.zero_le _⟩ (fun H locs X => ?_)
  refine lv_if_eq (tgt := 17) hx hb dX8_place_5 (by decide) (fun c5 => ?_) (fun c5 => ?_)
  · have hF := hm_if hF c5
    refine lv_iconst (v := (-1)) hx hb dX8_place_17 (by decide) ?_
    obtain rfl := Option.some.inj hF
    exact hm_ri S hr hlk X rfl rfl dX8_place_18
  · have hF := hm_nf hF c5
    refine lv_iload_n hx hb dX8_place_8 rfl (lv_at hl 2 rfl) ?_
    refine lv_iconst (v := 0) hx hb dX8_place_9 (by decide) ?_
    refine lv_iconst (v := 2) hx hb dX8_place_10 (by decide) ?_
    obtain ⟨t2, ht2, hF⟩ := hm_bd hF
    refine hm_si S X mw_X8_in hw_4_193 (c_X8_in l g x1 0 2 t2 ht2) (List.Perm.refl _) (List.Perm.refl _) ⟨rfl, rfl, Nat.le_of_ble_eq_true rfl, Nat.le_of_ble_eq_true rfl⟩ rfl hl.1 rfl (Nat.le_of_ble_eq_true rfl) dX8_place_11 ⟨Nat.zero_le _, Nat.zero_le _⟩ (fun H locs X => ?_)
    refine lv_if_ne (tgt := 19) hx hb dX8_place_14 (by decide) (fun c14 => ?_) (fun c14 => ?_)
    · have hF := hm_nf hF c14
      refine lv_iconst (v := 0) hx hb dX8_place_19 (by decide) ?_
      refine lv_istore_n (lv' := [(3, .int 0), (0, .ref (a 0)), (1, .int x0), (2, .int x1)]) hx hb dX8_place_20 rfl hl (by decide) rfl (fun ls hl => ?_)
      refine lv_aload_n hx hb dX8_place_21 rfl (lv_at hl 1 rfl) ?_
      refine hm_get S X hf_X8_16 0 rfl rfl dX8_place_22 ?_
      refine lv_aload_n hx hb dX8_place_25 rfl (lv_at hl 1 rfl) ?_
      refine hm_get S X hf_X8_22 0 rfl rfl dX8_place_26 ?_
      refine lv_iload_n hx hb dX8_place_29 rfl (lv_at hl 2 rfl) ?_
      obtain ⟨t3, ht3, hF⟩ := hm_bd hF
      refine hm_iald S X ht3 5 rfl dX8_place_30 ?_
      obtain ⟨t4, ht4, hF⟩ := hm_bd hF
      refine hm_iald S X ht4 3 rfl dX8_place_31 ?_
      refine lv_istore (lv' := [(4, .int t4), (3, .int 0), (0, .ref (a 0)), (1, .int x0), (2, .int x1)]) hx hb dX8_place_32 hl (by decide) rfl (fun ls hl => ?_)
      exact hl34 hm_fu 0 t4 hF _ _ X _ (lv_sub hl [2, 3, 4, 1, 0] rfl)
    · have hF := hm_if hF c14
      refine lv_iconst (v := (-1)) hx hb dX8_place_17 (by decide) ?_
      obtain rfl := Option.some.inj hF
      exact hm_ri S hr hlk X rfl rfl dX8_place_18
def f_X8_notes_l51 (A_7 : Nat → Int32) : Nat → Int32 → (Nat → Int32) → Int32 → Option ((Nat → Int32) × Int32)
  | 0, _, _, _ => none
  | k + 1, v1, wA_8, wZ_4 =>
  if (38 : Int32) ≤ v1 then (
  some (wA_8, (wZ_4 + 1)))
  else (
  (hm_rd 38 A_7 v1).bind fun t1 =>
  (hm_wr 380 wA_8 ((38 * wZ_4) + v1) t1).bind fun f2 =>
  f_X8_notes_l51 A_7 k (v1 + 1) f2 wZ_4)
theorem f_X8_notes_l51_s (A_7 : Nat → Int32) (k : Nat) (v1 : Int32) (wA_8 : Nat → Int32) (wZ_4 : Int32) : f_X8_notes_l51 A_7 (k + 1) v1 wA_8 wZ_4 =
  if (38 : Int32) ≤ v1 then (
  some (wA_8, (wZ_4 + 1)))
  else (
  (hm_rd 38 A_7 v1).bind fun t1 =>
  (hm_wr 380 wA_8 ((38 * wZ_4) + v1) t1).bind fun f2 =>
  f_X8_notes_l51 A_7 k (v1 + 1) f2 wZ_4) := rfl
theorem f_X8_notes_l51_z (A_7 : Nat → Int32) (v1 : Int32) (wA_8 : Nat → Int32) (wZ_4 : Int32) : f_X8_notes_l51 A_7 0 v1 wA_8 wZ_4 = none := rfl
def f_X8_notes_l49 (A_7 : Nat → Int32) (wA_8 : Nat → Int32) (wZ_4 : Int32) : Option ((Nat → Int32) × Int32) :=
  f_X8_notes_l51 A_7 hm_fu 0 wA_8 wZ_4
def f_X8_notes_l39 (A_7 : Nat → Int32) (Z_4 : Int32) (wA_8 : Nat → Int32) : Option ((Nat → Int32) × Int32) :=
  f_X8_notes_l49 A_7 wA_8 (Z_4 - 1)
def f_X8_notes_l11 (A_7 : Nat → Int32) (Z_4 : Int32) : Nat → Int32 → (Nat → Int32) → Option ((Nat → Int32) × Int32)
  | 0, _, _ => none
  | k + 1, v1, wA_8 =>
  if (342 : Int32) ≤ v1 then (
  f_X8_notes_l39 A_7 Z_4 wA_8)
  else (
  (hm_rd 380 wA_8 (v1 + 38)).bind fun t3 =>
  (hm_wr 380 wA_8 v1 t3).bind fun f4 =>
  f_X8_notes_l11 A_7 Z_4 k (v1 + 1) f4)
theorem f_X8_notes_l11_s (A_7 : Nat → Int32) (Z_4 : Int32) (k : Nat) (v1 : Int32) (wA_8 : Nat → Int32) : f_X8_notes_l11 A_7 Z_4 (k + 1) v1 wA_8 =
  if (342 : Int32) ≤ v1 then (
  f_X8_notes_l39 A_7 Z_4 wA_8)
  else (
  (hm_rd 380 wA_8 (v1 + 38)).bind fun t3 =>
  (hm_wr 380 wA_8 v1 t3).bind fun f4 =>
  f_X8_notes_l11 A_7 Z_4 k (v1 + 1) f4) := rfl
theorem f_X8_notes_l11_z (A_7 : Nat → Int32) (Z_4 : Int32) (v1 : Int32) (wA_8 : Nat → Int32) : f_X8_notes_l11 A_7 Z_4 0 v1 wA_8 = none := rfl
def f_X8_notes (A_7 : Nat → Int32) (A_8 : Nat → Int32) (Z_4 : Int32)  : Option ((Nat → Int32) × Int32) :=
  if Z_4 = 10 then (
  f_X8_notes_l11 A_7 Z_4 hm_fu 0 A_8)
  else (
  f_X8_notes_l49 A_7 A_8 Z_4)
abbrev rm_X8_notes : Room := { frames := 0, cells := 0, slots := 0, locals := 0 }
set_option maxHeartbeats 4000000 in
set_option maxRecDepth 100000 in
theorem c_X8_notes (l : Launch) (g : hm_G) (a : Nat → Nat) (A : Nat → Nat → Int32) (Z : Nat → Int32) (q : (Nat → Int32) × Int32) (hF : f_X8_notes (A 7) (A 8) (Z 4) = some q) : hm_Mv l yX8_notes (Cond.code yX8_notes cX8_notes 2 none :: hm_W) rm_X8_notes g [.ref (a 0)] (hm_wMM g a A Z) (hm_wMM g a (hm_up A 8 q.1) (hm_up Z 4 q.2)) := by
  refine hm_ofv [(0, .ref (a 0))] (by decide) (own := RX8) rfl (Nat.le_of_ble_eq_true rfl) rfl rfl ?_
  intro p e s m args below meth c AA S hr hlk X ls hl
  have hx := S.1
  have hb := S.2.1
  have hown := S.2.2.2.1
  have hts := S.2.2.2.2
  have hl51 : ∀ (k51 : Nat) (v1 : Int32) (wA_8 : Nat → Int32) (wZ_4 : Int32), f_X8_notes_l51 (A 7) k51 v1 wA_8 wZ_4 = some q → ∀ (H : Heap) (locs : List Loc), hm_X g AA s H locs (hm_wMM g a (hm_up A 8 wA_8) (hm_up Z 4 wZ_4)) → ∀ ls : Array Slot, lv_has ls 2 [(0, .ref (a 0)), (1, .int v1)] → W p l e rm_X8_notes s m args below meth c H locs 0 0 (MQ below (hm_Qv g AA (hm_wMM g a (hm_up A 8 q.1) (hm_up Z 4 q.2))) args s 0 0 AA) (F0 m 51 ls []) := by
    intro k51
    induction k51 with
    | zero =>
      intro v1 wA_8 wZ_4 hF
      rw [f_X8_notes_l51_z] at hF
      cases hF
    | succ k51 ih51 =>
      intro v1 wA_8 wZ_4 hF H locs X ls hl
      rw [f_X8_notes_l51_s] at hF
      refine lv_iload_n hx hb dX8_notes_51 rfl (lv_at hl 1 rfl) ?_
      refine lv_bipush (v := 38) hx hb dX8_notes_52 (by decide) ?_
      refine lv_icmp_ge (tgt := 83) hx hb dX8_notes_54 (by decide) (fun c54 => ?_) (fun c54 => ?_)
      · have hF := hm_if hF c54
        refine lv_aload_n hx hb dX8_notes_83 rfl (lv_at hl 0 rfl) ?_
        refine lv_dup hx hb dX8_notes_84 rfl ?_
        refine hm_get S X hf_X8_89 0 rfl rfl dX8_notes_85 ?_
        refine lv_iconst (v := 1) hx hb dX8_notes_88 (by decide) ?_
        refine lv_iadd hx hb dX8_notes_89 ?_
        refine hm_put S X hf_X8_89 hg_X8_undos 0 rfl rfl rfl (Nat.le_of_ble_eq_true rfl) dX8_notes_90 (fun H locs X => ?_)
        have X := X.to (ws' := (hm_wMM g a (hm_up A 8 wA_8) (hm_up Z 4 (wZ_4 + 1)))) rfl
        obtain rfl := Option.some.inj hF
        exact hm_rv S hr hlk X rfl dX8_notes_93
      · have hF := hm_nf hF c54
        refine lv_aload_n hx hb dX8_notes_57 rfl (lv_at hl 0 rfl) ?_
        refine hm_get S X hf_X8_35 0 rfl rfl dX8_notes_58 ?_
        refine lv_bipush (v := 38) hx hb dX8_notes_61 (by decide) ?_
        refine lv_aload_n hx hb dX8_notes_63 rfl (lv_at hl 0 rfl) ?_
        refine hm_get S X hf_X8_89 0 rfl rfl dX8_notes_64 ?_
        refine lv_imul hx hb dX8_notes_67 ?_
        refine lv_iload_n hx hb dX8_notes_68 rfl (lv_at hl 1 rfl) ?_
        refine lv_iadd hx hb dX8_notes_69 ?_
        refine lv_aload_n hx hb dX8_notes_70 rfl (lv_at hl 0 rfl) ?_
        refine hm_get S X hf_X8_32 0 rfl rfl dX8_notes_71 ?_
        refine lv_iload_n hx hb dX8_notes_74 rfl (lv_at hl 1 rfl) ?_
        obtain ⟨t1, ht1, hF⟩ := hm_bd hF
        refine hm_iald S X ht1 8 rfl dX8_notes_75 ?_
        obtain ⟨f2, hf2, hF⟩ := hm_bd hF
        refine hm_iast S X hf2 9 rfl dX8_notes_76 (fun H locs X => ?_)
        have X := X.to (ws' := (hm_wMM g a (hm_up A 8 f2) (hm_up Z 4 wZ_4))) rfl
        refine lv_iinc (v := (v1 + 1)) (lv' := [(1, .int (v1 + 1)), (0, .ref (a 0))]) hx hb dX8_notes_77 hl (k := 1) rfl rfl (by decide) rfl (fun ls hl => ?_)
        refine lv_goto (tgt := 51) hx hb dX8_notes_80 (by decide) ?_
        exact ih51 (v1 + 1) f2 wZ_4 hF _ _ X _ (lv_sub hl [1, 0] rfl)
  have hl49 : ∀ (wA_8 : Nat → Int32) (wZ_4 : Int32), f_X8_notes_l49 (A 7) wA_8 wZ_4 = some q → ∀ (H : Heap) (locs : List Loc), hm_X g AA s H locs (hm_wMM g a (hm_up A 8 wA_8) (hm_up Z 4 wZ_4)) → ∀ ls : Array Slot, lv_has ls 2 [(0, .ref (a 0))] → W p l e rm_X8_notes s m args below meth c H locs 0 0 (MQ below (hm_Qv g AA (hm_wMM g a (hm_up A 8 q.1) (hm_up Z 4 q.2))) args s 0 0 AA) (F0 m 49 ls []) := by
    intro wA_8 wZ_4 hF H locs X ls hl
    unfold f_X8_notes_l49 at hF
    refine lv_iconst (v := 0) hx hb dX8_notes_49 (by decide) ?_
    refine lv_istore_n (lv' := [(1, .int 0), (0, .ref (a 0))]) hx hb dX8_notes_50 rfl hl (by decide) rfl (fun ls hl => ?_)
    exact hl51 hm_fu 0 wA_8 wZ_4 hF _ _ X _ (lv_sub hl [1, 0] rfl)
  have hl39 : ∀ (wA_8 : Nat → Int32), f_X8_notes_l39 (A 7) (Z 4) wA_8 = some q → ∀ (H : Heap) (locs : List Loc), hm_X g AA s H locs (hm_wMM g a (hm_up A 8 wA_8) Z) → ∀ ls : Array Slot, lv_has ls 2 [(0, .ref (a 0))] → W p l e rm_X8_notes s m args below meth c H locs 0 0 (MQ below (hm_Qv g AA (hm_wMM g a (hm_up A 8 q.1) (hm_up Z 4 q.2))) args s 0 0 AA) (F0 m 39 ls []) := by
    intro wA_8 hF H locs X ls hl
    unfold f_X8_notes_l39 at hF
    refine lv_aload_n hx hb dX8_notes_39 rfl (lv_at hl 0 rfl) ?_
    refine lv_dup hx hb dX8_notes_40 rfl ?_
    refine hm_get S X hf_X8_89 0 rfl rfl dX8_notes_41 ?_
    refine lv_iconst (v := 1) hx hb dX8_notes_44 (by decide) ?_
    refine lv_isub hx hb dX8_notes_45 ?_
    refine hm_put S X hf_X8_89 hg_X8_undos 0 rfl rfl rfl (Nat.le_of_ble_eq_true rfl) dX8_notes_46 (fun H locs X => ?_)
    have X := X.to (ws' := (hm_wMM g a (hm_up A 8 wA_8) (hm_up Z 4 ((Z 4) - 1)))) rfl
    exact hl49 wA_8 ((Z 4) - 1) hF _ _ X _ (lv_sub hl [0] rfl)
  have hl11 : ∀ (k11 : Nat) (v1 : Int32) (wA_8 : Nat → Int32), f_X8_notes_l11 (A 7) (Z 4) k11 v1 wA_8 = some q → ∀ (H : Heap) (locs : List Loc), hm_X g AA s H locs (hm_wMM g a (hm_up A 8 wA_8) Z) → ∀ ls : Array Slot, lv_has ls 2 [(0, .ref (a 0)), (1, .int v1)] → W p l e rm_X8_notes s m args below meth c H locs 0 0 (MQ below (hm_Qv g AA (hm_wMM g a (hm_up A 8 q.1) (hm_up Z 4 q.2))) args s 0 0 AA) (F0 m 11 ls []) := by
    intro k11
    induction k11 with
    | zero =>
      intro v1 wA_8 hF
      rw [f_X8_notes_l11_z] at hF
      cases hF
    | succ k11 ih11 =>
      intro v1 wA_8 hF H locs X ls hl
      rw [f_X8_notes_l11_s] at hF
      refine lv_iload_n hx hb dX8_notes_11 rfl (lv_at hl 1 rfl) ?_
      refine lv_sipush (v := 342) hx hb dX8_notes_12 (by decide) ?_
      refine lv_icmp_ge (tgt := 39) hx hb dX8_notes_15 (by decide) (fun c15 => ?_) (fun c15 => ?_)
      · have hF := hm_if hF c15
        exact hl39 wA_8 hF _ _ X _ (lv_sub hl [0] rfl)
      · have hF := hm_nf hF c15
        refine lv_aload_n hx hb dX8_notes_18 rfl (lv_at hl 0 rfl) ?_
        refine hm_get S X hf_X8_35 0 rfl rfl dX8_notes_19 ?_
        refine lv_iload_n hx hb dX8_notes_22 rfl (lv_at hl 1 rfl) ?_
        refine lv_aload_n hx hb dX8_notes_23 rfl (lv_at hl 0 rfl) ?_
        refine hm_get S X hf_X8_35 0 rfl rfl dX8_notes_24 ?_
        refine lv_iload_n hx hb dX8_notes_27 rfl (lv_at hl 1 rfl) ?_
        refine lv_bipush (v := 38) hx hb dX8_notes_28 (by decide) ?_
        refine lv_iadd hx hb dX8_notes_30 ?_
        obtain ⟨t3, ht3, hF⟩ := hm_bd hF
        refine hm_iald S X ht3 9 rfl dX8_notes_31 ?_
        obtain ⟨f4, hf4, hF⟩ := hm_bd hF
        refine hm_iast S X hf4 9 rfl dX8_notes_32 (fun H locs X => ?_)
        have X := X.to (ws' := (hm_wMM g a (hm_up A 8 f4) Z)) rfl
        refine lv_iinc (v := (v1 + 1)) (lv' := [(1, .int (v1 + 1)), (0, .ref (a 0))]) hx hb dX8_notes_33 hl (k := 1) rfl rfl (by decide) rfl (fun ls hl => ?_)
        refine lv_goto (tgt := 11) hx hb dX8_notes_36 (by decide) ?_
        exact ih11 (v1 + 1) f4 hF _ _ X _ (lv_sub hl [1, 0] rfl)
  unfold f_X8_notes at hF
  refine lv_aload_n hx hb dX8_notes_0 rfl (lv_at hl 0 rfl) ?_
  refine hm_get S X hf_X8_89 0 rfl rfl dX8_notes_1 ?_
  refine lv_bipush (v := 10) hx hb dX8_notes_4 (by decide) ?_
  refine lv_icmp_ne (tgt := 49) hx hb dX8_notes_6 (by decide) (fun c6 => ?_) (fun c6 => ?_)
  · have hF := hm_nf hF c6
    exact hl49 (A 8) (Z 4) hF _ _ (X.to (ws' := (hm_wMM g a (hm_up A 8 (A 8)) (hm_up Z 4 (Z 4)))) rfl) _ (lv_sub hl [0] rfl)
  · have hF := hm_if hF c6
    refine lv_iconst (v := 0) hx hb dX8_notes_9 (by decide) ?_
    refine lv_istore_n (lv' := [(1, .int 0), (0, .ref (a 0))]) hx hb dX8_notes_10 rfl hl (by decide) rfl (fun ls hl => ?_)
    exact hl11 hm_fu 0 (A 8) hF _ _ (X.to (ws' := (hm_wMM g a (hm_up A 8 (A 8)) Z)) rfl) _ (lv_sub hl [1, 0] rfl)
def f_X8_becomes (A_7 : Nat → Int32) (A_8 : Nat → Int32) (Z_4 : Int32) (x0 : Int32) (x1 : Int32)  : Option (Int32 × (Nat → Int32) × (Nat → Int32) × Int32) :=
  (hm_rd 38 A_7 x0).bind fun t1 =>
  if t1 = x1 then (
  some ((-2), A_7, A_8, Z_4))
  else (
  (f_X8_notes A_7 A_8 Z_4).bind fun t2 =>
  (hm_wr 38 A_7 x0 x1).bind fun f3 =>
  some (t1, f3, t2.1, t2.2))
abbrev rm_X8_becomes : Room := { frames := 1, cells := 0, slots := 0, locals := 21 }
set_option maxHeartbeats 4000000 in
set_option maxRecDepth 100000 in
theorem c_X8_becomes (l : Launch) (g : hm_G) (a : Nat → Nat) (A : Nat → Nat → Int32) (Z : Nat → Int32) (x0 : Int32) (x1 : Int32) (q : Int32 × (Nat → Int32) × (Nat → Int32) × Int32) (hF : f_X8_becomes (A 7) (A 8) (Z 4) x0 x1 = some q) : hm_Mi l yX8_becomes (Cond.code yX8_becomes cX8_becomes 4 (some .int) :: hm_W) rm_X8_becomes g [.ref (a 0), .int x0, .int x1] (hm_wMM g a A Z) (hm_wMM g a (hm_up (hm_up A 7 q.2.1) 8 q.2.2.1) (hm_up Z 4 q.2.2.2)) q.1 := by
  refine hm_ofi [(0, .ref (a 0)), (1, .int x0), (2, .int x1)] (by decide) (own := RX8) rfl (Nat.le_of_ble_eq_true rfl) rfl rfl ?_
  intro p e s m args below meth c AA S hr hlk X ls hl
  have hx := S.1
  have hb := S.2.1
  have hown := S.2.2.2.1
  have hts := S.2.2.2.2
  unfold f_X8_becomes at hF
  refine lv_aload_n hx hb dX8_becomes_0 rfl (lv_at hl 0 rfl) ?_
  refine hm_get S X hf_X8_32 0 rfl rfl dX8_becomes_1 ?_
  refine lv_iload_n hx hb dX8_becomes_4 rfl (lv_at hl 1 rfl) ?_
  obtain ⟨t1, ht1, hF⟩ := hm_bd hF
  refine hm_iald S X ht1 8 rfl dX8_becomes_5 ?_
  refine lv_istore_n (lv' := [(3, .int t1), (0, .ref (a 0)), (1, .int x0), (2, .int x1)]) hx hb dX8_becomes_6 rfl hl (by decide) rfl (fun ls hl => ?_)
  refine lv_iload_n hx hb dX8_becomes_7 rfl (lv_at hl 0 rfl) ?_
  refine lv_iload_n hx hb dX8_becomes_8 rfl (lv_at hl 3 rfl) ?_
  refine lv_icmp_ne (tgt := 15) hx hb dX8_becomes_9 (by decide) (fun c9 => ?_) (fun c9 => ?_)
  · have hF := hm_nf hF c9
    refine lv_aload_n hx hb dX8_becomes_15 rfl (lv_at hl 1 rfl) ?_
    obtain ⟨t2, ht2, hF⟩ := hm_bd hF
    refine hm_vv (As := []) S X mw_X8_notes hw_5_21 (c_X8_notes l g a A Z t2 ht2) hm_same hm_same rfl rfl rfl ⟨rfl, rfl, Nat.le_of_ble_eq_true rfl, Nat.le_of_ble_eq_true rfl⟩ rfl hl.1 rfl (Nat.le_of_ble_eq_true rfl) dX8_becomes_16 ⟨Nat.zero_le _, Nat.zero_le _⟩ (fun H locs X => ?_)
    refine lv_aload_n hx hb dX8_becomes_19 rfl (lv_at hl 1 rfl) ?_
    refine hm_get S X hf_X8_32 0 rfl rfl dX8_becomes_20 ?_
    refine lv_iload_n hx hb dX8_becomes_23 rfl (lv_at hl 2 rfl) ?_
    refine lv_iload_n hx hb dX8_becomes_24 rfl (lv_at hl 3 rfl) ?_
    obtain ⟨f3, hf3, hF⟩ := hm_bd hF
    refine hm_iast S X hf3 8 rfl dX8_becomes_25 (fun H locs X => ?_)
    have X := X.to (ws' := (hm_wMM g a (hm_up (hm_up A 7 f3) 8 t2.1) (hm_up Z 4 t2.2))) rfl
    refine lv_iload_n hx hb dX8_becomes_26 rfl (lv_at hl 0 rfl) ?_
    obtain rfl := Option.some.inj hF
    exact hm_ri S hr hlk X rfl rfl dX8_becomes_27
  · have hF := hm_if hF c9
    refine lv_bipush (v := (-2)) hx hb dX8_becomes_12 (by decide) ?_
    obtain rfl := Option.some.inj hF
    exact hm_ri S hr hlk X rfl rfl dX8_becomes_14
def f_X8_widthOf (x0 : Int32)  : Option (Int32) :=
  (f_X8_in x0 97 122).bind fun t1 =>
  if t1 = 0 then (
  (f_X8_markOf x0).bind fun t2 =>
  some ((26 + t2)))
  else (
  some ((x0 - 97)))
abbrev rm_X8_widthOf : Room := { frames := 1, cells := 0, slots := 0, locals := 22 }
set_option maxHeartbeats 4000000 in
set_option maxRecDepth 100000 in
theorem c_X8_widthOf (l : Launch) (g : hm_G) (x0 : Int32) (q : Int32) (hF : f_X8_widthOf x0 = some q) : hm_Mi l yX8_widthOf (Cond.code yX8_widthOf cX8_widthOf 1 (some .int) :: hm_W) rm_X8_widthOf g [.int x0] ([] : va_W) ([] : va_W) q := by
  refine hm_ofi [(0, .int x0)] (by decide) (own := RX8) rfl (Nat.le_of_ble_eq_true rfl) rfl rfl ?_
  intro p e s m args below meth c AA S hr hlk X ls hl
  have hx := S.1
  have hb := S.2.1
  have hown := S.2.2.2.1
  have hts := S.2.2.2.2
  unfold f_X8_widthOf at hF
  refine lv_iload_n hx hb dX8_widthOf_0 rfl (lv_at hl 0 rfl) ?_
  refine lv_bipush (v := 97) hx hb dX8_widthOf_1 (by decide) ?_
  refine lv_bipush (v := 122) hx hb dX8_widthOf_3 (by decide) ?_
  obtain ⟨t1, ht1, hF⟩ := hm_bd hF
  refine hm_si S X mw_X8_in hw_4_193 (c_X8_in l g x0 97 122 t1 ht1) (List.Perm.refl _) (List.Perm.refl _) ⟨rfl, rfl, Nat.le_of_ble_eq_true rfl, Nat.le_of_ble_eq_true rfl⟩ rfl hl.1 rfl (Nat.le_of_ble_eq_true rfl) dX8_widthOf_5 ⟨Nat.zero_le _, Nat.zero_le _⟩ (fun H locs X => ?_)
  refine lv_if_eq (tgt := 18) hx hb dX8_widthOf_8 (by decide) (fun c8 => ?_) (fun c8 => ?_)
  · have hF := hm_if hF c8
    refine lv_bipush (v := 26) hx hb dX8_widthOf_18 (by decide) ?_
    refine lv_iload_n hx hb dX8_widthOf_20 rfl (lv_at hl 0 rfl) ?_
    obtain ⟨t2, ht2, hF⟩ := hm_bd hF
    refine hm_si S X mw_X8_markOf hw_4_215 (c_X8_markOf l g x0 t2 ht2) (List.Perm.refl _) (List.Perm.refl _) ⟨rfl, rfl, Nat.le_of_ble_eq_true rfl, Nat.le_of_ble_eq_true rfl⟩ rfl hl.1 rfl (Nat.le_of_ble_eq_true rfl) dX8_widthOf_21 ⟨Nat.zero_le _, Nat.zero_le _⟩ (fun H locs X => ?_)
    refine lv_iadd hx hb dX8_widthOf_24 ?_
    obtain rfl := Option.some.inj hF
    exact hm_ri S hr hlk X rfl rfl dX8_widthOf_25
  · have hF := hm_nf hF c8
    refine lv_iload_n hx hb dX8_widthOf_11 rfl (lv_at hl 0 rfl) ?_
    refine lv_bipush (v := 97) hx hb dX8_widthOf_12 (by decide) ?_
    refine lv_isub hx hb dX8_widthOf_14 ?_
    refine lv_goto (tgt := 25) hx hb dX8_widthOf_15 (by decide) ?_
    obtain rfl := Option.some.inj hF
    exact hm_ri S hr hlk X rfl rfl dX8_widthOf_25
def f_X8_wide (A_7 : Nat → Int32) (A_8 : Nat → Int32) (Z_4 : Int32) (x0 : Int32) (x1 : Int32)  : Option (Int32 × (Nat → Int32) × (Nat → Int32) × Int32) :=
  (f_X8_isWhole x0).bind fun t1 =>
  if t1 = 0 then (
  some ((-1), A_7, A_8, Z_4))
  else (
  (f_X8_in x1 0 9).bind fun t2 =>
  if t2 = 0 then (
  some ((-1), A_7, A_8, Z_4))
  else (
  (f_X8_widthOf x0).bind fun t3 =>
  (f_X8_becomes A_7 A_8 Z_4 t3 x1).bind fun t4 =>
  some (t4.1, t4.2.1, t4.2.2.1, t4.2.2.2)))
abbrev rm_X8_wide : Room := { frames := 2, cells := 0, slots := 0, locals := 44 }
set_option maxHeartbeats 4000000 in
set_option maxRecDepth 100000 in
theorem c_X8_wide (l : Launch) (g : hm_G) (a : Nat → Nat) (A : Nat → Nat → Int32) (Z : Nat → Int32) (x0 : Int32) (x1 : Int32) (q : Int32 × (Nat → Int32) × (Nat → Int32) × Int32) (hF : f_X8_wide (A 7) (A 8) (Z 4) x0 x1 = some q) : hm_Mi l yX8_wide (Cond.code yX8_wide cX8_wide 3 (some .int) :: hm_W) rm_X8_wide g [.ref (a 0), .int x0, .int x1] (hm_wMM g a A Z) (hm_wMM g a (hm_up (hm_up A 7 q.2.1) 8 q.2.2.1) (hm_up Z 4 q.2.2.2)) q.1 := by
  refine hm_ofi [(0, .ref (a 0)), (1, .int x0), (2, .int x1)] (by decide) (own := RX8) rfl (Nat.le_of_ble_eq_true rfl) rfl rfl ?_
  intro p e s m args below meth c AA S hr hlk X ls hl
  have hx := S.1
  have hb := S.2.1
  have hown := S.2.2.2.1
  have hts := S.2.2.2.2
  unfold f_X8_wide at hF
  refine lv_iload_n hx hb dX8_wide_0 rfl (lv_at hl 1 rfl) ?_
  obtain ⟨t1, ht1, hF⟩ := hm_bd hF
  refine hm_si S X mw_X8_isWhole hw_4_212 (c_X8_isWhole l g x0 t1 ht1) (List.Perm.refl _) (List.Perm.refl _) ⟨rfl, rfl, Nat.le_of_ble_eq_true rfl, Nat.le_of_ble_eq_true rfl⟩ rfl hl.1 rfl (Nat.le_of_ble_eq_true rfl) dX8_wide_1 ⟨Nat.zero_le _, Nat.zero_le _⟩ (fun H locs X => ?_)
  refine lv_if_eq (tgt := 29) hx hb dX8_wide_4 (by decide) (fun c4 => ?_) (fun c4 => ?_)
  · have hF := hm_if hF c4
    refine lv_iconst (v := (-1)) hx hb dX8_wide_29 (by decide) ?_
    obtain rfl := Option.some.inj hF
    exact hm_ri S hr hlk X rfl rfl dX8_wide_30
  · have hF := hm_nf hF c4
    refine lv_iload_n hx hb dX8_wide_7 rfl (lv_at hl 2 rfl) ?_
    refine lv_iconst (v := 0) hx hb dX8_wide_8 (by decide) ?_
    refine lv_bipush (v := 9) hx hb dX8_wide_9 (by decide) ?_
    obtain ⟨t2, ht2, hF⟩ := hm_bd hF
    refine hm_si S X mw_X8_in hw_4_193 (c_X8_in l g x1 0 9 t2 ht2) (List.Perm.refl _) (List.Perm.refl _) ⟨rfl, rfl, Nat.le_of_ble_eq_true rfl, Nat.le_of_ble_eq_true rfl⟩ rfl hl.1 rfl (Nat.le_of_ble_eq_true rfl) dX8_wide_11 ⟨Nat.zero_le _, Nat.zero_le _⟩ (fun H locs X => ?_)
    refine lv_if_eq (tgt := 29) hx hb dX8_wide_14 (by decide) (fun c14 => ?_) (fun c14 => ?_)
    · have hF := hm_if hF c14
      refine lv_iconst (v := (-1)) hx hb dX8_wide_29 (by decide) ?_
      obtain rfl := Option.some.inj hF
      exact hm_ri S hr hlk X rfl rfl dX8_wide_30
    · have hF := hm_nf hF c14
      refine lv_aload_n hx hb dX8_wide_17 rfl (lv_at hl 0 rfl) ?_
      refine lv_iload_n hx hb dX8_wide_18 rfl (lv_at hl 1 rfl) ?_
      obtain ⟨t3, ht3, hF⟩ := hm_bd hF
      refine hm_si S X mw_X8_widthOf hw_5_14 (c_X8_widthOf l g x0 t3 ht3) (List.Perm.refl _) (List.Perm.refl _) ⟨rfl, rfl, Nat.le_of_ble_eq_true rfl, Nat.le_of_ble_eq_true rfl⟩ rfl hl.1 rfl (Nat.le_of_ble_eq_true rfl) dX8_wide_19 ⟨Nat.zero_le _, Nat.zero_le _⟩ (fun H locs X => ?_)
      refine lv_iload_n hx hb dX8_wide_22 rfl (lv_at hl 2 rfl) ?_
      obtain ⟨t4, ht4, hF⟩ := hm_bd hF
      refine hm_vi (As := [.int t3, .int x1]) S X mw_X8_becomes hw_5_17 (c_X8_becomes l g a A Z t3 x1 t4 ht4) hm_same hm_same rfl rfl rfl ⟨rfl, rfl, Nat.le_of_ble_eq_true rfl, Nat.le_of_ble_eq_true rfl⟩ rfl hl.1 rfl (Nat.le_of_ble_eq_true rfl) dX8_wide_23 ⟨Nat.zero_le _, Nat.zero_le _⟩ (fun H locs X => ?_)
      refine lv_goto (tgt := 30) hx hb dX8_wide_26 (by decide) ?_
      obtain rfl := Option.some.inj hF
      exact hm_ri S hr hlk X rfl rfl dX8_wide_30
def f_X8_hangs (A_7 : Nat → Int32) (A_8 : Nat → Int32) (Z_4 : Int32) (x0 : Int32) (x1 : Int32)  : Option (Int32 × (Nat → Int32) × (Nat → Int32) × Int32) :=
  (f_X8_markOf x0).bind fun t1 =>
  if t1 = (-9) then (
  some ((-1), A_7, A_8, Z_4))
  else (
  (f_X8_in x1 0 10).bind fun t2 =>
  if t2 = 0 then (
  some ((-1), A_7, A_8, Z_4))
  else (
  (f_X8_markOf x0).bind fun t3 =>
  (f_X8_becomes A_7 A_8 Z_4 (30 + t3) x1).bind fun t4 =>
  some (t4.1, t4.2.1, t4.2.2.1, t4.2.2.2)))
abbrev rm_X8_hangs : Room := { frames := 2, cells := 0, slots := 0, locals := 44 }
set_option maxHeartbeats 4000000 in
set_option maxRecDepth 100000 in
theorem c_X8_hangs (l : Launch) (g : hm_G) (a : Nat → Nat) (A : Nat → Nat → Int32) (Z : Nat → Int32) (x0 : Int32) (x1 : Int32) (q : Int32 × (Nat → Int32) × (Nat → Int32) × Int32) (hF : f_X8_hangs (A 7) (A 8) (Z 4) x0 x1 = some q) : hm_Mi l yX8_hangs (Cond.code yX8_hangs cX8_hangs 3 (some .int) :: hm_W) rm_X8_hangs g [.ref (a 0), .int x0, .int x1] (hm_wMM g a A Z) (hm_wMM g a (hm_up (hm_up A 7 q.2.1) 8 q.2.2.1) (hm_up Z 4 q.2.2.2)) q.1 := by
  refine hm_ofi [(0, .ref (a 0)), (1, .int x0), (2, .int x1)] (by decide) (own := RX8) rfl (Nat.le_of_ble_eq_true rfl) rfl rfl ?_
  intro p e s m args below meth c AA S hr hlk X ls hl
  have hx := S.1
  have hb := S.2.1
  have hown := S.2.2.2.1
  have hts := S.2.2.2.2
  unfold f_X8_hangs at hF
  refine lv_iload_n hx hb dX8_hangs_0 rfl (lv_at hl 1 rfl) ?_
  obtain ⟨t1, ht1, hF⟩ := hm_bd hF
  refine hm_si S X mw_X8_markOf hw_4_215 (c_X8_markOf l g x0 t1 ht1) (List.Perm.refl _) (List.Perm.refl _) ⟨rfl, rfl, Nat.le_of_ble_eq_true rfl, Nat.le_of_ble_eq_true rfl⟩ rfl hl.1 rfl (Nat.le_of_ble_eq_true rfl) dX8_hangs_1 ⟨Nat.zero_le _, Nat.zero_le _⟩ (fun H locs X => ?_)
  refine lv_bipush (v := (-9)) hx hb dX8_hangs_4 (by decide) ?_
  refine lv_icmp_eq (tgt := 34) hx hb dX8_hangs_6 (by decide) (fun c6 => ?_) (fun c6 => ?_)
  · have hF := hm_if hF c6
    refine lv_iconst (v := (-1)) hx hb dX8_hangs_34 (by decide) ?_
    obtain rfl := Option.some.inj hF
    exact hm_ri S hr hlk X rfl rfl dX8_hangs_35
  · have hF := hm_nf hF c6
    refine lv_iload_n hx hb dX8_hangs_9 rfl (lv_at hl 2 rfl) ?_
    refine lv_iconst (v := 0) hx hb dX8_hangs_10 (by decide) ?_
    refine lv_bipush (v := 10) hx hb dX8_hangs_11 (by decide) ?_
    obtain ⟨t2, ht2, hF⟩ := hm_bd hF
    refine hm_si S X mw_X8_in hw_4_193 (c_X8_in l g x1 0 10 t2 ht2) (List.Perm.refl _) (List.Perm.refl _) ⟨rfl, rfl, Nat.le_of_ble_eq_true rfl, Nat.le_of_ble_eq_true rfl⟩ rfl hl.1 rfl (Nat.le_of_ble_eq_true rfl) dX8_hangs_13 ⟨Nat.zero_le _, Nat.zero_le _⟩ (fun H locs X => ?_)
    refine lv_if_eq (tgt := 34) hx hb dX8_hangs_16 (by decide) (fun c16 => ?_) (fun c16 => ?_)
    · have hF := hm_if hF c16
      refine lv_iconst (v := (-1)) hx hb dX8_hangs_34 (by decide) ?_
      obtain rfl := Option.some.inj hF
      exact hm_ri S hr hlk X rfl rfl dX8_hangs_35
    · have hF := hm_nf hF c16
      refine lv_aload_n hx hb dX8_hangs_19 rfl (lv_at hl 0 rfl) ?_
      refine lv_bipush (v := 30) hx hb dX8_hangs_20 (by decide) ?_
      refine lv_iload_n hx hb dX8_hangs_22 rfl (lv_at hl 1 rfl) ?_
      obtain ⟨t3, ht3, hF⟩ := hm_bd hF
      refine hm_si S X mw_X8_markOf hw_4_215 (c_X8_markOf l g x0 t3 ht3) (List.Perm.refl _) (List.Perm.refl _) ⟨rfl, rfl, Nat.le_of_ble_eq_true rfl, Nat.le_of_ble_eq_true rfl⟩ rfl hl.1 rfl (Nat.le_of_ble_eq_true rfl) dX8_hangs_23 ⟨Nat.zero_le _, Nat.zero_le _⟩ (fun H locs X => ?_)
      refine lv_iadd hx hb dX8_hangs_26 ?_
      refine lv_iload_n hx hb dX8_hangs_27 rfl (lv_at hl 2 rfl) ?_
      obtain ⟨t4, ht4, hF⟩ := hm_bd hF
      refine hm_vi (As := [.int (30 + t3), .int x1]) S X mw_X8_becomes hw_5_17 (c_X8_becomes l g a A Z (30 + t3) x1 t4 ht4) hm_same hm_same rfl rfl rfl ⟨rfl, rfl, Nat.le_of_ble_eq_true rfl, Nat.le_of_ble_eq_true rfl⟩ rfl hl.1 rfl (Nat.le_of_ble_eq_true rfl) dX8_hangs_28 ⟨Nat.zero_le _, Nat.zero_le _⟩ (fun H locs X => ?_)
      refine lv_goto (tgt := 35) hx hb dX8_hangs_31 (by decide) ?_
      obtain rfl := Option.some.inj hF
      exact hm_ri S hr hlk X rfl rfl dX8_hangs_35
def f_X8_sets_l56 (A_7 : Nat → Int32) (A_8 : Nat → Int32) (Z_4 : Int32) (x0 : Int32) (x1 : Int32) (s56_0 : Int32) : Option (Int32 × (Nat → Int32) × (Nat → Int32) × Int32) :=
  if s56_0 = 0 then (
  some ((-1), A_7, A_8, Z_4))
  else (
  (f_X8_becomes A_7 A_8 Z_4 (34 + x0) x1).bind fun t2 =>
  some (t2.1, t2.2.1, t2.2.2.1, t2.2.2.2))
def f_X8_sets_l55 (A_7 : Nat → Int32) (A_8 : Nat → Int32) (Z_4 : Int32) (x0 : Int32) (x1 : Int32)  : Option (Int32 × (Nat → Int32) × (Nat → Int32) × Int32) :=
  f_X8_sets_l56 A_7 A_8 Z_4 x0 x1 0
def f_X8_sets (A_7 : Nat → Int32) (A_8 : Nat → Int32) (Z_4 : Int32) (x0 : Int32) (x1 : Int32)  : Option (Int32 × (Nat → Int32) × (Nat → Int32) × Int32) :=
  if x0 = 0 then (
  (f_X8_in x1 1 9).bind fun t5 =>
  f_X8_sets_l56 A_7 A_8 Z_4 x0 x1 t5)
  else (
  if x0 = 1 then (
  (f_X8_in x1 10 200).bind fun t4 =>
  f_X8_sets_l56 A_7 A_8 Z_4 x0 x1 t4)
  else (
  (f_X8_in x0 2 3).bind fun t1 =>
  if t1 = 0 then (
  f_X8_sets_l55 A_7 A_8 Z_4 x0 x1)
  else (
  (f_X8_in x1 0 999).bind fun t3 =>
  if t3 = 0 then (
  f_X8_sets_l55 A_7 A_8 Z_4 x0 x1)
  else (
  f_X8_sets_l56 A_7 A_8 Z_4 x0 x1 1))))
abbrev rm_X8_sets : Room := { frames := 2, cells := 0, slots := 0, locals := 44 }
set_option maxHeartbeats 4000000 in
set_option maxRecDepth 100000 in
theorem c_X8_sets (l : Launch) (g : hm_G) (a : Nat → Nat) (A : Nat → Nat → Int32) (Z : Nat → Int32) (x0 : Int32) (x1 : Int32) (q : Int32 × (Nat → Int32) × (Nat → Int32) × Int32) (hF : f_X8_sets (A 7) (A 8) (Z 4) x0 x1 = some q) : hm_Mi l yX8_sets (Cond.code yX8_sets cX8_sets 4 (some .int) :: hm_W) rm_X8_sets g [.ref (a 0), .int x0, .int x1] (hm_wMM g a A Z) (hm_wMM g a (hm_up (hm_up A 7 q.2.1) 8 q.2.2.1) (hm_up Z 4 q.2.2.2)) q.1 := by
  refine hm_ofi [(0, .ref (a 0)), (1, .int x0), (2, .int x1)] (by decide) (own := RX8) rfl (Nat.le_of_ble_eq_true rfl) rfl rfl ?_
  intro p e s m args below meth c AA S hr hlk X ls hl
  have hx := S.1
  have hb := S.2.1
  have hown := S.2.2.2.1
  have hts := S.2.2.2.2
  have hl56 : ∀ (s56_0 : Int32), f_X8_sets_l56 (A 7) (A 8) (Z 4) x0 x1 s56_0 = some q → ∀ (H : Heap) (locs : List Loc), hm_X g AA s H locs (hm_wMM g a A Z) → ∀ ls : Array Slot, lv_has ls 4 [(0, .ref (a 0)), (1, .int x0), (2, .int x1)] → W p l e rm_X8_sets s m args below meth c H locs 0 0 (MQ below (hm_Qi g AA (hm_wMM g a (hm_up (hm_up A 7 q.2.1) 8 q.2.2.1) (hm_up Z 4 q.2.2.2)) q.1) args s 0 0 AA) (F0 m 56 ls [.int s56_0]) := by
    intro s56_0 hF H locs X ls hl
    unfold f_X8_sets_l56 at hF
    refine lv_istore_n (lv' := [(3, .int s56_0), (0, .ref (a 0)), (1, .int x0), (2, .int x1)]) hx hb dX8_sets_56 rfl hl (by decide) rfl (fun ls hl => ?_)
    refine lv_iload_n hx hb dX8_sets_57 rfl (lv_at hl 0 rfl) ?_
    refine lv_if_eq (tgt := 73) hx hb dX8_sets_58 (by decide) (fun c58 => ?_) (fun c58 => ?_)
    · have hF := hm_if hF c58
      refine lv_iconst (v := (-1)) hx hb dX8_sets_73 (by decide) ?_
      obtain rfl := Option.some.inj hF
      exact hm_ri S hr hlk X rfl rfl dX8_sets_74
    · have hF := hm_nf hF c58
      refine lv_aload_n hx hb dX8_sets_61 rfl (lv_at hl 1 rfl) ?_
      refine lv_bipush (v := 34) hx hb dX8_sets_62 (by decide) ?_
      refine lv_iload_n hx hb dX8_sets_64 rfl (lv_at hl 2 rfl) ?_
      refine lv_iadd hx hb dX8_sets_65 ?_
      refine lv_iload_n hx hb dX8_sets_66 rfl (lv_at hl 3 rfl) ?_
      obtain ⟨t2, ht2, hF⟩ := hm_bd hF
      refine hm_vi (As := [.int (34 + x0), .int x1]) S X mw_X8_becomes hw_5_17 (c_X8_becomes l g a A Z (34 + x0) x1 t2 ht2) hm_same hm_same rfl rfl rfl ⟨rfl, rfl, Nat.le_of_ble_eq_true rfl, Nat.le_of_ble_eq_true rfl⟩ rfl hl.1 rfl (Nat.le_of_ble_eq_true rfl) dX8_sets_67 ⟨Nat.zero_le _, Nat.zero_le _⟩ (fun H locs X => ?_)
      refine lv_goto (tgt := 74) hx hb dX8_sets_70 (by decide) ?_
      obtain rfl := Option.some.inj hF
      exact hm_ri S hr hlk X rfl rfl dX8_sets_74
  have hl55 : f_X8_sets_l55 (A 7) (A 8) (Z 4) x0 x1 = some q → ∀ (H : Heap) (locs : List Loc), hm_X g AA s H locs (hm_wMM g a A Z) → ∀ ls : Array Slot, lv_has ls 4 [(0, .ref (a 0)), (1, .int x0), (2, .int x1)] → W p l e rm_X8_sets s m args below meth c H locs 0 0 (MQ below (hm_Qi g AA (hm_wMM g a (hm_up (hm_up A 7 q.2.1) 8 q.2.2.1) (hm_up Z 4 q.2.2.2)) q.1) args s 0 0 AA) (F0 m 55 ls []) := by
    intro hF H locs X ls hl
    unfold f_X8_sets_l55 at hF
    refine lv_iconst (v := 0) hx hb dX8_sets_55 (by decide) ?_
    exact hl56 0 hF _ _ X _ (lv_sub hl [0, 1, 2] rfl)
  unfold f_X8_sets at hF
  refine lv_iload_n hx hb dX8_sets_0 rfl (lv_at hl 1 rfl) ?_
  refine lv_if_ne (tgt := 14) hx hb dX8_sets_1 (by decide) (fun c1 => ?_) (fun c1 => ?_)
  · have hF := hm_nf hF c1
    refine lv_iload_n hx hb dX8_sets_14 rfl (lv_at hl 1 rfl) ?_
    refine lv_iconst (v := 1) hx hb dX8_sets_15 (by decide) ?_
    refine lv_icmp_ne (tgt := 31) hx hb dX8_sets_16 (by decide) (fun c16 => ?_) (fun c16 => ?_)
    · have hF := hm_nf hF c16
      refine lv_iload_n hx hb dX8_sets_31 rfl (lv_at hl 1 rfl) ?_
      refine lv_iconst (v := 2) hx hb dX8_sets_32 (by decide) ?_
      refine lv_iconst (v := 3) hx hb dX8_sets_33 (by decide) ?_
      obtain ⟨t1, ht1, hF⟩ := hm_bd hF
      refine hm_si S X mw_X8_in hw_4_193 (c_X8_in l g x0 2 3 t1 ht1) (List.Perm.refl _) (List.Perm.refl _) ⟨rfl, rfl, Nat.le_of_ble_eq_true rfl, Nat.le_of_ble_eq_true rfl⟩ rfl hl.1 rfl (Nat.le_of_ble_eq_true rfl) dX8_sets_34 ⟨Nat.zero_le _, Nat.zero_le _⟩ (fun H locs X => ?_)
      refine lv_if_eq (tgt := 55) hx hb dX8_sets_37 (by decide) (fun c37 => ?_) (fun c37 => ?_)
      · have hF := hm_if hF c37
        exact hl55  hF _ _ X _ (lv_sub hl [0, 1, 2] rfl)
      · have hF := hm_nf hF c37
        refine lv_iload_n hx hb dX8_sets_40 rfl (lv_at hl 2 rfl) ?_
        refine lv_iconst (v := 0) hx hb dX8_sets_41 (by decide) ?_
        refine lv_sipush (v := 999) hx hb dX8_sets_42 (by decide) ?_
        obtain ⟨t3, ht3, hF⟩ := hm_bd hF
        refine hm_si S X mw_X8_in hw_4_193 (c_X8_in l g x1 0 999 t3 ht3) (List.Perm.refl _) (List.Perm.refl _) ⟨rfl, rfl, Nat.le_of_ble_eq_true rfl, Nat.le_of_ble_eq_true rfl⟩ rfl hl.1 rfl (Nat.le_of_ble_eq_true rfl) dX8_sets_45 ⟨Nat.zero_le _, Nat.zero_le _⟩ (fun H locs X => ?_)
        refine lv_if_eq (tgt := 55) hx hb dX8_sets_48 (by decide) (fun c48 => ?_) (fun c48 => ?_)
        · have hF := hm_if hF c48
          exact hl55  hF _ _ X _ (lv_sub hl [0, 1, 2] rfl)
        · have hF := hm_nf hF c48
          refine lv_iconst (v := 1) hx hb dX8_sets_51 (by decide) ?_
          refine lv_goto (tgt := 56) hx hb dX8_sets_52 (by decide) ?_
          exact hl56 1 hF _ _ X _ (lv_sub hl [0, 1, 2] rfl)
    · have hF := hm_if hF c16
      refine lv_iload_n hx hb dX8_sets_19 rfl (lv_at hl 2 rfl) ?_
      refine lv_bipush (v := 10) hx hb dX8_sets_20 (by decide) ?_
      refine lv_sipush (v := 200) hx hb dX8_sets_22 (by decide) ?_
      obtain ⟨t4, ht4, hF⟩ := hm_bd hF
      refine hm_si S X mw_X8_in hw_4_193 (c_X8_in l g x1 10 200 t4 ht4) (List.Perm.refl _) (List.Perm.refl _) ⟨rfl, rfl, Nat.le_of_ble_eq_true rfl, Nat.le_of_ble_eq_true rfl⟩ rfl hl.1 rfl (Nat.le_of_ble_eq_true rfl) dX8_sets_25 ⟨Nat.zero_le _, Nat.zero_le _⟩ (fun H locs X => ?_)
      refine lv_goto (tgt := 56) hx hb dX8_sets_28 (by decide) ?_
      exact hl56 t4 hF _ _ X _ (lv_sub hl [0, 1, 2] rfl)
  · have hF := hm_if hF c1
    refine lv_iload_n hx hb dX8_sets_4 rfl (lv_at hl 2 rfl) ?_
    refine lv_iconst (v := 1) hx hb dX8_sets_5 (by decide) ?_
    refine lv_bipush (v := 9) hx hb dX8_sets_6 (by decide) ?_
    obtain ⟨t5, ht5, hF⟩ := hm_bd hF
    refine hm_si S X mw_X8_in hw_4_193 (c_X8_in l g x1 1 9 t5 ht5) (List.Perm.refl _) (List.Perm.refl _) ⟨rfl, rfl, Nat.le_of_ble_eq_true rfl, Nat.le_of_ble_eq_true rfl⟩ rfl hl.1 rfl (Nat.le_of_ble_eq_true rfl) dX8_sets_8 ⟨Nat.zero_le _, Nat.zero_le _⟩ (fun H locs X => ?_)
    refine lv_goto (tgt := 56) hx hb dX8_sets_11 (by decide) ?_
    exact hl56 t5 hF _ _ X _ (lv_sub hl [0, 1, 2] rfl)
def f_X8_undo_l22 (A_8 : Nat → Int32) : Nat → Int32 → (Nat → Int32) → Int32 → Option (Int32 × (Nat → Int32) × Int32)
  | 0, _, _, _ => none
  | k + 1, v1, wA_7, wZ_4 =>
  if (38 : Int32) ≤ v1 then (
  some (wZ_4, wA_7, wZ_4))
  else (
  (hm_rd 380 A_8 ((38 * wZ_4) + v1)).bind fun t1 =>
  (hm_wr 38 wA_7 v1 t1).bind fun f2 =>
  f_X8_undo_l22 A_8 k (v1 + 1) f2 wZ_4)
theorem f_X8_undo_l22_s (A_8 : Nat → Int32) (k : Nat) (v1 : Int32) (wA_7 : Nat → Int32) (wZ_4 : Int32) : f_X8_undo_l22 A_8 (k + 1) v1 wA_7 wZ_4 =
  if (38 : Int32) ≤ v1 then (
  some (wZ_4, wA_7, wZ_4))
  else (
  (hm_rd 380 A_8 ((38 * wZ_4) + v1)).bind fun t1 =>
  (hm_wr 38 wA_7 v1 t1).bind fun f2 =>
  f_X8_undo_l22 A_8 k (v1 + 1) f2 wZ_4) := rfl
theorem f_X8_undo_l22_z (A_8 : Nat → Int32) (v1 : Int32) (wA_7 : Nat → Int32) (wZ_4 : Int32) : f_X8_undo_l22 A_8 0 v1 wA_7 wZ_4 = none := rfl
def f_X8_undo (A_7 : Nat → Int32) (A_8 : Nat → Int32) (Z_4 : Int32)  : Option (Int32 × (Nat → Int32) × Int32) :=
  if Z_4 = 0 then (
  some ((-2), A_7, Z_4))
  else (
  f_X8_undo_l22 A_8 hm_fu 0 A_7 (Z_4 - 1))
abbrev rm_X8_undo : Room := { frames := 0, cells := 0, slots := 0, locals := 0 }
set_option maxHeartbeats 4000000 in
set_option maxRecDepth 100000 in
theorem c_X8_undo (l : Launch) (g : hm_G) (a : Nat → Nat) (A : Nat → Nat → Int32) (Z : Nat → Int32) (q : Int32 × (Nat → Int32) × Int32) (hF : f_X8_undo (A 7) (A 8) (Z 4) = some q) : hm_Mi l yX8_undo (Cond.code yX8_undo cX8_undo 2 (some .int) :: hm_W) rm_X8_undo g [.ref (a 0)] (hm_wMM g a A Z) (hm_wMM g a (hm_up A 7 q.2.1) (hm_up Z 4 q.2.2)) q.1 := by
  refine hm_ofi [(0, .ref (a 0))] (by decide) (own := RX8) rfl (Nat.le_of_ble_eq_true rfl) rfl rfl ?_
  intro p e s m args below meth c AA S hr hlk X ls hl
  have hx := S.1
  have hb := S.2.1
  have hown := S.2.2.2.1
  have hts := S.2.2.2.2
  have hl22 : ∀ (k22 : Nat) (v1 : Int32) (wA_7 : Nat → Int32) (wZ_4 : Int32), f_X8_undo_l22 (A 8) k22 v1 wA_7 wZ_4 = some q → ∀ (H : Heap) (locs : List Loc), hm_X g AA s H locs (hm_wMM g a (hm_up A 7 wA_7) (hm_up Z 4 wZ_4)) → ∀ ls : Array Slot, lv_has ls 2 [(0, .ref (a 0)), (1, .int v1)] → W p l e rm_X8_undo s m args below meth c H locs 0 0 (MQ below (hm_Qi g AA (hm_wMM g a (hm_up A 7 q.2.1) (hm_up Z 4 q.2.2)) q.1) args s 0 0 AA) (F0 m 22 ls []) := by
    intro k22
    induction k22 with
    | zero =>
      intro v1 wA_7 wZ_4 hF
      rw [f_X8_undo_l22_z] at hF
      cases hF
    | succ k22 ih22 =>
      intro v1 wA_7 wZ_4 hF H locs X ls hl
      rw [f_X8_undo_l22_s] at hF
      refine lv_iload_n hx hb dX8_undo_22 rfl (lv_at hl 1 rfl) ?_
      refine lv_bipush (v := 38) hx hb dX8_undo_23 (by decide) ?_
      refine lv_icmp_ge (tgt := 54) hx hb dX8_undo_25 (by decide) (fun c25 => ?_) (fun c25 => ?_)
      · have hF := hm_if hF c25
        refine lv_aload_n hx hb dX8_undo_54 rfl (lv_at hl 0 rfl) ?_
        refine hm_get S X hf_X8_89 0 rfl rfl dX8_undo_55 ?_
        obtain rfl := Option.some.inj hF
        exact hm_ri S hr hlk X rfl rfl dX8_undo_58
      · have hF := hm_nf hF c25
        refine lv_aload_n hx hb dX8_undo_28 rfl (lv_at hl 0 rfl) ?_
        refine hm_get S X hf_X8_32 0 rfl rfl dX8_undo_29 ?_
        refine lv_iload_n hx hb dX8_undo_32 rfl (lv_at hl 1 rfl) ?_
        refine lv_aload_n hx hb dX8_undo_33 rfl (lv_at hl 0 rfl) ?_
        refine hm_get S X hf_X8_35 0 rfl rfl dX8_undo_34 ?_
        refine lv_bipush (v := 38) hx hb dX8_undo_37 (by decide) ?_
        refine lv_aload_n hx hb dX8_undo_39 rfl (lv_at hl 0 rfl) ?_
        refine hm_get S X hf_X8_89 0 rfl rfl dX8_undo_40 ?_
        refine lv_imul hx hb dX8_undo_43 ?_
        refine lv_iload_n hx hb dX8_undo_44 rfl (lv_at hl 1 rfl) ?_
        refine lv_iadd hx hb dX8_undo_45 ?_
        obtain ⟨t1, ht1, hF⟩ := hm_bd hF
        refine hm_iald S X ht1 9 rfl dX8_undo_46 ?_
        obtain ⟨f2, hf2, hF⟩ := hm_bd hF
        refine hm_iast S X hf2 8 rfl dX8_undo_47 (fun H locs X => ?_)
        have X := X.to (ws' := (hm_wMM g a (hm_up A 7 f2) (hm_up Z 4 wZ_4))) rfl
        refine lv_iinc (v := (v1 + 1)) (lv' := [(1, .int (v1 + 1)), (0, .ref (a 0))]) hx hb dX8_undo_48 hl (k := 1) rfl rfl (by decide) rfl (fun ls hl => ?_)
        refine lv_goto (tgt := 22) hx hb dX8_undo_51 (by decide) ?_
        exact ih22 (v1 + 1) f2 wZ_4 hF _ _ X _ (lv_sub hl [1, 0] rfl)
  unfold f_X8_undo at hF
  refine lv_aload_n hx hb dX8_undo_0 rfl (lv_at hl 0 rfl) ?_
  refine hm_get S X hf_X8_89 0 rfl rfl dX8_undo_1 ?_
  refine lv_if_ne (tgt := 10) hx hb dX8_undo_4 (by decide) (fun c4 => ?_) (fun c4 => ?_)
  · have hF := hm_nf hF c4
    refine lv_aload_n hx hb dX8_undo_10 rfl (lv_at hl 0 rfl) ?_
    refine lv_dup hx hb dX8_undo_11 rfl ?_
    refine hm_get S X hf_X8_89 0 rfl rfl dX8_undo_12 ?_
    refine lv_iconst (v := 1) hx hb dX8_undo_15 (by decide) ?_
    refine lv_isub hx hb dX8_undo_16 ?_
    refine hm_put S X hf_X8_89 hg_X8_undos 0 rfl rfl rfl (Nat.le_of_ble_eq_true rfl) dX8_undo_17 (fun H locs X => ?_)
    have X := X.to (ws' := (hm_wMM g a A (hm_up Z 4 ((Z 4) - 1)))) rfl
    refine lv_iconst (v := 0) hx hb dX8_undo_20 (by decide) ?_
    refine lv_istore_n (lv' := [(1, .int 0), (0, .ref (a 0))]) hx hb dX8_undo_21 rfl hl (by decide) rfl (fun ls hl => ?_)
    exact hl22 hm_fu 0 (A 7) ((Z 4) - 1) hF _ _ (X.to (ws' := (hm_wMM g a (hm_up A 7 (A 7)) (hm_up Z 4 ((Z 4) - 1)))) rfl) _ (lv_sub hl [1, 0] rfl)
  · have hF := hm_if hF c4
    refine lv_bipush (v := (-2)) hx hb dX8_undo_7 (by decide) ?_
    obtain rfl := Option.some.inj hF
    exact hm_ri S hr hlk X rfl rfl dX8_undo_9
def f_X8_sums_l70 (J9 : Int32 → (Nat → Int32) → Option ((Nat → Int32))) (s70_0 : Int32) (s70_1 : Int32) (s70_2 : Int32) (v1 : Int32) (wA_14 : Nat → Int32) : Option ((Nat → Int32)) :=
  (hm_wr 201 wA_14 s70_2 (s70_1 + s70_0)).bind fun f4 =>
  J9 (v1 + 1) f4
def f_X8_sums_l52 (J9 : Int32 → (Nat → Int32) → Option ((Nat → Int32))) (s52_0 : Int32) (s52_1 : Int32) (v1 : Int32) (wA_14 : Nat → Int32) : Option ((Nat → Int32)) :=
  f_X8_sums_l70 J9 0 s52_0 s52_1 v1 wA_14
def f_X8_sums_l9 (A_1 : Nat → Int32) (A_7 : Nat → Int32) (Z_1 : Int32) : Nat → Int32 → (Nat → Int32) → Option ((Nat → Int32))
  | 0, _, _ => none
  | k + 1, v1, wA_14 =>
  if Z_1 ≤ v1 then (
  some (wA_14))
  else (
  (hm_rd 201 wA_14 v1).bind fun t2 =>
  (hm_rd 200 A_1 v1).bind fun t3 =>
  if t3 = 32 then (
  f_X8_sums_l52 (fun zv1 zwA_14 => f_X8_sums_l9 A_1 A_7 Z_1 k zv1 zwA_14) t2 (v1 + 1) v1 wA_14)
  else (
  (hm_rd 200 A_1 v1).bind fun t5 =>
  if t5 = 47 then (
  f_X8_sums_l52 (fun zv1 zwA_14 => f_X8_sums_l9 A_1 A_7 Z_1 k zv1 zwA_14) t2 (v1 + 1) v1 wA_14)
  else (
  (hm_rd 200 A_1 v1).bind fun t6 =>
  (f_X8_widthOf t6).bind fun t7 =>
  (hm_rd 38 A_7 t7).bind fun t8 =>
  f_X8_sums_l70 (fun zv1 zwA_14 => f_X8_sums_l9 A_1 A_7 Z_1 k zv1 zwA_14) t8 t2 (v1 + 1) v1 wA_14)))
theorem f_X8_sums_l9_s (A_1 : Nat → Int32) (A_7 : Nat → Int32) (Z_1 : Int32) (k : Nat) (v1 : Int32) (wA_14 : Nat → Int32) : f_X8_sums_l9 A_1 A_7 Z_1 (k + 1) v1 wA_14 =
  if Z_1 ≤ v1 then (
  some (wA_14))
  else (
  (hm_rd 201 wA_14 v1).bind fun t2 =>
  (hm_rd 200 A_1 v1).bind fun t3 =>
  if t3 = 32 then (
  f_X8_sums_l52 (fun zv1 zwA_14 => f_X8_sums_l9 A_1 A_7 Z_1 k zv1 zwA_14) t2 (v1 + 1) v1 wA_14)
  else (
  (hm_rd 200 A_1 v1).bind fun t5 =>
  if t5 = 47 then (
  f_X8_sums_l52 (fun zv1 zwA_14 => f_X8_sums_l9 A_1 A_7 Z_1 k zv1 zwA_14) t2 (v1 + 1) v1 wA_14)
  else (
  (hm_rd 200 A_1 v1).bind fun t6 =>
  (f_X8_widthOf t6).bind fun t7 =>
  (hm_rd 38 A_7 t7).bind fun t8 =>
  f_X8_sums_l70 (fun zv1 zwA_14 => f_X8_sums_l9 A_1 A_7 Z_1 k zv1 zwA_14) t8 t2 (v1 + 1) v1 wA_14))) := rfl
theorem f_X8_sums_l9_z (A_1 : Nat → Int32) (A_7 : Nat → Int32) (Z_1 : Int32) (v1 : Int32) (wA_14 : Nat → Int32) : f_X8_sums_l9 A_1 A_7 Z_1 0 v1 wA_14 = none := rfl
def f_X8_sums (A_1 : Nat → Int32) (A_7 : Nat → Int32) (A_14 : Nat → Int32) (Z_1 : Int32)  : Option ((Nat → Int32)) :=
  (hm_wr 201 A_14 0 0).bind fun f1 =>
  f_X8_sums_l9 A_1 A_7 Z_1 hm_fu 0 f1
abbrev rm_X8_sums : Room := { frames := 2, cells := 0, slots := 0, locals := 42 }
set_option maxHeartbeats 4000000 in
set_option maxRecDepth 100000 in
theorem c_X8_sums (l : Launch) (g : hm_G) (a : Nat → Nat) (A : Nat → Nat → Int32) (Z : Nat → Int32) (q : (Nat → Int32)) (hF : f_X8_sums (A 1) (A 7) (A 14) (Z 1) = some q) : hm_Mv l yX8_sums (Cond.code yX8_sums cX8_sums 2 none :: hm_W) rm_X8_sums g [.ref (a 0)] (hm_wMM g a A Z) (hm_wMM g a (hm_up A 14 q) Z) := by
  refine hm_ofv [(0, .ref (a 0))] (by decide) (own := RX8) rfl (Nat.le_of_ble_eq_true rfl) rfl rfl ?_
  intro p e s m args below meth c AA S hr hlk X ls hl
  have hx := S.1
  have hb := S.2.1
  have hown := S.2.2.2.1
  have hts := S.2.2.2.2
  have hl9 : ∀ (k9 : Nat) (v1 : Int32) (wA_14 : Nat → Int32), f_X8_sums_l9 (A 1) (A 7) (Z 1) k9 v1 wA_14 = some q → ∀ (H : Heap) (locs : List Loc), hm_X g AA s H locs (hm_wMM g a (hm_up A 14 wA_14) Z) → ∀ ls : Array Slot, lv_has ls 2 [(0, .ref (a 0)), (1, .int v1)] → W p l e rm_X8_sums s m args below meth c H locs 0 0 (MQ below (hm_Qv g AA (hm_wMM g a (hm_up A 14 q) Z)) args s 0 0 AA) (F0 m 9 ls []) := by
    intro k9
    induction k9 with
    | zero =>
      intro v1 wA_14 hF
      rw [f_X8_sums_l9_z] at hF
      cases hF
    | succ k9 ih9 =>
      have hl70 : ∀ (s70_0 : Int32) (s70_1 : Int32) (s70_2 : Int32) (v1 : Int32) (wA_14 : Nat → Int32), f_X8_sums_l70 (fun zv1 zwA_14 => f_X8_sums_l9 (A 1) (A 7) (Z 1) k9 zv1 zwA_14) s70_0 s70_1 s70_2 v1 wA_14 = some q → ∀ (H : Heap) (locs : List Loc), hm_X g AA s H locs (hm_wMM g a (hm_up A 14 wA_14) Z) → ∀ ls : Array Slot, lv_has ls 2 [(0, .ref (a 0)), (1, .int v1)] → W p l e rm_X8_sums s m args below meth c H locs 0 0 (MQ below (hm_Qv g AA (hm_wMM g a (hm_up A 14 q) Z)) args s 0 0 AA) (F0 m 70 ls [.int s70_0, .int s70_1, .int s70_2, .ref (a 15)]) := by
        intro s70_0 s70_1 s70_2 v1 wA_14 hF H locs X ls hl
        unfold f_X8_sums_l70 at hF
        refine lv_iadd hx hb dX8_sums_70 ?_
        obtain ⟨f4, hf4, hF⟩ := hm_bd hF
        refine hm_iast S X hf4 15 rfl dX8_sums_71 (fun H locs X => ?_)
        have X := X.to (ws' := (hm_wMM g a (hm_up A 14 f4) Z)) rfl
        refine lv_iinc (v := (v1 + 1)) (lv' := [(1, .int (v1 + 1)), (0, .ref (a 0))]) hx hb dX8_sums_72 hl (k := 1) rfl rfl (by decide) rfl (fun ls hl => ?_)
        refine lv_goto (tgt := 9) hx hb dX8_sums_75 (by decide) ?_
        exact ih9 (v1 + 1) f4 hF _ _ X _ (lv_sub hl [1, 0] rfl)
      have hl52 : ∀ (s52_0 : Int32) (s52_1 : Int32) (v1 : Int32) (wA_14 : Nat → Int32), f_X8_sums_l52 (fun zv1 zwA_14 => f_X8_sums_l9 (A 1) (A 7) (Z 1) k9 zv1 zwA_14) s52_0 s52_1 v1 wA_14 = some q → ∀ (H : Heap) (locs : List Loc), hm_X g AA s H locs (hm_wMM g a (hm_up A 14 wA_14) Z) → ∀ ls : Array Slot, lv_has ls 2 [(0, .ref (a 0)), (1, .int v1)] → W p l e rm_X8_sums s m args below meth c H locs 0 0 (MQ below (hm_Qv g AA (hm_wMM g a (hm_up A 14 q) Z)) args s 0 0 AA) (F0 m 52 ls [.int s52_0, .int s52_1, .ref (a 15)]) := by
        intro s52_0 s52_1 v1 wA_14 hF H locs X ls hl
        unfold f_X8_sums_l52 at hF
        refine lv_iconst (v := 0) hx hb dX8_sums_52 (by decide) ?_
        refine lv_goto (tgt := 70) hx hb dX8_sums_53 (by decide) ?_
        exact hl70 0 s52_0 s52_1 v1 wA_14 hF _ _ X _ (lv_sub hl [0, 1] rfl)
      intro v1 wA_14 hF H locs X ls hl
      rw [f_X8_sums_l9_s] at hF
      refine lv_iload_n hx hb dX8_sums_9 rfl (lv_at hl 1 rfl) ?_
      refine lv_aload_n hx hb dX8_sums_10 rfl (lv_at hl 0 rfl) ?_
      refine hm_get S X hf_X8_124 0 rfl rfl dX8_sums_11 ?_
      refine lv_icmp_ge (tgt := 78) hx hb dX8_sums_14 (by decide) (fun c14 => ?_) (fun c14 => ?_)
      · have hF := hm_if hF c14
        obtain rfl := Option.some.inj hF
        exact hm_rv S hr hlk X rfl dX8_sums_78
      · have hF := hm_nf hF c14
        refine lv_aload_n hx hb dX8_sums_17 rfl (lv_at hl 0 rfl) ?_
        refine hm_get S X hf_X8_53 0 rfl rfl dX8_sums_18 ?_
        refine lv_iload_n hx hb dX8_sums_21 rfl (lv_at hl 1 rfl) ?_
        refine lv_iconst (v := 1) hx hb dX8_sums_22 (by decide) ?_
        refine lv_iadd hx hb dX8_sums_23 ?_
        refine lv_aload_n hx hb dX8_sums_24 rfl (lv_at hl 0 rfl) ?_
        refine hm_get S X hf_X8_53 0 rfl rfl dX8_sums_25 ?_
        refine lv_iload_n hx hb dX8_sums_28 rfl (lv_at hl 1 rfl) ?_
        obtain ⟨t2, ht2, hF⟩ := hm_bd hF
        refine hm_iald S X ht2 15 rfl dX8_sums_29 ?_
        refine lv_aload_n hx hb dX8_sums_30 rfl (lv_at hl 0 rfl) ?_
        refine hm_get S X hf_X8_13 0 rfl rfl dX8_sums_31 ?_
        refine lv_iload_n hx hb dX8_sums_34 rfl (lv_at hl 1 rfl) ?_
        obtain ⟨t3, ht3, hF⟩ := hm_bd hF
        refine hm_iald S X ht3 2 rfl dX8_sums_35 ?_
        refine lv_bipush (v := 32) hx hb dX8_sums_36 (by decide) ?_
        refine lv_icmp_eq (tgt := 52) hx hb dX8_sums_38 (by decide) (fun c38 => ?_) (fun c38 => ?_)
        · have hF := hm_if hF c38
          exact hl52 t2 (v1 + 1) v1 wA_14 hF _ _ X _ (lv_sub hl [0, 1] rfl)
        · have hF := hm_nf hF c38
          refine lv_aload_n hx hb dX8_sums_41 rfl (lv_at hl 0 rfl) ?_
          refine hm_get S X hf_X8_13 0 rfl rfl dX8_sums_42 ?_
          refine lv_iload_n hx hb dX8_sums_45 rfl (lv_at hl 1 rfl) ?_
          obtain ⟨t5, ht5, hF⟩ := hm_bd hF
          refine hm_iald S X ht5 2 rfl dX8_sums_46 ?_
          refine lv_bipush (v := 47) hx hb dX8_sums_47 (by decide) ?_
          refine lv_icmp_ne (tgt := 56) hx hb dX8_sums_49 (by decide) (fun c49 => ?_) (fun c49 => ?_)
          · have hF := hm_nf hF c49
            refine lv_aload_n hx hb dX8_sums_56 rfl (lv_at hl 0 rfl) ?_
            refine hm_get S X hf_X8_32 0 rfl rfl dX8_sums_57 ?_
            refine lv_aload_n hx hb dX8_sums_60 rfl (lv_at hl 0 rfl) ?_
            refine hm_get S X hf_X8_13 0 rfl rfl dX8_sums_61 ?_
            refine lv_iload_n hx hb dX8_sums_64 rfl (lv_at hl 1 rfl) ?_
            obtain ⟨t6, ht6, hF⟩ := hm_bd hF
            refine hm_iald S X ht6 2 rfl dX8_sums_65 ?_
            obtain ⟨t7, ht7, hF⟩ := hm_bd hF
            refine hm_si S X mw_X8_widthOf hw_5_14 (c_X8_widthOf l g t6 t7 ht7) (List.Perm.refl _) (List.Perm.refl _) ⟨rfl, rfl, Nat.le_of_ble_eq_true rfl, Nat.le_of_ble_eq_true rfl⟩ rfl hl.1 rfl (Nat.le_of_ble_eq_true rfl) dX8_sums_66 ⟨Nat.zero_le _, Nat.zero_le _⟩ (fun H locs X => ?_)
            obtain ⟨t8, ht8, hF⟩ := hm_bd hF
            refine hm_iald S X ht8 8 rfl dX8_sums_69 ?_
            exact hl70 t8 t2 (v1 + 1) v1 wA_14 hF _ _ X _ (lv_sub hl [0, 1] rfl)
          · have hF := hm_if hF c49
            exact hl52 t2 (v1 + 1) v1 wA_14 hF _ _ X _ (lv_sub hl [0, 1] rfl)
  unfold f_X8_sums at hF
  refine lv_aload_n hx hb dX8_sums_0 rfl (lv_at hl 0 rfl) ?_
  refine hm_get S X hf_X8_53 0 rfl rfl dX8_sums_1 ?_
  refine lv_iconst (v := 0) hx hb dX8_sums_4 (by decide) ?_
  refine lv_iconst (v := 0) hx hb dX8_sums_5 (by decide) ?_
  obtain ⟨f1, hf1, hF⟩ := hm_bd hF
  refine hm_iast S X hf1 15 rfl dX8_sums_6 (fun H locs X => ?_)
  have X := X.to (ws' := (hm_wMM g a (hm_up A 14 f1) Z)) rfl
  refine lv_iconst (v := 0) hx hb dX8_sums_7 (by decide) ?_
  refine lv_istore_n (lv' := [(1, .int 0), (0, .ref (a 0))]) hx hb dX8_sums_8 rfl hl (by decide) rfl (fun ls hl => ?_)
  exact hl9 hm_fu 0 f1 hF _ _ X _ (lv_sub hl [1, 0] rfl)
def f_X8_firstWord (A_4 : Nat → Int32) (A_6 : Nat → Int32) (x0 : Int32)  : Option (Int32) :=
  if (0 : Int32) ≤ x0 then (
  (hm_rd 104 A_6 x0).bind fun t1 =>
  if t1 = 0 then (
  (hm_rd 104 A_4 x0).bind fun t2 =>
  some ((t2 + 1)))
  else (
  (hm_rd 104 A_4 x0).bind fun t3 =>
  some (t3)))
  else (
  some (0))
abbrev rm_X8_firstWord : Room := { frames := 0, cells := 0, slots := 0, locals := 0 }
set_option maxHeartbeats 4000000 in
set_option maxRecDepth 100000 in
theorem c_X8_firstWord (l : Launch) (g : hm_G) (a : Nat → Nat) (A : Nat → Nat → Int32) (Z : Nat → Int32) (x0 : Int32) (q : Int32) (hF : f_X8_firstWord (A 4) (A 6) x0 = some q) : hm_Mi l yX8_firstWord (Cond.code yX8_firstWord cX8_firstWord 2 (some .int) :: hm_W) rm_X8_firstWord g [.ref (a 0), .int x0] (hm_wMM g a A Z) (hm_wMM g a A Z) q := by
  refine hm_ofi [(0, .ref (a 0)), (1, .int x0)] (by decide) (own := RX8) rfl (Nat.le_of_ble_eq_true rfl) rfl rfl ?_
  intro p e s m args below meth c AA S hr hlk X ls hl
  have hx := S.1
  have hb := S.2.1
  have hown := S.2.2.2.1
  have hts := S.2.2.2.2
  unfold f_X8_firstWord at hF
  refine lv_iload_n hx hb dX8_firstWord_0 rfl (lv_at hl 1 rfl) ?_
  refine lv_if_ge (tgt := 8) hx hb dX8_firstWord_1 (by decide) (fun c1 => ?_) (fun c1 => ?_)
  · have hF := hm_if hF c1
    refine lv_aload_n hx hb dX8_firstWord_8 rfl (lv_at hl 0 rfl) ?_
    refine hm_get S X hf_X8_28 0 rfl rfl dX8_firstWord_9 ?_
    refine lv_iload_n hx hb dX8_firstWord_12 rfl (lv_at hl 1 rfl) ?_
    obtain ⟨t1, ht1, hF⟩ := hm_bd hF
    refine hm_zald S X ht1 7 rfl dX8_firstWord_13 ?_
    refine lv_if_eq (tgt := 26) hx hb dX8_firstWord_14 (by decide) (fun c14 => ?_) (fun c14 => ?_)
    · have hF := hm_if hF c14
      refine lv_aload_n hx hb dX8_firstWord_26 rfl (lv_at hl 0 rfl) ?_
      refine hm_get S X hf_X8_22 0 rfl rfl dX8_firstWord_27 ?_
      refine lv_iload_n hx hb dX8_firstWord_30 rfl (lv_at hl 1 rfl) ?_
      obtain ⟨t2, ht2, hF⟩ := hm_bd hF
      refine hm_iald S X ht2 5 rfl dX8_firstWord_31 ?_
      refine lv_iconst (v := 1) hx hb dX8_firstWord_32 (by decide) ?_
      refine lv_iadd hx hb dX8_firstWord_33 ?_
      obtain rfl := Option.some.inj hF
      exact hm_ri S hr hlk X rfl rfl dX8_firstWord_34
    · have hF := hm_nf hF c14
      refine lv_aload_n hx hb dX8_firstWord_17 rfl (lv_at hl 0 rfl) ?_
      refine hm_get S X hf_X8_22 0 rfl rfl dX8_firstWord_18 ?_
      refine lv_iload_n hx hb dX8_firstWord_21 rfl (lv_at hl 1 rfl) ?_
      obtain ⟨t3, ht3, hF⟩ := hm_bd hF
      refine hm_iald S X ht3 5 rfl dX8_firstWord_22 ?_
      refine lv_goto (tgt := 34) hx hb dX8_firstWord_23 (by decide) ?_
      obtain rfl := Option.some.inj hF
      exact hm_ri S hr hlk X rfl rfl dX8_firstWord_34
  · have hF := hm_nf hF c1
    refine lv_iconst (v := 0) hx hb dX8_firstWord_4 (by decide) ?_
    refine lv_goto (tgt := 34) hx hb dX8_firstWord_5 (by decide) ?_
    obtain rfl := Option.some.inj hF
    exact hm_ri S hr hlk X rfl rfl dX8_firstWord_34
def f_X8_firstLetter_l24 (A_2 : Nat → Int32) (A_4 : Nat → Int32) (A_6 : Nat → Int32) (x0 : Int32)  : Option (Int32) :=
  (f_X8_firstWord A_4 A_6 x0).bind fun t1 =>
  (hm_rd 30 A_2 t1).bind fun t2 =>
  some (t2)
def f_X8_firstLetter (A_2 : Nat → Int32) (A_4 : Nat → Int32) (A_5 : Nat → Int32) (A_6 : Nat → Int32) (x0 : Int32)  : Option (Int32) :=
  if x0 < 0 then (
  f_X8_firstLetter_l24 A_2 A_4 A_6 x0)
  else (
  (hm_rd 104 A_6 x0).bind fun t3 =>
  if t3 = 0 then (
  f_X8_firstLetter_l24 A_2 A_4 A_6 x0)
  else (
  (hm_rd 104 A_5 x0).bind fun t4 =>
  some ((t4 + 1))))
abbrev rm_X8_firstLetter : Room := { frames := 1, cells := 0, slots := 0, locals := 21 }
set_option maxHeartbeats 4000000 in
set_option maxRecDepth 100000 in
theorem c_X8_firstLetter (l : Launch) (g : hm_G) (a : Nat → Nat) (A : Nat → Nat → Int32) (Z : Nat → Int32) (x0 : Int32) (q : Int32) (hF : f_X8_firstLetter (A 2) (A 4) (A 5) (A 6) x0 = some q) : hm_Mi l yX8_firstLetter (Cond.code yX8_firstLetter cX8_firstLetter 2 (some .int) :: hm_W) rm_X8_firstLetter g [.ref (a 0), .int x0] (hm_wMM g a A Z) (hm_wMM g a A Z) q := by
  refine hm_ofi [(0, .ref (a 0)), (1, .int x0)] (by decide) (own := RX8) rfl (Nat.le_of_ble_eq_true rfl) rfl rfl ?_
  intro p e s m args below meth c AA S hr hlk X ls hl
  have hx := S.1
  have hb := S.2.1
  have hown := S.2.2.2.1
  have hts := S.2.2.2.2
  have hl24 : f_X8_firstLetter_l24 (A 2) (A 4) (A 6) x0 = some q → ∀ (H : Heap) (locs : List Loc), hm_X g AA s H locs (hm_wMM g a A Z) → ∀ ls : Array Slot, lv_has ls 2 [(0, .ref (a 0)), (1, .int x0)] → W p l e rm_X8_firstLetter s m args below meth c H locs 0 0 (MQ below (hm_Qi g AA (hm_wMM g a A Z) q) args s 0 0 AA) (F0 m 24 ls []) := by
    intro hF H locs X ls hl
    unfold f_X8_firstLetter_l24 at hF
    refine lv_aload_n hx hb dX8_firstLetter_24 rfl (lv_at hl 0 rfl) ?_
    refine hm_get S X hf_X8_16 0 rfl rfl dX8_firstLetter_25 ?_
    refine lv_aload_n hx hb dX8_firstLetter_28 rfl (lv_at hl 0 rfl) ?_
    refine lv_iload_n hx hb dX8_firstLetter_29 rfl (lv_at hl 1 rfl) ?_
    obtain ⟨t1, ht1, hF⟩ := hm_bd hF
    refine hm_vi (As := [.int x0]) S X mw_X8_firstWord hw_5_65 (c_X8_firstWord l g a A Z x0 t1 ht1) hm_same hm_same rfl rfl rfl ⟨rfl, rfl, Nat.le_of_ble_eq_true rfl, Nat.le_of_ble_eq_true rfl⟩ rfl hl.1 rfl (Nat.le_of_ble_eq_true rfl) dX8_firstLetter_30 ⟨Nat.zero_le _, Nat.zero_le _⟩ (fun H locs X => ?_)
    obtain ⟨t2, ht2, hF⟩ := hm_bd hF
    refine hm_iald S X ht2 3 rfl dX8_firstLetter_33 ?_
    obtain rfl := Option.some.inj hF
    exact hm_ri S hr hlk X rfl rfl dX8_firstLetter_34
  unfold f_X8_firstLetter at hF
  refine lv_iload_n hx hb dX8_firstLetter_0 rfl (lv_at hl 1 rfl) ?_
  refine lv_if_lt (tgt := 24) hx hb dX8_firstLetter_1 (by decide) (fun c1 => ?_) (fun c1 => ?_)
  · have hF := hm_if hF c1
    exact hl24  hF _ _ X _ (lv_sub hl [0, 1] rfl)
  · have hF := hm_nf hF c1
    refine lv_aload_n hx hb dX8_firstLetter_4 rfl (lv_at hl 0 rfl) ?_
    refine hm_get S X hf_X8_28 0 rfl rfl dX8_firstLetter_5 ?_
    refine lv_iload_n hx hb dX8_firstLetter_8 rfl (lv_at hl 1 rfl) ?_
    obtain ⟨t3, ht3, hF⟩ := hm_bd hF
    refine hm_zald S X ht3 7 rfl dX8_firstLetter_9 ?_
    refine lv_if_eq (tgt := 24) hx hb dX8_firstLetter_10 (by decide) (fun c10 => ?_) (fun c10 => ?_)
    · have hF := hm_if hF c10
      exact hl24  hF _ _ X _ (lv_sub hl [0, 1] rfl)
    · have hF := hm_nf hF c10
      refine lv_aload_n hx hb dX8_firstLetter_13 rfl (lv_at hl 0 rfl) ?_
      refine hm_get S X hf_X8_25 0 rfl rfl dX8_firstLetter_14 ?_
      refine lv_iload_n hx hb dX8_firstLetter_17 rfl (lv_at hl 1 rfl) ?_
      obtain ⟨t4, ht4, hF⟩ := hm_bd hF
      refine hm_iald S X ht4 6 rfl dX8_firstLetter_18 ?_
      refine lv_iconst (v := 1) hx hb dX8_firstLetter_19 (by decide) ?_
      refine lv_iadd hx hb dX8_firstLetter_20 ?_
      refine lv_goto (tgt := 34) hx hb dX8_firstLetter_21 (by decide) ?_
      obtain rfl := Option.some.inj hF
      exact hm_ri S hr hlk X rfl rfl dX8_firstLetter_34
def f_X8_natural (A_2 : Nat → Int32) (A_4 : Nat → Int32) (A_5 : Nat → Int32) (A_6 : Nat → Int32) (A_7 : Nat → Int32) (A_14 : Nat → Int32) (x0 : Int32) (x1 : Int32)  : Option (Int32) :=
  (hm_rd 104 A_4 x1).bind fun t1 =>
  (f_X8_firstWord A_4 A_6 x0).bind fun t2 =>
  (hm_rd 104 A_5 x1).bind fun t3 =>
  (hm_rd 201 A_14 t3).bind fun t4 =>
  (f_X8_firstLetter A_2 A_4 A_5 A_6 x0).bind fun t5 =>
  (hm_rd 201 A_14 t5).bind fun t6 =>
  (hm_rd 38 A_7 34).bind fun t7 =>
  (hm_rd 104 A_6 x1).bind fun t8 =>
  if t8 = 0 then (
  some ((((t4 - t6) + (t7 * (t1 - t2))) + 0)))
  else (
  (hm_rd 38 A_7 28).bind fun t9 =>
  some ((((t4 - t6) + (t7 * (t1 - t2))) + t9)))
abbrev rm_X8_natural : Room := { frames := 2, cells := 0, slots := 0, locals := 42 }
set_option maxHeartbeats 4000000 in
set_option maxRecDepth 100000 in
theorem c_X8_natural (l : Launch) (g : hm_G) (a : Nat → Nat) (A : Nat → Nat → Int32) (Z : Nat → Int32) (x0 : Int32) (x1 : Int32) (q : Int32) (hF : f_X8_natural (A 2) (A 4) (A 5) (A 6) (A 7) (A 14) x0 x1 = some q) : hm_Mi l yX8_natural (Cond.code yX8_natural cX8_natural 4 (some .int) :: hm_W) rm_X8_natural g [.ref (a 0), .int x0, .int x1] (hm_wMM g a A Z) (hm_wMM g a A Z) q := by
  refine hm_ofi [(0, .ref (a 0)), (1, .int x0), (2, .int x1)] (by decide) (own := RX8) rfl (Nat.le_of_ble_eq_true rfl) rfl rfl ?_
  intro p e s m args below meth c AA S hr hlk X ls hl
  have hx := S.1
  have hb := S.2.1
  have hown := S.2.2.2.1
  have hts := S.2.2.2.2
  unfold f_X8_natural at hF
  refine lv_aload_n hx hb dX8_natural_0 rfl (lv_at hl 0 rfl) ?_
  refine hm_get S X hf_X8_22 0 rfl rfl dX8_natural_1 ?_
  refine lv_iload_n hx hb dX8_natural_4 rfl (lv_at hl 2 rfl) ?_
  obtain ⟨t1, ht1, hF⟩ := hm_bd hF
  refine hm_iald S X ht1 5 rfl dX8_natural_5 ?_
  refine lv_aload_n hx hb dX8_natural_6 rfl (lv_at hl 0 rfl) ?_
  refine lv_iload_n hx hb dX8_natural_7 rfl (lv_at hl 1 rfl) ?_
  obtain ⟨t2, ht2, hF⟩ := hm_bd hF
  refine hm_vi (As := [.int x0]) S X mw_X8_firstWord hw_5_65 (c_X8_firstWord l g a A Z x0 t2 ht2) hm_same hm_same rfl rfl rfl ⟨rfl, rfl, Nat.le_of_ble_eq_true rfl, Nat.le_of_ble_eq_true rfl⟩ rfl hl.1 rfl (Nat.le_of_ble_eq_true rfl) dX8_natural_8 ⟨Nat.zero_le _, Nat.zero_le _⟩ (fun H locs X => ?_)
  refine lv_isub hx hb dX8_natural_11 ?_
  refine lv_istore_n (lv' := [(3, .int (t1 - t2)), (0, .ref (a 0)), (1, .int x0), (2, .int x1)]) hx hb dX8_natural_12 rfl hl (by decide) rfl (fun ls hl => ?_)
  refine lv_aload_n hx hb dX8_natural_13 rfl (lv_at hl 1 rfl) ?_
  refine hm_get S X hf_X8_53 0 rfl rfl dX8_natural_14 ?_
  refine lv_aload_n hx hb dX8_natural_17 rfl (lv_at hl 1 rfl) ?_
  refine hm_get S X hf_X8_25 0 rfl rfl dX8_natural_18 ?_
  refine lv_iload_n hx hb dX8_natural_21 rfl (lv_at hl 3 rfl) ?_
  obtain ⟨t3, ht3, hF⟩ := hm_bd hF
  refine hm_iald S X ht3 6 rfl dX8_natural_22 ?_
  obtain ⟨t4, ht4, hF⟩ := hm_bd hF
  refine hm_iald S X ht4 15 rfl dX8_natural_23 ?_
  refine lv_aload_n hx hb dX8_natural_24 rfl (lv_at hl 1 rfl) ?_
  refine hm_get S X hf_X8_53 0 rfl rfl dX8_natural_25 ?_
  refine lv_aload_n hx hb dX8_natural_28 rfl (lv_at hl 1 rfl) ?_
  refine lv_iload_n hx hb dX8_natural_29 rfl (lv_at hl 2 rfl) ?_
  obtain ⟨t5, ht5, hF⟩ := hm_bd hF
  refine hm_vi (As := [.int x0]) S X mw_X8_firstLetter hw_5_69 (c_X8_firstLetter l g a A Z x0 t5 ht5) hm_same hm_same rfl rfl rfl ⟨rfl, rfl, Nat.le_of_ble_eq_true rfl, Nat.le_of_ble_eq_true rfl⟩ rfl hl.1 rfl (Nat.le_of_ble_eq_true rfl) dX8_natural_30 ⟨Nat.zero_le _, Nat.zero_le _⟩ (fun H locs X => ?_)
  obtain ⟨t6, ht6, hF⟩ := hm_bd hF
  refine hm_iald S X ht6 15 rfl dX8_natural_33 ?_
  refine lv_isub hx hb dX8_natural_34 ?_
  refine lv_aload_n hx hb dX8_natural_35 rfl (lv_at hl 1 rfl) ?_
  refine hm_get S X hf_X8_32 0 rfl rfl dX8_natural_36 ?_
  refine lv_bipush (v := 34) hx hb dX8_natural_39 (by decide) ?_
  obtain ⟨t7, ht7, hF⟩ := hm_bd hF
  refine hm_iald S X ht7 8 rfl dX8_natural_41 ?_
  refine lv_iload_n hx hb dX8_natural_42 rfl (lv_at hl 0 rfl) ?_
  refine lv_imul hx hb dX8_natural_43 ?_
  refine lv_iadd hx hb dX8_natural_44 ?_
  refine lv_aload_n hx hb dX8_natural_45 rfl (lv_at hl 1 rfl) ?_
  refine hm_get S X hf_X8_28 0 rfl rfl dX8_natural_46 ?_
  refine lv_iload_n hx hb dX8_natural_49 rfl (lv_at hl 3 rfl) ?_
  obtain ⟨t8, ht8, hF⟩ := hm_bd hF
  refine hm_zald S X ht8 7 rfl dX8_natural_50 ?_
  refine lv_if_eq (tgt := 64) hx hb dX8_natural_51 (by decide) (fun c51 => ?_) (fun c51 => ?_)
  · have hF := hm_if hF c51
    refine lv_iconst (v := 0) hx hb dX8_natural_64 (by decide) ?_
    refine lv_iadd hx hb dX8_natural_65 ?_
    obtain rfl := Option.some.inj hF
    exact hm_ri S hr hlk X rfl rfl dX8_natural_66
  · have hF := hm_nf hF c51
    refine lv_aload_n hx hb dX8_natural_54 rfl (lv_at hl 1 rfl) ?_
    refine hm_get S X hf_X8_32 0 rfl rfl dX8_natural_55 ?_
    refine lv_bipush (v := 28) hx hb dX8_natural_58 (by decide) ?_
    obtain ⟨t9, ht9, hF⟩ := hm_bd hF
    refine hm_iald S X ht9 8 rfl dX8_natural_60 ?_
    refine lv_goto (tgt := 65) hx hb dX8_natural_61 (by decide) ?_
    refine lv_iadd hx hb dX8_natural_65 ?_
    obtain rfl := Option.some.inj hF
    exact hm_ri S hr hlk X rfl rfl dX8_natural_66
def f_X8_hung_l29 (A_7 : Nat → Int32) (s29_0 : Int32) : Option (Int32) :=
  if s29_0 = (-9) then (
  some (0))
  else (
  (hm_rd 38 A_7 (26 + s29_0)).bind fun t5 =>
  (hm_rd 38 A_7 (30 + s29_0)).bind fun t6 =>
  (hm_dv (t5 * t6) 10).bind fun t7 =>
  some (t7))
def f_X8_hung (A_1 : Nat → Int32) (A_5 : Nat → Int32) (A_6 : Nat → Int32) (A_7 : Nat → Int32) (x0 : Int32)  : Option (Int32) :=
  (hm_rd 104 A_6 x0).bind fun t1 =>
  if t1 = 0 then (
  (hm_rd 104 A_5 x0).bind fun t2 =>
  (hm_rd 200 A_1 (t2 - 1)).bind fun t3 =>
  (f_X8_markOf t3).bind fun t4 =>
  f_X8_hung_l29 A_7 t4)
  else (
  f_X8_hung_l29 A_7 2)
abbrev rm_X8_hung : Room := { frames := 1, cells := 0, slots := 0, locals := 20 }
set_option maxHeartbeats 4000000 in
set_option maxRecDepth 100000 in
theorem c_X8_hung (l : Launch) (g : hm_G) (a : Nat → Nat) (A : Nat → Nat → Int32) (Z : Nat → Int32) (x0 : Int32) (q : Int32) (hF : f_X8_hung (A 1) (A 5) (A 6) (A 7) x0 = some q) : hm_Mi l yX8_hung (Cond.code yX8_hung cX8_hung 3 (some .int) :: hm_W) rm_X8_hung g [.ref (a 0), .int x0] (hm_wMM g a A Z) (hm_wMM g a A Z) q := by
  refine hm_ofi [(0, .ref (a 0)), (1, .int x0)] (by decide) (own := RX8) rfl (Nat.le_of_ble_eq_true rfl) rfl rfl ?_
  intro p e s m args below meth c AA S hr hlk X ls hl
  have hx := S.1
  have hb := S.2.1
  have hown := S.2.2.2.1
  have hts := S.2.2.2.2
  have hl29 : ∀ (s29_0 : Int32), f_X8_hung_l29 (A 7) s29_0 = some q → ∀ (H : Heap) (locs : List Loc), hm_X g AA s H locs (hm_wMM g a A Z) → ∀ ls : Array Slot, lv_has ls 3 [(0, .ref (a 0))] → W p l e rm_X8_hung s m args below meth c H locs 0 0 (MQ below (hm_Qi g AA (hm_wMM g a A Z) q) args s 0 0 AA) (F0 m 29 ls [.int s29_0]) := by
    intro s29_0 hF H locs X ls hl
    unfold f_X8_hung_l29 at hF
    refine lv_istore_n (lv' := [(2, .int s29_0), (0, .ref (a 0))]) hx hb dX8_hung_29 rfl hl (by decide) rfl (fun ls hl => ?_)
    refine lv_iload_n hx hb dX8_hung_30 rfl (lv_at hl 0 rfl) ?_
    refine lv_bipush (v := (-9)) hx hb dX8_hung_31 (by decide) ?_
    refine lv_icmp_ne (tgt := 40) hx hb dX8_hung_33 (by decide) (fun c33 => ?_) (fun c33 => ?_)
    · have hF := hm_nf hF c33
      refine lv_aload_n hx hb dX8_hung_40 rfl (lv_at hl 1 rfl) ?_
      refine hm_get S X hf_X8_32 0 rfl rfl dX8_hung_41 ?_
      refine lv_bipush (v := 26) hx hb dX8_hung_44 (by decide) ?_
      refine lv_iload_n hx hb dX8_hung_46 rfl (lv_at hl 0 rfl) ?_
      refine lv_iadd hx hb dX8_hung_47 ?_
      obtain ⟨t5, ht5, hF⟩ := hm_bd hF
      refine hm_iald S X ht5 8 rfl dX8_hung_48 ?_
      refine lv_aload_n hx hb dX8_hung_49 rfl (lv_at hl 1 rfl) ?_
      refine hm_get S X hf_X8_32 0 rfl rfl dX8_hung_50 ?_
      refine lv_bipush (v := 30) hx hb dX8_hung_53 (by decide) ?_
      refine lv_iload_n hx hb dX8_hung_55 rfl (lv_at hl 0 rfl) ?_
      refine lv_iadd hx hb dX8_hung_56 ?_
      obtain ⟨t6, ht6, hF⟩ := hm_bd hF
      refine hm_iald S X ht6 8 rfl dX8_hung_57 ?_
      refine lv_imul hx hb dX8_hung_58 ?_
      refine lv_bipush (v := 10) hx hb dX8_hung_59 (by decide) ?_
      obtain ⟨t7, ht7, hF⟩ := hm_bd hF
      refine hm_idiv hx hb ht7 dX8_hung_61 ?_
      obtain rfl := Option.some.inj hF
      exact hm_ri S hr hlk X rfl rfl dX8_hung_62
    · have hF := hm_if hF c33
      refine lv_iconst (v := 0) hx hb dX8_hung_36 (by decide) ?_
      refine lv_goto (tgt := 62) hx hb dX8_hung_37 (by decide) ?_
      obtain rfl := Option.some.inj hF
      exact hm_ri S hr hlk X rfl rfl dX8_hung_62
  unfold f_X8_hung at hF
  refine lv_aload_n hx hb dX8_hung_0 rfl (lv_at hl 0 rfl) ?_
  refine hm_get S X hf_X8_28 0 rfl rfl dX8_hung_1 ?_
  refine lv_iload_n hx hb dX8_hung_4 rfl (lv_at hl 1 rfl) ?_
  obtain ⟨t1, ht1, hF⟩ := hm_bd hF
  refine hm_zald S X ht1 7 rfl dX8_hung_5 ?_
  refine lv_if_eq (tgt := 13) hx hb dX8_hung_6 (by decide) (fun c6 => ?_) (fun c6 => ?_)
  · have hF := hm_if hF c6
    refine lv_aload_n hx hb dX8_hung_13 rfl (lv_at hl 0 rfl) ?_
    refine hm_get S X hf_X8_13 0 rfl rfl dX8_hung_14 ?_
    refine lv_aload_n hx hb dX8_hung_17 rfl (lv_at hl 0 rfl) ?_
    refine hm_get S X hf_X8_25 0 rfl rfl dX8_hung_18 ?_
    refine lv_iload_n hx hb dX8_hung_21 rfl (lv_at hl 1 rfl) ?_
    obtain ⟨t2, ht2, hF⟩ := hm_bd hF
    refine hm_iald S X ht2 6 rfl dX8_hung_22 ?_
    refine lv_iconst (v := 1) hx hb dX8_hung_23 (by decide) ?_
    refine lv_isub hx hb dX8_hung_24 ?_
    obtain ⟨t3, ht3, hF⟩ := hm_bd hF
    refine hm_iald S X ht3 2 rfl dX8_hung_25 ?_
    obtain ⟨t4, ht4, hF⟩ := hm_bd hF
    refine hm_si S X mw_X8_markOf hw_4_215 (c_X8_markOf l g t3 t4 ht4) (List.Perm.refl _) (List.Perm.refl _) ⟨rfl, rfl, Nat.le_of_ble_eq_true rfl, Nat.le_of_ble_eq_true rfl⟩ rfl hl.1 rfl (Nat.le_of_ble_eq_true rfl) dX8_hung_26 ⟨Nat.zero_le _, Nat.zero_le _⟩ (fun H locs X => ?_)
    exact hl29 t4 hF _ _ X _ (lv_sub hl [0] rfl)
  · have hF := hm_nf hF c6
    refine lv_iconst (v := 2) hx hb dX8_hung_9 (by decide) ?_
    refine lv_goto (tgt := 29) hx hb dX8_hung_10 (by decide) ?_
    exact hl29 2 hF _ _ X _ (lv_sub hl [0] rfl)
def f_X8_left (A_1 : Nat → Int32) (A_2 : Nat → Int32) (A_4 : Nat → Int32) (A_5 : Nat → Int32) (A_6 : Nat → Int32) (A_7 : Nat → Int32) (A_14 : Nat → Int32) (x0 : Int32) (x1 : Int32) (x2 : Int32)  : Option (Int32) :=
  (f_X8_hung A_1 A_5 A_6 A_7 x1).bind fun t1 =>
  (f_X8_natural A_2 A_4 A_5 A_6 A_7 A_14 x0 x1).bind fun t2 =>
  some (((x2 + t1) - t2))
abbrev rm_X8_left : Room := { frames := 3, cells := 0, slots := 0, locals := 65 }
set_option maxHeartbeats 4000000 in
set_option maxRecDepth 100000 in
theorem c_X8_left (l : Launch) (g : hm_G) (a : Nat → Nat) (A : Nat → Nat → Int32) (Z : Nat → Int32) (x0 : Int32) (x1 : Int32) (x2 : Int32) (q : Int32) (hF : f_X8_left (A 1) (A 2) (A 4) (A 5) (A 6) (A 7) (A 14) x0 x1 x2 = some q) : hm_Mi l yX8_left (Cond.code yX8_left cX8_left 4 (some .int) :: hm_W) rm_X8_left g [.ref (a 0), .int x0, .int x1, .int x2] (hm_wMM g a A Z) (hm_wMM g a A Z) q := by
  refine hm_ofi [(0, .ref (a 0)), (1, .int x0), (2, .int x1), (3, .int x2)] (by decide) (own := RX8) rfl (Nat.le_of_ble_eq_true rfl) rfl rfl ?_
  intro p e s m args below meth c AA S hr hlk X ls hl
  have hx := S.1
  have hb := S.2.1
  have hown := S.2.2.2.1
  have hts := S.2.2.2.2
  unfold f_X8_left at hF
  refine lv_iload_n hx hb dX8_left_0 rfl (lv_at hl 3 rfl) ?_
  refine lv_aload_n hx hb dX8_left_1 rfl (lv_at hl 0 rfl) ?_
  refine lv_iload_n hx hb dX8_left_2 rfl (lv_at hl 2 rfl) ?_
  obtain ⟨t1, ht1, hF⟩ := hm_bd hF
  refine hm_vi (As := [.int x1]) S X mw_X8_hung hw_5_57 (c_X8_hung l g a A Z x1 t1 ht1) hm_same hm_same rfl rfl rfl ⟨rfl, rfl, Nat.le_of_ble_eq_true rfl, Nat.le_of_ble_eq_true rfl⟩ rfl hl.1 rfl (Nat.le_of_ble_eq_true rfl) dX8_left_3 ⟨Nat.zero_le _, Nat.zero_le _⟩ (fun H locs X => ?_)
  refine lv_iadd hx hb dX8_left_6 ?_
  refine lv_aload_n hx hb dX8_left_7 rfl (lv_at hl 0 rfl) ?_
  refine lv_iload_n hx hb dX8_left_8 rfl (lv_at hl 1 rfl) ?_
  refine lv_iload_n hx hb dX8_left_9 rfl (lv_at hl 2 rfl) ?_
  obtain ⟨t2, ht2, hF⟩ := hm_bd hF
  refine hm_vi (As := [.int x0, .int x1]) S X mw_X8_natural hw_5_61 (c_X8_natural l g a A Z x0 x1 t2 ht2) hm_same hm_same rfl rfl rfl ⟨rfl, rfl, Nat.le_of_ble_eq_true rfl, Nat.le_of_ble_eq_true rfl⟩ rfl hl.1 rfl (Nat.le_of_ble_eq_true rfl) dX8_left_10 ⟨Nat.zero_le _, Nat.zero_le _⟩ (fun H locs X => ?_)
  refine lv_isub hx hb dX8_left_13 ?_
  obtain rfl := Option.some.inj hF
  exact hm_ri S hr hlk X rfl rfl dX8_left_14
def f_X8_costOf_l41 (A_6 : Nat → Int32) (A_7 : Nat → Int32) (x0 : Int32) (x1 : Int32) (s41_0 : Int32) (s41_1 : Int32) : Option (Int32) :=
  (hm_rd 104 A_6 x1).bind fun t2 =>
  if t2 = 0 then (
  some (((s41_1 + s41_0) + 0)))
  else (
  if x0 < 0 then (
  some (((s41_1 + s41_0) + 0)))
  else (
  (hm_rd 104 A_6 x0).bind fun t3 =>
  if t3 = 0 then (
  some (((s41_1 + s41_0) + 0)))
  else (
  (hm_rd 38 A_7 37).bind fun t4 =>
  some (((s41_1 + s41_0) + t4)))))
def f_X8_costOf_l17 (A_6 : Nat → Int32) (A_7 : Nat → Int32) (x0 : Int32) (x1 : Int32) (s17_0 : Int32) : Option (Int32) :=
  (hm_rd 104 A_6 x1).bind fun t1 =>
  if t1 = 0 then (
  f_X8_costOf_l41 A_6 A_7 x0 x1 0 s17_0)
  else (
  (hm_rd 38 A_7 36).bind fun t5 =>
  f_X8_costOf_l41 A_6 A_7 x0 x1 t5 s17_0)
def f_X8_costOf (A_6 : Nat → Int32) (A_7 : Nat → Int32) (Z_3 : Int32) (x0 : Int32) (x1 : Int32) (x2 : Int32)  : Option (Int32) :=
  if x1 = (Z_3 - 1) then (
  f_X8_costOf_l17 A_6 A_7 x0 x1 0)
  else (
  f_X8_costOf_l17 A_6 A_7 x0 x1 (x2 * x2))
abbrev rm_X8_costOf : Room := { frames := 0, cells := 0, slots := 0, locals := 0 }
set_option maxHeartbeats 4000000 in
set_option maxRecDepth 100000 in
theorem c_X8_costOf (l : Launch) (g : hm_G) (a : Nat → Nat) (A : Nat → Nat → Int32) (Z : Nat → Int32) (x0 : Int32) (x1 : Int32) (x2 : Int32) (q : Int32) (hF : f_X8_costOf (A 6) (A 7) (Z 3) x0 x1 x2 = some q) : hm_Mi l yX8_costOf (Cond.code yX8_costOf cX8_costOf 5 (some .int) :: hm_W) rm_X8_costOf g [.ref (a 0), .int x0, .int x1, .int x2] (hm_wMM g a A Z) (hm_wMM g a A Z) q := by
  refine hm_ofi [(0, .ref (a 0)), (1, .int x0), (2, .int x1), (3, .int x2)] (by decide) (own := RX8) rfl (Nat.le_of_ble_eq_true rfl) rfl rfl ?_
  intro p e s m args below meth c AA S hr hlk X ls hl
  have hx := S.1
  have hb := S.2.1
  have hown := S.2.2.2.1
  have hts := S.2.2.2.2
  have hl41 : ∀ (s41_0 : Int32) (s41_1 : Int32), f_X8_costOf_l41 (A 6) (A 7) x0 x1 s41_0 s41_1 = some q → ∀ (H : Heap) (locs : List Loc), hm_X g AA s H locs (hm_wMM g a A Z) → ∀ ls : Array Slot, lv_has ls 5 [(0, .ref (a 0)), (1, .int x0), (2, .int x1)] → W p l e rm_X8_costOf s m args below meth c H locs 0 0 (MQ below (hm_Qi g AA (hm_wMM g a A Z) q) args s 0 0 AA) (F0 m 41 ls [.int s41_0, .int s41_1]) := by
    intro s41_0 s41_1 hF H locs X ls hl
    unfold f_X8_costOf_l41 at hF
    refine lv_iadd hx hb dX8_costOf_41 ?_
    refine lv_istore (lv' := [(4, .int (s41_1 + s41_0)), (0, .ref (a 0)), (1, .int x0), (2, .int x1)]) hx hb dX8_costOf_42 hl (by decide) rfl (fun ls hl => ?_)
    refine lv_iload hx hb dX8_costOf_44 (lv_at hl 0 rfl) ?_
    refine lv_aload_n hx hb dX8_costOf_46 rfl (lv_at hl 1 rfl) ?_
    refine hm_get S X hf_X8_28 0 rfl rfl dX8_costOf_47 ?_
    refine lv_iload_n hx hb dX8_costOf_50 rfl (lv_at hl 3 rfl) ?_
    obtain ⟨t2, ht2, hF⟩ := hm_bd hF
    refine hm_zald S X ht2 7 rfl dX8_costOf_51 ?_
    refine lv_if_eq (tgt := 78) hx hb dX8_costOf_52 (by decide) (fun c52 => ?_) (fun c52 => ?_)
    · have hF := hm_if hF c52
      refine lv_iconst (v := 0) hx hb dX8_costOf_78 (by decide) ?_
      refine lv_iadd hx hb dX8_costOf_79 ?_
      obtain rfl := Option.some.inj hF
      exact hm_ri S hr hlk X rfl rfl dX8_costOf_80
    · have hF := hm_nf hF c52
      refine lv_iload_n hx hb dX8_costOf_55 rfl (lv_at hl 2 rfl) ?_
      refine lv_if_lt (tgt := 78) hx hb dX8_costOf_56 (by decide) (fun c56 => ?_) (fun c56 => ?_)
      · have hF := hm_if hF c56
        refine lv_iconst (v := 0) hx hb dX8_costOf_78 (by decide) ?_
        refine lv_iadd hx hb dX8_costOf_79 ?_
        obtain rfl := Option.some.inj hF
        exact hm_ri S hr hlk X rfl rfl dX8_costOf_80
      · have hF := hm_nf hF c56
        refine lv_aload_n hx hb dX8_costOf_59 rfl (lv_at hl 1 rfl) ?_
        refine hm_get S X hf_X8_28 0 rfl rfl dX8_costOf_60 ?_
        refine lv_iload_n hx hb dX8_costOf_63 rfl (lv_at hl 2 rfl) ?_
        obtain ⟨t3, ht3, hF⟩ := hm_bd hF
        refine hm_zald S X ht3 7 rfl dX8_costOf_64 ?_
        refine lv_if_eq (tgt := 78) hx hb dX8_costOf_65 (by decide) (fun c65 => ?_) (fun c65 => ?_)
        · have hF := hm_if hF c65
          refine lv_iconst (v := 0) hx hb dX8_costOf_78 (by decide) ?_
          refine lv_iadd hx hb dX8_costOf_79 ?_
          obtain rfl := Option.some.inj hF
          exact hm_ri S hr hlk X rfl rfl dX8_costOf_80
        · have hF := hm_nf hF c65
          refine lv_aload_n hx hb dX8_costOf_68 rfl (lv_at hl 1 rfl) ?_
          refine hm_get S X hf_X8_32 0 rfl rfl dX8_costOf_69 ?_
          refine lv_bipush (v := 37) hx hb dX8_costOf_72 (by decide) ?_
          obtain ⟨t4, ht4, hF⟩ := hm_bd hF
          refine hm_iald S X ht4 8 rfl dX8_costOf_74 ?_
          refine lv_goto (tgt := 79) hx hb dX8_costOf_75 (by decide) ?_
          refine lv_iadd hx hb dX8_costOf_79 ?_
          obtain rfl := Option.some.inj hF
          exact hm_ri S hr hlk X rfl rfl dX8_costOf_80
  have hl17 : ∀ (s17_0 : Int32), f_X8_costOf_l17 (A 6) (A 7) x0 x1 s17_0 = some q → ∀ (H : Heap) (locs : List Loc), hm_X g AA s H locs (hm_wMM g a A Z) → ∀ ls : Array Slot, lv_has ls 5 [(0, .ref (a 0)), (1, .int x0), (2, .int x1)] → W p l e rm_X8_costOf s m args below meth c H locs 0 0 (MQ below (hm_Qi g AA (hm_wMM g a A Z) q) args s 0 0 AA) (F0 m 17 ls [.int s17_0]) := by
    intro s17_0 hF H locs X ls hl
    unfold f_X8_costOf_l17 at hF
    refine lv_istore (lv' := [(4, .int s17_0), (0, .ref (a 0)), (1, .int x0), (2, .int x1)]) hx hb dX8_costOf_17 hl (by decide) rfl (fun ls hl => ?_)
    refine lv_iload hx hb dX8_costOf_19 (lv_at hl 0 rfl) ?_
    refine lv_aload_n hx hb dX8_costOf_21 rfl (lv_at hl 1 rfl) ?_
    refine hm_get S X hf_X8_28 0 rfl rfl dX8_costOf_22 ?_
    refine lv_iload_n hx hb dX8_costOf_25 rfl (lv_at hl 3 rfl) ?_
    obtain ⟨t1, ht1, hF⟩ := hm_bd hF
    refine hm_zald S X ht1 7 rfl dX8_costOf_26 ?_
    refine lv_if_eq (tgt := 40) hx hb dX8_costOf_27 (by decide) (fun c27 => ?_) (fun c27 => ?_)
    · have hF := hm_if hF c27
      refine lv_iconst (v := 0) hx hb dX8_costOf_40 (by decide) ?_
      exact hl41 0 s17_0 hF _ _ X _ (lv_sub hl [1, 2, 3] rfl)
    · have hF := hm_nf hF c27
      refine lv_aload_n hx hb dX8_costOf_30 rfl (lv_at hl 1 rfl) ?_
      refine hm_get S X hf_X8_32 0 rfl rfl dX8_costOf_31 ?_
      refine lv_bipush (v := 36) hx hb dX8_costOf_34 (by decide) ?_
      obtain ⟨t5, ht5, hF⟩ := hm_bd hF
      refine hm_iald S X ht5 8 rfl dX8_costOf_36 ?_
      refine lv_goto (tgt := 41) hx hb dX8_costOf_37 (by decide) ?_
      exact hl41 t5 s17_0 hF _ _ X _ (lv_sub hl [1, 2, 3] rfl)
  unfold f_X8_costOf at hF
  refine lv_iload_n hx hb dX8_costOf_0 rfl (lv_at hl 2 rfl) ?_
  refine lv_aload_n hx hb dX8_costOf_1 rfl (lv_at hl 0 rfl) ?_
  refine hm_get S X hf_X8_117 0 rfl rfl dX8_costOf_2 ?_
  refine lv_iconst (v := 1) hx hb dX8_costOf_5 (by decide) ?_
  refine lv_isub hx hb dX8_costOf_6 ?_
  refine lv_icmp_ne (tgt := 14) hx hb dX8_costOf_7 (by decide) (fun c7 => ?_) (fun c7 => ?_)
  · have hF := hm_nf hF c7
    refine lv_iload_n hx hb dX8_costOf_14 rfl (lv_at hl 3 rfl) ?_
    refine lv_iload_n hx hb dX8_costOf_15 rfl (lv_at hl 3 rfl) ?_
    refine lv_imul hx hb dX8_costOf_16 ?_
    exact hl17 (x2 * x2) hF _ _ X _ (lv_sub hl [0, 1, 2] rfl)
  · have hF := hm_if hF c7
    refine lv_iconst (v := 0) hx hb dX8_costOf_10 (by decide) ?_
    refine lv_goto (tgt := 17) hx hb dX8_costOf_11 (by decide) ?_
    exact hl17 0 hF _ _ X _ (lv_sub hl [0, 1, 2] rfl)
def f_X8_looksFrom_l173 (J14 : Int32 → (Nat → Int32) → (Nat → Int32) → (Nat → Int32) → Option ((Nat → Int32) × (Nat → Int32) × (Nat → Int32))) (v3 : Int32) (wA_15 : Nat → Int32) (wA_16 : Nat → Int32) (wA_17 : Nat → Int32) : Option ((Nat → Int32) × (Nat → Int32) × (Nat → Int32)) :=
  J14 (v3 + 1) wA_15 wA_16 wA_17
def f_X8_looksFrom_l137 (J14 : Int32 → (Nat → Int32) → (Nat → Int32) → (Nat → Int32) → Option ((Nat → Int32) × (Nat → Int32) × (Nat → Int32))) (x0 : Int32) (s137_0 : Int32) (v3 : Int32) (v5 : Int32) (v6 : Int32) (wA_15 : Nat → Int32) (wA_16 : Nat → Int32) (wA_17 : Nat → Int32) : Option ((Nat → Int32) × (Nat → Int32) × (Nat → Int32)) :=
  if s137_0 = 0 then (
  f_X8_looksFrom_l173 J14 v3 wA_15 wA_16 wA_17)
  else (
  (hm_wr 105 wA_15 (x0 + 1) v5).bind fun f8 =>
  (hm_wr 105 wA_16 (x0 + 1) v6).bind fun f9 =>
  (hm_wr 105 wA_17 (x0 + 1) v3).bind fun f10 =>
  f_X8_looksFrom_l173 J14 v3 f8 f9 f10)
def f_X8_looksFrom_l132 (J14 : Int32 → (Nat → Int32) → (Nat → Int32) → (Nat → Int32) → Option ((Nat → Int32) × (Nat → Int32) × (Nat → Int32))) (x0 : Int32) (v3 : Int32) (v5 : Int32) (v6 : Int32) (wA_15 : Nat → Int32) (wA_16 : Nat → Int32) (wA_17 : Nat → Int32) : Option ((Nat → Int32) × (Nat → Int32) × (Nat → Int32)) :=
  f_X8_looksFrom_l137 J14 x0 1 v3 v5 v6 wA_15 wA_16 wA_17
def f_X8_looksFrom_l136 (J14 : Int32 → (Nat → Int32) → (Nat → Int32) → (Nat → Int32) → Option ((Nat → Int32) × (Nat → Int32) × (Nat → Int32))) (x0 : Int32) (v3 : Int32) (v5 : Int32) (v6 : Int32) (wA_15 : Nat → Int32) (wA_16 : Nat → Int32) (wA_17 : Nat → Int32) : Option ((Nat → Int32) × (Nat → Int32) × (Nat → Int32)) :=
  f_X8_looksFrom_l137 J14 x0 0 v3 v5 v6 wA_15 wA_16 wA_17
def f_X8_looksFrom_l14 (A_1 : Nat → Int32) (A_2 : Nat → Int32) (A_4 : Nat → Int32) (A_5 : Nat → Int32) (A_6 : Nat → Int32) (A_7 : Nat → Int32) (A_14 : Nat → Int32) (Z_3 : Int32) (x0 : Int32) (x1 : Int32) : Nat → Int32 → (Nat → Int32) → (Nat → Int32) → (Nat → Int32) → Option ((Nat → Int32) × (Nat → Int32) × (Nat → Int32))
  | 0, _, _, _, _ => none
  | k + 1, v3, wA_15, wA_16, wA_17 =>
  if Z_3 ≤ v3 then (
  some (wA_15, wA_16, wA_17))
  else (
  (f_X8_left A_1 A_2 A_4 A_5 A_6 A_7 A_14 x0 v3 x1).bind fun t2 =>
  if t2 < 0 then (
  f_X8_looksFrom_l173 (fun zv3 zwA_15 zwA_16 zwA_17 => f_X8_looksFrom_l14 A_1 A_2 A_4 A_5 A_6 A_7 A_14 Z_3 x0 x1 k zv3 zwA_15 zwA_16 zwA_17) v3 wA_15 wA_16 wA_17)
  else (
  (hm_rd 105 wA_15 (v3 + 1)).bind fun t3 =>
  if t3 = (-9) then (
  f_X8_looksFrom_l173 (fun zv3 zwA_15 zwA_16 zwA_17 => f_X8_looksFrom_l14 A_1 A_2 A_4 A_5 A_6 A_7 A_14 Z_3 x0 x1 k zv3 zwA_15 zwA_16 zwA_17) v3 wA_15 wA_16 wA_17)
  else (
  (f_X8_costOf A_6 A_7 Z_3 x0 v3 t2).bind fun t4 =>
  (hm_rd 105 wA_15 (v3 + 1)).bind fun t5 =>
  (hm_rd 105 wA_16 (v3 + 1)).bind fun t6 =>
  (hm_rd 105 wA_15 (x0 + 1)).bind fun t7 =>
  if t7 = (-9) then (
  f_X8_looksFrom_l132 (fun zv3 zwA_15 zwA_16 zwA_17 => f_X8_looksFrom_l14 A_1 A_2 A_4 A_5 A_6 A_7 A_14 Z_3 x0 x1 k zv3 zwA_15 zwA_16 zwA_17) x0 v3 (t4 + t5) (t6 + 1) wA_15 wA_16 wA_17)
  else (
  (hm_rd 105 wA_15 (x0 + 1)).bind fun t11 =>
  if (t4 + t5) < t11 then (
  f_X8_looksFrom_l132 (fun zv3 zwA_15 zwA_16 zwA_17 => f_X8_looksFrom_l14 A_1 A_2 A_4 A_5 A_6 A_7 A_14 Z_3 x0 x1 k zv3 zwA_15 zwA_16 zwA_17) x0 v3 (t4 + t5) (t6 + 1) wA_15 wA_16 wA_17)
  else (
  (hm_rd 105 wA_15 (x0 + 1)).bind fun t12 =>
  if (t4 + t5) = t12 then (
  (hm_rd 105 wA_16 (x0 + 1)).bind fun t13 =>
  if t13 < (t6 + 1) then (
  f_X8_looksFrom_l136 (fun zv3 zwA_15 zwA_16 zwA_17 => f_X8_looksFrom_l14 A_1 A_2 A_4 A_5 A_6 A_7 A_14 Z_3 x0 x1 k zv3 zwA_15 zwA_16 zwA_17) x0 v3 (t4 + t5) (t6 + 1) wA_15 wA_16 wA_17)
  else (
  f_X8_looksFrom_l132 (fun zv3 zwA_15 zwA_16 zwA_17 => f_X8_looksFrom_l14 A_1 A_2 A_4 A_5 A_6 A_7 A_14 Z_3 x0 x1 k zv3 zwA_15 zwA_16 zwA_17) x0 v3 (t4 + t5) (t6 + 1) wA_15 wA_16 wA_17))
  else (
  f_X8_looksFrom_l136 (fun zv3 zwA_15 zwA_16 zwA_17 => f_X8_looksFrom_l14 A_1 A_2 A_4 A_5 A_6 A_7 A_14 Z_3 x0 x1 k zv3 zwA_15 zwA_16 zwA_17) x0 v3 (t4 + t5) (t6 + 1) wA_15 wA_16 wA_17))))))
theorem f_X8_looksFrom_l14_s (A_1 : Nat → Int32) (A_2 : Nat → Int32) (A_4 : Nat → Int32) (A_5 : Nat → Int32) (A_6 : Nat → Int32) (A_7 : Nat → Int32) (A_14 : Nat → Int32) (Z_3 : Int32) (x0 : Int32) (x1 : Int32) (k : Nat) (v3 : Int32) (wA_15 : Nat → Int32) (wA_16 : Nat → Int32) (wA_17 : Nat → Int32) : f_X8_looksFrom_l14 A_1 A_2 A_4 A_5 A_6 A_7 A_14 Z_3 x0 x1 (k + 1) v3 wA_15 wA_16 wA_17 =
  if Z_3 ≤ v3 then (
  some (wA_15, wA_16, wA_17))
  else (
  (f_X8_left A_1 A_2 A_4 A_5 A_6 A_7 A_14 x0 v3 x1).bind fun t2 =>
  if t2 < 0 then (
  f_X8_looksFrom_l173 (fun zv3 zwA_15 zwA_16 zwA_17 => f_X8_looksFrom_l14 A_1 A_2 A_4 A_5 A_6 A_7 A_14 Z_3 x0 x1 k zv3 zwA_15 zwA_16 zwA_17) v3 wA_15 wA_16 wA_17)
  else (
  (hm_rd 105 wA_15 (v3 + 1)).bind fun t3 =>
  if t3 = (-9) then (
  f_X8_looksFrom_l173 (fun zv3 zwA_15 zwA_16 zwA_17 => f_X8_looksFrom_l14 A_1 A_2 A_4 A_5 A_6 A_7 A_14 Z_3 x0 x1 k zv3 zwA_15 zwA_16 zwA_17) v3 wA_15 wA_16 wA_17)
  else (
  (f_X8_costOf A_6 A_7 Z_3 x0 v3 t2).bind fun t4 =>
  (hm_rd 105 wA_15 (v3 + 1)).bind fun t5 =>
  (hm_rd 105 wA_16 (v3 + 1)).bind fun t6 =>
  (hm_rd 105 wA_15 (x0 + 1)).bind fun t7 =>
  if t7 = (-9) then (
  f_X8_looksFrom_l132 (fun zv3 zwA_15 zwA_16 zwA_17 => f_X8_looksFrom_l14 A_1 A_2 A_4 A_5 A_6 A_7 A_14 Z_3 x0 x1 k zv3 zwA_15 zwA_16 zwA_17) x0 v3 (t4 + t5) (t6 + 1) wA_15 wA_16 wA_17)
  else (
  (hm_rd 105 wA_15 (x0 + 1)).bind fun t11 =>
  if (t4 + t5) < t11 then (
  f_X8_looksFrom_l132 (fun zv3 zwA_15 zwA_16 zwA_17 => f_X8_looksFrom_l14 A_1 A_2 A_4 A_5 A_6 A_7 A_14 Z_3 x0 x1 k zv3 zwA_15 zwA_16 zwA_17) x0 v3 (t4 + t5) (t6 + 1) wA_15 wA_16 wA_17)
  else (
  (hm_rd 105 wA_15 (x0 + 1)).bind fun t12 =>
  if (t4 + t5) = t12 then (
  (hm_rd 105 wA_16 (x0 + 1)).bind fun t13 =>
  if t13 < (t6 + 1) then (
  f_X8_looksFrom_l136 (fun zv3 zwA_15 zwA_16 zwA_17 => f_X8_looksFrom_l14 A_1 A_2 A_4 A_5 A_6 A_7 A_14 Z_3 x0 x1 k zv3 zwA_15 zwA_16 zwA_17) x0 v3 (t4 + t5) (t6 + 1) wA_15 wA_16 wA_17)
  else (
  f_X8_looksFrom_l132 (fun zv3 zwA_15 zwA_16 zwA_17 => f_X8_looksFrom_l14 A_1 A_2 A_4 A_5 A_6 A_7 A_14 Z_3 x0 x1 k zv3 zwA_15 zwA_16 zwA_17) x0 v3 (t4 + t5) (t6 + 1) wA_15 wA_16 wA_17))
  else (
  f_X8_looksFrom_l136 (fun zv3 zwA_15 zwA_16 zwA_17 => f_X8_looksFrom_l14 A_1 A_2 A_4 A_5 A_6 A_7 A_14 Z_3 x0 x1 k zv3 zwA_15 zwA_16 zwA_17) x0 v3 (t4 + t5) (t6 + 1) wA_15 wA_16 wA_17)))))) := rfl
theorem f_X8_looksFrom_l14_z (A_1 : Nat → Int32) (A_2 : Nat → Int32) (A_4 : Nat → Int32) (A_5 : Nat → Int32) (A_6 : Nat → Int32) (A_7 : Nat → Int32) (A_14 : Nat → Int32) (Z_3 : Int32) (x0 : Int32) (x1 : Int32) (v3 : Int32) (wA_15 : Nat → Int32) (wA_16 : Nat → Int32) (wA_17 : Nat → Int32) : f_X8_looksFrom_l14 A_1 A_2 A_4 A_5 A_6 A_7 A_14 Z_3 x0 x1 0 v3 wA_15 wA_16 wA_17 = none := rfl
def f_X8_looksFrom (A_1 : Nat → Int32) (A_2 : Nat → Int32) (A_4 : Nat → Int32) (A_5 : Nat → Int32) (A_6 : Nat → Int32) (A_7 : Nat → Int32) (A_14 : Nat → Int32) (A_15 : Nat → Int32) (A_16 : Nat → Int32) (A_17 : Nat → Int32) (Z_3 : Int32) (x0 : Int32) (x1 : Int32)  : Option ((Nat → Int32) × (Nat → Int32) × (Nat → Int32)) :=
  (hm_wr 105 A_15 (x0 + 1) (-9)).bind fun f1 =>
  f_X8_looksFrom_l14 A_1 A_2 A_4 A_5 A_6 A_7 A_14 Z_3 x0 x1 hm_fu (x0 + 1) f1 A_16 A_17
abbrev rm_X8_looksFrom : Room := { frames := 4, cells := 0, slots := 0, locals := 88 }
set_option maxHeartbeats 4000000 in
set_option maxRecDepth 100000 in
theorem c_X8_looksFrom (l : Launch) (g : hm_G) (a : Nat → Nat) (A : Nat → Nat → Int32) (Z : Nat → Int32) (x0 : Int32) (x1 : Int32) (q : (Nat → Int32) × (Nat → Int32) × (Nat → Int32)) (hF : f_X8_looksFrom (A 1) (A 2) (A 4) (A 5) (A 6) (A 7) (A 14) (A 15) (A 16) (A 17) (Z 3) x0 x1 = some q) : hm_Mv l yX8_looksFrom (Cond.code yX8_looksFrom cX8_looksFrom 8 none :: hm_W) rm_X8_looksFrom g [.ref (a 0), .int x0, .int x1] (hm_wMM g a A Z) (hm_wMM g a (hm_up (hm_up (hm_up A 15 q.1) 16 q.2.1) 17 q.2.2) Z) := by
  refine hm_ofv [(0, .ref (a 0)), (1, .int x0), (2, .int x1)] (by decide) (own := RX8) rfl (Nat.le_of_ble_eq_true rfl) rfl rfl ?_
  intro p e s m args below meth c AA S hr hlk X ls hl
  have hx := S.1
  have hb := S.2.1
  have hown := S.2.2.2.1
  have hts := S.2.2.2.2
  have hl14 : ∀ (k14 : Nat) (v3 : Int32) (wA_15 : Nat → Int32) (wA_16 : Nat → Int32) (wA_17 : Nat → Int32), f_X8_looksFrom_l14 (A 1) (A 2) (A 4) (A 5) (A 6) (A 7) (A 14) (Z 3) x0 x1 k14 v3 wA_15 wA_16 wA_17 = some q → ∀ (H : Heap) (locs : List Loc), hm_X g AA s H locs (hm_wMM g a (hm_up (hm_up (hm_up A 15 wA_15) 16 wA_16) 17 wA_17) Z) → ∀ ls : Array Slot, lv_has ls 8 [(0, .ref (a 0)), (1, .int x0), (2, .int x1), (3, .int v3)] → W p l e rm_X8_looksFrom s m args below meth c H locs 0 0 (MQ below (hm_Qv g AA (hm_wMM g a (hm_up (hm_up (hm_up A 15 q.1) 16 q.2.1) 17 q.2.2) Z)) args s 0 0 AA) (F0 m 14 ls []) := by
    intro k14
    induction k14 with
    | zero =>
      intro v3 wA_15 wA_16 wA_17 hF
      rw [f_X8_looksFrom_l14_z] at hF
      cases hF
    | succ k14 ih14 =>
      have hl173 : ∀ (v3 : Int32) (wA_15 : Nat → Int32) (wA_16 : Nat → Int32) (wA_17 : Nat → Int32), f_X8_looksFrom_l173 (fun zv3 zwA_15 zwA_16 zwA_17 => f_X8_looksFrom_l14 (A 1) (A 2) (A 4) (A 5) (A 6) (A 7) (A 14) (Z 3) x0 x1 k14 zv3 zwA_15 zwA_16 zwA_17) v3 wA_15 wA_16 wA_17 = some q → ∀ (H : Heap) (locs : List Loc), hm_X g AA s H locs (hm_wMM g a (hm_up (hm_up (hm_up A 15 wA_15) 16 wA_16) 17 wA_17) Z) → ∀ ls : Array Slot, lv_has ls 8 [(0, .ref (a 0)), (1, .int x0), (2, .int x1), (3, .int v3)] → W p l e rm_X8_looksFrom s m args below meth c H locs 0 0 (MQ below (hm_Qv g AA (hm_wMM g a (hm_up (hm_up (hm_up A 15 q.1) 16 q.2.1) 17 q.2.2) Z)) args s 0 0 AA) (F0 m 173 ls []) := by
        intro v3 wA_15 wA_16 wA_17 hF H locs X ls hl
        unfold f_X8_looksFrom_l173 at hF
        refine lv_iinc (v := (v3 + 1)) (lv' := [(3, .int (v3 + 1)), (0, .ref (a 0)), (1, .int x0), (2, .int x1)]) hx hb dX8_looksFrom_173 hl (k := 3) rfl rfl (by decide) rfl (fun ls hl => ?_)
        refine lv_goto (tgt := 14) hx hb dX8_looksFrom_176 (by decide) ?_
        exact ih14 (v3 + 1) wA_15 wA_16 wA_17 hF _ _ X _ (lv_sub hl [1, 2, 3, 0] rfl)
      have hl137 : ∀ (s137_0 : Int32) (v3 : Int32) (v5 : Int32) (v6 : Int32) (wA_15 : Nat → Int32) (wA_16 : Nat → Int32) (wA_17 : Nat → Int32), f_X8_looksFrom_l137 (fun zv3 zwA_15 zwA_16 zwA_17 => f_X8_looksFrom_l14 (A 1) (A 2) (A 4) (A 5) (A 6) (A 7) (A 14) (Z 3) x0 x1 k14 zv3 zwA_15 zwA_16 zwA_17) x0 s137_0 v3 v5 v6 wA_15 wA_16 wA_17 = some q → ∀ (H : Heap) (locs : List Loc), hm_X g AA s H locs (hm_wMM g a (hm_up (hm_up (hm_up A 15 wA_15) 16 wA_16) 17 wA_17) Z) → ∀ ls : Array Slot, lv_has ls 8 [(0, .ref (a 0)), (1, .int x0), (2, .int x1), (3, .int v3), (5, .int v5), (6, .int v6)] → W p l e rm_X8_looksFrom s m args below meth c H locs 0 0 (MQ below (hm_Qv g AA (hm_wMM g a (hm_up (hm_up (hm_up A 15 q.1) 16 q.2.1) 17 q.2.2) Z)) args s 0 0 AA) (F0 m 137 ls [.int s137_0]) := by
        intro s137_0 v3 v5 v6 wA_15 wA_16 wA_17 hF H locs X ls hl
        unfold f_X8_looksFrom_l137 at hF
        refine lv_istore (lv' := [(7, .int s137_0), (0, .ref (a 0)), (1, .int x0), (2, .int x1), (3, .int v3), (5, .int v5), (6, .int v6)]) hx hb dX8_looksFrom_137 hl (by decide) rfl (fun ls hl => ?_)
        refine lv_iload hx hb dX8_looksFrom_139 (lv_at hl 0 rfl) ?_
        refine lv_if_eq (tgt := 173) hx hb dX8_looksFrom_141 (by decide) (fun c141 => ?_) (fun c141 => ?_)
        · have hF := hm_if hF c141
          exact hl173 v3 wA_15 wA_16 wA_17 hF _ _ X _ (lv_sub hl [1, 2, 3, 4] rfl)
        · have hF := hm_nf hF c141
          refine lv_aload_n hx hb dX8_looksFrom_144 rfl (lv_at hl 1 rfl) ?_
          refine hm_get S X hf_X8_56 0 rfl rfl dX8_looksFrom_145 ?_
          refine lv_iload_n hx hb dX8_looksFrom_148 rfl (lv_at hl 2 rfl) ?_
          refine lv_iconst (v := 1) hx hb dX8_looksFrom_149 (by decide) ?_
          refine lv_iadd hx hb dX8_looksFrom_150 ?_
          refine lv_iload hx hb dX8_looksFrom_151 (lv_at hl 5 rfl) ?_
          obtain ⟨f8, hf8, hF⟩ := hm_bd hF
          refine hm_iast S X hf8 16 rfl dX8_looksFrom_153 (fun H locs X => ?_)
          have X := X.to (ws' := (hm_wMM g a (hm_up (hm_up (hm_up A 15 f8) 16 wA_16) 17 wA_17) Z)) rfl
          refine lv_aload_n hx hb dX8_looksFrom_154 rfl (lv_at hl 1 rfl) ?_
          refine hm_get S X hf_X8_59 0 rfl rfl dX8_looksFrom_155 ?_
          refine lv_iload_n hx hb dX8_looksFrom_158 rfl (lv_at hl 2 rfl) ?_
          refine lv_iconst (v := 1) hx hb dX8_looksFrom_159 (by decide) ?_
          refine lv_iadd hx hb dX8_looksFrom_160 ?_
          refine lv_iload hx hb dX8_looksFrom_161 (lv_at hl 6 rfl) ?_
          obtain ⟨f9, hf9, hF⟩ := hm_bd hF
          refine hm_iast S X hf9 17 rfl dX8_looksFrom_163 (fun H locs X => ?_)
          have X := X.to (ws' := (hm_wMM g a (hm_up (hm_up (hm_up A 15 f8) 16 f9) 17 wA_17) Z)) rfl
          refine lv_aload_n hx hb dX8_looksFrom_164 rfl (lv_at hl 1 rfl) ?_
          refine hm_get S X hf_X8_62 0 rfl rfl dX8_looksFrom_165 ?_
          refine lv_iload_n hx hb dX8_looksFrom_168 rfl (lv_at hl 2 rfl) ?_
          refine lv_iconst (v := 1) hx hb dX8_looksFrom_169 (by decide) ?_
          refine lv_iadd hx hb dX8_looksFrom_170 ?_
          refine lv_iload_n hx hb dX8_looksFrom_171 rfl (lv_at hl 4 rfl) ?_
          obtain ⟨f10, hf10, hF⟩ := hm_bd hF
          refine hm_iast S X hf10 18 rfl dX8_looksFrom_172 (fun H locs X => ?_)
          have X := X.to (ws' := (hm_wMM g a (hm_up (hm_up (hm_up A 15 f8) 16 f9) 17 f10) Z)) rfl
          exact hl173 v3 f8 f9 f10 hF _ _ X _ (lv_sub hl [1, 2, 3, 4] rfl)
      have hl136 : ∀ (v3 : Int32) (v5 : Int32) (v6 : Int32) (wA_15 : Nat → Int32) (wA_16 : Nat → Int32) (wA_17 : Nat → Int32), f_X8_looksFrom_l136 (fun zv3 zwA_15 zwA_16 zwA_17 => f_X8_looksFrom_l14 (A 1) (A 2) (A 4) (A 5) (A 6) (A 7) (A 14) (Z 3) x0 x1 k14 zv3 zwA_15 zwA_16 zwA_17) x0 v3 v5 v6 wA_15 wA_16 wA_17 = some q → ∀ (H : Heap) (locs : List Loc), hm_X g AA s H locs (hm_wMM g a (hm_up (hm_up (hm_up A 15 wA_15) 16 wA_16) 17 wA_17) Z) → ∀ ls : Array Slot, lv_has ls 8 [(0, .ref (a 0)), (1, .int x0), (2, .int x1), (3, .int v3), (5, .int v5), (6, .int v6)] → W p l e rm_X8_looksFrom s m args below meth c H locs 0 0 (MQ below (hm_Qv g AA (hm_wMM g a (hm_up (hm_up (hm_up A 15 q.1) 16 q.2.1) 17 q.2.2) Z)) args s 0 0 AA) (F0 m 136 ls []) := by
        intro v3 v5 v6 wA_15 wA_16 wA_17 hF H locs X ls hl
        unfold f_X8_looksFrom_l136 at hF
        refine lv_iconst (v := 0) hx hb dX8_looksFrom_136 (by decide) ?_
        exact hl137 0 v3 v5 v6 wA_15 wA_16 wA_17 hF _ _ X _ (lv_sub hl [0, 1, 2, 3, 4, 5] rfl)
      have hl132 : ∀ (v3 : Int32) (v5 : Int32) (v6 : Int32) (wA_15 : Nat → Int32) (wA_16 : Nat → Int32) (wA_17 : Nat → Int32), f_X8_looksFrom_l132 (fun zv3 zwA_15 zwA_16 zwA_17 => f_X8_looksFrom_l14 (A 1) (A 2) (A 4) (A 5) (A 6) (A 7) (A 14) (Z 3) x0 x1 k14 zv3 zwA_15 zwA_16 zwA_17) x0 v3 v5 v6 wA_15 wA_16 wA_17 = some q → ∀ (H : Heap) (locs : List Loc), hm_X g AA s H locs (hm_wMM g a (hm_up (hm_up (hm_up A 15 wA_15) 16 wA_16) 17 wA_17) Z) → ∀ ls : Array Slot, lv_has ls 8 [(0, .ref (a 0)), (1, .int x0), (2, .int x1), (3, .int v3), (5, .int v5), (6, .int v6)] → W p l e rm_X8_looksFrom s m args below meth c H locs 0 0 (MQ below (hm_Qv g AA (hm_wMM g a (hm_up (hm_up (hm_up A 15 q.1) 16 q.2.1) 17 q.2.2) Z)) args s 0 0 AA) (F0 m 132 ls []) := by
        intro v3 v5 v6 wA_15 wA_16 wA_17 hF H locs X ls hl
        unfold f_X8_looksFrom_l132 at hF
        refine lv_iconst (v := 1) hx hb dX8_looksFrom_132 (by decide) ?_
        refine lv_goto (tgt := 137) hx hb dX8_looksFrom_133 (by decide) ?_
        exact hl137 1 v3 v5 v6 wA_15 wA_16 wA_17 hF _ _ X _ (lv_sub hl [0, 1, 2, 3, 4, 5] rfl)
      intro v3 wA_15 wA_16 wA_17 hF H locs X ls hl
      rw [f_X8_looksFrom_l14_s] at hF
      refine lv_iload_n hx hb dX8_looksFrom_14 rfl (lv_at hl 3 rfl) ?_
      refine lv_aload_n hx hb dX8_looksFrom_15 rfl (lv_at hl 0 rfl) ?_
      refine hm_get S X hf_X8_117 0 rfl rfl dX8_looksFrom_16 ?_
      refine lv_icmp_ge (tgt := 179) hx hb dX8_looksFrom_19 (by decide) (fun c19 => ?_) (fun c19 => ?_)
      · have hF := hm_if hF c19
        obtain rfl := Option.some.inj hF
        exact hm_rv S hr hlk X rfl dX8_looksFrom_179
      · have hF := hm_nf hF c19
        refine lv_aload_n hx hb dX8_looksFrom_22 rfl (lv_at hl 0 rfl) ?_
        refine lv_iload_n hx hb dX8_looksFrom_23 rfl (lv_at hl 1 rfl) ?_
        refine lv_iload_n hx hb dX8_looksFrom_24 rfl (lv_at hl 3 rfl) ?_
        refine lv_iload_n hx hb dX8_looksFrom_25 rfl (lv_at hl 2 rfl) ?_
        obtain ⟨t2, ht2, hF⟩ := hm_bd hF
        refine hm_vi (As := [.int x0, .int v3, .int x1]) S X mw_X8_left hw_5_53 (c_X8_left l g a (hm_up (hm_up (hm_up A 15 wA_15) 16 wA_16) 17 wA_17) Z x0 v3 x1 t2 ht2) hm_same hm_same rfl rfl rfl ⟨rfl, rfl, Nat.le_of_ble_eq_true rfl, Nat.le_of_ble_eq_true rfl⟩ rfl hl.1 rfl (Nat.le_of_ble_eq_true rfl) dX8_looksFrom_26 ⟨Nat.zero_le _, Nat.zero_le _⟩ (fun H locs X => ?_)
        refine lv_istore (lv' := [(4, .int t2), (0, .ref (a 0)), (1, .int x0), (2, .int x1), (3, .int v3)]) hx hb dX8_looksFrom_29 hl (by decide) rfl (fun ls hl => ?_)
        refine lv_iload hx hb dX8_looksFrom_31 (lv_at hl 0 rfl) ?_
        refine lv_if_lt (tgt := 173) hx hb dX8_looksFrom_33 (by decide) (fun c33 => ?_) (fun c33 => ?_)
        · have hF := hm_if hF c33
          exact hl173 v3 wA_15 wA_16 wA_17 hF _ _ X _ (lv_sub hl [1, 2, 3, 4] rfl)
        · have hF := hm_nf hF c33
          refine lv_aload_n hx hb dX8_looksFrom_36 rfl (lv_at hl 1 rfl) ?_
          refine hm_get S X hf_X8_56 0 rfl rfl dX8_looksFrom_37 ?_
          refine lv_iload_n hx hb dX8_looksFrom_40 rfl (lv_at hl 4 rfl) ?_
          refine lv_iconst (v := 1) hx hb dX8_looksFrom_41 (by decide) ?_
          refine lv_iadd hx hb dX8_looksFrom_42 ?_
          obtain ⟨t3, ht3, hF⟩ := hm_bd hF
          refine hm_iald S X ht3 16 rfl dX8_looksFrom_43 ?_
          refine lv_bipush (v := (-9)) hx hb dX8_looksFrom_44 (by decide) ?_
          refine lv_icmp_eq (tgt := 173) hx hb dX8_looksFrom_46 (by decide) (fun c46 => ?_) (fun c46 => ?_)
          · have hF := hm_if hF c46
            exact hl173 v3 wA_15 wA_16 wA_17 hF _ _ X _ (lv_sub hl [1, 2, 3, 4] rfl)
          · have hF := hm_nf hF c46
            refine lv_aload_n hx hb dX8_looksFrom_49 rfl (lv_at hl 1 rfl) ?_
            refine lv_iload_n hx hb dX8_looksFrom_50 rfl (lv_at hl 2 rfl) ?_
            refine lv_iload_n hx hb dX8_looksFrom_51 rfl (lv_at hl 4 rfl) ?_
            refine lv_iload hx hb dX8_looksFrom_52 (lv_at hl 0 rfl) ?_
            obtain ⟨t4, ht4, hF⟩ := hm_bd hF
            refine hm_vi (As := [.int x0, .int v3, .int t2]) S X mw_X8_costOf hw_5_73 (c_X8_costOf l g a (hm_up (hm_up (hm_up A 15 wA_15) 16 wA_16) 17 wA_17) Z x0 v3 t2 t4 ht4) hm_same hm_same rfl rfl rfl ⟨rfl, rfl, Nat.le_of_ble_eq_true rfl, Nat.le_of_ble_eq_true rfl⟩ rfl hl.1 rfl (Nat.le_of_ble_eq_true rfl) dX8_looksFrom_54 ⟨Nat.zero_le _, Nat.zero_le _⟩ (fun H locs X => ?_)
            refine lv_aload_n hx hb dX8_looksFrom_57 rfl (lv_at hl 1 rfl) ?_
            refine hm_get S X hf_X8_56 0 rfl rfl dX8_looksFrom_58 ?_
            refine lv_iload_n hx hb dX8_looksFrom_61 rfl (lv_at hl 4 rfl) ?_
            refine lv_iconst (v := 1) hx hb dX8_looksFrom_62 (by decide) ?_
            refine lv_iadd hx hb dX8_looksFrom_63 ?_
            obtain ⟨t5, ht5, hF⟩ := hm_bd hF
            refine hm_iald S X ht5 16 rfl dX8_looksFrom_64 ?_
            refine lv_iadd hx hb dX8_looksFrom_65 ?_
            refine lv_istore (lv' := [(5, .int (t4 + t5)), (4, .int t2), (0, .ref (a 0)), (1, .int x0), (2, .int x1), (3, .int v3)]) hx hb dX8_looksFrom_66 hl (by decide) rfl (fun ls hl => ?_)
            refine lv_aload_n hx hb dX8_looksFrom_68 rfl (lv_at hl 2 rfl) ?_
            refine hm_get S X hf_X8_59 0 rfl rfl dX8_looksFrom_69 ?_
            refine lv_iload_n hx hb dX8_looksFrom_72 rfl (lv_at hl 5 rfl) ?_
            refine lv_iconst (v := 1) hx hb dX8_looksFrom_73 (by decide) ?_
            refine lv_iadd hx hb dX8_looksFrom_74 ?_
            obtain ⟨t6, ht6, hF⟩ := hm_bd hF
            refine hm_iald S X ht6 17 rfl dX8_looksFrom_75 ?_
            refine lv_iconst (v := 1) hx hb dX8_looksFrom_76 (by decide) ?_
            refine lv_iadd hx hb dX8_looksFrom_77 ?_
            refine lv_istore (lv' := [(6, .int (t6 + 1)), (5, .int (t4 + t5)), (4, .int t2), (0, .ref (a 0)), (1, .int x0), (2, .int x1), (3, .int v3)]) hx hb dX8_looksFrom_78 hl (by decide) rfl (fun ls hl => ?_)
            refine lv_aload_n hx hb dX8_looksFrom_80 rfl (lv_at hl 3 rfl) ?_
            refine hm_get S X hf_X8_56 0 rfl rfl dX8_looksFrom_81 ?_
            refine lv_iload_n hx hb dX8_looksFrom_84 rfl (lv_at hl 4 rfl) ?_
            refine lv_iconst (v := 1) hx hb dX8_looksFrom_85 (by decide) ?_
            refine lv_iadd hx hb dX8_looksFrom_86 ?_
            obtain ⟨t7, ht7, hF⟩ := hm_bd hF
            refine hm_iald S X ht7 16 rfl dX8_looksFrom_87 ?_
            refine lv_bipush (v := (-9)) hx hb dX8_looksFrom_88 (by decide) ?_
            refine lv_icmp_eq (tgt := 132) hx hb dX8_looksFrom_90 (by decide) (fun c90 => ?_) (fun c90 => ?_)
            · have hF := hm_if hF c90
              exact hl132 v3 (t4 + t5) (t6 + 1) wA_15 wA_16 wA_17 hF _ _ X _ (lv_sub hl [3, 4, 5, 6, 1, 0] rfl)
            · have hF := hm_nf hF c90
              refine lv_iload hx hb dX8_looksFrom_93 (lv_at hl 1 rfl) ?_
              refine lv_aload_n hx hb dX8_looksFrom_95 rfl (lv_at hl 3 rfl) ?_
              refine hm_get S X hf_X8_56 0 rfl rfl dX8_looksFrom_96 ?_
              refine lv_iload_n hx hb dX8_looksFrom_99 rfl (lv_at hl 4 rfl) ?_
              refine lv_iconst (v := 1) hx hb dX8_looksFrom_100 (by decide) ?_
              refine lv_iadd hx hb dX8_looksFrom_101 ?_
              obtain ⟨t11, ht11, hF⟩ := hm_bd hF
              refine hm_iald S X ht11 16 rfl dX8_looksFrom_102 ?_
              refine lv_icmp_lt (tgt := 132) hx hb dX8_looksFrom_103 (by decide) (fun c103 => ?_) (fun c103 => ?_)
              · have hF := hm_if hF c103
                exact hl132 v3 (t4 + t5) (t6 + 1) wA_15 wA_16 wA_17 hF _ _ X _ (lv_sub hl [3, 4, 5, 6, 1, 0] rfl)
              · have hF := hm_nf hF c103
                refine lv_iload hx hb dX8_looksFrom_106 (lv_at hl 1 rfl) ?_
                refine lv_aload_n hx hb dX8_looksFrom_108 rfl (lv_at hl 3 rfl) ?_
                refine hm_get S X hf_X8_56 0 rfl rfl dX8_looksFrom_109 ?_
                refine lv_iload_n hx hb dX8_looksFrom_112 rfl (lv_at hl 4 rfl) ?_
                refine lv_iconst (v := 1) hx hb dX8_looksFrom_113 (by decide) ?_
                refine lv_iadd hx hb dX8_looksFrom_114 ?_
                obtain ⟨t12, ht12, hF⟩ := hm_bd hF
                refine hm_iald S X ht12 16 rfl dX8_looksFrom_115 ?_
                refine lv_icmp_ne (tgt := 136) hx hb dX8_looksFrom_116 (by decide) (fun c116 => ?_) (fun c116 => ?_)
                · have hF := hm_nf hF c116
                  exact hl136 v3 (t4 + t5) (t6 + 1) wA_15 wA_16 wA_17 hF _ _ X _ (lv_sub hl [3, 4, 5, 6, 1, 0] rfl)
                · have hF := hm_if hF c116
                  refine lv_iload hx hb dX8_looksFrom_119 (lv_at hl 0 rfl) ?_
                  refine lv_aload_n hx hb dX8_looksFrom_121 rfl (lv_at hl 3 rfl) ?_
                  refine hm_get S X hf_X8_59 0 rfl rfl dX8_looksFrom_122 ?_
                  refine lv_iload_n hx hb dX8_looksFrom_125 rfl (lv_at hl 4 rfl) ?_
                  refine lv_iconst (v := 1) hx hb dX8_looksFrom_126 (by decide) ?_
                  refine lv_iadd hx hb dX8_looksFrom_127 ?_
                  obtain ⟨t13, ht13, hF⟩ := hm_bd hF
                  refine hm_iald S X ht13 17 rfl dX8_looksFrom_128 ?_
                  refine lv_icmp_gt (tgt := 136) hx hb dX8_looksFrom_129 (by decide) (fun c129 => ?_) (fun c129 => ?_)
                  · have hF := hm_if hF c129
                    exact hl136 v3 (t4 + t5) (t6 + 1) wA_15 wA_16 wA_17 hF _ _ X _ (lv_sub hl [3, 4, 5, 6, 1, 0] rfl)
                  · have hF := hm_nf hF c129
                    exact hl132 v3 (t4 + t5) (t6 + 1) wA_15 wA_16 wA_17 hF _ _ X _ (lv_sub hl [3, 4, 5, 6, 1, 0] rfl)
  unfold f_X8_looksFrom at hF
  refine lv_aload_n hx hb dX8_looksFrom_0 rfl (lv_at hl 0 rfl) ?_
  refine hm_get S X hf_X8_56 0 rfl rfl dX8_looksFrom_1 ?_
  refine lv_iload_n hx hb dX8_looksFrom_4 rfl (lv_at hl 1 rfl) ?_
  refine lv_iconst (v := 1) hx hb dX8_looksFrom_5 (by decide) ?_
  refine lv_iadd hx hb dX8_looksFrom_6 ?_
  refine lv_bipush (v := (-9)) hx hb dX8_looksFrom_7 (by decide) ?_
  obtain ⟨f1, hf1, hF⟩ := hm_bd hF
  refine hm_iast S X hf1 16 rfl dX8_looksFrom_9 (fun H locs X => ?_)
  have X := X.to (ws' := (hm_wMM g a (hm_up A 15 f1) Z)) rfl
  refine lv_iload_n hx hb dX8_looksFrom_10 rfl (lv_at hl 1 rfl) ?_
  refine lv_iconst (v := 1) hx hb dX8_looksFrom_11 (by decide) ?_
  refine lv_iadd hx hb dX8_looksFrom_12 ?_
  refine lv_istore_n (lv' := [(3, .int (x0 + 1)), (0, .ref (a 0)), (1, .int x0), (2, .int x1)]) hx hb dX8_looksFrom_13 rfl hl (by decide) rfl (fun ls hl => ?_)
  exact hl14 hm_fu (x0 + 1) f1 (A 16) (A 17) hF _ _ (X.to (ws' := (hm_wMM g a (hm_up (hm_up (hm_up A 15 f1) 16 (A 16)) 17 (A 17)) Z)) rfl) _ (lv_sub hl [1, 2, 3, 0] rfl)
def f_X8_laysPage_l68 (Z_3 : Int32) : Nat → Int32 → (Nat → Int32) → (Nat → Int32) → (Nat → Int32) → (Nat → Int32) → (Nat → Int32) → Int32 → Option (Int32 × (Nat → Int32) × (Nat → Int32) × (Nat → Int32) × (Nat → Int32) × (Nat → Int32) × Int32)
  | 0, _, _, _, _, _, _, _ => none
  | k + 1, v2, wA_14, wA_15, wA_16, wA_17, wA_18, wZ_7 =>
  if (Z_3 - 1) ≤ v2 then (
  some (1, wA_14, wA_15, wA_16, wA_17, wA_18, wZ_7))
  else (
  (hm_rd 105 wA_17 (v2 + 1)).bind fun t5 =>
  (hm_wr 104 wA_18 wZ_7 t5).bind fun f6 =>
  f_X8_laysPage_l68 Z_3 k t5 wA_14 wA_15 wA_16 wA_17 f6 (wZ_7 + 1))
theorem f_X8_laysPage_l68_s (Z_3 : Int32) (k : Nat) (v2 : Int32) (wA_14 : Nat → Int32) (wA_15 : Nat → Int32) (wA_16 : Nat → Int32) (wA_17 : Nat → Int32) (wA_18 : Nat → Int32) (wZ_7 : Int32) : f_X8_laysPage_l68 Z_3 (k + 1) v2 wA_14 wA_15 wA_16 wA_17 wA_18 wZ_7 =
  if (Z_3 - 1) ≤ v2 then (
  some (1, wA_14, wA_15, wA_16, wA_17, wA_18, wZ_7))
  else (
  (hm_rd 105 wA_17 (v2 + 1)).bind fun t5 =>
  (hm_wr 104 wA_18 wZ_7 t5).bind fun f6 =>
  f_X8_laysPage_l68 Z_3 k t5 wA_14 wA_15 wA_16 wA_17 f6 (wZ_7 + 1)) := rfl
theorem f_X8_laysPage_l68_z (Z_3 : Int32) (v2 : Int32) (wA_14 : Nat → Int32) (wA_15 : Nat → Int32) (wA_16 : Nat → Int32) (wA_17 : Nat → Int32) (wA_18 : Nat → Int32) (wZ_7 : Int32) : f_X8_laysPage_l68 Z_3 0 v2 wA_14 wA_15 wA_16 wA_17 wA_18 wZ_7 = none := rfl
def f_X8_laysPage_l48 (A_18 : Nat → Int32) (Z_3 : Int32) (wA_14 : Nat → Int32) (wA_15 : Nat → Int32) (wA_16 : Nat → Int32) (wA_17 : Nat → Int32) : Option (Int32 × (Nat → Int32) × (Nat → Int32) × (Nat → Int32) × (Nat → Int32) × (Nat → Int32) × Int32) :=
  (hm_rd 105 wA_15 0).bind fun t4 =>
  if t4 = (-9) then (
  some (0, wA_14, wA_15, wA_16, wA_17, A_18, 0))
  else (
  f_X8_laysPage_l68 Z_3 hm_fu (-1) wA_14 wA_15 wA_16 wA_17 A_18 0)
def f_X8_laysPage_l31 (A_1 : Nat → Int32) (A_2 : Nat → Int32) (A_4 : Nat → Int32) (A_5 : Nat → Int32) (A_6 : Nat → Int32) (A_7 : Nat → Int32) (A_18 : Nat → Int32) (Z_3 : Int32) (x0 : Int32) : Nat → Int32 → (Nat → Int32) → (Nat → Int32) → (Nat → Int32) → (Nat → Int32) → Option (Int32 × (Nat → Int32) × (Nat → Int32) × (Nat → Int32) × (Nat → Int32) × (Nat → Int32) × Int32)
  | 0, _, _, _, _, _ => none
  | k + 1, v2, wA_14, wA_15, wA_16, wA_17 =>
  if v2 < (-1) then (
  f_X8_laysPage_l48 A_18 Z_3 wA_14 wA_15 wA_16 wA_17)
  else (
  (f_X8_looksFrom A_1 A_2 A_4 A_5 A_6 A_7 wA_14 wA_15 wA_16 wA_17 Z_3 v2 x0).bind fun t7 =>
  f_X8_laysPage_l31 A_1 A_2 A_4 A_5 A_6 A_7 A_18 Z_3 x0 k (v2 + (-1)) wA_14 t7.1 t7.2.1 t7.2.2)
theorem f_X8_laysPage_l31_s (A_1 : Nat → Int32) (A_2 : Nat → Int32) (A_4 : Nat → Int32) (A_5 : Nat → Int32) (A_6 : Nat → Int32) (A_7 : Nat → Int32) (A_18 : Nat → Int32) (Z_3 : Int32) (x0 : Int32) (k : Nat) (v2 : Int32) (wA_14 : Nat → Int32) (wA_15 : Nat → Int32) (wA_16 : Nat → Int32) (wA_17 : Nat → Int32) : f_X8_laysPage_l31 A_1 A_2 A_4 A_5 A_6 A_7 A_18 Z_3 x0 (k + 1) v2 wA_14 wA_15 wA_16 wA_17 =
  if v2 < (-1) then (
  f_X8_laysPage_l48 A_18 Z_3 wA_14 wA_15 wA_16 wA_17)
  else (
  (f_X8_looksFrom A_1 A_2 A_4 A_5 A_6 A_7 wA_14 wA_15 wA_16 wA_17 Z_3 v2 x0).bind fun t7 =>
  f_X8_laysPage_l31 A_1 A_2 A_4 A_5 A_6 A_7 A_18 Z_3 x0 k (v2 + (-1)) wA_14 t7.1 t7.2.1 t7.2.2) := rfl
theorem f_X8_laysPage_l31_z (A_1 : Nat → Int32) (A_2 : Nat → Int32) (A_4 : Nat → Int32) (A_5 : Nat → Int32) (A_6 : Nat → Int32) (A_7 : Nat → Int32) (A_18 : Nat → Int32) (Z_3 : Int32) (x0 : Int32) (v2 : Int32) (wA_14 : Nat → Int32) (wA_15 : Nat → Int32) (wA_16 : Nat → Int32) (wA_17 : Nat → Int32) : f_X8_laysPage_l31 A_1 A_2 A_4 A_5 A_6 A_7 A_18 Z_3 x0 0 v2 wA_14 wA_15 wA_16 wA_17 = none := rfl
def f_X8_laysPage (A_1 : Nat → Int32) (A_2 : Nat → Int32) (A_4 : Nat → Int32) (A_5 : Nat → Int32) (A_6 : Nat → Int32) (A_7 : Nat → Int32) (A_14 : Nat → Int32) (A_15 : Nat → Int32) (A_16 : Nat → Int32) (A_17 : Nat → Int32) (A_18 : Nat → Int32) (Z_1 : Int32) (Z_3 : Int32) (x0 : Int32)  : Option (Int32 × (Nat → Int32) × (Nat → Int32) × (Nat → Int32) × (Nat → Int32) × (Nat → Int32) × Int32) :=
  (f_X8_sums A_1 A_7 A_14 Z_1).bind fun t1 =>
  (hm_wr 105 A_15 Z_3 0).bind fun f2 =>
  (hm_wr 105 A_16 Z_3 0).bind fun f3 =>
  f_X8_laysPage_l31 A_1 A_2 A_4 A_5 A_6 A_7 A_18 Z_3 x0 hm_fu (Z_3 - 2) t1 f2 f3 A_17
abbrev rm_X8_laysPage : Room := { frames := 5, cells := 0, slots := 0, locals := 115 }
set_option maxHeartbeats 4000000 in
set_option maxRecDepth 100000 in
theorem c_X8_laysPage (l : Launch) (g : hm_G) (a : Nat → Nat) (A : Nat → Nat → Int32) (Z : Nat → Int32) (x0 : Int32) (q : Int32 × (Nat → Int32) × (Nat → Int32) × (Nat → Int32) × (Nat → Int32) × (Nat → Int32) × Int32) (hF : f_X8_laysPage (A 1) (A 2) (A 4) (A 5) (A 6) (A 7) (A 14) (A 15) (A 16) (A 17) (A 18) (Z 1) (Z 3) x0 = some q) : hm_Mi l yX8_laysPage (Cond.code yX8_laysPage cX8_laysPage 3 (some .boolean) :: hm_W) rm_X8_laysPage g [.ref (a 0), .int x0] (hm_wMM g a A Z) (hm_wMM g a (hm_up (hm_up (hm_up (hm_up (hm_up A 14 q.2.1) 15 q.2.2.1) 16 q.2.2.2.1) 17 q.2.2.2.2.1) 18 q.2.2.2.2.2.1) (hm_up Z 7 q.2.2.2.2.2.2)) q.1 := by
  refine hm_ofi [(0, .ref (a 0)), (1, .int x0)] (by decide) (own := RX8) rfl (Nat.le_of_ble_eq_true rfl) rfl rfl ?_
  intro p e s m args below meth c AA S hr hlk X ls hl
  have hx := S.1
  have hb := S.2.1
  have hown := S.2.2.2.1
  have hts := S.2.2.2.2
  have hl68 : ∀ (k68 : Nat) (v2 : Int32) (wA_14 : Nat → Int32) (wA_15 : Nat → Int32) (wA_16 : Nat → Int32) (wA_17 : Nat → Int32) (wA_18 : Nat → Int32) (wZ_7 : Int32), f_X8_laysPage_l68 (Z 3) k68 v2 wA_14 wA_15 wA_16 wA_17 wA_18 wZ_7 = some q → ∀ (H : Heap) (locs : List Loc), hm_X g AA s H locs (hm_wMM g a (hm_up (hm_up (hm_up (hm_up (hm_up A 14 wA_14) 15 wA_15) 16 wA_16) 17 wA_17) 18 wA_18) (hm_up Z 7 wZ_7)) → ∀ ls : Array Slot, lv_has ls 3 [(0, .ref (a 0)), (2, .int v2)] → W p l e rm_X8_laysPage s m args below meth c H locs 0 0 (MQ below (hm_Qi g AA (hm_wMM g a (hm_up (hm_up (hm_up (hm_up (hm_up A 14 q.2.1) 15 q.2.2.1) 16 q.2.2.2.1) 17 q.2.2.2.2.1) 18 q.2.2.2.2.2.1) (hm_up Z 7 q.2.2.2.2.2.2)) q.1) args s 0 0 AA) (F0 m 68 ls []) := by
    intro k68
    induction k68 with
    | zero =>
      intro v2 wA_14 wA_15 wA_16 wA_17 wA_18 wZ_7 hF
      rw [f_X8_laysPage_l68_z] at hF
      cases hF
    | succ k68 ih68 =>
      intro v2 wA_14 wA_15 wA_16 wA_17 wA_18 wZ_7 hF H locs X ls hl
      rw [f_X8_laysPage_l68_s] at hF
      refine lv_iload_n hx hb dX8_laysPage_68 rfl (lv_at hl 1 rfl) ?_
      refine lv_aload_n hx hb dX8_laysPage_69 rfl (lv_at hl 0 rfl) ?_
      refine hm_get S X hf_X8_117 0 rfl rfl dX8_laysPage_70 ?_
      refine lv_iconst (v := 1) hx hb dX8_laysPage_73 (by decide) ?_
      refine lv_isub hx hb dX8_laysPage_74 ?_
      refine lv_icmp_ge (tgt := 110) hx hb dX8_laysPage_75 (by decide) (fun c75 => ?_) (fun c75 => ?_)
      · have hF := hm_if hF c75
        refine lv_iconst (v := 1) hx hb dX8_laysPage_110 (by decide) ?_
        obtain rfl := Option.some.inj hF
        exact hm_rz S hr hlk X rfl rfl (Or.inr rfl) dX8_laysPage_111
      · have hF := hm_nf hF c75
        refine lv_aload_n hx hb dX8_laysPage_78 rfl (lv_at hl 0 rfl) ?_
        refine hm_get S X hf_X8_62 0 rfl rfl dX8_laysPage_79 ?_
        refine lv_iload_n hx hb dX8_laysPage_82 rfl (lv_at hl 1 rfl) ?_
        refine lv_iconst (v := 1) hx hb dX8_laysPage_83 (by decide) ?_
        refine lv_iadd hx hb dX8_laysPage_84 ?_
        obtain ⟨t5, ht5, hF⟩ := hm_bd hF
        refine hm_iald S X ht5 18 rfl dX8_laysPage_85 ?_
        refine lv_istore_n (lv' := [(2, .int t5), (0, .ref (a 0))]) hx hb dX8_laysPage_86 rfl hl (by decide) rfl (fun ls hl => ?_)
        refine lv_aload_n hx hb dX8_laysPage_87 rfl (lv_at hl 1 rfl) ?_
        refine hm_get S X hf_X8_65 0 rfl rfl dX8_laysPage_88 ?_
        refine lv_aload_n hx hb dX8_laysPage_91 rfl (lv_at hl 1 rfl) ?_
        refine hm_get S X hf_X8_183 0 rfl rfl dX8_laysPage_92 ?_
        refine lv_iload_n hx hb dX8_laysPage_95 rfl (lv_at hl 0 rfl) ?_
        obtain ⟨f6, hf6, hF⟩ := hm_bd hF
        refine hm_iast S X hf6 19 rfl dX8_laysPage_96 (fun H locs X => ?_)
        have X := X.to (ws' := (hm_wMM g a (hm_up (hm_up (hm_up (hm_up (hm_up A 14 wA_14) 15 wA_15) 16 wA_16) 17 wA_17) 18 f6) (hm_up Z 7 wZ_7))) rfl
        refine lv_aload_n hx hb dX8_laysPage_97 rfl (lv_at hl 1 rfl) ?_
        refine lv_dup hx hb dX8_laysPage_98 rfl ?_
        refine hm_get S X hf_X8_183 0 rfl rfl dX8_laysPage_99 ?_
        refine lv_iconst (v := 1) hx hb dX8_laysPage_102 (by decide) ?_
        refine lv_iadd hx hb dX8_laysPage_103 ?_
        refine hm_put S X hf_X8_183 hg_X8_lines 0 rfl rfl rfl (Nat.le_of_ble_eq_true rfl) dX8_laysPage_104 (fun H locs X => ?_)
        have X := X.to (ws' := (hm_wMM g a (hm_up (hm_up (hm_up (hm_up (hm_up A 14 wA_14) 15 wA_15) 16 wA_16) 17 wA_17) 18 f6) (hm_up Z 7 (wZ_7 + 1)))) rfl
        refine lv_goto (tgt := 68) hx hb dX8_laysPage_107 (by decide) ?_
        exact ih68 t5 wA_14 wA_15 wA_16 wA_17 f6 (wZ_7 + 1) hF _ _ X _ (lv_sub hl [1, 0] rfl)
  have hl48 : ∀ (wA_14 : Nat → Int32) (wA_15 : Nat → Int32) (wA_16 : Nat → Int32) (wA_17 : Nat → Int32), f_X8_laysPage_l48 (A 18) (Z 3) wA_14 wA_15 wA_16 wA_17 = some q → ∀ (H : Heap) (locs : List Loc), hm_X g AA s H locs (hm_wMM g a (hm_up (hm_up (hm_up (hm_up A 14 wA_14) 15 wA_15) 16 wA_16) 17 wA_17) Z) → ∀ ls : Array Slot, lv_has ls 3 [(0, .ref (a 0))] → W p l e rm_X8_laysPage s m args below meth c H locs 0 0 (MQ below (hm_Qi g AA (hm_wMM g a (hm_up (hm_up (hm_up (hm_up (hm_up A 14 q.2.1) 15 q.2.2.1) 16 q.2.2.2.1) 17 q.2.2.2.2.1) 18 q.2.2.2.2.2.1) (hm_up Z 7 q.2.2.2.2.2.2)) q.1) args s 0 0 AA) (F0 m 48 ls []) := by
    intro wA_14 wA_15 wA_16 wA_17 hF H locs X ls hl
    unfold f_X8_laysPage_l48 at hF
    refine lv_aload_n hx hb dX8_laysPage_48 rfl (lv_at hl 0 rfl) ?_
    refine lv_iconst (v := 0) hx hb dX8_laysPage_49 (by decide) ?_
    refine hm_put S X hf_X8_183 hg_X8_lines 0 rfl rfl rfl (Nat.le_of_ble_eq_true rfl) dX8_laysPage_50 (fun H locs X => ?_)
    have X := X.to (ws' := (hm_wMM g a (hm_up (hm_up (hm_up (hm_up A 14 wA_14) 15 wA_15) 16 wA_16) 17 wA_17) (hm_up Z 7 0))) rfl
    refine lv_aload_n hx hb dX8_laysPage_53 rfl (lv_at hl 0 rfl) ?_
    refine hm_get S X hf_X8_56 0 rfl rfl dX8_laysPage_54 ?_
    refine lv_iconst (v := 0) hx hb dX8_laysPage_57 (by decide) ?_
    obtain ⟨t4, ht4, hF⟩ := hm_bd hF
    refine hm_iald S X ht4 16 rfl dX8_laysPage_58 ?_
    refine lv_bipush (v := (-9)) hx hb dX8_laysPage_59 (by decide) ?_
    refine lv_icmp_ne (tgt := 66) hx hb dX8_laysPage_61 (by decide) (fun c61 => ?_) (fun c61 => ?_)
    · have hF := hm_nf hF c61
      refine lv_iconst (v := (-1)) hx hb dX8_laysPage_66 (by decide) ?_
      refine lv_istore_n (lv' := [(2, .int (-1)), (0, .ref (a 0))]) hx hb dX8_laysPage_67 rfl hl (by decide) rfl (fun ls hl => ?_)
      exact hl68 hm_fu (-1) wA_14 wA_15 wA_16 wA_17 (A 18) 0 hF _ _ (X.to (ws' := (hm_wMM g a (hm_up (hm_up (hm_up (hm_up (hm_up A 14 wA_14) 15 wA_15) 16 wA_16) 17 wA_17) 18 (A 18)) (hm_up Z 7 0))) rfl) _ (lv_sub hl [1, 0] rfl)
    · have hF := hm_if hF c61
      refine lv_iconst (v := 0) hx hb dX8_laysPage_64 (by decide) ?_
      obtain rfl := Option.some.inj hF
      exact hm_rz S hr hlk X rfl rfl (Or.inl rfl) dX8_laysPage_65
  have hl31 : ∀ (k31 : Nat) (v2 : Int32) (wA_14 : Nat → Int32) (wA_15 : Nat → Int32) (wA_16 : Nat → Int32) (wA_17 : Nat → Int32), f_X8_laysPage_l31 (A 1) (A 2) (A 4) (A 5) (A 6) (A 7) (A 18) (Z 3) x0 k31 v2 wA_14 wA_15 wA_16 wA_17 = some q → ∀ (H : Heap) (locs : List Loc), hm_X g AA s H locs (hm_wMM g a (hm_up (hm_up (hm_up (hm_up A 14 wA_14) 15 wA_15) 16 wA_16) 17 wA_17) Z) → ∀ ls : Array Slot, lv_has ls 3 [(0, .ref (a 0)), (1, .int x0), (2, .int v2)] → W p l e rm_X8_laysPage s m args below meth c H locs 0 0 (MQ below (hm_Qi g AA (hm_wMM g a (hm_up (hm_up (hm_up (hm_up (hm_up A 14 q.2.1) 15 q.2.2.1) 16 q.2.2.2.1) 17 q.2.2.2.2.1) 18 q.2.2.2.2.2.1) (hm_up Z 7 q.2.2.2.2.2.2)) q.1) args s 0 0 AA) (F0 m 31 ls []) := by
    intro k31
    induction k31 with
    | zero =>
      intro v2 wA_14 wA_15 wA_16 wA_17 hF
      rw [f_X8_laysPage_l31_z] at hF
      cases hF
    | succ k31 ih31 =>
      intro v2 wA_14 wA_15 wA_16 wA_17 hF H locs X ls hl
      rw [f_X8_laysPage_l31_s] at hF
      refine lv_iload_n hx hb dX8_laysPage_31 rfl (lv_at hl 2 rfl) ?_
      refine lv_iconst (v := (-1)) hx hb dX8_laysPage_32 (by decide) ?_
      refine lv_icmp_lt (tgt := 48) hx hb dX8_laysPage_33 (by decide) (fun c33 => ?_) (fun c33 => ?_)
      · have hF := hm_if hF c33
        exact hl48 wA_14 wA_15 wA_16 wA_17 hF _ _ X _ (lv_sub hl [0] rfl)
      · have hF := hm_nf hF c33
        refine lv_aload_n hx hb dX8_laysPage_36 rfl (lv_at hl 0 rfl) ?_
        refine lv_iload_n hx hb dX8_laysPage_37 rfl (lv_at hl 2 rfl) ?_
        refine lv_iload_n hx hb dX8_laysPage_38 rfl (lv_at hl 1 rfl) ?_
        obtain ⟨t7, ht7, hF⟩ := hm_bd hF
        refine hm_vv (As := [.int v2, .int x0]) S X mw_X8_looksFrom hw_5_49 (c_X8_looksFrom l g a (hm_up (hm_up (hm_up (hm_up A 14 wA_14) 15 wA_15) 16 wA_16) 17 wA_17) Z v2 x0 t7 ht7) hm_same hm_same rfl rfl rfl ⟨rfl, rfl, Nat.le_of_ble_eq_true rfl, Nat.le_of_ble_eq_true rfl⟩ rfl hl.1 rfl (Nat.le_of_ble_eq_true rfl) dX8_laysPage_39 ⟨Nat.zero_le _, Nat.zero_le _⟩ (fun H locs X => ?_)
        refine lv_iinc (v := (v2 + (-1))) (lv' := [(2, .int (v2 + (-1))), (0, .ref (a 0)), (1, .int x0)]) hx hb dX8_laysPage_42 hl (k := 2) rfl rfl (by decide) rfl (fun ls hl => ?_)
        refine lv_goto (tgt := 31) hx hb dX8_laysPage_45 (by decide) ?_
        exact ih31 (v2 + (-1)) wA_14 t7.1 t7.2.1 t7.2.2 hF _ _ X _ (lv_sub hl [1, 2, 0] rfl)
  unfold f_X8_laysPage at hF
  refine lv_aload_n hx hb dX8_laysPage_0 rfl (lv_at hl 0 rfl) ?_
  obtain ⟨t1, ht1, hF⟩ := hm_bd hF
  refine hm_vv (As := []) S X mw_X8_sums hw_5_45 (c_X8_sums l g a A Z t1 ht1) hm_same hm_same rfl rfl rfl ⟨rfl, rfl, Nat.le_of_ble_eq_true rfl, Nat.le_of_ble_eq_true rfl⟩ rfl hl.1 rfl (Nat.le_of_ble_eq_true rfl) dX8_laysPage_1 ⟨Nat.zero_le _, Nat.zero_le _⟩ (fun H locs X => ?_)
  refine lv_aload_n hx hb dX8_laysPage_4 rfl (lv_at hl 0 rfl) ?_
  refine hm_get S X hf_X8_56 0 rfl rfl dX8_laysPage_5 ?_
  refine lv_aload_n hx hb dX8_laysPage_8 rfl (lv_at hl 0 rfl) ?_
  refine hm_get S X hf_X8_117 0 rfl rfl dX8_laysPage_9 ?_
  refine lv_iconst (v := 0) hx hb dX8_laysPage_12 (by decide) ?_
  obtain ⟨f2, hf2, hF⟩ := hm_bd hF
  refine hm_iast S X hf2 16 rfl dX8_laysPage_13 (fun H locs X => ?_)
  have X := X.to (ws' := (hm_wMM g a (hm_up (hm_up A 14 t1) 15 f2) Z)) rfl
  refine lv_aload_n hx hb dX8_laysPage_14 rfl (lv_at hl 0 rfl) ?_
  refine hm_get S X hf_X8_59 0 rfl rfl dX8_laysPage_15 ?_
  refine lv_aload_n hx hb dX8_laysPage_18 rfl (lv_at hl 0 rfl) ?_
  refine hm_get S X hf_X8_117 0 rfl rfl dX8_laysPage_19 ?_
  refine lv_iconst (v := 0) hx hb dX8_laysPage_22 (by decide) ?_
  obtain ⟨f3, hf3, hF⟩ := hm_bd hF
  refine hm_iast S X hf3 17 rfl dX8_laysPage_23 (fun H locs X => ?_)
  have X := X.to (ws' := (hm_wMM g a (hm_up (hm_up (hm_up A 14 t1) 15 f2) 16 f3) Z)) rfl
  refine lv_aload_n hx hb dX8_laysPage_24 rfl (lv_at hl 0 rfl) ?_
  refine hm_get S X hf_X8_117 0 rfl rfl dX8_laysPage_25 ?_
  refine lv_iconst (v := 2) hx hb dX8_laysPage_28 (by decide) ?_
  refine lv_isub hx hb dX8_laysPage_29 ?_
  refine lv_istore_n (lv' := [(2, .int ((Z 3) - 2)), (0, .ref (a 0)), (1, .int x0)]) hx hb dX8_laysPage_30 rfl hl (by decide) rfl (fun ls hl => ?_)
  exact hl31 hm_fu ((Z 3) - 2) t1 f2 f3 (A 17) hF _ _ (X.to (ws' := (hm_wMM g a (hm_up (hm_up (hm_up (hm_up A 14 t1) 15 f2) 16 f3) 17 (A 17)) Z)) rfl) _ (lv_sub hl [1, 2, 0] rfl)
def f_X8_before (A_18 : Nat → Int32) (x0 : Int32)  : Option (Int32) :=
  if x0 = 0 then (
  some ((-1)))
  else (
  (hm_rd 104 A_18 (x0 - 1)).bind fun t1 =>
  some (t1))
abbrev rm_X8_before : Room := { frames := 0, cells := 0, slots := 0, locals := 0 }
set_option maxHeartbeats 4000000 in
set_option maxRecDepth 100000 in
theorem c_X8_before (l : Launch) (g : hm_G) (a : Nat → Nat) (A : Nat → Nat → Int32) (Z : Nat → Int32) (x0 : Int32) (q : Int32) (hF : f_X8_before (A 18) x0 = some q) : hm_Mi l yX8_before (Cond.code yX8_before cX8_before 2 (some .int) :: hm_W) rm_X8_before g [.ref (a 0), .int x0] (hm_wMM g a A Z) (hm_wMM g a A Z) q := by
  refine hm_ofi [(0, .ref (a 0)), (1, .int x0)] (by decide) (own := RX8) rfl (Nat.le_of_ble_eq_true rfl) rfl rfl ?_
  intro p e s m args below meth c AA S hr hlk X ls hl
  have hx := S.1
  have hb := S.2.1
  have hown := S.2.2.2.1
  have hts := S.2.2.2.2
  unfold f_X8_before at hF
  refine lv_iload_n hx hb dX8_before_0 rfl (lv_at hl 1 rfl) ?_
  refine lv_if_ne (tgt := 8) hx hb dX8_before_1 (by decide) (fun c1 => ?_) (fun c1 => ?_)
  · have hF := hm_nf hF c1
    refine lv_aload_n hx hb dX8_before_8 rfl (lv_at hl 0 rfl) ?_
    refine hm_get S X hf_X8_65 0 rfl rfl dX8_before_9 ?_
    refine lv_iload_n hx hb dX8_before_12 rfl (lv_at hl 1 rfl) ?_
    refine lv_iconst (v := 1) hx hb dX8_before_13 (by decide) ?_
    refine lv_isub hx hb dX8_before_14 ?_
    obtain ⟨t1, ht1, hF⟩ := hm_bd hF
    refine hm_iald S X ht1 19 rfl dX8_before_15 ?_
    obtain rfl := Option.some.inj hF
    exact hm_ri S hr hlk X rfl rfl dX8_before_16
  · have hF := hm_if hF c1
    refine lv_iconst (v := (-1)) hx hb dX8_before_4 (by decide) ?_
    refine lv_goto (tgt := 16) hx hb dX8_before_5 (by decide) ?_
    obtain rfl := Option.some.inj hF
    exact hm_ri S hr hlk X rfl rfl dX8_before_16
def f_X8_blanksOf (A_4 : Nat → Int32) (A_6 : Nat → Int32) (A_18 : Nat → Int32) (x0 : Int32)  : Option (Int32) :=
  (hm_rd 104 A_18 x0).bind fun t1 =>
  (hm_rd 104 A_4 t1).bind fun t2 =>
  (f_X8_before A_18 x0).bind fun t3 =>
  (f_X8_firstWord A_4 A_6 t3).bind fun t4 =>
  some ((t2 - t4))
abbrev rm_X8_blanksOf : Room := { frames := 1, cells := 0, slots := 0, locals := 21 }
set_option maxHeartbeats 4000000 in
set_option maxRecDepth 100000 in
theorem c_X8_blanksOf (l : Launch) (g : hm_G) (a : Nat → Nat) (A : Nat → Nat → Int32) (Z : Nat → Int32) (x0 : Int32) (q : Int32) (hF : f_X8_blanksOf (A 4) (A 6) (A 18) x0 = some q) : hm_Mi l yX8_blanksOf (Cond.code yX8_blanksOf cX8_blanksOf 2 (some .int) :: hm_W) rm_X8_blanksOf g [.ref (a 0), .int x0] (hm_wMM g a A Z) (hm_wMM g a A Z) q := by
  refine hm_ofi [(0, .ref (a 0)), (1, .int x0)] (by decide) (own := RX8) rfl (Nat.le_of_ble_eq_true rfl) rfl rfl ?_
  intro p e s m args below meth c AA S hr hlk X ls hl
  have hx := S.1
  have hb := S.2.1
  have hown := S.2.2.2.1
  have hts := S.2.2.2.2
  unfold f_X8_blanksOf at hF
  refine lv_aload_n hx hb dX8_blanksOf_0 rfl (lv_at hl 0 rfl) ?_
  refine hm_get S X hf_X8_22 0 rfl rfl dX8_blanksOf_1 ?_
  refine lv_aload_n hx hb dX8_blanksOf_4 rfl (lv_at hl 0 rfl) ?_
  refine hm_get S X hf_X8_65 0 rfl rfl dX8_blanksOf_5 ?_
  refine lv_iload_n hx hb dX8_blanksOf_8 rfl (lv_at hl 1 rfl) ?_
  obtain ⟨t1, ht1, hF⟩ := hm_bd hF
  refine hm_iald S X ht1 19 rfl dX8_blanksOf_9 ?_
  obtain ⟨t2, ht2, hF⟩ := hm_bd hF
  refine hm_iald S X ht2 5 rfl dX8_blanksOf_10 ?_
  refine lv_aload_n hx hb dX8_blanksOf_11 rfl (lv_at hl 0 rfl) ?_
  refine lv_aload_n hx hb dX8_blanksOf_12 rfl (lv_at hl 0 rfl) ?_
  refine lv_iload_n hx hb dX8_blanksOf_13 rfl (lv_at hl 1 rfl) ?_
  obtain ⟨t3, ht3, hF⟩ := hm_bd hF
  refine hm_vi (As := [.int x0]) S X mw_X8_before hw_5_85 (c_X8_before l g a A Z x0 t3 ht3) hm_same hm_same rfl rfl rfl ⟨rfl, rfl, Nat.le_of_ble_eq_true rfl, Nat.le_of_ble_eq_true rfl⟩ rfl hl.1 rfl (Nat.le_of_ble_eq_true rfl) dX8_blanksOf_14 ⟨Nat.zero_le _, Nat.zero_le _⟩ (fun H locs X => ?_)
  obtain ⟨t4, ht4, hF⟩ := hm_bd hF
  refine hm_vi (As := [.int t3]) S X mw_X8_firstWord hw_5_65 (c_X8_firstWord l g a A Z t3 t4 ht4) hm_same hm_same rfl rfl rfl ⟨rfl, rfl, Nat.le_of_ble_eq_true rfl, Nat.le_of_ble_eq_true rfl⟩ rfl hl.1 rfl (Nat.le_of_ble_eq_true rfl) dX8_blanksOf_17 ⟨Nat.zero_le _, Nat.zero_le _⟩ (fun H locs X => ?_)
  refine lv_isub hx hb dX8_blanksOf_20 ?_
  obtain rfl := Option.some.inj hF
  exact hm_ri S hr hlk X rfl rfl dX8_blanksOf_21
def f_X8_leftIn (A_1 : Nat → Int32) (A_2 : Nat → Int32) (A_4 : Nat → Int32) (A_5 : Nat → Int32) (A_6 : Nat → Int32) (A_7 : Nat → Int32) (A_14 : Nat → Int32) (A_18 : Nat → Int32) (x0 : Int32)  : Option (Int32) :=
  (f_X8_before A_18 x0).bind fun t1 =>
  (hm_rd 104 A_18 x0).bind fun t2 =>
  (hm_rd 38 A_7 35).bind fun t3 =>
  (f_X8_left A_1 A_2 A_4 A_5 A_6 A_7 A_14 t1 t2 t3).bind fun t4 =>
  some (t4)
abbrev rm_X8_leftIn : Room := { frames := 4, cells := 0, slots := 0, locals := 88 }
set_option maxHeartbeats 4000000 in
set_option maxRecDepth 100000 in
theorem c_X8_leftIn (l : Launch) (g : hm_G) (a : Nat → Nat) (A : Nat → Nat → Int32) (Z : Nat → Int32) (x0 : Int32) (q : Int32) (hF : f_X8_leftIn (A 1) (A 2) (A 4) (A 5) (A 6) (A 7) (A 14) (A 18) x0 = some q) : hm_Mi l yX8_leftIn (Cond.code yX8_leftIn cX8_leftIn 2 (some .int) :: hm_W) rm_X8_leftIn g [.ref (a 0), .int x0] (hm_wMM g a A Z) (hm_wMM g a A Z) q := by
  refine hm_ofi [(0, .ref (a 0)), (1, .int x0)] (by decide) (own := RX8) rfl (Nat.le_of_ble_eq_true rfl) rfl rfl ?_
  intro p e s m args below meth c AA S hr hlk X ls hl
  have hx := S.1
  have hb := S.2.1
  have hown := S.2.2.2.1
  have hts := S.2.2.2.2
  unfold f_X8_leftIn at hF
  refine lv_aload_n hx hb dX8_leftIn_0 rfl (lv_at hl 0 rfl) ?_
  refine lv_aload_n hx hb dX8_leftIn_1 rfl (lv_at hl 0 rfl) ?_
  refine lv_iload_n hx hb dX8_leftIn_2 rfl (lv_at hl 1 rfl) ?_
  obtain ⟨t1, ht1, hF⟩ := hm_bd hF
  refine hm_vi (As := [.int x0]) S X mw_X8_before hw_5_85 (c_X8_before l g a A Z x0 t1 ht1) hm_same hm_same rfl rfl rfl ⟨rfl, rfl, Nat.le_of_ble_eq_true rfl, Nat.le_of_ble_eq_true rfl⟩ rfl hl.1 rfl (Nat.le_of_ble_eq_true rfl) dX8_leftIn_3 ⟨Nat.zero_le _, Nat.zero_le _⟩ (fun H locs X => ?_)
  refine lv_aload_n hx hb dX8_leftIn_6 rfl (lv_at hl 0 rfl) ?_
  refine hm_get S X hf_X8_65 0 rfl rfl dX8_leftIn_7 ?_
  refine lv_iload_n hx hb dX8_leftIn_10 rfl (lv_at hl 1 rfl) ?_
  obtain ⟨t2, ht2, hF⟩ := hm_bd hF
  refine hm_iald S X ht2 19 rfl dX8_leftIn_11 ?_
  refine lv_aload_n hx hb dX8_leftIn_12 rfl (lv_at hl 0 rfl) ?_
  refine hm_get S X hf_X8_32 0 rfl rfl dX8_leftIn_13 ?_
  refine lv_bipush (v := 35) hx hb dX8_leftIn_16 (by decide) ?_
  obtain ⟨t3, ht3, hF⟩ := hm_bd hF
  refine hm_iald S X ht3 8 rfl dX8_leftIn_18 ?_
  obtain ⟨t4, ht4, hF⟩ := hm_bd hF
  refine hm_vi (As := [.int t1, .int t2, .int t3]) S X mw_X8_left hw_5_53 (c_X8_left l g a A Z t1 t2 t3 t4 ht4) hm_same hm_same rfl rfl rfl ⟨rfl, rfl, Nat.le_of_ble_eq_true rfl, Nat.le_of_ble_eq_true rfl⟩ rfl hl.1 rfl (Nat.le_of_ble_eq_true rfl) dX8_leftIn_19 ⟨Nat.zero_le _, Nat.zero_le _⟩ (fun H locs X => ?_)
  obtain rfl := Option.some.inj hF
  exact hm_ri S hr hlk X rfl rfl dX8_leftIn_22
def f_X8_isGiving (A_4 : Nat → Int32) (A_6 : Nat → Int32) (A_18 : Nat → Int32) (Z_7 : Int32) (x0 : Int32)  : Option (Int32) :=
  if (Z_7 - 1) ≤ x0 then (
  some (0))
  else (
  (f_X8_blanksOf A_4 A_6 A_18 x0).bind fun t1 =>
  if t1 ≤ 0 then (
  some (0))
  else (
  some (1)))
abbrev rm_X8_isGiving : Room := { frames := 2, cells := 0, slots := 0, locals := 42 }
set_option maxHeartbeats 4000000 in
set_option maxRecDepth 100000 in
theorem c_X8_isGiving (l : Launch) (g : hm_G) (a : Nat → Nat) (A : Nat → Nat → Int32) (Z : Nat → Int32) (x0 : Int32) (q : Int32) (hF : f_X8_isGiving (A 4) (A 6) (A 18) (Z 7) x0 = some q) : hm_Mi l yX8_isGiving (Cond.code yX8_isGiving cX8_isGiving 2 (some .boolean) :: hm_W) rm_X8_isGiving g [.ref (a 0), .int x0] (hm_wMM g a A Z) (hm_wMM g a A Z) q := by
  refine hm_ofi [(0, .ref (a 0)), (1, .int x0)] (by decide) (own := RX8) rfl (Nat.le_of_ble_eq_true rfl) rfl rfl ?_
  intro p e s m args below meth c AA S hr hlk X ls hl
  have hx := S.1
  have hb := S.2.1
  have hown := S.2.2.2.1
  have hts := S.2.2.2.2
  unfold f_X8_isGiving at hF
  refine lv_iload_n hx hb dX8_isGiving_0 rfl (lv_at hl 1 rfl) ?_
  refine lv_aload_n hx hb dX8_isGiving_1 rfl (lv_at hl 0 rfl) ?_
  refine hm_get S X hf_X8_183 0 rfl rfl dX8_isGiving_2 ?_
  refine lv_iconst (v := 1) hx hb dX8_isGiving_5 (by decide) ?_
  refine lv_isub hx hb dX8_isGiving_6 ?_
  refine lv_icmp_ge (tgt := 22) hx hb dX8_isGiving_7 (by decide) (fun c7 => ?_) (fun c7 => ?_)
  · have hF := hm_if hF c7
    refine lv_iconst (v := 0) hx hb dX8_isGiving_22 (by decide) ?_
    obtain rfl := Option.some.inj hF
    exact hm_rz S hr hlk X rfl rfl (Or.inl rfl) dX8_isGiving_23
  · have hF := hm_nf hF c7
    refine lv_aload_n hx hb dX8_isGiving_10 rfl (lv_at hl 0 rfl) ?_
    refine lv_iload_n hx hb dX8_isGiving_11 rfl (lv_at hl 1 rfl) ?_
    obtain ⟨t1, ht1, hF⟩ := hm_bd hF
    refine hm_vi (As := [.int x0]) S X mw_X8_blanksOf hw_5_93 (c_X8_blanksOf l g a A Z x0 t1 ht1) hm_same hm_same rfl rfl rfl ⟨rfl, rfl, Nat.le_of_ble_eq_true rfl, Nat.le_of_ble_eq_true rfl⟩ rfl hl.1 rfl (Nat.le_of_ble_eq_true rfl) dX8_isGiving_12 ⟨Nat.zero_le _, Nat.zero_le _⟩ (fun H locs X => ?_)
    refine lv_if_le (tgt := 22) hx hb dX8_isGiving_15 (by decide) (fun c15 => ?_) (fun c15 => ?_)
    · have hF := hm_if hF c15
      refine lv_iconst (v := 0) hx hb dX8_isGiving_22 (by decide) ?_
      obtain rfl := Option.some.inj hF
      exact hm_rz S hr hlk X rfl rfl (Or.inl rfl) dX8_isGiving_23
    · have hF := hm_nf hF c15
      refine lv_iconst (v := 1) hx hb dX8_isGiving_18 (by decide) ?_
      refine lv_goto (tgt := 23) hx hb dX8_isGiving_19 (by decide) ?_
      obtain rfl := Option.some.inj hF
      exact hm_rz S hr hlk X rfl rfl (Or.inr rfl) dX8_isGiving_23
def f_X8_endOf (A_1 : Nat → Int32) (A_2 : Nat → Int32) (A_4 : Nat → Int32) (A_5 : Nat → Int32) (A_6 : Nat → Int32) (A_7 : Nat → Int32) (A_14 : Nat → Int32) (A_18 : Nat → Int32) (Z_7 : Int32) (x0 : Int32)  : Option (Int32) :=
  (f_X8_before A_18 x0).bind fun t1 =>
  (hm_rd 104 A_18 x0).bind fun t2 =>
  (f_X8_natural A_2 A_4 A_5 A_6 A_7 A_14 t1 t2).bind fun t3 =>
  (f_X8_isGiving A_4 A_6 A_18 Z_7 x0).bind fun t4 =>
  if t4 = 0 then (
  some ((t3 + 0)))
  else (
  (f_X8_leftIn A_1 A_2 A_4 A_5 A_6 A_7 A_14 A_18 x0).bind fun t5 =>
  some ((t3 + t5)))
abbrev rm_X8_endOf : Room := { frames := 5, cells := 0, slots := 0, locals := 109 }
set_option maxHeartbeats 4000000 in
set_option maxRecDepth 100000 in
theorem c_X8_endOf (l : Launch) (g : hm_G) (a : Nat → Nat) (A : Nat → Nat → Int32) (Z : Nat → Int32) (x0 : Int32) (q : Int32) (hF : f_X8_endOf (A 1) (A 2) (A 4) (A 5) (A 6) (A 7) (A 14) (A 18) (Z 7) x0 = some q) : hm_Mi l yX8_endOf (Cond.code yX8_endOf cX8_endOf 2 (some .int) :: hm_W) rm_X8_endOf g [.ref (a 0), .int x0] (hm_wMM g a A Z) (hm_wMM g a A Z) q := by
  refine hm_ofi [(0, .ref (a 0)), (1, .int x0)] (by decide) (own := RX8) rfl (Nat.le_of_ble_eq_true rfl) rfl rfl ?_
  intro p e s m args below meth c AA S hr hlk X ls hl
  have hx := S.1
  have hb := S.2.1
  have hown := S.2.2.2.1
  have hts := S.2.2.2.2
  unfold f_X8_endOf at hF
  refine lv_aload_n hx hb dX8_endOf_0 rfl (lv_at hl 0 rfl) ?_
  refine lv_aload_n hx hb dX8_endOf_1 rfl (lv_at hl 0 rfl) ?_
  refine lv_iload_n hx hb dX8_endOf_2 rfl (lv_at hl 1 rfl) ?_
  obtain ⟨t1, ht1, hF⟩ := hm_bd hF
  refine hm_vi (As := [.int x0]) S X mw_X8_before hw_5_85 (c_X8_before l g a A Z x0 t1 ht1) hm_same hm_same rfl rfl rfl ⟨rfl, rfl, Nat.le_of_ble_eq_true rfl, Nat.le_of_ble_eq_true rfl⟩ rfl hl.1 rfl (Nat.le_of_ble_eq_true rfl) dX8_endOf_3 ⟨Nat.zero_le _, Nat.zero_le _⟩ (fun H locs X => ?_)
  refine lv_aload_n hx hb dX8_endOf_6 rfl (lv_at hl 0 rfl) ?_
  refine hm_get S X hf_X8_65 0 rfl rfl dX8_endOf_7 ?_
  refine lv_iload_n hx hb dX8_endOf_10 rfl (lv_at hl 1 rfl) ?_
  obtain ⟨t2, ht2, hF⟩ := hm_bd hF
  refine hm_iald S X ht2 19 rfl dX8_endOf_11 ?_
  obtain ⟨t3, ht3, hF⟩ := hm_bd hF
  refine hm_vi (As := [.int t1, .int t2]) S X mw_X8_natural hw_5_61 (c_X8_natural l g a A Z t1 t2 t3 ht3) hm_same hm_same rfl rfl rfl ⟨rfl, rfl, Nat.le_of_ble_eq_true rfl, Nat.le_of_ble_eq_true rfl⟩ rfl hl.1 rfl (Nat.le_of_ble_eq_true rfl) dX8_endOf_12 ⟨Nat.zero_le _, Nat.zero_le _⟩ (fun H locs X => ?_)
  refine lv_aload_n hx hb dX8_endOf_15 rfl (lv_at hl 0 rfl) ?_
  refine lv_iload_n hx hb dX8_endOf_16 rfl (lv_at hl 1 rfl) ?_
  obtain ⟨t4, ht4, hF⟩ := hm_bd hF
  refine hm_vi (As := [.int x0]) S X mw_X8_isGiving hw_5_89 (c_X8_isGiving l g a A Z x0 t4 ht4) hm_same hm_same rfl rfl rfl ⟨rfl, rfl, Nat.le_of_ble_eq_true rfl, Nat.le_of_ble_eq_true rfl⟩ rfl hl.1 rfl (Nat.le_of_ble_eq_true rfl) dX8_endOf_17 ⟨Nat.zero_le _, Nat.zero_le _⟩ (fun H locs X => ?_)
  refine lv_if_eq (tgt := 31) hx hb dX8_endOf_20 (by decide) (fun c20 => ?_) (fun c20 => ?_)
  · have hF := hm_if hF c20
    refine lv_iconst (v := 0) hx hb dX8_endOf_31 (by decide) ?_
    refine lv_iadd hx hb dX8_endOf_32 ?_
    obtain rfl := Option.some.inj hF
    exact hm_ri S hr hlk X rfl rfl dX8_endOf_33
  · have hF := hm_nf hF c20
    refine lv_aload_n hx hb dX8_endOf_23 rfl (lv_at hl 0 rfl) ?_
    refine lv_iload_n hx hb dX8_endOf_24 rfl (lv_at hl 1 rfl) ?_
    obtain ⟨t5, ht5, hF⟩ := hm_bd hF
    refine hm_vi (As := [.int x0]) S X mw_X8_leftIn hw_5_97 (c_X8_leftIn l g a A Z x0 t5 ht5) hm_same hm_same rfl rfl rfl ⟨rfl, rfl, Nat.le_of_ble_eq_true rfl, Nat.le_of_ble_eq_true rfl⟩ rfl hl.1 rfl (Nat.le_of_ble_eq_true rfl) dX8_endOf_25 ⟨Nat.zero_le _, Nat.zero_le _⟩ (fun H locs X => ?_)
    refine lv_goto (tgt := 32) hx hb dX8_endOf_28 (by decide) ?_
    refine lv_iadd hx hb dX8_endOf_32 ?_
    obtain rfl := Option.some.inj hF
    exact hm_ri S hr hlk X rfl rfl dX8_endOf_33
def f_X8_areCommon_l61  (s61_0 : Int32) (v3 : Int32) : Option (Int32) :=
  if s61_0 ≤ v3 then (
  some (0))
  else (
  some (1))
def f_X8_areCommon_l30 (A_21 : Nat → Int32) (x0 : Int32) (x1 : Int32) (s30_0 : Int32) : Option (Int32) :=
  (hm_rd 30 A_21 x0).bind fun t4 =>
  (hm_rd 30 A_21 x1).bind fun t5 =>
  if t5 ≤ t4 then (
  (hm_rd 30 A_21 x1).bind fun t6 =>
  f_X8_areCommon_l61 t6 s30_0)
  else (
  (hm_rd 30 A_21 x0).bind fun t7 =>
  f_X8_areCommon_l61 t7 s30_0)
def f_X8_areCommon (A_20 : Nat → Int32) (A_21 : Nat → Int32) (x0 : Int32) (x1 : Int32)  : Option (Int32) :=
  (hm_rd 30 A_20 x0).bind fun t1 =>
  (hm_rd 30 A_20 x1).bind fun t2 =>
  if t1 ≤ t2 then (
  (hm_rd 30 A_20 x1).bind fun t3 =>
  f_X8_areCommon_l30 A_21 x0 x1 t3)
  else (
  (hm_rd 30 A_20 x0).bind fun t8 =>
  f_X8_areCommon_l30 A_21 x0 x1 t8)
abbrev rm_X8_areCommon : Room := { frames := 0, cells := 0, slots := 0, locals := 0 }
set_option maxHeartbeats 4000000 in
set_option maxRecDepth 100000 in
theorem c_X8_areCommon (l : Launch) (g : hm_G) (a : Nat → Nat) (A : Nat → Nat → Int32) (Z : Nat → Int32) (x0 : Int32) (x1 : Int32) (q : Int32) (hF : f_X8_areCommon (A 20) (A 21) x0 x1 = some q) : hm_Mi l yX8_areCommon (Cond.code yX8_areCommon cX8_areCommon 5 (some .boolean) :: hm_W) rm_X8_areCommon g [.ref (a 0), .int x0, .int x1] (hm_wMM g a A Z) (hm_wMM g a A Z) q := by
  refine hm_ofi [(0, .ref (a 0)), (1, .int x0), (2, .int x1)] (by decide) (own := RX8) rfl (Nat.le_of_ble_eq_true rfl) rfl rfl ?_
  intro p e s m args below meth c AA S hr hlk X ls hl
  have hx := S.1
  have hb := S.2.1
  have hown := S.2.2.2.1
  have hts := S.2.2.2.2
  have hl61 : ∀ (s61_0 : Int32) (v3 : Int32), f_X8_areCommon_l61 s61_0 v3 = some q → ∀ (H : Heap) (locs : List Loc), hm_X g AA s H locs (hm_wMM g a A Z) → ∀ ls : Array Slot, lv_has ls 5 [(3, .int v3)] → W p l e rm_X8_areCommon s m args below meth c H locs 0 0 (MQ below (hm_Qi g AA (hm_wMM g a A Z) q) args s 0 0 AA) (F0 m 61 ls [.int s61_0]) := by
    intro s61_0 v3 hF H locs X ls hl
    unfold f_X8_areCommon_l61 at hF
    refine lv_istore (lv' := [(4, .int s61_0), (3, .int v3)]) hx hb dX8_areCommon_61 hl (by decide) rfl (fun ls hl => ?_)
    refine lv_iload_n hx hb dX8_areCommon_63 rfl (lv_at hl 1 rfl) ?_
    refine lv_iload hx hb dX8_areCommon_64 (lv_at hl 0 rfl) ?_
    refine lv_icmp_ge (tgt := 73) hx hb dX8_areCommon_66 (by decide) (fun c66 => ?_) (fun c66 => ?_)
    · have hF := hm_if hF c66
      refine lv_iconst (v := 0) hx hb dX8_areCommon_73 (by decide) ?_
      obtain rfl := Option.some.inj hF
      exact hm_rz S hr hlk X rfl rfl (Or.inl rfl) dX8_areCommon_74
    · have hF := hm_nf hF c66
      refine lv_iconst (v := 1) hx hb dX8_areCommon_69 (by decide) ?_
      refine lv_goto (tgt := 74) hx hb dX8_areCommon_70 (by decide) ?_
      obtain rfl := Option.some.inj hF
      exact hm_rz S hr hlk X rfl rfl (Or.inr rfl) dX8_areCommon_74
  have hl30 : ∀ (s30_0 : Int32), f_X8_areCommon_l30 (A 21) x0 x1 s30_0 = some q → ∀ (H : Heap) (locs : List Loc), hm_X g AA s H locs (hm_wMM g a A Z) → ∀ ls : Array Slot, lv_has ls 5 [(0, .ref (a 0)), (1, .int x0), (2, .int x1)] → W p l e rm_X8_areCommon s m args below meth c H locs 0 0 (MQ below (hm_Qi g AA (hm_wMM g a A Z) q) args s 0 0 AA) (F0 m 30 ls [.int s30_0]) := by
    intro s30_0 hF H locs X ls hl
    unfold f_X8_areCommon_l30 at hF
    refine lv_istore_n (lv' := [(3, .int s30_0), (0, .ref (a 0)), (1, .int x0), (2, .int x1)]) hx hb dX8_areCommon_30 rfl hl (by decide) rfl (fun ls hl => ?_)
    refine lv_aload_n hx hb dX8_areCommon_31 rfl (lv_at hl 1 rfl) ?_
    refine hm_get S X hf_X8_74 0 rfl rfl dX8_areCommon_32 ?_
    refine lv_iload_n hx hb dX8_areCommon_35 rfl (lv_at hl 2 rfl) ?_
    obtain ⟨t4, ht4, hF⟩ := hm_bd hF
    refine hm_iald S X ht4 22 rfl dX8_areCommon_36 ?_
    refine lv_aload_n hx hb dX8_areCommon_37 rfl (lv_at hl 1 rfl) ?_
    refine hm_get S X hf_X8_74 0 rfl rfl dX8_areCommon_38 ?_
    refine lv_iload_n hx hb dX8_areCommon_41 rfl (lv_at hl 3 rfl) ?_
    obtain ⟨t5, ht5, hF⟩ := hm_bd hF
    refine hm_iald S X ht5 22 rfl dX8_areCommon_42 ?_
    refine lv_icmp_ge (tgt := 55) hx hb dX8_areCommon_43 (by decide) (fun c43 => ?_) (fun c43 => ?_)
    · have hF := hm_if hF c43
      refine lv_aload_n hx hb dX8_areCommon_55 rfl (lv_at hl 1 rfl) ?_
      refine hm_get S X hf_X8_74 0 rfl rfl dX8_areCommon_56 ?_
      refine lv_iload_n hx hb dX8_areCommon_59 rfl (lv_at hl 3 rfl) ?_
      obtain ⟨t6, ht6, hF⟩ := hm_bd hF
      refine hm_iald S X ht6 22 rfl dX8_areCommon_60 ?_
      exact hl61 t6 s30_0 hF _ _ X _ (lv_sub hl [0] rfl)
    · have hF := hm_nf hF c43
      refine lv_aload_n hx hb dX8_areCommon_46 rfl (lv_at hl 1 rfl) ?_
      refine hm_get S X hf_X8_74 0 rfl rfl dX8_areCommon_47 ?_
      refine lv_iload_n hx hb dX8_areCommon_50 rfl (lv_at hl 2 rfl) ?_
      obtain ⟨t7, ht7, hF⟩ := hm_bd hF
      refine hm_iald S X ht7 22 rfl dX8_areCommon_51 ?_
      refine lv_goto (tgt := 61) hx hb dX8_areCommon_52 (by decide) ?_
      exact hl61 t7 s30_0 hF _ _ X _ (lv_sub hl [0] rfl)
  unfold f_X8_areCommon at hF
  refine lv_aload_n hx hb dX8_areCommon_0 rfl (lv_at hl 0 rfl) ?_
  refine hm_get S X hf_X8_71 0 rfl rfl dX8_areCommon_1 ?_
  refine lv_iload_n hx hb dX8_areCommon_4 rfl (lv_at hl 1 rfl) ?_
  obtain ⟨t1, ht1, hF⟩ := hm_bd hF
  refine hm_iald S X ht1 21 rfl dX8_areCommon_5 ?_
  refine lv_aload_n hx hb dX8_areCommon_6 rfl (lv_at hl 0 rfl) ?_
  refine hm_get S X hf_X8_71 0 rfl rfl dX8_areCommon_7 ?_
  refine lv_iload_n hx hb dX8_areCommon_10 rfl (lv_at hl 2 rfl) ?_
  obtain ⟨t2, ht2, hF⟩ := hm_bd hF
  refine hm_iald S X ht2 21 rfl dX8_areCommon_11 ?_
  refine lv_icmp_le (tgt := 24) hx hb dX8_areCommon_12 (by decide) (fun c12 => ?_) (fun c12 => ?_)
  · have hF := hm_if hF c12
    refine lv_aload_n hx hb dX8_areCommon_24 rfl (lv_at hl 0 rfl) ?_
    refine hm_get S X hf_X8_71 0 rfl rfl dX8_areCommon_25 ?_
    refine lv_iload_n hx hb dX8_areCommon_28 rfl (lv_at hl 2 rfl) ?_
    obtain ⟨t3, ht3, hF⟩ := hm_bd hF
    refine hm_iald S X ht3 21 rfl dX8_areCommon_29 ?_
    exact hl30 t3 hF _ _ X _ (lv_sub hl [0, 1, 2] rfl)
  · have hF := hm_nf hF c12
    refine lv_aload_n hx hb dX8_areCommon_15 rfl (lv_at hl 0 rfl) ?_
    refine hm_get S X hf_X8_71 0 rfl rfl dX8_areCommon_16 ?_
    refine lv_iload_n hx hb dX8_areCommon_19 rfl (lv_at hl 1 rfl) ?_
    obtain ⟨t8, ht8, hF⟩ := hm_bd hF
    refine hm_iald S X ht8 21 rfl dX8_areCommon_20 ?_
    refine lv_goto (tgt := 30) hx hb dX8_areCommon_21 (by decide) ?_
    exact hl30 t8 hF _ _ X _ (lv_sub hl [0, 1, 2] rfl)
def f_X8_rivers_l195 (J107 : Int32 → (Nat → Int32) → (Nat → Int32) → Option ((Nat → Int32) × (Nat → Int32))) (v1 : Int32) (wA_22 : Nat → Int32) (wA_23 : Nat → Int32) : Option ((Nat → Int32) × (Nat → Int32)) :=
  J107 (v1 + 1) wA_22 wA_23
def f_X8_rivers_l188 (J107 : Int32 → (Nat → Int32) → (Nat → Int32) → Option ((Nat → Int32) × (Nat → Int32))) (J138 : Int32 → Int32 → (Nat → Int32) → (Nat → Int32) → Option ((Nat → Int32) × (Nat → Int32))) (s188_0 : Int32) (s188_1 : Int32) (v1 : Int32) (v2 : Int32) (wA_22 : Nat → Int32) (wA_23 : Nat → Int32) : Option ((Nat → Int32) × (Nat → Int32)) :=
  (hm_wz 30 wA_23 s188_1 s188_0).bind fun f4 =>
  J138 v1 (v2 + 1) wA_22 f4
def f_X8_rivers_l187 (J107 : Int32 → (Nat → Int32) → (Nat → Int32) → Option ((Nat → Int32) × (Nat → Int32))) (J138 : Int32 → Int32 → (Nat → Int32) → (Nat → Int32) → Option ((Nat → Int32) × (Nat → Int32))) (s187_0 : Int32) (v1 : Int32) (v2 : Int32) (wA_22 : Nat → Int32) (wA_23 : Nat → Int32) : Option ((Nat → Int32) × (Nat → Int32)) :=
  f_X8_rivers_l188 J107 J138 0 s187_0 v1 v2 wA_22 wA_23
def f_X8_rivers_l183 (J107 : Int32 → (Nat → Int32) → (Nat → Int32) → Option ((Nat → Int32) × (Nat → Int32))) (J138 : Int32 → Int32 → (Nat → Int32) → (Nat → Int32) → Option ((Nat → Int32) × (Nat → Int32))) (s183_0 : Int32) (v1 : Int32) (v2 : Int32) (wA_22 : Nat → Int32) (wA_23 : Nat → Int32) : Option ((Nat → Int32) × (Nat → Int32)) :=
  f_X8_rivers_l188 J107 J138 1 s183_0 v1 v2 wA_22 wA_23
def f_X8_rivers_l138 (J107 : Int32 → (Nat → Int32) → (Nat → Int32) → Option ((Nat → Int32) × (Nat → Int32))) (A_19 : Nat → Int32) (A_20 : Nat → Int32) (A_21 : Nat → Int32) : Nat → Int32 → Int32 → (Nat → Int32) → (Nat → Int32) → Option ((Nat → Int32) × (Nat → Int32))
  | 0, _, _, _, _ => none
  | k + 1, v1, v2, wA_22, wA_23 =>
  if v1 ≤ v2 then (
  f_X8_rivers_l195 J107 v1 wA_22 wA_23)
  else (
  (hm_rd 30 wA_23 v1).bind fun t3 =>
  if t3 = 0 then (
  f_X8_rivers_l187 J107 (fun zv1 zv2 zwA_22 zwA_23 => f_X8_rivers_l138 J107 A_19 A_20 A_21 k zv1 zv2 zwA_22 zwA_23) v1 v1 v2 wA_22 wA_23)
  else (
  (hm_rd 30 A_19 v2).bind fun t5 =>
  (hm_rd 30 A_19 v1).bind fun t6 =>
  if t5 = (t6 - 1) then (
  (f_X8_areCommon A_20 A_21 v1 v2).bind fun t7 =>
  if t7 = 0 then (
  f_X8_rivers_l183 J107 (fun zv1 zv2 zwA_22 zwA_23 => f_X8_rivers_l138 J107 A_19 A_20 A_21 k zv1 zv2 zwA_22 zwA_23) v1 v1 v2 wA_22 wA_23)
  else (
  f_X8_rivers_l187 J107 (fun zv1 zv2 zwA_22 zwA_23 => f_X8_rivers_l138 J107 A_19 A_20 A_21 k zv1 zv2 zwA_22 zwA_23) v1 v1 v2 wA_22 wA_23))
  else (
  f_X8_rivers_l183 J107 (fun zv1 zv2 zwA_22 zwA_23 => f_X8_rivers_l138 J107 A_19 A_20 A_21 k zv1 zv2 zwA_22 zwA_23) v1 v1 v2 wA_22 wA_23)))
theorem f_X8_rivers_l138_s (J107 : Int32 → (Nat → Int32) → (Nat → Int32) → Option ((Nat → Int32) × (Nat → Int32))) (A_19 : Nat → Int32) (A_20 : Nat → Int32) (A_21 : Nat → Int32) (k : Nat) (v1 : Int32) (v2 : Int32) (wA_22 : Nat → Int32) (wA_23 : Nat → Int32) : f_X8_rivers_l138 J107 A_19 A_20 A_21 (k + 1) v1 v2 wA_22 wA_23 =
  if v1 ≤ v2 then (
  f_X8_rivers_l195 J107 v1 wA_22 wA_23)
  else (
  (hm_rd 30 wA_23 v1).bind fun t3 =>
  if t3 = 0 then (
  f_X8_rivers_l187 J107 (fun zv1 zv2 zwA_22 zwA_23 => f_X8_rivers_l138 J107 A_19 A_20 A_21 k zv1 zv2 zwA_22 zwA_23) v1 v1 v2 wA_22 wA_23)
  else (
  (hm_rd 30 A_19 v2).bind fun t5 =>
  (hm_rd 30 A_19 v1).bind fun t6 =>
  if t5 = (t6 - 1) then (
  (f_X8_areCommon A_20 A_21 v1 v2).bind fun t7 =>
  if t7 = 0 then (
  f_X8_rivers_l183 J107 (fun zv1 zv2 zwA_22 zwA_23 => f_X8_rivers_l138 J107 A_19 A_20 A_21 k zv1 zv2 zwA_22 zwA_23) v1 v1 v2 wA_22 wA_23)
  else (
  f_X8_rivers_l187 J107 (fun zv1 zv2 zwA_22 zwA_23 => f_X8_rivers_l138 J107 A_19 A_20 A_21 k zv1 zv2 zwA_22 zwA_23) v1 v1 v2 wA_22 wA_23))
  else (
  f_X8_rivers_l183 J107 (fun zv1 zv2 zwA_22 zwA_23 => f_X8_rivers_l138 J107 A_19 A_20 A_21 k zv1 zv2 zwA_22 zwA_23) v1 v1 v2 wA_22 wA_23))) := rfl
theorem f_X8_rivers_l138_z (J107 : Int32 → (Nat → Int32) → (Nat → Int32) → Option ((Nat → Int32) × (Nat → Int32))) (A_19 : Nat → Int32) (A_20 : Nat → Int32) (A_21 : Nat → Int32) (v1 : Int32) (v2 : Int32) (wA_22 : Nat → Int32) (wA_23 : Nat → Int32) : f_X8_rivers_l138 J107 A_19 A_20 A_21 0 v1 v2 wA_22 wA_23 = none := rfl
def f_X8_rivers_l135 (J107 : Int32 → (Nat → Int32) → (Nat → Int32) → Option ((Nat → Int32) × (Nat → Int32))) (A_19 : Nat → Int32) (A_20 : Nat → Int32) (A_21 : Nat → Int32) (s135_0 : Int32) (s135_1 : Int32) (v1 : Int32) (wA_22 : Nat → Int32) (wA_23 : Nat → Int32) : Option ((Nat → Int32) × (Nat → Int32)) :=
  (hm_wz 30 wA_23 s135_1 s135_0).bind fun f2 =>
  f_X8_rivers_l138 J107 A_19 A_20 A_21 hm_fu v1 0 wA_22 f2
def f_X8_rivers_l107 (A_19 : Nat → Int32) (A_20 : Nat → Int32) (A_21 : Nat → Int32) (Z_8 : Int32) : Nat → Int32 → (Nat → Int32) → (Nat → Int32) → Option ((Nat → Int32) × (Nat → Int32))
  | 0, _, _, _ => none
  | k + 1, v1, wA_22, wA_23 =>
  if Z_8 ≤ v1 then (
  some (wA_22, wA_23))
  else (
  (hm_rd 30 wA_22 v1).bind fun t1 =>
  if t1 ≤ 2 then (
  f_X8_rivers_l135 (fun zv1 zwA_22 zwA_23 => f_X8_rivers_l107 A_19 A_20 A_21 Z_8 k zv1 zwA_22 zwA_23) A_19 A_20 A_21 0 v1 v1 wA_22 wA_23)
  else (
  f_X8_rivers_l135 (fun zv1 zwA_22 zwA_23 => f_X8_rivers_l107 A_19 A_20 A_21 Z_8 k zv1 zwA_22 zwA_23) A_19 A_20 A_21 1 v1 v1 wA_22 wA_23))
theorem f_X8_rivers_l107_s (A_19 : Nat → Int32) (A_20 : Nat → Int32) (A_21 : Nat → Int32) (Z_8 : Int32) (k : Nat) (v1 : Int32) (wA_22 : Nat → Int32) (wA_23 : Nat → Int32) : f_X8_rivers_l107 A_19 A_20 A_21 Z_8 (k + 1) v1 wA_22 wA_23 =
  if Z_8 ≤ v1 then (
  some (wA_22, wA_23))
  else (
  (hm_rd 30 wA_22 v1).bind fun t1 =>
  if t1 ≤ 2 then (
  f_X8_rivers_l135 (fun zv1 zwA_22 zwA_23 => f_X8_rivers_l107 A_19 A_20 A_21 Z_8 k zv1 zwA_22 zwA_23) A_19 A_20 A_21 0 v1 v1 wA_22 wA_23)
  else (
  f_X8_rivers_l135 (fun zv1 zwA_22 zwA_23 => f_X8_rivers_l107 A_19 A_20 A_21 Z_8 k zv1 zwA_22 zwA_23) A_19 A_20 A_21 1 v1 v1 wA_22 wA_23)) := rfl
theorem f_X8_rivers_l107_z (A_19 : Nat → Int32) (A_20 : Nat → Int32) (A_21 : Nat → Int32) (Z_8 : Int32) (v1 : Int32) (wA_22 : Nat → Int32) (wA_23 : Nat → Int32) : f_X8_rivers_l107 A_19 A_20 A_21 Z_8 0 v1 wA_22 wA_23 = none := rfl
def f_X8_rivers_l105 (A_19 : Nat → Int32) (A_20 : Nat → Int32) (A_21 : Nat → Int32) (A_23 : Nat → Int32) (Z_8 : Int32) (wA_22 : Nat → Int32) : Option ((Nat → Int32) × (Nat → Int32)) :=
  f_X8_rivers_l107 A_19 A_20 A_21 Z_8 hm_fu 0 wA_22 A_23
def f_X8_rivers_l90 (J7 : Int32 → (Nat → Int32) → Option ((Nat → Int32) × (Nat → Int32))) (v1 : Int32) (v2 : Int32) (wA_22 : Nat → Int32) : Option ((Nat → Int32) × (Nat → Int32)) :=
  (hm_wr 30 wA_22 v1 (v2 + 1)).bind fun f8 =>
  J7 (v1 + (-1)) f8
def f_X8_rivers_l83 (J7 : Int32 → (Nat → Int32) → Option ((Nat → Int32) × (Nat → Int32))) (J17 : Int32 → Int32 → Int32 → (Nat → Int32) → Option ((Nat → Int32) × (Nat → Int32))) (s83_0 : Int32) (v1 : Int32) (v3 : Int32) (wA_22 : Nat → Int32) : Option ((Nat → Int32) × (Nat → Int32)) :=
  J17 v1 s83_0 (v3 + 1) wA_22
def f_X8_rivers_l82 (J7 : Int32 → (Nat → Int32) → Option ((Nat → Int32) × (Nat → Int32))) (J17 : Int32 → Int32 → Int32 → (Nat → Int32) → Option ((Nat → Int32) × (Nat → Int32))) (v1 : Int32) (v2 : Int32) (v3 : Int32) (wA_22 : Nat → Int32) : Option ((Nat → Int32) × (Nat → Int32)) :=
  f_X8_rivers_l83 J7 J17 v2 v1 v3 wA_22
def f_X8_rivers_l56 (J7 : Int32 → (Nat → Int32) → Option ((Nat → Int32) × (Nat → Int32))) (J17 : Int32 → Int32 → Int32 → (Nat → Int32) → Option ((Nat → Int32) × (Nat → Int32))) (s56_0 : Int32) (v1 : Int32) (v2 : Int32) (v3 : Int32) (wA_22 : Nat → Int32) : Option ((Nat → Int32) × (Nat → Int32)) :=
  if s56_0 = 0 then (
  f_X8_rivers_l82 J7 J17 v1 v2 v3 wA_22)
  else (
  (hm_rd 30 wA_22 v3).bind fun t11 =>
  if t11 ≤ v2 then (
  f_X8_rivers_l82 J7 J17 v1 v2 v3 wA_22)
  else (
  (hm_rd 30 wA_22 v3).bind fun t12 =>
  f_X8_rivers_l83 J7 J17 t12 v1 v3 wA_22))
def f_X8_rivers_l55 (J7 : Int32 → (Nat → Int32) → Option ((Nat → Int32) × (Nat → Int32))) (J17 : Int32 → Int32 → Int32 → (Nat → Int32) → Option ((Nat → Int32) × (Nat → Int32))) (v1 : Int32) (v2 : Int32) (v3 : Int32) (wA_22 : Nat → Int32) : Option ((Nat → Int32) × (Nat → Int32)) :=
  f_X8_rivers_l56 J7 J17 0 v1 v2 v3 wA_22
def f_X8_rivers_l17 (J7 : Int32 → (Nat → Int32) → Option ((Nat → Int32) × (Nat → Int32))) (A_19 : Nat → Int32) (A_20 : Nat → Int32) (A_21 : Nat → Int32) (Z_8 : Int32) : Nat → Int32 → Int32 → Int32 → (Nat → Int32) → Option ((Nat → Int32) × (Nat → Int32))
  | 0, _, _, _, _ => none
  | k + 1, v1, v2, v3, wA_22 =>
  if Z_8 ≤ v3 then (
  f_X8_rivers_l90 J7 v1 v2 wA_22)
  else (
  (hm_rd 30 A_19 v3).bind fun t9 =>
  (hm_rd 30 A_19 v1).bind fun t10 =>
  if t9 = (t10 + 1) then (
  (f_X8_areCommon A_20 A_21 v1 v3).bind fun t13 =>
  if t13 = 0 then (
  f_X8_rivers_l55 J7 (fun zv1 zv2 zv3 zwA_22 => f_X8_rivers_l17 J7 A_19 A_20 A_21 Z_8 k zv1 zv2 zv3 zwA_22) v1 v2 v3 wA_22)
  else (
  f_X8_rivers_l56 J7 (fun zv1 zv2 zv3 zwA_22 => f_X8_rivers_l17 J7 A_19 A_20 A_21 Z_8 k zv1 zv2 zv3 zwA_22) 1 v1 v2 v3 wA_22))
  else (
  f_X8_rivers_l55 J7 (fun zv1 zv2 zv3 zwA_22 => f_X8_rivers_l17 J7 A_19 A_20 A_21 Z_8 k zv1 zv2 zv3 zwA_22) v1 v2 v3 wA_22))
theorem f_X8_rivers_l17_s (J7 : Int32 → (Nat → Int32) → Option ((Nat → Int32) × (Nat → Int32))) (A_19 : Nat → Int32) (A_20 : Nat → Int32) (A_21 : Nat → Int32) (Z_8 : Int32) (k : Nat) (v1 : Int32) (v2 : Int32) (v3 : Int32) (wA_22 : Nat → Int32) : f_X8_rivers_l17 J7 A_19 A_20 A_21 Z_8 (k + 1) v1 v2 v3 wA_22 =
  if Z_8 ≤ v3 then (
  f_X8_rivers_l90 J7 v1 v2 wA_22)
  else (
  (hm_rd 30 A_19 v3).bind fun t9 =>
  (hm_rd 30 A_19 v1).bind fun t10 =>
  if t9 = (t10 + 1) then (
  (f_X8_areCommon A_20 A_21 v1 v3).bind fun t13 =>
  if t13 = 0 then (
  f_X8_rivers_l55 J7 (fun zv1 zv2 zv3 zwA_22 => f_X8_rivers_l17 J7 A_19 A_20 A_21 Z_8 k zv1 zv2 zv3 zwA_22) v1 v2 v3 wA_22)
  else (
  f_X8_rivers_l56 J7 (fun zv1 zv2 zv3 zwA_22 => f_X8_rivers_l17 J7 A_19 A_20 A_21 Z_8 k zv1 zv2 zv3 zwA_22) 1 v1 v2 v3 wA_22))
  else (
  f_X8_rivers_l55 J7 (fun zv1 zv2 zv3 zwA_22 => f_X8_rivers_l17 J7 A_19 A_20 A_21 Z_8 k zv1 zv2 zv3 zwA_22) v1 v2 v3 wA_22)) := rfl
theorem f_X8_rivers_l17_z (J7 : Int32 → (Nat → Int32) → Option ((Nat → Int32) × (Nat → Int32))) (A_19 : Nat → Int32) (A_20 : Nat → Int32) (A_21 : Nat → Int32) (Z_8 : Int32) (v1 : Int32) (v2 : Int32) (v3 : Int32) (wA_22 : Nat → Int32) : f_X8_rivers_l17 J7 A_19 A_20 A_21 Z_8 0 v1 v2 v3 wA_22 = none := rfl
def f_X8_rivers_l7 (A_19 : Nat → Int32) (A_20 : Nat → Int32) (A_21 : Nat → Int32) (A_23 : Nat → Int32) (Z_8 : Int32) : Nat → Int32 → (Nat → Int32) → Option ((Nat → Int32) × (Nat → Int32))
  | 0, _, _ => none
  | k + 1, v1, wA_22 =>
  if v1 < 0 then (
  f_X8_rivers_l105 A_19 A_20 A_21 A_23 Z_8 wA_22)
  else (
  f_X8_rivers_l17 (fun zv1 zwA_22 => f_X8_rivers_l7 A_19 A_20 A_21 A_23 Z_8 k zv1 zwA_22) A_19 A_20 A_21 Z_8 hm_fu v1 0 (v1 + 1) wA_22)
theorem f_X8_rivers_l7_s (A_19 : Nat → Int32) (A_20 : Nat → Int32) (A_21 : Nat → Int32) (A_23 : Nat → Int32) (Z_8 : Int32) (k : Nat) (v1 : Int32) (wA_22 : Nat → Int32) : f_X8_rivers_l7 A_19 A_20 A_21 A_23 Z_8 (k + 1) v1 wA_22 =
  if v1 < 0 then (
  f_X8_rivers_l105 A_19 A_20 A_21 A_23 Z_8 wA_22)
  else (
  f_X8_rivers_l17 (fun zv1 zwA_22 => f_X8_rivers_l7 A_19 A_20 A_21 A_23 Z_8 k zv1 zwA_22) A_19 A_20 A_21 Z_8 hm_fu v1 0 (v1 + 1) wA_22) := rfl
theorem f_X8_rivers_l7_z (A_19 : Nat → Int32) (A_20 : Nat → Int32) (A_21 : Nat → Int32) (A_23 : Nat → Int32) (Z_8 : Int32) (v1 : Int32) (wA_22 : Nat → Int32) : f_X8_rivers_l7 A_19 A_20 A_21 A_23 Z_8 0 v1 wA_22 = none := rfl
def f_X8_rivers (A_19 : Nat → Int32) (A_20 : Nat → Int32) (A_21 : Nat → Int32) (A_22 : Nat → Int32) (A_23 : Nat → Int32) (Z_8 : Int32)  : Option ((Nat → Int32) × (Nat → Int32)) :=
  f_X8_rivers_l7 A_19 A_20 A_21 A_23 Z_8 hm_fu (Z_8 - 1) A_22
abbrev rm_X8_rivers : Room := { frames := 1, cells := 0, slots := 0, locals := 24 }
set_option maxHeartbeats 4000000 in
set_option maxRecDepth 100000 in
theorem c_X8_rivers (l : Launch) (g : hm_G) (a : Nat → Nat) (A : Nat → Nat → Int32) (Z : Nat → Int32) (q : (Nat → Int32) × (Nat → Int32)) (hF : f_X8_rivers (A 19) (A 20) (A 21) (A 22) (A 23) (Z 8) = some q) : hm_Mv l yX8_rivers (Cond.code yX8_rivers cX8_rivers 5 none :: hm_W) rm_X8_rivers g [.ref (a 0)] (hm_wMM g a A Z) (hm_wMM g a (hm_up (hm_up A 22 q.1) 23 q.2) Z) := by
  refine hm_ofv [(0, .ref (a 0))] (by decide) (own := RX8) rfl (Nat.le_of_ble_eq_true rfl) rfl rfl ?_
  intro p e s m args below meth c AA S hr hlk X ls hl
  have hx := S.1
  have hb := S.2.1
  have hown := S.2.2.2.1
  have hts := S.2.2.2.2
  have hl107 : ∀ (k107 : Nat) (v1 : Int32) (wA_22 : Nat → Int32) (wA_23 : Nat → Int32), f_X8_rivers_l107 (A 19) (A 20) (A 21) (Z 8) k107 v1 wA_22 wA_23 = some q → ∀ (H : Heap) (locs : List Loc), hm_X g AA s H locs (hm_wMM g a (hm_up (hm_up A 22 wA_22) 23 wA_23) Z) → ∀ ls : Array Slot, lv_has ls 5 [(0, .ref (a 0)), (1, .int v1)] → W p l e rm_X8_rivers s m args below meth c H locs 0 0 (MQ below (hm_Qv g AA (hm_wMM g a (hm_up (hm_up A 22 q.1) 23 q.2) Z)) args s 0 0 AA) (F0 m 107 ls []) := by
    intro k107
    induction k107 with
    | zero =>
      intro v1 wA_22 wA_23 hF
      rw [f_X8_rivers_l107_z] at hF
      cases hF
    | succ k107 ih107 =>
      have hl195 : ∀ (v1 : Int32) (wA_22 : Nat → Int32) (wA_23 : Nat → Int32), f_X8_rivers_l195 (fun zv1 zwA_22 zwA_23 => f_X8_rivers_l107 (A 19) (A 20) (A 21) (Z 8) k107 zv1 zwA_22 zwA_23) v1 wA_22 wA_23 = some q → ∀ (H : Heap) (locs : List Loc), hm_X g AA s H locs (hm_wMM g a (hm_up (hm_up A 22 wA_22) 23 wA_23) Z) → ∀ ls : Array Slot, lv_has ls 5 [(0, .ref (a 0)), (1, .int v1)] → W p l e rm_X8_rivers s m args below meth c H locs 0 0 (MQ below (hm_Qv g AA (hm_wMM g a (hm_up (hm_up A 22 q.1) 23 q.2) Z)) args s 0 0 AA) (F0 m 195 ls []) := by
        intro v1 wA_22 wA_23 hF H locs X ls hl
        unfold f_X8_rivers_l195 at hF
        refine lv_iinc (v := (v1 + 1)) (lv' := [(1, .int (v1 + 1)), (0, .ref (a 0))]) hx hb dX8_rivers_195 hl (k := 1) rfl rfl (by decide) rfl (fun ls hl => ?_)
        refine lv_goto (tgt := 107) hx hb dX8_rivers_198 (by decide) ?_
        exact ih107 (v1 + 1) wA_22 wA_23 hF _ _ X _ (lv_sub hl [1, 0] rfl)
      have hl138 : ∀ (k138 : Nat) (v1 : Int32) (v2 : Int32) (wA_22 : Nat → Int32) (wA_23 : Nat → Int32), f_X8_rivers_l138 (fun zv1 zwA_22 zwA_23 => f_X8_rivers_l107 (A 19) (A 20) (A 21) (Z 8) k107 zv1 zwA_22 zwA_23) (A 19) (A 20) (A 21) k138 v1 v2 wA_22 wA_23 = some q → ∀ (H : Heap) (locs : List Loc), hm_X g AA s H locs (hm_wMM g a (hm_up (hm_up A 22 wA_22) 23 wA_23) Z) → ∀ ls : Array Slot, lv_has ls 5 [(0, .ref (a 0)), (1, .int v1), (2, .int v2)] → W p l e rm_X8_rivers s m args below meth c H locs 0 0 (MQ below (hm_Qv g AA (hm_wMM g a (hm_up (hm_up A 22 q.1) 23 q.2) Z)) args s 0 0 AA) (F0 m 138 ls []) := by
        intro k138
        induction k138 with
        | zero =>
          intro v1 v2 wA_22 wA_23 hF
          rw [f_X8_rivers_l138_z] at hF
          cases hF
        | succ k138 ih138 =>
          have hl188 : ∀ (s188_0 : Int32) (s188_1 : Int32) (v1 : Int32) (v2 : Int32) (wA_22 : Nat → Int32) (wA_23 : Nat → Int32), f_X8_rivers_l188 (fun zv1 zwA_22 zwA_23 => f_X8_rivers_l107 (A 19) (A 20) (A 21) (Z 8) k107 zv1 zwA_22 zwA_23) (fun zv1 zv2 zwA_22 zwA_23 => f_X8_rivers_l138 (fun zv1 zwA_22 zwA_23 => f_X8_rivers_l107 (A 19) (A 20) (A 21) (Z 8) k107 zv1 zwA_22 zwA_23) (A 19) (A 20) (A 21) k138 zv1 zv2 zwA_22 zwA_23) s188_0 s188_1 v1 v2 wA_22 wA_23 = some q → ∀ (H : Heap) (locs : List Loc), hm_X g AA s H locs (hm_wMM g a (hm_up (hm_up A 22 wA_22) 23 wA_23) Z) → ∀ ls : Array Slot, lv_has ls 5 [(0, .ref (a 0)), (1, .int v1), (2, .int v2)] → W p l e rm_X8_rivers s m args below meth c H locs 0 0 (MQ below (hm_Qv g AA (hm_wMM g a (hm_up (hm_up A 22 q.1) 23 q.2) Z)) args s 0 0 AA) (F0 m 188 ls [.int s188_0, .int s188_1, .ref (a 24)]) := by
            intro s188_0 s188_1 v1 v2 wA_22 wA_23 hF H locs X ls hl
            unfold f_X8_rivers_l188 at hF
            obtain ⟨f4, hf4, hF⟩ := hm_bd hF
            refine hm_zast S X hf4 24 rfl dX8_rivers_188 (fun H locs X => ?_)
            have X := X.to (ws' := (hm_wMM g a (hm_up (hm_up A 22 wA_22) 23 f4) Z)) rfl
            refine lv_iinc (v := (v2 + 1)) (lv' := [(2, .int (v2 + 1)), (0, .ref (a 0)), (1, .int v1)]) hx hb dX8_rivers_189 hl (k := 2) rfl rfl (by decide) rfl (fun ls hl => ?_)
            refine lv_goto (tgt := 138) hx hb dX8_rivers_192 (by decide) ?_
            exact ih138 v1 (v2 + 1) wA_22 f4 hF _ _ X _ (lv_sub hl [1, 2, 0] rfl)
          have hl187 : ∀ (s187_0 : Int32) (v1 : Int32) (v2 : Int32) (wA_22 : Nat → Int32) (wA_23 : Nat → Int32), f_X8_rivers_l187 (fun zv1 zwA_22 zwA_23 => f_X8_rivers_l107 (A 19) (A 20) (A 21) (Z 8) k107 zv1 zwA_22 zwA_23) (fun zv1 zv2 zwA_22 zwA_23 => f_X8_rivers_l138 (fun zv1 zwA_22 zwA_23 => f_X8_rivers_l107 (A 19) (A 20) (A 21) (Z 8) k107 zv1 zwA_22 zwA_23) (A 19) (A 20) (A 21) k138 zv1 zv2 zwA_22 zwA_23) s187_0 v1 v2 wA_22 wA_23 = some q → ∀ (H : Heap) (locs : List Loc), hm_X g AA s H locs (hm_wMM g a (hm_up (hm_up A 22 wA_22) 23 wA_23) Z) → ∀ ls : Array Slot, lv_has ls 5 [(0, .ref (a 0)), (1, .int v1), (2, .int v2)] → W p l e rm_X8_rivers s m args below meth c H locs 0 0 (MQ below (hm_Qv g AA (hm_wMM g a (hm_up (hm_up A 22 q.1) 23 q.2) Z)) args s 0 0 AA) (F0 m 187 ls [.int s187_0, .ref (a 24)]) := by
            intro s187_0 v1 v2 wA_22 wA_23 hF H locs X ls hl
            unfold f_X8_rivers_l187 at hF
            refine lv_iconst (v := 0) hx hb dX8_rivers_187 (by decide) ?_
            exact hl188 0 s187_0 v1 v2 wA_22 wA_23 hF _ _ X _ (lv_sub hl [0, 1, 2] rfl)
          have hl183 : ∀ (s183_0 : Int32) (v1 : Int32) (v2 : Int32) (wA_22 : Nat → Int32) (wA_23 : Nat → Int32), f_X8_rivers_l183 (fun zv1 zwA_22 zwA_23 => f_X8_rivers_l107 (A 19) (A 20) (A 21) (Z 8) k107 zv1 zwA_22 zwA_23) (fun zv1 zv2 zwA_22 zwA_23 => f_X8_rivers_l138 (fun zv1 zwA_22 zwA_23 => f_X8_rivers_l107 (A 19) (A 20) (A 21) (Z 8) k107 zv1 zwA_22 zwA_23) (A 19) (A 20) (A 21) k138 zv1 zv2 zwA_22 zwA_23) s183_0 v1 v2 wA_22 wA_23 = some q → ∀ (H : Heap) (locs : List Loc), hm_X g AA s H locs (hm_wMM g a (hm_up (hm_up A 22 wA_22) 23 wA_23) Z) → ∀ ls : Array Slot, lv_has ls 5 [(0, .ref (a 0)), (1, .int v1), (2, .int v2)] → W p l e rm_X8_rivers s m args below meth c H locs 0 0 (MQ below (hm_Qv g AA (hm_wMM g a (hm_up (hm_up A 22 q.1) 23 q.2) Z)) args s 0 0 AA) (F0 m 183 ls [.int s183_0, .ref (a 24)]) := by
            intro s183_0 v1 v2 wA_22 wA_23 hF H locs X ls hl
            unfold f_X8_rivers_l183 at hF
            refine lv_iconst (v := 1) hx hb dX8_rivers_183 (by decide) ?_
            refine lv_goto (tgt := 188) hx hb dX8_rivers_184 (by decide) ?_
            exact hl188 1 s183_0 v1 v2 wA_22 wA_23 hF _ _ X _ (lv_sub hl [0, 1, 2] rfl)
          intro v1 v2 wA_22 wA_23 hF H locs X ls hl
          rw [f_X8_rivers_l138_s] at hF
          refine lv_iload_n hx hb dX8_rivers_138 rfl (lv_at hl 2 rfl) ?_
          refine lv_iload_n hx hb dX8_rivers_139 rfl (lv_at hl 1 rfl) ?_
          refine lv_icmp_ge (tgt := 195) hx hb dX8_rivers_140 (by decide) (fun c140 => ?_) (fun c140 => ?_)
          · have hF := hm_if hF c140
            exact hl195 v1 wA_22 wA_23 hF _ _ X _ (lv_sub hl [0, 1] rfl)
          · have hF := hm_nf hF c140
            refine lv_aload_n hx hb dX8_rivers_143 rfl (lv_at hl 0 rfl) ?_
            refine hm_get S X hf_X8_80 0 rfl rfl dX8_rivers_144 ?_
            refine lv_iload_n hx hb dX8_rivers_147 rfl (lv_at hl 1 rfl) ?_
            refine lv_aload_n hx hb dX8_rivers_148 rfl (lv_at hl 0 rfl) ?_
            refine hm_get S X hf_X8_80 0 rfl rfl dX8_rivers_149 ?_
            refine lv_iload_n hx hb dX8_rivers_152 rfl (lv_at hl 1 rfl) ?_
            obtain ⟨t3, ht3, hF⟩ := hm_bd hF
            refine hm_zald S X ht3 24 rfl dX8_rivers_153 ?_
            refine lv_if_eq (tgt := 187) hx hb dX8_rivers_154 (by decide) (fun c154 => ?_) (fun c154 => ?_)
            · have hF := hm_if hF c154
              exact hl187 v1 v1 v2 wA_22 wA_23 hF _ _ X _ (lv_sub hl [0, 1, 2] rfl)
            · have hF := hm_nf hF c154
              refine lv_aload_n hx hb dX8_rivers_157 rfl (lv_at hl 0 rfl) ?_
              refine hm_get S X hf_X8_68 0 rfl rfl dX8_rivers_158 ?_
              refine lv_iload_n hx hb dX8_rivers_161 rfl (lv_at hl 2 rfl) ?_
              obtain ⟨t5, ht5, hF⟩ := hm_bd hF
              refine hm_iald S X ht5 20 rfl dX8_rivers_162 ?_
              refine lv_aload_n hx hb dX8_rivers_163 rfl (lv_at hl 0 rfl) ?_
              refine hm_get S X hf_X8_68 0 rfl rfl dX8_rivers_164 ?_
              refine lv_iload_n hx hb dX8_rivers_167 rfl (lv_at hl 1 rfl) ?_
              obtain ⟨t6, ht6, hF⟩ := hm_bd hF
              refine hm_iald S X ht6 20 rfl dX8_rivers_168 ?_
              refine lv_iconst (v := 1) hx hb dX8_rivers_169 (by decide) ?_
              refine lv_isub hx hb dX8_rivers_170 ?_
              refine lv_icmp_ne (tgt := 183) hx hb dX8_rivers_171 (by decide) (fun c171 => ?_) (fun c171 => ?_)
              · have hF := hm_nf hF c171
                exact hl183 v1 v1 v2 wA_22 wA_23 hF _ _ X _ (lv_sub hl [0, 1, 2] rfl)
              · have hF := hm_if hF c171
                refine lv_aload_n hx hb dX8_rivers_174 rfl (lv_at hl 0 rfl) ?_
                refine lv_iload_n hx hb dX8_rivers_175 rfl (lv_at hl 1 rfl) ?_
                refine lv_iload_n hx hb dX8_rivers_176 rfl (lv_at hl 2 rfl) ?_
                obtain ⟨t7, ht7, hF⟩ := hm_bd hF
                refine hm_vi (As := [.int v1, .int v2]) S X mw_X8_areCommon hw_5_109 (c_X8_areCommon l g a (hm_up (hm_up A 22 wA_22) 23 wA_23) Z v1 v2 t7 ht7) hm_same hm_same rfl rfl rfl ⟨rfl, rfl, Nat.le_of_ble_eq_true rfl, Nat.le_of_ble_eq_true rfl⟩ rfl hl.1 rfl (Nat.le_of_ble_eq_true rfl) dX8_rivers_177 ⟨Nat.zero_le _, Nat.zero_le _⟩ (fun H locs X => ?_)
                refine lv_if_ne (tgt := 187) hx hb dX8_rivers_180 (by decide) (fun c180 => ?_) (fun c180 => ?_)
                · have hF := hm_nf hF c180
                  exact hl187 v1 v1 v2 wA_22 wA_23 hF _ _ X _ (lv_sub hl [0, 1, 2] rfl)
                · have hF := hm_if hF c180
                  exact hl183 v1 v1 v2 wA_22 wA_23 hF _ _ X _ (lv_sub hl [0, 1, 2] rfl)
      have hl135 : ∀ (s135_0 : Int32) (s135_1 : Int32) (v1 : Int32) (wA_22 : Nat → Int32) (wA_23 : Nat → Int32), f_X8_rivers_l135 (fun zv1 zwA_22 zwA_23 => f_X8_rivers_l107 (A 19) (A 20) (A 21) (Z 8) k107 zv1 zwA_22 zwA_23) (A 19) (A 20) (A 21) s135_0 s135_1 v1 wA_22 wA_23 = some q → ∀ (H : Heap) (locs : List Loc), hm_X g AA s H locs (hm_wMM g a (hm_up (hm_up A 22 wA_22) 23 wA_23) Z) → ∀ ls : Array Slot, lv_has ls 5 [(0, .ref (a 0)), (1, .int v1)] → W p l e rm_X8_rivers s m args below meth c H locs 0 0 (MQ below (hm_Qv g AA (hm_wMM g a (hm_up (hm_up A 22 q.1) 23 q.2) Z)) args s 0 0 AA) (F0 m 135 ls [.int s135_0, .int s135_1, .ref (a 24)]) := by
        intro s135_0 s135_1 v1 wA_22 wA_23 hF H locs X ls hl
        unfold f_X8_rivers_l135 at hF
        obtain ⟨f2, hf2, hF⟩ := hm_bd hF
        refine hm_zast S X hf2 24 rfl dX8_rivers_135 (fun H locs X => ?_)
        have X := X.to (ws' := (hm_wMM g a (hm_up (hm_up A 22 wA_22) 23 f2) Z)) rfl
        refine lv_iconst (v := 0) hx hb dX8_rivers_136 (by decide) ?_
        refine lv_istore_n (lv' := [(2, .int 0), (0, .ref (a 0)), (1, .int v1)]) hx hb dX8_rivers_137 rfl hl (by decide) rfl (fun ls hl => ?_)
        exact hl138 hm_fu v1 0 wA_22 f2 hF _ _ X _ (lv_sub hl [1, 2, 0] rfl)
      intro v1 wA_22 wA_23 hF H locs X ls hl
      rw [f_X8_rivers_l107_s] at hF
      refine lv_iload_n hx hb dX8_rivers_107 rfl (lv_at hl 1 rfl) ?_
      refine lv_aload_n hx hb dX8_rivers_108 rfl (lv_at hl 0 rfl) ?_
      refine hm_get S X hf_X8_198 0 rfl rfl dX8_rivers_109 ?_
      refine lv_icmp_ge (tgt := 201) hx hb dX8_rivers_112 (by decide) (fun c112 => ?_) (fun c112 => ?_)
      · have hF := hm_if hF c112
        obtain rfl := Option.some.inj hF
        exact hm_rv S hr hlk X rfl dX8_rivers_201
      · have hF := hm_nf hF c112
        refine lv_aload_n hx hb dX8_rivers_115 rfl (lv_at hl 0 rfl) ?_
        refine hm_get S X hf_X8_80 0 rfl rfl dX8_rivers_116 ?_
        refine lv_iload_n hx hb dX8_rivers_119 rfl (lv_at hl 1 rfl) ?_
        refine lv_aload_n hx hb dX8_rivers_120 rfl (lv_at hl 0 rfl) ?_
        refine hm_get S X hf_X8_77 0 rfl rfl dX8_rivers_121 ?_
        refine lv_iload_n hx hb dX8_rivers_124 rfl (lv_at hl 1 rfl) ?_
        obtain ⟨t1, ht1, hF⟩ := hm_bd hF
        refine hm_iald S X ht1 23 rfl dX8_rivers_125 ?_
        refine lv_iconst (v := 2) hx hb dX8_rivers_126 (by decide) ?_
        refine lv_icmp_le (tgt := 134) hx hb dX8_rivers_127 (by decide) (fun c127 => ?_) (fun c127 => ?_)
        · have hF := hm_if hF c127
          refine lv_iconst (v := 0) hx hb dX8_rivers_134 (by decide) ?_
          exact hl135 0 v1 v1 wA_22 wA_23 hF _ _ X _ (lv_sub hl [0, 1] rfl)
        · have hF := hm_nf hF c127
          refine lv_iconst (v := 1) hx hb dX8_rivers_130 (by decide) ?_
          refine lv_goto (tgt := 135) hx hb dX8_rivers_131 (by decide) ?_
          exact hl135 1 v1 v1 wA_22 wA_23 hF _ _ X _ (lv_sub hl [0, 1] rfl)
  have hl105 : ∀ (wA_22 : Nat → Int32), f_X8_rivers_l105 (A 19) (A 20) (A 21) (A 23) (Z 8) wA_22 = some q → ∀ (H : Heap) (locs : List Loc), hm_X g AA s H locs (hm_wMM g a (hm_up A 22 wA_22) Z) → ∀ ls : Array Slot, lv_has ls 5 [(0, .ref (a 0))] → W p l e rm_X8_rivers s m args below meth c H locs 0 0 (MQ below (hm_Qv g AA (hm_wMM g a (hm_up (hm_up A 22 q.1) 23 q.2) Z)) args s 0 0 AA) (F0 m 105 ls []) := by
    intro wA_22 hF H locs X ls hl
    unfold f_X8_rivers_l105 at hF
    refine lv_iconst (v := 0) hx hb dX8_rivers_105 (by decide) ?_
    refine lv_istore_n (lv' := [(1, .int 0), (0, .ref (a 0))]) hx hb dX8_rivers_106 rfl hl (by decide) rfl (fun ls hl => ?_)
    exact hl107 hm_fu 0 wA_22 (A 23) hF _ _ (X.to (ws' := (hm_wMM g a (hm_up (hm_up A 22 wA_22) 23 (A 23)) Z)) rfl) _ (lv_sub hl [1, 0] rfl)
  have hl7 : ∀ (k7 : Nat) (v1 : Int32) (wA_22 : Nat → Int32), f_X8_rivers_l7 (A 19) (A 20) (A 21) (A 23) (Z 8) k7 v1 wA_22 = some q → ∀ (H : Heap) (locs : List Loc), hm_X g AA s H locs (hm_wMM g a (hm_up A 22 wA_22) Z) → ∀ ls : Array Slot, lv_has ls 5 [(0, .ref (a 0)), (1, .int v1)] → W p l e rm_X8_rivers s m args below meth c H locs 0 0 (MQ below (hm_Qv g AA (hm_wMM g a (hm_up (hm_up A 22 q.1) 23 q.2) Z)) args s 0 0 AA) (F0 m 7 ls []) := by
    intro k7
    induction k7 with
    | zero =>
      intro v1 wA_22 hF
      rw [f_X8_rivers_l7_z] at hF
      cases hF
    | succ k7 ih7 =>
      have hl90 : ∀ (v1 : Int32) (v2 : Int32) (wA_22 : Nat → Int32), f_X8_rivers_l90 (fun zv1 zwA_22 => f_X8_rivers_l7 (A 19) (A 20) (A 21) (A 23) (Z 8) k7 zv1 zwA_22) v1 v2 wA_22 = some q → ∀ (H : Heap) (locs : List Loc), hm_X g AA s H locs (hm_wMM g a (hm_up A 22 wA_22) Z) → ∀ ls : Array Slot, lv_has ls 5 [(0, .ref (a 0)), (1, .int v1), (2, .int v2)] → W p l e rm_X8_rivers s m args below meth c H locs 0 0 (MQ below (hm_Qv g AA (hm_wMM g a (hm_up (hm_up A 22 q.1) 23 q.2) Z)) args s 0 0 AA) (F0 m 90 ls []) := by
        intro v1 v2 wA_22 hF H locs X ls hl
        unfold f_X8_rivers_l90 at hF
        refine lv_aload_n hx hb dX8_rivers_90 rfl (lv_at hl 0 rfl) ?_
        refine hm_get S X hf_X8_77 0 rfl rfl dX8_rivers_91 ?_
        refine lv_iload_n hx hb dX8_rivers_94 rfl (lv_at hl 1 rfl) ?_
        refine lv_iload_n hx hb dX8_rivers_95 rfl (lv_at hl 2 rfl) ?_
        refine lv_iconst (v := 1) hx hb dX8_rivers_96 (by decide) ?_
        refine lv_iadd hx hb dX8_rivers_97 ?_
        obtain ⟨f8, hf8, hF⟩ := hm_bd hF
        refine hm_iast S X hf8 23 rfl dX8_rivers_98 (fun H locs X => ?_)
        have X := X.to (ws' := (hm_wMM g a (hm_up A 22 f8) Z)) rfl
        refine lv_iinc (v := (v1 + (-1))) (lv' := [(1, .int (v1 + (-1))), (0, .ref (a 0)), (2, .int v2)]) hx hb dX8_rivers_99 hl (k := 1) rfl rfl (by decide) rfl (fun ls hl => ?_)
        refine lv_goto (tgt := 7) hx hb dX8_rivers_102 (by decide) ?_
        exact ih7 (v1 + (-1)) f8 hF _ _ X _ (lv_sub hl [1, 0] rfl)
      have hl17 : ∀ (k17 : Nat) (v1 : Int32) (v2 : Int32) (v3 : Int32) (wA_22 : Nat → Int32), f_X8_rivers_l17 (fun zv1 zwA_22 => f_X8_rivers_l7 (A 19) (A 20) (A 21) (A 23) (Z 8) k7 zv1 zwA_22) (A 19) (A 20) (A 21) (Z 8) k17 v1 v2 v3 wA_22 = some q → ∀ (H : Heap) (locs : List Loc), hm_X g AA s H locs (hm_wMM g a (hm_up A 22 wA_22) Z) → ∀ ls : Array Slot, lv_has ls 5 [(0, .ref (a 0)), (1, .int v1), (2, .int v2), (3, .int v3)] → W p l e rm_X8_rivers s m args below meth c H locs 0 0 (MQ below (hm_Qv g AA (hm_wMM g a (hm_up (hm_up A 22 q.1) 23 q.2) Z)) args s 0 0 AA) (F0 m 17 ls []) := by
        intro k17
        induction k17 with
        | zero =>
          intro v1 v2 v3 wA_22 hF
          rw [f_X8_rivers_l17_z] at hF
          cases hF
        | succ k17 ih17 =>
          have hl83 : ∀ (s83_0 : Int32) (v1 : Int32) (v3 : Int32) (wA_22 : Nat → Int32), f_X8_rivers_l83 (fun zv1 zwA_22 => f_X8_rivers_l7 (A 19) (A 20) (A 21) (A 23) (Z 8) k7 zv1 zwA_22) (fun zv1 zv2 zv3 zwA_22 => f_X8_rivers_l17 (fun zv1 zwA_22 => f_X8_rivers_l7 (A 19) (A 20) (A 21) (A 23) (Z 8) k7 zv1 zwA_22) (A 19) (A 20) (A 21) (Z 8) k17 zv1 zv2 zv3 zwA_22) s83_0 v1 v3 wA_22 = some q → ∀ (H : Heap) (locs : List Loc), hm_X g AA s H locs (hm_wMM g a (hm_up A 22 wA_22) Z) → ∀ ls : Array Slot, lv_has ls 5 [(0, .ref (a 0)), (1, .int v1), (3, .int v3)] → W p l e rm_X8_rivers s m args below meth c H locs 0 0 (MQ below (hm_Qv g AA (hm_wMM g a (hm_up (hm_up A 22 q.1) 23 q.2) Z)) args s 0 0 AA) (F0 m 83 ls [.int s83_0]) := by
            intro s83_0 v1 v3 wA_22 hF H locs X ls hl
            unfold f_X8_rivers_l83 at hF
            refine lv_istore_n (lv' := [(2, .int s83_0), (0, .ref (a 0)), (1, .int v1), (3, .int v3)]) hx hb dX8_rivers_83 rfl hl (by decide) rfl (fun ls hl => ?_)
            refine lv_iinc (v := (v3 + 1)) (lv' := [(3, .int (v3 + 1)), (2, .int s83_0), (0, .ref (a 0)), (1, .int v1)]) hx hb dX8_rivers_84 hl (k := 3) rfl rfl (by decide) rfl (fun ls hl => ?_)
            refine lv_goto (tgt := 17) hx hb dX8_rivers_87 (by decide) ?_
            exact ih17 v1 s83_0 (v3 + 1) wA_22 hF _ _ X _ (lv_sub hl [2, 3, 1, 0] rfl)
          have hl82 : ∀ (v1 : Int32) (v2 : Int32) (v3 : Int32) (wA_22 : Nat → Int32), f_X8_rivers_l82 (fun zv1 zwA_22 => f_X8_rivers_l7 (A 19) (A 20) (A 21) (A 23) (Z 8) k7 zv1 zwA_22) (fun zv1 zv2 zv3 zwA_22 => f_X8_rivers_l17 (fun zv1 zwA_22 => f_X8_rivers_l7 (A 19) (A 20) (A 21) (A 23) (Z 8) k7 zv1 zwA_22) (A 19) (A 20) (A 21) (Z 8) k17 zv1 zv2 zv3 zwA_22) v1 v2 v3 wA_22 = some q → ∀ (H : Heap) (locs : List Loc), hm_X g AA s H locs (hm_wMM g a (hm_up A 22 wA_22) Z) → ∀ ls : Array Slot, lv_has ls 5 [(0, .ref (a 0)), (1, .int v1), (2, .int v2), (3, .int v3)] → W p l e rm_X8_rivers s m args below meth c H locs 0 0 (MQ below (hm_Qv g AA (hm_wMM g a (hm_up (hm_up A 22 q.1) 23 q.2) Z)) args s 0 0 AA) (F0 m 82 ls []) := by
            intro v1 v2 v3 wA_22 hF H locs X ls hl
            unfold f_X8_rivers_l82 at hF
            refine lv_iload_n hx hb dX8_rivers_82 rfl (lv_at hl 2 rfl) ?_
            exact hl83 v2 v1 v3 wA_22 hF _ _ X _ (lv_sub hl [0, 1, 3] rfl)
          have hl56 : ∀ (s56_0 : Int32) (v1 : Int32) (v2 : Int32) (v3 : Int32) (wA_22 : Nat → Int32), f_X8_rivers_l56 (fun zv1 zwA_22 => f_X8_rivers_l7 (A 19) (A 20) (A 21) (A 23) (Z 8) k7 zv1 zwA_22) (fun zv1 zv2 zv3 zwA_22 => f_X8_rivers_l17 (fun zv1 zwA_22 => f_X8_rivers_l7 (A 19) (A 20) (A 21) (A 23) (Z 8) k7 zv1 zwA_22) (A 19) (A 20) (A 21) (Z 8) k17 zv1 zv2 zv3 zwA_22) s56_0 v1 v2 v3 wA_22 = some q → ∀ (H : Heap) (locs : List Loc), hm_X g AA s H locs (hm_wMM g a (hm_up A 22 wA_22) Z) → ∀ ls : Array Slot, lv_has ls 5 [(0, .ref (a 0)), (1, .int v1), (2, .int v2), (3, .int v3)] → W p l e rm_X8_rivers s m args below meth c H locs 0 0 (MQ below (hm_Qv g AA (hm_wMM g a (hm_up (hm_up A 22 q.1) 23 q.2) Z)) args s 0 0 AA) (F0 m 56 ls [.int s56_0]) := by
            intro s56_0 v1 v2 v3 wA_22 hF H locs X ls hl
            unfold f_X8_rivers_l56 at hF
            refine lv_istore (lv' := [(4, .int s56_0), (0, .ref (a 0)), (1, .int v1), (2, .int v2), (3, .int v3)]) hx hb dX8_rivers_56 hl (by decide) rfl (fun ls hl => ?_)
            refine lv_iload hx hb dX8_rivers_58 (lv_at hl 0 rfl) ?_
            refine lv_if_eq (tgt := 82) hx hb dX8_rivers_60 (by decide) (fun c60 => ?_) (fun c60 => ?_)
            · have hF := hm_if hF c60
              exact hl82 v1 v2 v3 wA_22 hF _ _ X _ (lv_sub hl [1, 2, 3, 4] rfl)
            · have hF := hm_nf hF c60
              refine lv_aload_n hx hb dX8_rivers_63 rfl (lv_at hl 1 rfl) ?_
              refine hm_get S X hf_X8_77 0 rfl rfl dX8_rivers_64 ?_
              refine lv_iload_n hx hb dX8_rivers_67 rfl (lv_at hl 4 rfl) ?_
              obtain ⟨t11, ht11, hF⟩ := hm_bd hF
              refine hm_iald S X ht11 23 rfl dX8_rivers_68 ?_
              refine lv_iload_n hx hb dX8_rivers_69 rfl (lv_at hl 3 rfl) ?_
              refine lv_icmp_le (tgt := 82) hx hb dX8_rivers_70 (by decide) (fun c70 => ?_) (fun c70 => ?_)
              · have hF := hm_if hF c70
                exact hl82 v1 v2 v3 wA_22 hF _ _ X _ (lv_sub hl [1, 2, 3, 4] rfl)
              · have hF := hm_nf hF c70
                refine lv_aload_n hx hb dX8_rivers_73 rfl (lv_at hl 1 rfl) ?_
                refine hm_get S X hf_X8_77 0 rfl rfl dX8_rivers_74 ?_
                refine lv_iload_n hx hb dX8_rivers_77 rfl (lv_at hl 4 rfl) ?_
                obtain ⟨t12, ht12, hF⟩ := hm_bd hF
                refine hm_iald S X ht12 23 rfl dX8_rivers_78 ?_
                refine lv_goto (tgt := 83) hx hb dX8_rivers_79 (by decide) ?_
                exact hl83 t12 v1 v3 wA_22 hF _ _ X _ (lv_sub hl [1, 2, 4] rfl)
          have hl55 : ∀ (v1 : Int32) (v2 : Int32) (v3 : Int32) (wA_22 : Nat → Int32), f_X8_rivers_l55 (fun zv1 zwA_22 => f_X8_rivers_l7 (A 19) (A 20) (A 21) (A 23) (Z 8) k7 zv1 zwA_22) (fun zv1 zv2 zv3 zwA_22 => f_X8_rivers_l17 (fun zv1 zwA_22 => f_X8_rivers_l7 (A 19) (A 20) (A 21) (A 23) (Z 8) k7 zv1 zwA_22) (A 19) (A 20) (A 21) (Z 8) k17 zv1 zv2 zv3 zwA_22) v1 v2 v3 wA_22 = some q → ∀ (H : Heap) (locs : List Loc), hm_X g AA s H locs (hm_wMM g a (hm_up A 22 wA_22) Z) → ∀ ls : Array Slot, lv_has ls 5 [(0, .ref (a 0)), (1, .int v1), (2, .int v2), (3, .int v3)] → W p l e rm_X8_rivers s m args below meth c H locs 0 0 (MQ below (hm_Qv g AA (hm_wMM g a (hm_up (hm_up A 22 q.1) 23 q.2) Z)) args s 0 0 AA) (F0 m 55 ls []) := by
            intro v1 v2 v3 wA_22 hF H locs X ls hl
            unfold f_X8_rivers_l55 at hF
            refine lv_iconst (v := 0) hx hb dX8_rivers_55 (by decide) ?_
            exact hl56 0 v1 v2 v3 wA_22 hF _ _ X _ (lv_sub hl [0, 1, 2, 3] rfl)
          intro v1 v2 v3 wA_22 hF H locs X ls hl
          rw [f_X8_rivers_l17_s] at hF
          refine lv_iload_n hx hb dX8_rivers_17 rfl (lv_at hl 3 rfl) ?_
          refine lv_aload_n hx hb dX8_rivers_18 rfl (lv_at hl 0 rfl) ?_
          refine hm_get S X hf_X8_198 0 rfl rfl dX8_rivers_19 ?_
          refine lv_icmp_ge (tgt := 90) hx hb dX8_rivers_22 (by decide) (fun c22 => ?_) (fun c22 => ?_)
          · have hF := hm_if hF c22
            exact hl90 v1 v2 wA_22 hF _ _ X _ (lv_sub hl [0, 1, 2] rfl)
          · have hF := hm_nf hF c22
            refine lv_aload_n hx hb dX8_rivers_25 rfl (lv_at hl 0 rfl) ?_
            refine hm_get S X hf_X8_68 0 rfl rfl dX8_rivers_26 ?_
            refine lv_iload_n hx hb dX8_rivers_29 rfl (lv_at hl 3 rfl) ?_
            obtain ⟨t9, ht9, hF⟩ := hm_bd hF
            refine hm_iald S X ht9 20 rfl dX8_rivers_30 ?_
            refine lv_aload_n hx hb dX8_rivers_31 rfl (lv_at hl 0 rfl) ?_
            refine hm_get S X hf_X8_68 0 rfl rfl dX8_rivers_32 ?_
            refine lv_iload_n hx hb dX8_rivers_35 rfl (lv_at hl 1 rfl) ?_
            obtain ⟨t10, ht10, hF⟩ := hm_bd hF
            refine hm_iald S X ht10 20 rfl dX8_rivers_36 ?_
            refine lv_iconst (v := 1) hx hb dX8_rivers_37 (by decide) ?_
            refine lv_iadd hx hb dX8_rivers_38 ?_
            refine lv_icmp_ne (tgt := 55) hx hb dX8_rivers_39 (by decide) (fun c39 => ?_) (fun c39 => ?_)
            · have hF := hm_nf hF c39
              exact hl55 v1 v2 v3 wA_22 hF _ _ X _ (lv_sub hl [0, 1, 2, 3] rfl)
            · have hF := hm_if hF c39
              refine lv_aload_n hx hb dX8_rivers_42 rfl (lv_at hl 0 rfl) ?_
              refine lv_iload_n hx hb dX8_rivers_43 rfl (lv_at hl 1 rfl) ?_
              refine lv_iload_n hx hb dX8_rivers_44 rfl (lv_at hl 3 rfl) ?_
              obtain ⟨t13, ht13, hF⟩ := hm_bd hF
              refine hm_vi (As := [.int v1, .int v3]) S X mw_X8_areCommon hw_5_109 (c_X8_areCommon l g a (hm_up A 22 wA_22) Z v1 v3 t13 ht13) hm_same hm_same rfl rfl rfl ⟨rfl, rfl, Nat.le_of_ble_eq_true rfl, Nat.le_of_ble_eq_true rfl⟩ rfl hl.1 rfl (Nat.le_of_ble_eq_true rfl) dX8_rivers_45 ⟨Nat.zero_le _, Nat.zero_le _⟩ (fun H locs X => ?_)
              refine lv_if_eq (tgt := 55) hx hb dX8_rivers_48 (by decide) (fun c48 => ?_) (fun c48 => ?_)
              · have hF := hm_if hF c48
                exact hl55 v1 v2 v3 wA_22 hF _ _ X _ (lv_sub hl [0, 1, 2, 3] rfl)
              · have hF := hm_nf hF c48
                refine lv_iconst (v := 1) hx hb dX8_rivers_51 (by decide) ?_
                refine lv_goto (tgt := 56) hx hb dX8_rivers_52 (by decide) ?_
                exact hl56 1 v1 v2 v3 wA_22 hF _ _ X _ (lv_sub hl [0, 1, 2, 3] rfl)
      intro v1 wA_22 hF H locs X ls hl
      rw [f_X8_rivers_l7_s] at hF
      refine lv_iload_n hx hb dX8_rivers_7 rfl (lv_at hl 1 rfl) ?_
      refine lv_if_lt (tgt := 105) hx hb dX8_rivers_8 (by decide) (fun c8 => ?_) (fun c8 => ?_)
      · have hF := hm_if hF c8
        exact hl105 wA_22 hF _ _ X _ (lv_sub hl [0] rfl)
      · have hF := hm_nf hF c8
        refine lv_iconst (v := 0) hx hb dX8_rivers_11 (by decide) ?_
        refine lv_istore_n (lv' := [(2, .int 0), (0, .ref (a 0)), (1, .int v1)]) hx hb dX8_rivers_12 rfl hl (by decide) rfl (fun ls hl => ?_)
        refine lv_iload_n hx hb dX8_rivers_13 rfl (lv_at hl 2 rfl) ?_
        refine lv_iconst (v := 1) hx hb dX8_rivers_14 (by decide) ?_
        refine lv_iadd hx hb dX8_rivers_15 ?_
        refine lv_istore_n (lv' := [(3, .int (v1 + 1)), (2, .int 0), (0, .ref (a 0)), (1, .int v1)]) hx hb dX8_rivers_16 rfl hl (by decide) rfl (fun ls hl => ?_)
        exact hl17 hm_fu v1 0 (v1 + 1) wA_22 hF _ _ X _ (lv_sub hl [2, 3, 1, 0] rfl)
  unfold f_X8_rivers at hF
  refine lv_aload_n hx hb dX8_rivers_0 rfl (lv_at hl 0 rfl) ?_
  refine hm_get S X hf_X8_198 0 rfl rfl dX8_rivers_1 ?_
  refine lv_iconst (v := 1) hx hb dX8_rivers_4 (by decide) ?_
  refine lv_isub hx hb dX8_rivers_5 ?_
  refine lv_istore_n (lv' := [(1, .int ((Z 8) - 1)), (0, .ref (a 0))]) hx hb dX8_rivers_6 rfl hl (by decide) rfl (fun ls hl => ?_)
  exact hl7 hm_fu ((Z 8) - 1) (A 22) hF _ _ (X.to (ws' := (hm_wMM g a (hm_up A 22 (A 22)) Z)) rfl) _ (lv_sub hl [1, 0] rfl)
def f_X8_laysBlanks_l235 (A_22 : Nat → Int32) (A_23 : Nat → Int32) (wA_19 : Nat → Int32) (wA_20 : Nat → Int32) (wA_21 : Nat → Int32) (wZ_8 : Int32) : Option ((Nat → Int32) × (Nat → Int32) × (Nat → Int32) × (Nat → Int32) × (Nat → Int32) × Int32) :=
  (f_X8_rivers wA_19 wA_20 wA_21 A_22 A_23 wZ_8).bind fun t1 =>
  some (wA_19, wA_20, wA_21, t1.1, t1.2, wZ_8)
def f_X8_laysBlanks_l229 (J7 : Int32 → (Nat → Int32) → (Nat → Int32) → (Nat → Int32) → Int32 → Option ((Nat → Int32) × (Nat → Int32) × (Nat → Int32) × (Nat → Int32) × (Nat → Int32) × Int32)) (v1 : Int32) (wA_19 : Nat → Int32) (wA_20 : Nat → Int32) (wA_21 : Nat → Int32) (wZ_8 : Int32) : Option ((Nat → Int32) × (Nat → Int32) × (Nat → Int32) × (Nat → Int32) × (Nat → Int32) × Int32) :=
  J7 (v1 + 1) wA_19 wA_20 wA_21 wZ_8
def f_X8_laysBlanks_l164 (J7 : Int32 → (Nat → Int32) → (Nat → Int32) → (Nat → Int32) → Int32 → Option ((Nat → Int32) × (Nat → Int32) × (Nat → Int32) × (Nat → Int32) × (Nat → Int32) × Int32)) (J105 : Int32 → Int32 → Int32 → Int32 → Int32 → Int32 → Int32 → (Nat → Int32) → (Nat → Int32) → (Nat → Int32) → Int32 → Option ((Nat → Int32) × (Nat → Int32) × (Nat → Int32) × (Nat → Int32) × (Nat → Int32) × Int32)) (A_2 : Nat → Int32) (A_3 : Nat → Int32) (A_14 : Nat → Int32) (s164_0 : Int32) (s164_1 : Int32) (s164_2 : Int32) (v1 : Int32) (v2 : Int32) (v3 : Int32) (v4 : Int32) (v5 : Int32) (v7 : Int32) (wA_19 : Nat → Int32) (wA_20 : Nat → Int32) (wA_21 : Nat → Int32) (wZ_8 : Int32) : Option ((Nat → Int32) × (Nat → Int32) × (Nat → Int32) × (Nat → Int32) × (Nat → Int32) × Int32) :=
  (hm_wr 30 wA_21 s164_2 (s164_1 + s164_0)).bind fun f15 =>
  (hm_rd 30 f15 wZ_8).bind fun t16 =>
  (hm_rd 30 A_3 ((v5 + v7) + 1)).bind fun t17 =>
  (hm_rd 201 A_14 t17).bind fun t18 =>
  (hm_rd 30 A_2 ((v5 + v7) + 1)).bind fun t19 =>
  (hm_rd 201 A_14 t19).bind fun t20 =>
  J105 v1 v2 v3 v4 v5 ((t16 + t18) - t20) (v7 + 1) wA_19 wA_20 f15 (wZ_8 + 1)
def f_X8_laysBlanks_l105 (J7 : Int32 → (Nat → Int32) → (Nat → Int32) → (Nat → Int32) → Int32 → Option ((Nat → Int32) × (Nat → Int32) × (Nat → Int32) × (Nat → Int32) × (Nat → Int32) × Int32)) (A_2 : Nat → Int32) (A_3 : Nat → Int32) (A_7 : Nat → Int32) (A_14 : Nat → Int32) : Nat → Int32 → Int32 → Int32 → Int32 → Int32 → Int32 → Int32 → (Nat → Int32) → (Nat → Int32) → (Nat → Int32) → Int32 → Option ((Nat → Int32) × (Nat → Int32) × (Nat → Int32) × (Nat → Int32) × (Nat → Int32) × Int32)
  | 0, _, _, _, _, _, _, _, _, _, _, _ => none
  | k + 1, v1, v2, v3, v4, v5, v6, v7, wA_19, wA_20, wA_21, wZ_8 =>
  if v2 ≤ v7 then (
  f_X8_laysBlanks_l229 J7 v1 wA_19 wA_20 wA_21 wZ_8)
  else (
  (hm_wr 30 wA_19 wZ_8 v1).bind fun f12 =>
  (hm_wr 30 wA_20 wZ_8 v6).bind fun f13 =>
  (hm_rd 38 A_7 34).bind fun t14 =>
  if v4 ≤ v7 then (
  f_X8_laysBlanks_l164 J7 (fun zv1 zv2 zv3 zv4 zv5 zv6 zv7 zwA_19 zwA_20 zwA_21 zwZ_8 => f_X8_laysBlanks_l105 J7 A_2 A_3 A_7 A_14 k zv1 zv2 zv3 zv4 zv5 zv6 zv7 zwA_19 zwA_20 zwA_21 zwZ_8) A_2 A_3 A_14 0 ((v6 + t14) + v3) wZ_8 v1 v2 v3 v4 v5 v7 f12 f13 wA_21 wZ_8)
  else (
  f_X8_laysBlanks_l164 J7 (fun zv1 zv2 zv3 zv4 zv5 zv6 zv7 zwA_19 zwA_20 zwA_21 zwZ_8 => f_X8_laysBlanks_l105 J7 A_2 A_3 A_7 A_14 k zv1 zv2 zv3 zv4 zv5 zv6 zv7 zwA_19 zwA_20 zwA_21 zwZ_8) A_2 A_3 A_14 1 ((v6 + t14) + v3) wZ_8 v1 v2 v3 v4 v5 v7 f12 f13 wA_21 wZ_8))
theorem f_X8_laysBlanks_l105_s (J7 : Int32 → (Nat → Int32) → (Nat → Int32) → (Nat → Int32) → Int32 → Option ((Nat → Int32) × (Nat → Int32) × (Nat → Int32) × (Nat → Int32) × (Nat → Int32) × Int32)) (A_2 : Nat → Int32) (A_3 : Nat → Int32) (A_7 : Nat → Int32) (A_14 : Nat → Int32) (k : Nat) (v1 : Int32) (v2 : Int32) (v3 : Int32) (v4 : Int32) (v5 : Int32) (v6 : Int32) (v7 : Int32) (wA_19 : Nat → Int32) (wA_20 : Nat → Int32) (wA_21 : Nat → Int32) (wZ_8 : Int32) : f_X8_laysBlanks_l105 J7 A_2 A_3 A_7 A_14 (k + 1) v1 v2 v3 v4 v5 v6 v7 wA_19 wA_20 wA_21 wZ_8 =
  if v2 ≤ v7 then (
  f_X8_laysBlanks_l229 J7 v1 wA_19 wA_20 wA_21 wZ_8)
  else (
  (hm_wr 30 wA_19 wZ_8 v1).bind fun f12 =>
  (hm_wr 30 wA_20 wZ_8 v6).bind fun f13 =>
  (hm_rd 38 A_7 34).bind fun t14 =>
  if v4 ≤ v7 then (
  f_X8_laysBlanks_l164 J7 (fun zv1 zv2 zv3 zv4 zv5 zv6 zv7 zwA_19 zwA_20 zwA_21 zwZ_8 => f_X8_laysBlanks_l105 J7 A_2 A_3 A_7 A_14 k zv1 zv2 zv3 zv4 zv5 zv6 zv7 zwA_19 zwA_20 zwA_21 zwZ_8) A_2 A_3 A_14 0 ((v6 + t14) + v3) wZ_8 v1 v2 v3 v4 v5 v7 f12 f13 wA_21 wZ_8)
  else (
  f_X8_laysBlanks_l164 J7 (fun zv1 zv2 zv3 zv4 zv5 zv6 zv7 zwA_19 zwA_20 zwA_21 zwZ_8 => f_X8_laysBlanks_l105 J7 A_2 A_3 A_7 A_14 k zv1 zv2 zv3 zv4 zv5 zv6 zv7 zwA_19 zwA_20 zwA_21 zwZ_8) A_2 A_3 A_14 1 ((v6 + t14) + v3) wZ_8 v1 v2 v3 v4 v5 v7 f12 f13 wA_21 wZ_8)) := rfl
theorem f_X8_laysBlanks_l105_z (J7 : Int32 → (Nat → Int32) → (Nat → Int32) → (Nat → Int32) → Int32 → Option ((Nat → Int32) × (Nat → Int32) × (Nat → Int32) × (Nat → Int32) × (Nat → Int32) × Int32)) (A_2 : Nat → Int32) (A_3 : Nat → Int32) (A_7 : Nat → Int32) (A_14 : Nat → Int32) (v1 : Int32) (v2 : Int32) (v3 : Int32) (v4 : Int32) (v5 : Int32) (v6 : Int32) (v7 : Int32) (wA_19 : Nat → Int32) (wA_20 : Nat → Int32) (wA_21 : Nat → Int32) (wZ_8 : Int32) : f_X8_laysBlanks_l105 J7 A_2 A_3 A_7 A_14 0 v1 v2 v3 v4 v5 v6 v7 wA_19 wA_20 wA_21 wZ_8 = none := rfl
def f_X8_laysBlanks_l60 (J7 : Int32 → (Nat → Int32) → (Nat → Int32) → (Nat → Int32) → Int32 → Option ((Nat → Int32) × (Nat → Int32) × (Nat → Int32) × (Nat → Int32) × (Nat → Int32) × Int32)) (A_2 : Nat → Int32) (A_3 : Nat → Int32) (A_4 : Nat → Int32) (A_5 : Nat → Int32) (A_6 : Nat → Int32) (A_7 : Nat → Int32) (A_14 : Nat → Int32) (A_18 : Nat → Int32) (s60_0 : Int32) (v1 : Int32) (v2 : Int32) (v3 : Int32) (wA_19 : Nat → Int32) (wA_20 : Nat → Int32) (wA_21 : Nat → Int32) (wZ_8 : Int32) : Option ((Nat → Int32) × (Nat → Int32) × (Nat → Int32) × (Nat → Int32) × (Nat → Int32) × Int32) :=
  (f_X8_before A_18 v1).bind fun t5 =>
  (f_X8_firstWord A_4 A_6 t5).bind fun t6 =>
  (hm_rd 30 A_3 t6).bind fun t7 =>
  (hm_rd 201 A_14 t7).bind fun t8 =>
  (f_X8_before A_18 v1).bind fun t9 =>
  (f_X8_firstLetter A_2 A_4 A_5 A_6 t9).bind fun t10 =>
  (hm_rd 201 A_14 t10).bind fun t11 =>
  f_X8_laysBlanks_l105 J7 A_2 A_3 A_7 A_14 hm_fu v1 v2 v3 s60_0 t6 (t8 - t11) 0 wA_19 wA_20 wA_21 wZ_8
def f_X8_laysBlanks_l40 (J7 : Int32 → (Nat → Int32) → (Nat → Int32) → (Nat → Int32) → Int32 → Option ((Nat → Int32) × (Nat → Int32) × (Nat → Int32) × (Nat → Int32) × (Nat → Int32) × Int32)) (A_1 : Nat → Int32) (A_2 : Nat → Int32) (A_3 : Nat → Int32) (A_4 : Nat → Int32) (A_5 : Nat → Int32) (A_6 : Nat → Int32) (A_7 : Nat → Int32) (A_14 : Nat → Int32) (A_18 : Nat → Int32) (Z_7 : Int32) (s40_0 : Int32) (v1 : Int32) (v2 : Int32) (wA_19 : Nat → Int32) (wA_20 : Nat → Int32) (wA_21 : Nat → Int32) (wZ_8 : Int32) : Option ((Nat → Int32) × (Nat → Int32) × (Nat → Int32) × (Nat → Int32) × (Nat → Int32) × Int32) :=
  (f_X8_isGiving A_4 A_6 A_18 Z_7 v1).bind fun t4 =>
  if t4 = 0 then (
  f_X8_laysBlanks_l60 J7 A_2 A_3 A_4 A_5 A_6 A_7 A_14 A_18 0 v1 v2 s40_0 wA_19 wA_20 wA_21 wZ_8)
  else (
  (f_X8_leftIn A_1 A_2 A_4 A_5 A_6 A_7 A_14 A_18 v1).bind fun t21 =>
  (hm_rm t21 v2).bind fun t22 =>
  f_X8_laysBlanks_l60 J7 A_2 A_3 A_4 A_5 A_6 A_7 A_14 A_18 t22 v1 v2 s40_0 wA_19 wA_20 wA_21 wZ_8)
def f_X8_laysBlanks_l7 (A_1 : Nat → Int32) (A_2 : Nat → Int32) (A_3 : Nat → Int32) (A_4 : Nat → Int32) (A_5 : Nat → Int32) (A_6 : Nat → Int32) (A_7 : Nat → Int32) (A_14 : Nat → Int32) (A_18 : Nat → Int32) (A_22 : Nat → Int32) (A_23 : Nat → Int32) (Z_7 : Int32) : Nat → Int32 → (Nat → Int32) → (Nat → Int32) → (Nat → Int32) → Int32 → Option ((Nat → Int32) × (Nat → Int32) × (Nat → Int32) × (Nat → Int32) × (Nat → Int32) × Int32)
  | 0, _, _, _, _, _ => none
  | k + 1, v1, wA_19, wA_20, wA_21, wZ_8 =>
  if Z_7 ≤ v1 then (
  f_X8_laysBlanks_l235 A_22 A_23 wA_19 wA_20 wA_21 wZ_8)
  else (
  (f_X8_blanksOf A_4 A_6 A_18 v1).bind fun t2 =>
  (f_X8_isGiving A_4 A_6 A_18 Z_7 v1).bind fun t3 =>
  if t3 = 0 then (
  f_X8_laysBlanks_l40 (fun zv1 zwA_19 zwA_20 zwA_21 zwZ_8 => f_X8_laysBlanks_l7 A_1 A_2 A_3 A_4 A_5 A_6 A_7 A_14 A_18 A_22 A_23 Z_7 k zv1 zwA_19 zwA_20 zwA_21 zwZ_8) A_1 A_2 A_3 A_4 A_5 A_6 A_7 A_14 A_18 Z_7 0 v1 t2 wA_19 wA_20 wA_21 wZ_8)
  else (
  (f_X8_leftIn A_1 A_2 A_4 A_5 A_6 A_7 A_14 A_18 v1).bind fun t23 =>
  (hm_dv t23 t2).bind fun t24 =>
  f_X8_laysBlanks_l40 (fun zv1 zwA_19 zwA_20 zwA_21 zwZ_8 => f_X8_laysBlanks_l7 A_1 A_2 A_3 A_4 A_5 A_6 A_7 A_14 A_18 A_22 A_23 Z_7 k zv1 zwA_19 zwA_20 zwA_21 zwZ_8) A_1 A_2 A_3 A_4 A_5 A_6 A_7 A_14 A_18 Z_7 t24 v1 t2 wA_19 wA_20 wA_21 wZ_8))
theorem f_X8_laysBlanks_l7_s (A_1 : Nat → Int32) (A_2 : Nat → Int32) (A_3 : Nat → Int32) (A_4 : Nat → Int32) (A_5 : Nat → Int32) (A_6 : Nat → Int32) (A_7 : Nat → Int32) (A_14 : Nat → Int32) (A_18 : Nat → Int32) (A_22 : Nat → Int32) (A_23 : Nat → Int32) (Z_7 : Int32) (k : Nat) (v1 : Int32) (wA_19 : Nat → Int32) (wA_20 : Nat → Int32) (wA_21 : Nat → Int32) (wZ_8 : Int32) : f_X8_laysBlanks_l7 A_1 A_2 A_3 A_4 A_5 A_6 A_7 A_14 A_18 A_22 A_23 Z_7 (k + 1) v1 wA_19 wA_20 wA_21 wZ_8 =
  if Z_7 ≤ v1 then (
  f_X8_laysBlanks_l235 A_22 A_23 wA_19 wA_20 wA_21 wZ_8)
  else (
  (f_X8_blanksOf A_4 A_6 A_18 v1).bind fun t2 =>
  (f_X8_isGiving A_4 A_6 A_18 Z_7 v1).bind fun t3 =>
  if t3 = 0 then (
  f_X8_laysBlanks_l40 (fun zv1 zwA_19 zwA_20 zwA_21 zwZ_8 => f_X8_laysBlanks_l7 A_1 A_2 A_3 A_4 A_5 A_6 A_7 A_14 A_18 A_22 A_23 Z_7 k zv1 zwA_19 zwA_20 zwA_21 zwZ_8) A_1 A_2 A_3 A_4 A_5 A_6 A_7 A_14 A_18 Z_7 0 v1 t2 wA_19 wA_20 wA_21 wZ_8)
  else (
  (f_X8_leftIn A_1 A_2 A_4 A_5 A_6 A_7 A_14 A_18 v1).bind fun t23 =>
  (hm_dv t23 t2).bind fun t24 =>
  f_X8_laysBlanks_l40 (fun zv1 zwA_19 zwA_20 zwA_21 zwZ_8 => f_X8_laysBlanks_l7 A_1 A_2 A_3 A_4 A_5 A_6 A_7 A_14 A_18 A_22 A_23 Z_7 k zv1 zwA_19 zwA_20 zwA_21 zwZ_8) A_1 A_2 A_3 A_4 A_5 A_6 A_7 A_14 A_18 Z_7 t24 v1 t2 wA_19 wA_20 wA_21 wZ_8)) := rfl
theorem f_X8_laysBlanks_l7_z (A_1 : Nat → Int32) (A_2 : Nat → Int32) (A_3 : Nat → Int32) (A_4 : Nat → Int32) (A_5 : Nat → Int32) (A_6 : Nat → Int32) (A_7 : Nat → Int32) (A_14 : Nat → Int32) (A_18 : Nat → Int32) (A_22 : Nat → Int32) (A_23 : Nat → Int32) (Z_7 : Int32) (v1 : Int32) (wA_19 : Nat → Int32) (wA_20 : Nat → Int32) (wA_21 : Nat → Int32) (wZ_8 : Int32) : f_X8_laysBlanks_l7 A_1 A_2 A_3 A_4 A_5 A_6 A_7 A_14 A_18 A_22 A_23 Z_7 0 v1 wA_19 wA_20 wA_21 wZ_8 = none := rfl
def f_X8_laysBlanks (A_1 : Nat → Int32) (A_2 : Nat → Int32) (A_3 : Nat → Int32) (A_4 : Nat → Int32) (A_5 : Nat → Int32) (A_6 : Nat → Int32) (A_7 : Nat → Int32) (A_14 : Nat → Int32) (A_18 : Nat → Int32) (A_19 : Nat → Int32) (A_20 : Nat → Int32) (A_21 : Nat → Int32) (A_22 : Nat → Int32) (A_23 : Nat → Int32) (Z_7 : Int32)  : Option ((Nat → Int32) × (Nat → Int32) × (Nat → Int32) × (Nat → Int32) × (Nat → Int32) × Int32) :=
  f_X8_laysBlanks_l7 A_1 A_2 A_3 A_4 A_5 A_6 A_7 A_14 A_18 A_22 A_23 Z_7 hm_fu 0 A_19 A_20 A_21 0
abbrev rm_X8_laysBlanks : Room := { frames := 5, cells := 0, slots := 0, locals := 109 }
set_option maxHeartbeats 4000000 in
set_option maxRecDepth 100000 in
theorem c_X8_laysBlanks (l : Launch) (g : hm_G) (a : Nat → Nat) (A : Nat → Nat → Int32) (Z : Nat → Int32) (q : (Nat → Int32) × (Nat → Int32) × (Nat → Int32) × (Nat → Int32) × (Nat → Int32) × Int32) (hF : f_X8_laysBlanks (A 1) (A 2) (A 3) (A 4) (A 5) (A 6) (A 7) (A 14) (A 18) (A 19) (A 20) (A 21) (A 22) (A 23) (Z 7) = some q) : hm_Mv l yX8_laysBlanks (Cond.code yX8_laysBlanks cX8_laysBlanks 8 none :: hm_W) rm_X8_laysBlanks g [.ref (a 0)] (hm_wMM g a A Z) (hm_wMM g a (hm_up (hm_up (hm_up (hm_up (hm_up A 19 q.1) 20 q.2.1) 21 q.2.2.1) 22 q.2.2.2.1) 23 q.2.2.2.2.1) (hm_up Z 8 q.2.2.2.2.2)) := by
  refine hm_ofv [(0, .ref (a 0))] (by decide) (own := RX8) rfl (Nat.le_of_ble_eq_true rfl) rfl rfl ?_
  intro p e s m args below meth c AA S hr hlk X ls hl
  have hx := S.1
  have hb := S.2.1
  have hown := S.2.2.2.1
  have hts := S.2.2.2.2
  have hl235 : ∀ (wA_19 : Nat → Int32) (wA_20 : Nat → Int32) (wA_21 : Nat → Int32) (wZ_8 : Int32), f_X8_laysBlanks_l235 (A 22) (A 23) wA_19 wA_20 wA_21 wZ_8 = some q → ∀ (H : Heap) (locs : List Loc), hm_X g AA s H locs (hm_wMM g a (hm_up (hm_up (hm_up A 19 wA_19) 20 wA_20) 21 wA_21) (hm_up Z 8 wZ_8)) → ∀ ls : Array Slot, lv_has ls 8 [(0, .ref (a 0))] → W p l e rm_X8_laysBlanks s m args below meth c H locs 0 0 (MQ below (hm_Qv g AA (hm_wMM g a (hm_up (hm_up (hm_up (hm_up (hm_up A 19 q.1) 20 q.2.1) 21 q.2.2.1) 22 q.2.2.2.1) 23 q.2.2.2.2.1) (hm_up Z 8 q.2.2.2.2.2))) args s 0 0 AA) (F0 m 235 ls []) := by
    intro wA_19 wA_20 wA_21 wZ_8 hF H locs X ls hl
    unfold f_X8_laysBlanks_l235 at hF
    refine lv_aload_n hx hb dX8_laysBlanks_235 rfl (lv_at hl 0 rfl) ?_
    obtain ⟨t1, ht1, hF⟩ := hm_bd hF
    refine hm_vv (As := []) S X mw_X8_rivers hw_5_105 (c_X8_rivers l g a (hm_up (hm_up (hm_up A 19 wA_19) 20 wA_20) 21 wA_21) (hm_up Z 8 wZ_8) t1 ht1) hm_same hm_same rfl rfl rfl ⟨rfl, rfl, Nat.le_of_ble_eq_true rfl, Nat.le_of_ble_eq_true rfl⟩ rfl hl.1 rfl (Nat.le_of_ble_eq_true rfl) dX8_laysBlanks_236 ⟨Nat.zero_le _, Nat.zero_le _⟩ (fun H locs X => ?_)
    obtain rfl := Option.some.inj hF
    exact hm_rv S hr hlk X rfl dX8_laysBlanks_239
  have hl7 : ∀ (k7 : Nat) (v1 : Int32) (wA_19 : Nat → Int32) (wA_20 : Nat → Int32) (wA_21 : Nat → Int32) (wZ_8 : Int32), f_X8_laysBlanks_l7 (A 1) (A 2) (A 3) (A 4) (A 5) (A 6) (A 7) (A 14) (A 18) (A 22) (A 23) (Z 7) k7 v1 wA_19 wA_20 wA_21 wZ_8 = some q → ∀ (H : Heap) (locs : List Loc), hm_X g AA s H locs (hm_wMM g a (hm_up (hm_up (hm_up A 19 wA_19) 20 wA_20) 21 wA_21) (hm_up Z 8 wZ_8)) → ∀ ls : Array Slot, lv_has ls 8 [(0, .ref (a 0)), (1, .int v1)] → W p l e rm_X8_laysBlanks s m args below meth c H locs 0 0 (MQ below (hm_Qv g AA (hm_wMM g a (hm_up (hm_up (hm_up (hm_up (hm_up A 19 q.1) 20 q.2.1) 21 q.2.2.1) 22 q.2.2.2.1) 23 q.2.2.2.2.1) (hm_up Z 8 q.2.2.2.2.2))) args s 0 0 AA) (F0 m 7 ls []) := by
    intro k7
    induction k7 with
    | zero =>
      intro v1 wA_19 wA_20 wA_21 wZ_8 hF
      rw [f_X8_laysBlanks_l7_z] at hF
      cases hF
    | succ k7 ih7 =>
      have hl229 : ∀ (v1 : Int32) (wA_19 : Nat → Int32) (wA_20 : Nat → Int32) (wA_21 : Nat → Int32) (wZ_8 : Int32), f_X8_laysBlanks_l229 (fun zv1 zwA_19 zwA_20 zwA_21 zwZ_8 => f_X8_laysBlanks_l7 (A 1) (A 2) (A 3) (A 4) (A 5) (A 6) (A 7) (A 14) (A 18) (A 22) (A 23) (Z 7) k7 zv1 zwA_19 zwA_20 zwA_21 zwZ_8) v1 wA_19 wA_20 wA_21 wZ_8 = some q → ∀ (H : Heap) (locs : List Loc), hm_X g AA s H locs (hm_wMM g a (hm_up (hm_up (hm_up A 19 wA_19) 20 wA_20) 21 wA_21) (hm_up Z 8 wZ_8)) → ∀ ls : Array Slot, lv_has ls 8 [(0, .ref (a 0)), (1, .int v1)] → W p l e rm_X8_laysBlanks s m args below meth c H locs 0 0 (MQ below (hm_Qv g AA (hm_wMM g a (hm_up (hm_up (hm_up (hm_up (hm_up A 19 q.1) 20 q.2.1) 21 q.2.2.1) 22 q.2.2.2.1) 23 q.2.2.2.2.1) (hm_up Z 8 q.2.2.2.2.2))) args s 0 0 AA) (F0 m 229 ls []) := by
        intro v1 wA_19 wA_20 wA_21 wZ_8 hF H locs X ls hl
        unfold f_X8_laysBlanks_l229 at hF
        refine lv_iinc (v := (v1 + 1)) (lv' := [(1, .int (v1 + 1)), (0, .ref (a 0))]) hx hb dX8_laysBlanks_229 hl (k := 1) rfl rfl (by decide) rfl (fun ls hl => ?_)
        refine lv_goto (tgt := 7) hx hb dX8_laysBlanks_232 (by decide) ?_
        exact ih7 (v1 + 1) wA_19 wA_20 wA_21 wZ_8 hF _ _ X _ (lv_sub hl [1, 0] rfl)
      have hl105 : ∀ (k105 : Nat) (v1 : Int32) (v2 : Int32) (v3 : Int32) (v4 : Int32) (v5 : Int32) (v6 : Int32) (v7 : Int32) (wA_19 : Nat → Int32) (wA_20 : Nat → Int32) (wA_21 : Nat → Int32) (wZ_8 : Int32), f_X8_laysBlanks_l105 (fun zv1 zwA_19 zwA_20 zwA_21 zwZ_8 => f_X8_laysBlanks_l7 (A 1) (A 2) (A 3) (A 4) (A 5) (A 6) (A 7) (A 14) (A 18) (A 22) (A 23) (Z 7) k7 zv1 zwA_19 zwA_20 zwA_21 zwZ_8) (A 2) (A 3) (A 7) (A 14) k105 v1 v2 v3 v4 v5 v6 v7 wA_19 wA_20 wA_21 wZ_8 = some q → ∀ (H : Heap) (locs : List Loc), hm_X g AA s H locs (hm_wMM g a (hm_up (hm_up (hm_up A 19 wA_19) 20 wA_20) 21 wA_21) (hm_up Z 8 wZ_8)) → ∀ ls : Array Slot, lv_has ls 8 [(0, .ref (a 0)), (1, .int v1), (2, .int v2), (3, .int v3), (4, .int v4), (5, .int v5), (6, .int v6), (7, .int v7)] → W p l e rm_X8_laysBlanks s m args below meth c H locs 0 0 (MQ below (hm_Qv g AA (hm_wMM g a (hm_up (hm_up (hm_up (hm_up (hm_up A 19 q.1) 20 q.2.1) 21 q.2.2.1) 22 q.2.2.2.1) 23 q.2.2.2.2.1) (hm_up Z 8 q.2.2.2.2.2))) args s 0 0 AA) (F0 m 105 ls []) := by
        intro k105
        induction k105 with
        | zero =>
          intro v1 v2 v3 v4 v5 v6 v7 wA_19 wA_20 wA_21 wZ_8 hF
          rw [f_X8_laysBlanks_l105_z] at hF
          cases hF
        | succ k105 ih105 =>
          have hl164 : ∀ (s164_0 : Int32) (s164_1 : Int32) (s164_2 : Int32) (v1 : Int32) (v2 : Int32) (v3 : Int32) (v4 : Int32) (v5 : Int32) (v7 : Int32) (wA_19 : Nat → Int32) (wA_20 : Nat → Int32) (wA_21 : Nat → Int32) (wZ_8 : Int32), f_X8_laysBlanks_l164 (fun zv1 zwA_19 zwA_20 zwA_21 zwZ_8 => f_X8_laysBlanks_l7 (A 1) (A 2) (A 3) (A 4) (A 5) (A 6) (A 7) (A 14) (A 18) (A 22) (A 23) (Z 7) k7 zv1 zwA_19 zwA_20 zwA_21 zwZ_8) (fun zv1 zv2 zv3 zv4 zv5 zv6 zv7 zwA_19 zwA_20 zwA_21 zwZ_8 => f_X8_laysBlanks_l105 (fun zv1 zwA_19 zwA_20 zwA_21 zwZ_8 => f_X8_laysBlanks_l7 (A 1) (A 2) (A 3) (A 4) (A 5) (A 6) (A 7) (A 14) (A 18) (A 22) (A 23) (Z 7) k7 zv1 zwA_19 zwA_20 zwA_21 zwZ_8) (A 2) (A 3) (A 7) (A 14) k105 zv1 zv2 zv3 zv4 zv5 zv6 zv7 zwA_19 zwA_20 zwA_21 zwZ_8) (A 2) (A 3) (A 14) s164_0 s164_1 s164_2 v1 v2 v3 v4 v5 v7 wA_19 wA_20 wA_21 wZ_8 = some q → ∀ (H : Heap) (locs : List Loc), hm_X g AA s H locs (hm_wMM g a (hm_up (hm_up (hm_up A 19 wA_19) 20 wA_20) 21 wA_21) (hm_up Z 8 wZ_8)) → ∀ ls : Array Slot, lv_has ls 8 [(0, .ref (a 0)), (1, .int v1), (2, .int v2), (3, .int v3), (4, .int v4), (5, .int v5), (7, .int v7)] → W p l e rm_X8_laysBlanks s m args below meth c H locs 0 0 (MQ below (hm_Qv g AA (hm_wMM g a (hm_up (hm_up (hm_up (hm_up (hm_up A 19 q.1) 20 q.2.1) 21 q.2.2.1) 22 q.2.2.2.1) 23 q.2.2.2.2.1) (hm_up Z 8 q.2.2.2.2.2))) args s 0 0 AA) (F0 m 164 ls [.int s164_0, .int s164_1, .int s164_2, .ref (a 22)]) := by
            intro s164_0 s164_1 s164_2 v1 v2 v3 v4 v5 v7 wA_19 wA_20 wA_21 wZ_8 hF H locs X ls hl
            unfold f_X8_laysBlanks_l164 at hF
            refine lv_iadd hx hb dX8_laysBlanks_164 ?_
            obtain ⟨f15, hf15, hF⟩ := hm_bd hF
            refine hm_iast S X hf15 22 rfl dX8_laysBlanks_165 (fun H locs X => ?_)
            have X := X.to (ws' := (hm_wMM g a (hm_up (hm_up (hm_up A 19 wA_19) 20 wA_20) 21 f15) (hm_up Z 8 wZ_8))) rfl
            refine lv_aload_n hx hb dX8_laysBlanks_166 rfl (lv_at hl 0 rfl) ?_
            refine hm_get S X hf_X8_74 0 rfl rfl dX8_laysBlanks_167 ?_
            refine lv_aload_n hx hb dX8_laysBlanks_170 rfl (lv_at hl 0 rfl) ?_
            refine hm_get S X hf_X8_198 0 rfl rfl dX8_laysBlanks_171 ?_
            obtain ⟨t16, ht16, hF⟩ := hm_bd hF
            refine hm_iald S X ht16 22 rfl dX8_laysBlanks_174 ?_
            refine lv_aload_n hx hb dX8_laysBlanks_175 rfl (lv_at hl 0 rfl) ?_
            refine hm_get S X hf_X8_53 0 rfl rfl dX8_laysBlanks_176 ?_
            refine lv_aload_n hx hb dX8_laysBlanks_179 rfl (lv_at hl 0 rfl) ?_
            refine hm_get S X hf_X8_19 0 rfl rfl dX8_laysBlanks_180 ?_
            refine lv_iload hx hb dX8_laysBlanks_183 (lv_at hl 5 rfl) ?_
            refine lv_iload hx hb dX8_laysBlanks_185 (lv_at hl 6 rfl) ?_
            refine lv_iadd hx hb dX8_laysBlanks_187 ?_
            refine lv_iconst (v := 1) hx hb dX8_laysBlanks_188 (by decide) ?_
            refine lv_iadd hx hb dX8_laysBlanks_189 ?_
            obtain ⟨t17, ht17, hF⟩ := hm_bd hF
            refine hm_iald S X ht17 4 rfl dX8_laysBlanks_190 ?_
            obtain ⟨t18, ht18, hF⟩ := hm_bd hF
            refine hm_iald S X ht18 15 rfl dX8_laysBlanks_191 ?_
            refine lv_iadd hx hb dX8_laysBlanks_192 ?_
            refine lv_aload_n hx hb dX8_laysBlanks_193 rfl (lv_at hl 0 rfl) ?_
            refine hm_get S X hf_X8_53 0 rfl rfl dX8_laysBlanks_194 ?_
            refine lv_aload_n hx hb dX8_laysBlanks_197 rfl (lv_at hl 0 rfl) ?_
            refine hm_get S X hf_X8_16 0 rfl rfl dX8_laysBlanks_198 ?_
            refine lv_iload hx hb dX8_laysBlanks_201 (lv_at hl 5 rfl) ?_
            refine lv_iload hx hb dX8_laysBlanks_203 (lv_at hl 6 rfl) ?_
            refine lv_iadd hx hb dX8_laysBlanks_205 ?_
            refine lv_iconst (v := 1) hx hb dX8_laysBlanks_206 (by decide) ?_
            refine lv_iadd hx hb dX8_laysBlanks_207 ?_
            obtain ⟨t19, ht19, hF⟩ := hm_bd hF
            refine hm_iald S X ht19 3 rfl dX8_laysBlanks_208 ?_
            obtain ⟨t20, ht20, hF⟩ := hm_bd hF
            refine hm_iald S X ht20 15 rfl dX8_laysBlanks_209 ?_
            refine lv_isub hx hb dX8_laysBlanks_210 ?_
            refine lv_istore (lv' := [(6, .int ((t16 + t18) - t20)), (0, .ref (a 0)), (1, .int v1), (2, .int v2), (3, .int v3), (4, .int v4), (5, .int v5), (7, .int v7)]) hx hb dX8_laysBlanks_211 hl (by decide) rfl (fun ls hl => ?_)
            refine lv_aload_n hx hb dX8_laysBlanks_213 rfl (lv_at hl 1 rfl) ?_
            refine lv_dup hx hb dX8_laysBlanks_214 rfl ?_
            refine hm_get S X hf_X8_198 0 rfl rfl dX8_laysBlanks_215 ?_
            refine lv_iconst (v := 1) hx hb dX8_laysBlanks_218 (by decide) ?_
            refine lv_iadd hx hb dX8_laysBlanks_219 ?_
            refine hm_put S X hf_X8_198 hg_X8_blanks 0 rfl rfl rfl (Nat.le_of_ble_eq_true rfl) dX8_laysBlanks_220 (fun H locs X => ?_)
            have X := X.to (ws' := (hm_wMM g a (hm_up (hm_up (hm_up A 19 wA_19) 20 wA_20) 21 f15) (hm_up Z 8 (wZ_8 + 1)))) rfl
            refine lv_iinc (v := (v7 + 1)) (lv' := [(7, .int (v7 + 1)), (6, .int ((t16 + t18) - t20)), (0, .ref (a 0)), (1, .int v1), (2, .int v2), (3, .int v3), (4, .int v4), (5, .int v5)]) hx hb dX8_laysBlanks_223 hl (k := 7) rfl rfl (by decide) rfl (fun ls hl => ?_)
            refine lv_goto (tgt := 105) hx hb dX8_laysBlanks_226 (by decide) ?_
            exact ih105 v1 v2 v3 v4 v5 ((t16 + t18) - t20) (v7 + 1) wA_19 wA_20 f15 (wZ_8 + 1) hF _ _ X _ (lv_sub hl [2, 3, 4, 5, 6, 7, 1, 0] rfl)
          intro v1 v2 v3 v4 v5 v6 v7 wA_19 wA_20 wA_21 wZ_8 hF H locs X ls hl
          rw [f_X8_laysBlanks_l105_s] at hF
          refine lv_iload hx hb dX8_laysBlanks_105 (lv_at hl 7 rfl) ?_
          refine lv_iload_n hx hb dX8_laysBlanks_107 rfl (lv_at hl 2 rfl) ?_
          refine lv_icmp_ge (tgt := 229) hx hb dX8_laysBlanks_108 (by decide) (fun c108 => ?_) (fun c108 => ?_)
          · have hF := hm_if hF c108
            exact hl229 v1 wA_19 wA_20 wA_21 wZ_8 hF _ _ X _ (lv_sub hl [0, 1] rfl)
          · have hF := hm_nf hF c108
            refine lv_aload_n hx hb dX8_laysBlanks_111 rfl (lv_at hl 0 rfl) ?_
            refine hm_get S X hf_X8_68 0 rfl rfl dX8_laysBlanks_112 ?_
            refine lv_aload_n hx hb dX8_laysBlanks_115 rfl (lv_at hl 0 rfl) ?_
            refine hm_get S X hf_X8_198 0 rfl rfl dX8_laysBlanks_116 ?_
            refine lv_iload_n hx hb dX8_laysBlanks_119 rfl (lv_at hl 1 rfl) ?_
            obtain ⟨f12, hf12, hF⟩ := hm_bd hF
            refine hm_iast S X hf12 20 rfl dX8_laysBlanks_120 (fun H locs X => ?_)
            have X := X.to (ws' := (hm_wMM g a (hm_up (hm_up (hm_up A 19 f12) 20 wA_20) 21 wA_21) (hm_up Z 8 wZ_8))) rfl
            refine lv_aload_n hx hb dX8_laysBlanks_121 rfl (lv_at hl 0 rfl) ?_
            refine hm_get S X hf_X8_71 0 rfl rfl dX8_laysBlanks_122 ?_
            refine lv_aload_n hx hb dX8_laysBlanks_125 rfl (lv_at hl 0 rfl) ?_
            refine hm_get S X hf_X8_198 0 rfl rfl dX8_laysBlanks_126 ?_
            refine lv_iload hx hb dX8_laysBlanks_129 (lv_at hl 6 rfl) ?_
            obtain ⟨f13, hf13, hF⟩ := hm_bd hF
            refine hm_iast S X hf13 21 rfl dX8_laysBlanks_131 (fun H locs X => ?_)
            have X := X.to (ws' := (hm_wMM g a (hm_up (hm_up (hm_up A 19 f12) 20 f13) 21 wA_21) (hm_up Z 8 wZ_8))) rfl
            refine lv_aload_n hx hb dX8_laysBlanks_132 rfl (lv_at hl 0 rfl) ?_
            refine hm_get S X hf_X8_74 0 rfl rfl dX8_laysBlanks_133 ?_
            refine lv_aload_n hx hb dX8_laysBlanks_136 rfl (lv_at hl 0 rfl) ?_
            refine hm_get S X hf_X8_198 0 rfl rfl dX8_laysBlanks_137 ?_
            refine lv_iload hx hb dX8_laysBlanks_140 (lv_at hl 6 rfl) ?_
            refine lv_aload_n hx hb dX8_laysBlanks_142 rfl (lv_at hl 0 rfl) ?_
            refine hm_get S X hf_X8_32 0 rfl rfl dX8_laysBlanks_143 ?_
            refine lv_bipush (v := 34) hx hb dX8_laysBlanks_146 (by decide) ?_
            obtain ⟨t14, ht14, hF⟩ := hm_bd hF
            refine hm_iald S X ht14 8 rfl dX8_laysBlanks_148 ?_
            refine lv_iadd hx hb dX8_laysBlanks_149 ?_
            refine lv_iload_n hx hb dX8_laysBlanks_150 rfl (lv_at hl 3 rfl) ?_
            refine lv_iadd hx hb dX8_laysBlanks_151 ?_
            refine lv_iload hx hb dX8_laysBlanks_152 (lv_at hl 7 rfl) ?_
            refine lv_iload hx hb dX8_laysBlanks_154 (lv_at hl 4 rfl) ?_
            refine lv_icmp_ge (tgt := 163) hx hb dX8_laysBlanks_156 (by decide) (fun c156 => ?_) (fun c156 => ?_)
            · have hF := hm_if hF c156
              refine lv_iconst (v := 0) hx hb dX8_laysBlanks_163 (by decide) ?_
              exact hl164 0 ((v6 + t14) + v3) wZ_8 v1 v2 v3 v4 v5 v7 f12 f13 wA_21 wZ_8 hF _ _ X _ (lv_sub hl [0, 1, 2, 3, 4, 5, 7] rfl)
            · have hF := hm_nf hF c156
              refine lv_iconst (v := 1) hx hb dX8_laysBlanks_159 (by decide) ?_
              refine lv_goto (tgt := 164) hx hb dX8_laysBlanks_160 (by decide) ?_
              exact hl164 1 ((v6 + t14) + v3) wZ_8 v1 v2 v3 v4 v5 v7 f12 f13 wA_21 wZ_8 hF _ _ X _ (lv_sub hl [0, 1, 2, 3, 4, 5, 7] rfl)
      have hl60 : ∀ (s60_0 : Int32) (v1 : Int32) (v2 : Int32) (v3 : Int32) (wA_19 : Nat → Int32) (wA_20 : Nat → Int32) (wA_21 : Nat → Int32) (wZ_8 : Int32), f_X8_laysBlanks_l60 (fun zv1 zwA_19 zwA_20 zwA_21 zwZ_8 => f_X8_laysBlanks_l7 (A 1) (A 2) (A 3) (A 4) (A 5) (A 6) (A 7) (A 14) (A 18) (A 22) (A 23) (Z 7) k7 zv1 zwA_19 zwA_20 zwA_21 zwZ_8) (A 2) (A 3) (A 4) (A 5) (A 6) (A 7) (A 14) (A 18) s60_0 v1 v2 v3 wA_19 wA_20 wA_21 wZ_8 = some q → ∀ (H : Heap) (locs : List Loc), hm_X g AA s H locs (hm_wMM g a (hm_up (hm_up (hm_up A 19 wA_19) 20 wA_20) 21 wA_21) (hm_up Z 8 wZ_8)) → ∀ ls : Array Slot, lv_has ls 8 [(0, .ref (a 0)), (1, .int v1), (2, .int v2), (3, .int v3)] → W p l e rm_X8_laysBlanks s m args below meth c H locs 0 0 (MQ below (hm_Qv g AA (hm_wMM g a (hm_up (hm_up (hm_up (hm_up (hm_up A 19 q.1) 20 q.2.1) 21 q.2.2.1) 22 q.2.2.2.1) 23 q.2.2.2.2.1) (hm_up Z 8 q.2.2.2.2.2))) args s 0 0 AA) (F0 m 60 ls [.int s60_0]) := by
        intro s60_0 v1 v2 v3 wA_19 wA_20 wA_21 wZ_8 hF H locs X ls hl
        unfold f_X8_laysBlanks_l60 at hF
        refine lv_istore (lv' := [(4, .int s60_0), (0, .ref (a 0)), (1, .int v1), (2, .int v2), (3, .int v3)]) hx hb dX8_laysBlanks_60 hl (by decide) rfl (fun ls hl => ?_)
        refine lv_aload_n hx hb dX8_laysBlanks_62 rfl (lv_at hl 1 rfl) ?_
        refine lv_aload_n hx hb dX8_laysBlanks_63 rfl (lv_at hl 1 rfl) ?_
        refine lv_iload_n hx hb dX8_laysBlanks_64 rfl (lv_at hl 2 rfl) ?_
        obtain ⟨t5, ht5, hF⟩ := hm_bd hF
        refine hm_vi (As := [.int v1]) S X mw_X8_before hw_5_85 (c_X8_before l g a (hm_up (hm_up (hm_up A 19 wA_19) 20 wA_20) 21 wA_21) (hm_up Z 8 wZ_8) v1 t5 ht5) hm_same hm_same rfl rfl rfl ⟨rfl, rfl, Nat.le_of_ble_eq_true rfl, Nat.le_of_ble_eq_true rfl⟩ rfl hl.1 rfl (Nat.le_of_ble_eq_true rfl) dX8_laysBlanks_65 ⟨Nat.zero_le _, Nat.zero_le _⟩ (fun H locs X => ?_)
        obtain ⟨t6, ht6, hF⟩ := hm_bd hF
        refine hm_vi (As := [.int t5]) S X mw_X8_firstWord hw_5_65 (c_X8_firstWord l g a (hm_up (hm_up (hm_up A 19 wA_19) 20 wA_20) 21 wA_21) (hm_up Z 8 wZ_8) t5 t6 ht6) hm_same hm_same rfl rfl rfl ⟨rfl, rfl, Nat.le_of_ble_eq_true rfl, Nat.le_of_ble_eq_true rfl⟩ rfl hl.1 rfl (Nat.le_of_ble_eq_true rfl) dX8_laysBlanks_68 ⟨Nat.zero_le _, Nat.zero_le _⟩ (fun H locs X => ?_)
        refine lv_istore (lv' := [(5, .int t6), (4, .int s60_0), (0, .ref (a 0)), (1, .int v1), (2, .int v2), (3, .int v3)]) hx hb dX8_laysBlanks_71 hl (by decide) rfl (fun ls hl => ?_)
        refine lv_aload_n hx hb dX8_laysBlanks_73 rfl (lv_at hl 2 rfl) ?_
        refine hm_get S X hf_X8_53 0 rfl rfl dX8_laysBlanks_74 ?_
        refine lv_aload_n hx hb dX8_laysBlanks_77 rfl (lv_at hl 2 rfl) ?_
        refine hm_get S X hf_X8_19 0 rfl rfl dX8_laysBlanks_78 ?_
        refine lv_iload hx hb dX8_laysBlanks_81 (lv_at hl 0 rfl) ?_
        obtain ⟨t7, ht7, hF⟩ := hm_bd hF
        refine hm_iald S X ht7 4 rfl dX8_laysBlanks_83 ?_
        obtain ⟨t8, ht8, hF⟩ := hm_bd hF
        refine hm_iald S X ht8 15 rfl dX8_laysBlanks_84 ?_
        refine lv_aload_n hx hb dX8_laysBlanks_85 rfl (lv_at hl 2 rfl) ?_
        refine hm_get S X hf_X8_53 0 rfl rfl dX8_laysBlanks_86 ?_
        refine lv_aload_n hx hb dX8_laysBlanks_89 rfl (lv_at hl 2 rfl) ?_
        refine lv_aload_n hx hb dX8_laysBlanks_90 rfl (lv_at hl 2 rfl) ?_
        refine lv_iload_n hx hb dX8_laysBlanks_91 rfl (lv_at hl 3 rfl) ?_
        obtain ⟨t9, ht9, hF⟩ := hm_bd hF
        refine hm_vi (As := [.int v1]) S X mw_X8_before hw_5_85 (c_X8_before l g a (hm_up (hm_up (hm_up A 19 wA_19) 20 wA_20) 21 wA_21) (hm_up Z 8 wZ_8) v1 t9 ht9) hm_same hm_same rfl rfl rfl ⟨rfl, rfl, Nat.le_of_ble_eq_true rfl, Nat.le_of_ble_eq_true rfl⟩ rfl hl.1 rfl (Nat.le_of_ble_eq_true rfl) dX8_laysBlanks_92 ⟨Nat.zero_le _, Nat.zero_le _⟩ (fun H locs X => ?_)
        obtain ⟨t10, ht10, hF⟩ := hm_bd hF
        refine hm_vi (As := [.int t9]) S X mw_X8_firstLetter hw_5_69 (c_X8_firstLetter l g a (hm_up (hm_up (hm_up A 19 wA_19) 20 wA_20) 21 wA_21) (hm_up Z 8 wZ_8) t9 t10 ht10) hm_same hm_same rfl rfl rfl ⟨rfl, rfl, Nat.le_of_ble_eq_true rfl, Nat.le_of_ble_eq_true rfl⟩ rfl hl.1 rfl (Nat.le_of_ble_eq_true rfl) dX8_laysBlanks_95 ⟨Nat.zero_le _, Nat.zero_le _⟩ (fun H locs X => ?_)
        obtain ⟨t11, ht11, hF⟩ := hm_bd hF
        refine hm_iald S X ht11 15 rfl dX8_laysBlanks_98 ?_
        refine lv_isub hx hb dX8_laysBlanks_99 ?_
        refine lv_istore (lv' := [(6, .int (t8 - t11)), (5, .int t6), (4, .int s60_0), (0, .ref (a 0)), (1, .int v1), (2, .int v2), (3, .int v3)]) hx hb dX8_laysBlanks_100 hl (by decide) rfl (fun ls hl => ?_)
        refine lv_iconst (v := 0) hx hb dX8_laysBlanks_102 (by decide) ?_
        refine lv_istore (lv' := [(7, .int 0), (6, .int (t8 - t11)), (5, .int t6), (4, .int s60_0), (0, .ref (a 0)), (1, .int v1), (2, .int v2), (3, .int v3)]) hx hb dX8_laysBlanks_103 hl (by decide) rfl (fun ls hl => ?_)
        exact hl105 hm_fu v1 v2 v3 s60_0 t6 (t8 - t11) 0 wA_19 wA_20 wA_21 wZ_8 hF _ _ X _ (lv_sub hl [4, 5, 6, 7, 3, 2, 1, 0] rfl)
      have hl40 : ∀ (s40_0 : Int32) (v1 : Int32) (v2 : Int32) (wA_19 : Nat → Int32) (wA_20 : Nat → Int32) (wA_21 : Nat → Int32) (wZ_8 : Int32), f_X8_laysBlanks_l40 (fun zv1 zwA_19 zwA_20 zwA_21 zwZ_8 => f_X8_laysBlanks_l7 (A 1) (A 2) (A 3) (A 4) (A 5) (A 6) (A 7) (A 14) (A 18) (A 22) (A 23) (Z 7) k7 zv1 zwA_19 zwA_20 zwA_21 zwZ_8) (A 1) (A 2) (A 3) (A 4) (A 5) (A 6) (A 7) (A 14) (A 18) (Z 7) s40_0 v1 v2 wA_19 wA_20 wA_21 wZ_8 = some q → ∀ (H : Heap) (locs : List Loc), hm_X g AA s H locs (hm_wMM g a (hm_up (hm_up (hm_up A 19 wA_19) 20 wA_20) 21 wA_21) (hm_up Z 8 wZ_8)) → ∀ ls : Array Slot, lv_has ls 8 [(0, .ref (a 0)), (1, .int v1), (2, .int v2)] → W p l e rm_X8_laysBlanks s m args below meth c H locs 0 0 (MQ below (hm_Qv g AA (hm_wMM g a (hm_up (hm_up (hm_up (hm_up (hm_up A 19 q.1) 20 q.2.1) 21 q.2.2.1) 22 q.2.2.2.1) 23 q.2.2.2.2.1) (hm_up Z 8 q.2.2.2.2.2))) args s 0 0 AA) (F0 m 40 ls [.int s40_0]) := by
        intro s40_0 v1 v2 wA_19 wA_20 wA_21 wZ_8 hF H locs X ls hl
        unfold f_X8_laysBlanks_l40 at hF
        refine lv_istore_n (lv' := [(3, .int s40_0), (0, .ref (a 0)), (1, .int v1), (2, .int v2)]) hx hb dX8_laysBlanks_40 rfl hl (by decide) rfl (fun ls hl => ?_)
        refine lv_aload_n hx hb dX8_laysBlanks_41 rfl (lv_at hl 1 rfl) ?_
        refine lv_iload_n hx hb dX8_laysBlanks_42 rfl (lv_at hl 2 rfl) ?_
        obtain ⟨t4, ht4, hF⟩ := hm_bd hF
        refine hm_vi (As := [.int v1]) S X mw_X8_isGiving hw_5_89 (c_X8_isGiving l g a (hm_up (hm_up (hm_up A 19 wA_19) 20 wA_20) 21 wA_21) (hm_up Z 8 wZ_8) v1 t4 ht4) hm_same hm_same rfl rfl rfl ⟨rfl, rfl, Nat.le_of_ble_eq_true rfl, Nat.le_of_ble_eq_true rfl⟩ rfl hl.1 rfl (Nat.le_of_ble_eq_true rfl) dX8_laysBlanks_43 ⟨Nat.zero_le _, Nat.zero_le _⟩ (fun H locs X => ?_)
        refine lv_if_eq (tgt := 59) hx hb dX8_laysBlanks_46 (by decide) (fun c46 => ?_) (fun c46 => ?_)
        · have hF := hm_if hF c46
          refine lv_iconst (v := 0) hx hb dX8_laysBlanks_59 (by decide) ?_
          exact hl60 0 v1 v2 s40_0 wA_19 wA_20 wA_21 wZ_8 hF _ _ X _ (lv_sub hl [1, 2, 3, 0] rfl)
        · have hF := hm_nf hF c46
          refine lv_aload_n hx hb dX8_laysBlanks_49 rfl (lv_at hl 1 rfl) ?_
          refine lv_iload_n hx hb dX8_laysBlanks_50 rfl (lv_at hl 2 rfl) ?_
          obtain ⟨t21, ht21, hF⟩ := hm_bd hF
          refine hm_vi (As := [.int v1]) S X mw_X8_leftIn hw_5_97 (c_X8_leftIn l g a (hm_up (hm_up (hm_up A 19 wA_19) 20 wA_20) 21 wA_21) (hm_up Z 8 wZ_8) v1 t21 ht21) hm_same hm_same rfl rfl rfl ⟨rfl, rfl, Nat.le_of_ble_eq_true rfl, Nat.le_of_ble_eq_true rfl⟩ rfl hl.1 rfl (Nat.le_of_ble_eq_true rfl) dX8_laysBlanks_51 ⟨Nat.zero_le _, Nat.zero_le _⟩ (fun H locs X => ?_)
          refine lv_iload_n hx hb dX8_laysBlanks_54 rfl (lv_at hl 3 rfl) ?_
          obtain ⟨t22, ht22, hF⟩ := hm_bd hF
          refine hm_irem hx hb ht22 dX8_laysBlanks_55 ?_
          refine lv_goto (tgt := 60) hx hb dX8_laysBlanks_56 (by decide) ?_
          exact hl60 t22 v1 v2 s40_0 wA_19 wA_20 wA_21 wZ_8 hF _ _ X _ (lv_sub hl [1, 2, 3, 0] rfl)
      intro v1 wA_19 wA_20 wA_21 wZ_8 hF H locs X ls hl
      rw [f_X8_laysBlanks_l7_s] at hF
      refine lv_iload_n hx hb dX8_laysBlanks_7 rfl (lv_at hl 1 rfl) ?_
      refine lv_aload_n hx hb dX8_laysBlanks_8 rfl (lv_at hl 0 rfl) ?_
      refine hm_get S X hf_X8_183 0 rfl rfl dX8_laysBlanks_9 ?_
      refine lv_icmp_ge (tgt := 235) hx hb dX8_laysBlanks_12 (by decide) (fun c12 => ?_) (fun c12 => ?_)
      · have hF := hm_if hF c12
        exact hl235 wA_19 wA_20 wA_21 wZ_8 hF _ _ X _ (lv_sub hl [0] rfl)
      · have hF := hm_nf hF c12
        refine lv_aload_n hx hb dX8_laysBlanks_15 rfl (lv_at hl 0 rfl) ?_
        refine lv_iload_n hx hb dX8_laysBlanks_16 rfl (lv_at hl 1 rfl) ?_
        obtain ⟨t2, ht2, hF⟩ := hm_bd hF
        refine hm_vi (As := [.int v1]) S X mw_X8_blanksOf hw_5_93 (c_X8_blanksOf l g a (hm_up (hm_up (hm_up A 19 wA_19) 20 wA_20) 21 wA_21) (hm_up Z 8 wZ_8) v1 t2 ht2) hm_same hm_same rfl rfl rfl ⟨rfl, rfl, Nat.le_of_ble_eq_true rfl, Nat.le_of_ble_eq_true rfl⟩ rfl hl.1 rfl (Nat.le_of_ble_eq_true rfl) dX8_laysBlanks_17 ⟨Nat.zero_le _, Nat.zero_le _⟩ (fun H locs X => ?_)
        refine lv_istore_n (lv' := [(2, .int t2), (0, .ref (a 0)), (1, .int v1)]) hx hb dX8_laysBlanks_20 rfl hl (by decide) rfl (fun ls hl => ?_)
        refine lv_aload_n hx hb dX8_laysBlanks_21 rfl (lv_at hl 1 rfl) ?_
        refine lv_iload_n hx hb dX8_laysBlanks_22 rfl (lv_at hl 2 rfl) ?_
        obtain ⟨t3, ht3, hF⟩ := hm_bd hF
        refine hm_vi (As := [.int v1]) S X mw_X8_isGiving hw_5_89 (c_X8_isGiving l g a (hm_up (hm_up (hm_up A 19 wA_19) 20 wA_20) 21 wA_21) (hm_up Z 8 wZ_8) v1 t3 ht3) hm_same hm_same rfl rfl rfl ⟨rfl, rfl, Nat.le_of_ble_eq_true rfl, Nat.le_of_ble_eq_true rfl⟩ rfl hl.1 rfl (Nat.le_of_ble_eq_true rfl) dX8_laysBlanks_23 ⟨Nat.zero_le _, Nat.zero_le _⟩ (fun H locs X => ?_)
        refine lv_if_eq (tgt := 39) hx hb dX8_laysBlanks_26 (by decide) (fun c26 => ?_) (fun c26 => ?_)
        · have hF := hm_if hF c26
          refine lv_iconst (v := 0) hx hb dX8_laysBlanks_39 (by decide) ?_
          exact hl40 0 v1 t2 wA_19 wA_20 wA_21 wZ_8 hF _ _ X _ (lv_sub hl [1, 2, 0] rfl)
        · have hF := hm_nf hF c26
          refine lv_aload_n hx hb dX8_laysBlanks_29 rfl (lv_at hl 1 rfl) ?_
          refine lv_iload_n hx hb dX8_laysBlanks_30 rfl (lv_at hl 2 rfl) ?_
          obtain ⟨t23, ht23, hF⟩ := hm_bd hF
          refine hm_vi (As := [.int v1]) S X mw_X8_leftIn hw_5_97 (c_X8_leftIn l g a (hm_up (hm_up (hm_up A 19 wA_19) 20 wA_20) 21 wA_21) (hm_up Z 8 wZ_8) v1 t23 ht23) hm_same hm_same rfl rfl rfl ⟨rfl, rfl, Nat.le_of_ble_eq_true rfl, Nat.le_of_ble_eq_true rfl⟩ rfl hl.1 rfl (Nat.le_of_ble_eq_true rfl) dX8_laysBlanks_31 ⟨Nat.zero_le _, Nat.zero_le _⟩ (fun H locs X => ?_)
          refine lv_iload_n hx hb dX8_laysBlanks_34 rfl (lv_at hl 0 rfl) ?_
          obtain ⟨t24, ht24, hF⟩ := hm_bd hF
          refine hm_idiv hx hb ht24 dX8_laysBlanks_35 ?_
          refine lv_goto (tgt := 40) hx hb dX8_laysBlanks_36 (by decide) ?_
          exact hl40 t24 v1 t2 wA_19 wA_20 wA_21 wZ_8 hF _ _ X _ (lv_sub hl [1, 2, 0] rfl)
  unfold f_X8_laysBlanks at hF
  refine lv_aload_n hx hb dX8_laysBlanks_0 rfl (lv_at hl 0 rfl) ?_
  refine lv_iconst (v := 0) hx hb dX8_laysBlanks_1 (by decide) ?_
  refine hm_put S X hf_X8_198 hg_X8_blanks 0 rfl rfl rfl (Nat.le_of_ble_eq_true rfl) dX8_laysBlanks_2 (fun H locs X => ?_)
  have X := X.to (ws' := (hm_wMM g a A (hm_up Z 8 0))) rfl
  refine lv_iconst (v := 0) hx hb dX8_laysBlanks_5 (by decide) ?_
  refine lv_istore_n (lv' := [(1, .int 0), (0, .ref (a 0))]) hx hb dX8_laysBlanks_6 rfl hl (by decide) rfl (fun ls hl => ?_)
  exact hl7 hm_fu 0 (A 19) (A 20) (A 21) 0 hF _ _ (X.to (ws' := (hm_wMM g a (hm_up (hm_up (hm_up A 19 (A 19)) 20 (A 20)) 21 (A 21)) (hm_up Z 8 0))) rfl) _ (lv_sub hl [1, 0] rfl)
def f_X8_rough_l50 (J4 : Int32 → Int32 → Option (Int32)) (s50_0 : Int32) (s50_1 : Int32) (v2 : Int32) : Option (Int32) :=
  J4 (s50_1 + s50_0) (v2 + 1)
def f_X8_rough_l4 (A_1 : Nat → Int32) (A_2 : Nat → Int32) (A_4 : Nat → Int32) (A_5 : Nat → Int32) (A_6 : Nat → Int32) (A_7 : Nat → Int32) (A_14 : Nat → Int32) (A_18 : Nat → Int32) (Z_7 : Int32) : Nat → Int32 → Int32 → Option (Int32)
  | 0, _, _ => none
  | k + 1, v1, v2 =>
  if (Z_7 - 1) ≤ v2 then (
  some (v1))
  else (
  (f_X8_endOf A_1 A_2 A_4 A_5 A_6 A_7 A_14 A_18 Z_7 v2).bind fun t1 =>
  (hm_rd 38 A_7 35).bind fun t2 =>
  (hm_rd 104 A_18 v2).bind fun t3 =>
  (f_X8_hung A_1 A_5 A_6 A_7 t3).bind fun t4 =>
  if (0 : Int32) ≤ ((t1 - t2) - t4) then (
  f_X8_rough_l50 (fun zv1 zv2 => f_X8_rough_l4 A_1 A_2 A_4 A_5 A_6 A_7 A_14 A_18 Z_7 k zv1 zv2) ((t1 - t2) - t4) v1 v2)
  else (
  f_X8_rough_l50 (fun zv1 zv2 => f_X8_rough_l4 A_1 A_2 A_4 A_5 A_6 A_7 A_14 A_18 Z_7 k zv1 zv2) (-((t1 - t2) - t4)) v1 v2))
theorem f_X8_rough_l4_s (A_1 : Nat → Int32) (A_2 : Nat → Int32) (A_4 : Nat → Int32) (A_5 : Nat → Int32) (A_6 : Nat → Int32) (A_7 : Nat → Int32) (A_14 : Nat → Int32) (A_18 : Nat → Int32) (Z_7 : Int32) (k : Nat) (v1 : Int32) (v2 : Int32) : f_X8_rough_l4 A_1 A_2 A_4 A_5 A_6 A_7 A_14 A_18 Z_7 (k + 1) v1 v2 =
  if (Z_7 - 1) ≤ v2 then (
  some (v1))
  else (
  (f_X8_endOf A_1 A_2 A_4 A_5 A_6 A_7 A_14 A_18 Z_7 v2).bind fun t1 =>
  (hm_rd 38 A_7 35).bind fun t2 =>
  (hm_rd 104 A_18 v2).bind fun t3 =>
  (f_X8_hung A_1 A_5 A_6 A_7 t3).bind fun t4 =>
  if (0 : Int32) ≤ ((t1 - t2) - t4) then (
  f_X8_rough_l50 (fun zv1 zv2 => f_X8_rough_l4 A_1 A_2 A_4 A_5 A_6 A_7 A_14 A_18 Z_7 k zv1 zv2) ((t1 - t2) - t4) v1 v2)
  else (
  f_X8_rough_l50 (fun zv1 zv2 => f_X8_rough_l4 A_1 A_2 A_4 A_5 A_6 A_7 A_14 A_18 Z_7 k zv1 zv2) (-((t1 - t2) - t4)) v1 v2)) := rfl
theorem f_X8_rough_l4_z (A_1 : Nat → Int32) (A_2 : Nat → Int32) (A_4 : Nat → Int32) (A_5 : Nat → Int32) (A_6 : Nat → Int32) (A_7 : Nat → Int32) (A_14 : Nat → Int32) (A_18 : Nat → Int32) (Z_7 : Int32) (v1 : Int32) (v2 : Int32) : f_X8_rough_l4 A_1 A_2 A_4 A_5 A_6 A_7 A_14 A_18 Z_7 0 v1 v2 = none := rfl
def f_X8_rough (A_1 : Nat → Int32) (A_2 : Nat → Int32) (A_4 : Nat → Int32) (A_5 : Nat → Int32) (A_6 : Nat → Int32) (A_7 : Nat → Int32) (A_14 : Nat → Int32) (A_18 : Nat → Int32) (Z_7 : Int32)  : Option (Int32) :=
  f_X8_rough_l4 A_1 A_2 A_4 A_5 A_6 A_7 A_14 A_18 Z_7 hm_fu 0 0
abbrev rm_X8_rough : Room := { frames := 6, cells := 0, slots := 0, locals := 130 }
set_option maxHeartbeats 4000000 in
set_option maxRecDepth 100000 in
theorem c_X8_rough (l : Launch) (g : hm_G) (a : Nat → Nat) (A : Nat → Nat → Int32) (Z : Nat → Int32) (q : Int32) (hF : f_X8_rough (A 1) (A 2) (A 4) (A 5) (A 6) (A 7) (A 14) (A 18) (Z 7) = some q) : hm_Mi l yX8_rough (Cond.code yX8_rough cX8_rough 4 (some .int) :: hm_W) rm_X8_rough g [.ref (a 0)] (hm_wMM g a A Z) (hm_wMM g a A Z) q := by
  refine hm_ofi [(0, .ref (a 0))] (by decide) (own := RX8) rfl (Nat.le_of_ble_eq_true rfl) rfl rfl ?_
  intro p e s m args below meth c AA S hr hlk X ls hl
  have hx := S.1
  have hb := S.2.1
  have hown := S.2.2.2.1
  have hts := S.2.2.2.2
  have hl4 : ∀ (k4 : Nat) (v1 : Int32) (v2 : Int32), f_X8_rough_l4 (A 1) (A 2) (A 4) (A 5) (A 6) (A 7) (A 14) (A 18) (Z 7) k4 v1 v2 = some q → ∀ (H : Heap) (locs : List Loc), hm_X g AA s H locs (hm_wMM g a A Z) → ∀ ls : Array Slot, lv_has ls 4 [(0, .ref (a 0)), (1, .int v1), (2, .int v2)] → W p l e rm_X8_rough s m args below meth c H locs 0 0 (MQ below (hm_Qi g AA (hm_wMM g a A Z) q) args s 0 0 AA) (F0 m 4 ls []) := by
    intro k4
    induction k4 with
    | zero =>
      intro v1 v2 hF
      rw [f_X8_rough_l4_z] at hF
      cases hF
    | succ k4 ih4 =>
      have hl50 : ∀ (s50_0 : Int32) (s50_1 : Int32) (v2 : Int32), f_X8_rough_l50 (fun zv1 zv2 => f_X8_rough_l4 (A 1) (A 2) (A 4) (A 5) (A 6) (A 7) (A 14) (A 18) (Z 7) k4 zv1 zv2) s50_0 s50_1 v2 = some q → ∀ (H : Heap) (locs : List Loc), hm_X g AA s H locs (hm_wMM g a A Z) → ∀ ls : Array Slot, lv_has ls 4 [(0, .ref (a 0)), (2, .int v2)] → W p l e rm_X8_rough s m args below meth c H locs 0 0 (MQ below (hm_Qi g AA (hm_wMM g a A Z) q) args s 0 0 AA) (F0 m 50 ls [.int s50_0, .int s50_1]) := by
        intro s50_0 s50_1 v2 hF H locs X ls hl
        unfold f_X8_rough_l50 at hF
        refine lv_iadd hx hb dX8_rough_50 ?_
        refine lv_istore_n (lv' := [(1, .int (s50_1 + s50_0)), (0, .ref (a 0)), (2, .int v2)]) hx hb dX8_rough_51 rfl hl (by decide) rfl (fun ls hl => ?_)
        refine lv_iinc (v := (v2 + 1)) (lv' := [(2, .int (v2 + 1)), (1, .int (s50_1 + s50_0)), (0, .ref (a 0))]) hx hb dX8_rough_52 hl (k := 2) rfl rfl (by decide) rfl (fun ls hl => ?_)
        refine lv_goto (tgt := 4) hx hb dX8_rough_55 (by decide) ?_
        exact ih4 (s50_1 + s50_0) (v2 + 1) hF _ _ X _ (lv_sub hl [2, 1, 0] rfl)
      intro v1 v2 hF H locs X ls hl
      rw [f_X8_rough_l4_s] at hF
      refine lv_iload_n hx hb dX8_rough_4 rfl (lv_at hl 2 rfl) ?_
      refine lv_aload_n hx hb dX8_rough_5 rfl (lv_at hl 0 rfl) ?_
      refine hm_get S X hf_X8_183 0 rfl rfl dX8_rough_6 ?_
      refine lv_iconst (v := 1) hx hb dX8_rough_9 (by decide) ?_
      refine lv_isub hx hb dX8_rough_10 ?_
      refine lv_icmp_ge (tgt := 58) hx hb dX8_rough_11 (by decide) (fun c11 => ?_) (fun c11 => ?_)
      · have hF := hm_if hF c11
        refine lv_iload_n hx hb dX8_rough_58 rfl (lv_at hl 1 rfl) ?_
        obtain rfl := Option.some.inj hF
        exact hm_ri S hr hlk X rfl rfl dX8_rough_59
      · have hF := hm_nf hF c11
        refine lv_aload_n hx hb dX8_rough_14 rfl (lv_at hl 0 rfl) ?_
        refine lv_iload_n hx hb dX8_rough_15 rfl (lv_at hl 2 rfl) ?_
        obtain ⟨t1, ht1, hF⟩ := hm_bd hF
        refine hm_vi (As := [.int v2]) S X mw_X8_endOf hw_5_81 (c_X8_endOf l g a A Z v2 t1 ht1) hm_same hm_same rfl rfl rfl ⟨rfl, rfl, Nat.le_of_ble_eq_true rfl, Nat.le_of_ble_eq_true rfl⟩ rfl hl.1 rfl (Nat.le_of_ble_eq_true rfl) dX8_rough_16 ⟨Nat.zero_le _, Nat.zero_le _⟩ (fun H locs X => ?_)
        refine lv_aload_n hx hb dX8_rough_19 rfl (lv_at hl 0 rfl) ?_
        refine hm_get S X hf_X8_32 0 rfl rfl dX8_rough_20 ?_
        refine lv_bipush (v := 35) hx hb dX8_rough_23 (by decide) ?_
        obtain ⟨t2, ht2, hF⟩ := hm_bd hF
        refine hm_iald S X ht2 8 rfl dX8_rough_25 ?_
        refine lv_isub hx hb dX8_rough_26 ?_
        refine lv_aload_n hx hb dX8_rough_27 rfl (lv_at hl 0 rfl) ?_
        refine lv_aload_n hx hb dX8_rough_28 rfl (lv_at hl 0 rfl) ?_
        refine hm_get S X hf_X8_65 0 rfl rfl dX8_rough_29 ?_
        refine lv_iload_n hx hb dX8_rough_32 rfl (lv_at hl 2 rfl) ?_
        obtain ⟨t3, ht3, hF⟩ := hm_bd hF
        refine hm_iald S X ht3 19 rfl dX8_rough_33 ?_
        obtain ⟨t4, ht4, hF⟩ := hm_bd hF
        refine hm_vi (As := [.int t3]) S X mw_X8_hung hw_5_57 (c_X8_hung l g a A Z t3 t4 ht4) hm_same hm_same rfl rfl rfl ⟨rfl, rfl, Nat.le_of_ble_eq_true rfl, Nat.le_of_ble_eq_true rfl⟩ rfl hl.1 rfl (Nat.le_of_ble_eq_true rfl) dX8_rough_34 ⟨Nat.zero_le _, Nat.zero_le _⟩ (fun H locs X => ?_)
        refine lv_isub hx hb dX8_rough_37 ?_
        refine lv_istore_n (lv' := [(3, .int ((t1 - t2) - t4)), (0, .ref (a 0)), (1, .int v1), (2, .int v2)]) hx hb dX8_rough_38 rfl hl (by decide) rfl (fun ls hl => ?_)
        refine lv_iload_n hx hb dX8_rough_39 rfl (lv_at hl 2 rfl) ?_
        refine lv_iload_n hx hb dX8_rough_40 rfl (lv_at hl 0 rfl) ?_
        refine lv_if_ge (tgt := 49) hx hb dX8_rough_41 (by decide) (fun c41 => ?_) (fun c41 => ?_)
        · have hF := hm_if hF c41
          refine lv_iload_n hx hb dX8_rough_49 rfl (lv_at hl 0 rfl) ?_
          exact hl50 ((t1 - t2) - t4) v1 v2 hF _ _ X _ (lv_sub hl [1, 3] rfl)
        · have hF := hm_nf hF c41
          refine lv_iload_n hx hb dX8_rough_44 rfl (lv_at hl 0 rfl) ?_
          refine lv_ineg hx hb dX8_rough_45 ?_
          refine lv_goto (tgt := 50) hx hb dX8_rough_46 (by decide) ?_
          exact hl50 (-((t1 - t2) - t4)) v1 v2 hF _ _ X _ (lv_sub hl [1, 3] rfl)
  unfold f_X8_rough at hF
  refine lv_iconst (v := 0) hx hb dX8_rough_0 (by decide) ?_
  refine lv_istore_n (lv' := [(1, .int 0), (0, .ref (a 0))]) hx hb dX8_rough_1 rfl hl (by decide) rfl (fun ls hl => ?_)
  refine lv_iconst (v := 0) hx hb dX8_rough_2 (by decide) ?_
  refine lv_istore_n (lv' := [(2, .int 0), (1, .int 0), (0, .ref (a 0))]) hx hb dX8_rough_3 rfl hl (by decide) rfl (fun ls hl => ?_)
  exact hl4 hm_fu 0 0 hF _ _ X _ (lv_sub hl [2, 1, 0] rfl)
def f_X8_page_l172 (x0 : Int32) (v2 : Int32) (v3 : Int32) (v4 : Int32) (wA_14 : Nat → Int32) (wA_15 : Nat → Int32) (wA_16 : Nat → Int32) (wA_17 : Nat → Int32) (wA_18 : Nat → Int32) (wA_19 : Nat → Int32) (wA_20 : Nat → Int32) (wA_21 : Nat → Int32) (wA_22 : Nat → Int32) (wA_23 : Nat → Int32) (wZ_7 : Int32) (wZ_8 : Int32) : Option (Int32 × (Nat → Int32) × (Nat → Int32) × (Nat → Int32) × (Nat → Int32) × (Nat → Int32) × (Nat → Int32) × (Nat → Int32) × (Nat → Int32) × (Nat → Int32) × (Nat → Int32) × Int32 × Int32) :=
  if x0 = 2 then (
  some (v2, wA_14, wA_15, wA_16, wA_17, wA_18, wA_19, wA_20, wA_21, wA_22, wA_23, wZ_7, wZ_8))
  else (
  if x0 = 4 then (
  some (v3, wA_14, wA_15, wA_16, wA_17, wA_18, wA_19, wA_20, wA_21, wA_22, wA_23, wZ_7, wZ_8))
  else (
  some (v4, wA_14, wA_15, wA_16, wA_17, wA_18, wA_19, wA_20, wA_21, wA_22, wA_23, wZ_7, wZ_8)))
def f_X8_page_l164 (J113 : Int32 → Int32 → Int32 → Int32 → (Nat → Int32) → (Nat → Int32) → (Nat → Int32) → (Nat → Int32) → (Nat → Int32) → (Nat → Int32) → (Nat → Int32) → (Nat → Int32) → (Nat → Int32) → (Nat → Int32) → Int32 → Int32 → Option (Int32 × (Nat → Int32) × (Nat → Int32) × (Nat → Int32) × (Nat → Int32) × (Nat → Int32) × (Nat → Int32) × (Nat → Int32) × (Nat → Int32) × (Nat → Int32) × (Nat → Int32) × Int32 × Int32)) (s164_0 : Int32) (v2 : Int32) (v3 : Int32) (v5 : Int32) (wA_14 : Nat → Int32) (wA_15 : Nat → Int32) (wA_16 : Nat → Int32) (wA_17 : Nat → Int32) (wA_18 : Nat → Int32) (wA_19 : Nat → Int32) (wA_20 : Nat → Int32) (wA_21 : Nat → Int32) (wA_22 : Nat → Int32) (wA_23 : Nat → Int32) (wZ_7 : Int32) (wZ_8 : Int32) : Option (Int32 × (Nat → Int32) × (Nat → Int32) × (Nat → Int32) × (Nat → Int32) × (Nat → Int32) × (Nat → Int32) × (Nat → Int32) × (Nat → Int32) × (Nat → Int32) × (Nat → Int32) × Int32 × Int32) :=
  J113 v2 v3 s164_0 (v5 + 1) wA_14 wA_15 wA_16 wA_17 wA_18 wA_19 wA_20 wA_21 wA_22 wA_23 wZ_7 wZ_8
def f_X8_page_l138 (J113 : Int32 → Int32 → Int32 → Int32 → (Nat → Int32) → (Nat → Int32) → (Nat → Int32) → (Nat → Int32) → (Nat → Int32) → (Nat → Int32) → (Nat → Int32) → (Nat → Int32) → (Nat → Int32) → (Nat → Int32) → Int32 → Int32 → Option (Int32 × (Nat → Int32) × (Nat → Int32) × (Nat → Int32) × (Nat → Int32) × (Nat → Int32) × (Nat → Int32) × (Nat → Int32) × (Nat → Int32) × (Nat → Int32) × (Nat → Int32) × Int32 × Int32)) (s138_0 : Int32) (s138_1 : Int32) (v2 : Int32) (v4 : Int32) (v5 : Int32) (wA_14 : Nat → Int32) (wA_15 : Nat → Int32) (wA_16 : Nat → Int32) (wA_17 : Nat → Int32) (wA_18 : Nat → Int32) (wA_19 : Nat → Int32) (wA_20 : Nat → Int32) (wA_21 : Nat → Int32) (wA_22 : Nat → Int32) (wA_23 : Nat → Int32) (wZ_7 : Int32) (wZ_8 : Int32) : Option (Int32 × (Nat → Int32) × (Nat → Int32) × (Nat → Int32) × (Nat → Int32) × (Nat → Int32) × (Nat → Int32) × (Nat → Int32) × (Nat → Int32) × (Nat → Int32) × (Nat → Int32) × Int32 × Int32) :=
  (hm_rd 30 wA_22 v5).bind fun t6 =>
  if t6 ≤ v4 then (
  f_X8_page_l164 J113 v4 v2 (s138_1 + s138_0) v5 wA_14 wA_15 wA_16 wA_17 wA_18 wA_19 wA_20 wA_21 wA_22 wA_23 wZ_7 wZ_8)
  else (
  (hm_rd 30 wA_22 v5).bind fun t7 =>
  f_X8_page_l164 J113 t7 v2 (s138_1 + s138_0) v5 wA_14 wA_15 wA_16 wA_17 wA_18 wA_19 wA_20 wA_21 wA_22 wA_23 wZ_7 wZ_8)
def f_X8_page_l113 (x0 : Int32) : Nat → Int32 → Int32 → Int32 → Int32 → (Nat → Int32) → (Nat → Int32) → (Nat → Int32) → (Nat → Int32) → (Nat → Int32) → (Nat → Int32) → (Nat → Int32) → (Nat → Int32) → (Nat → Int32) → (Nat → Int32) → Int32 → Int32 → Option (Int32 × (Nat → Int32) × (Nat → Int32) × (Nat → Int32) × (Nat → Int32) × (Nat → Int32) × (Nat → Int32) × (Nat → Int32) × (Nat → Int32) × (Nat → Int32) × (Nat → Int32) × Int32 × Int32)
  | 0, _, _, _, _, _, _, _, _, _, _, _, _, _, _, _, _ => none
  | k + 1, v2, v3, v4, v5, wA_14, wA_15, wA_16, wA_17, wA_18, wA_19, wA_20, wA_21, wA_22, wA_23, wZ_7, wZ_8 =>
  if wZ_8 ≤ v5 then (
  f_X8_page_l172 x0 v2 v3 v4 wA_14 wA_15 wA_16 wA_17 wA_18 wA_19 wA_20 wA_21 wA_22 wA_23 wZ_7 wZ_8)
  else (
  (hm_rd 30 wA_23 v5).bind fun t5 =>
  if t5 = 0 then (
  f_X8_page_l138 (fun zv2 zv3 zv4 zv5 zwA_14 zwA_15 zwA_16 zwA_17 zwA_18 zwA_19 zwA_20 zwA_21 zwA_22 zwA_23 zwZ_7 zwZ_8 => f_X8_page_l113 x0 k zv2 zv3 zv4 zv5 zwA_14 zwA_15 zwA_16 zwA_17 zwA_18 zwA_19 zwA_20 zwA_21 zwA_22 zwA_23 zwZ_7 zwZ_8) 0 v3 v2 v4 v5 wA_14 wA_15 wA_16 wA_17 wA_18 wA_19 wA_20 wA_21 wA_22 wA_23 wZ_7 wZ_8)
  else (
  f_X8_page_l138 (fun zv2 zv3 zv4 zv5 zwA_14 zwA_15 zwA_16 zwA_17 zwA_18 zwA_19 zwA_20 zwA_21 zwA_22 zwA_23 zwZ_7 zwZ_8 => f_X8_page_l113 x0 k zv2 zv3 zv4 zv5 zwA_14 zwA_15 zwA_16 zwA_17 zwA_18 zwA_19 zwA_20 zwA_21 zwA_22 zwA_23 zwZ_7 zwZ_8) 1 v3 v2 v4 v5 wA_14 wA_15 wA_16 wA_17 wA_18 wA_19 wA_20 wA_21 wA_22 wA_23 wZ_7 wZ_8))
theorem f_X8_page_l113_s (x0 : Int32) (k : Nat) (v2 : Int32) (v3 : Int32) (v4 : Int32) (v5 : Int32) (wA_14 : Nat → Int32) (wA_15 : Nat → Int32) (wA_16 : Nat → Int32) (wA_17 : Nat → Int32) (wA_18 : Nat → Int32) (wA_19 : Nat → Int32) (wA_20 : Nat → Int32) (wA_21 : Nat → Int32) (wA_22 : Nat → Int32) (wA_23 : Nat → Int32) (wZ_7 : Int32) (wZ_8 : Int32) : f_X8_page_l113 x0 (k + 1) v2 v3 v4 v5 wA_14 wA_15 wA_16 wA_17 wA_18 wA_19 wA_20 wA_21 wA_22 wA_23 wZ_7 wZ_8 =
  if wZ_8 ≤ v5 then (
  f_X8_page_l172 x0 v2 v3 v4 wA_14 wA_15 wA_16 wA_17 wA_18 wA_19 wA_20 wA_21 wA_22 wA_23 wZ_7 wZ_8)
  else (
  (hm_rd 30 wA_23 v5).bind fun t5 =>
  if t5 = 0 then (
  f_X8_page_l138 (fun zv2 zv3 zv4 zv5 zwA_14 zwA_15 zwA_16 zwA_17 zwA_18 zwA_19 zwA_20 zwA_21 zwA_22 zwA_23 zwZ_7 zwZ_8 => f_X8_page_l113 x0 k zv2 zv3 zv4 zv5 zwA_14 zwA_15 zwA_16 zwA_17 zwA_18 zwA_19 zwA_20 zwA_21 zwA_22 zwA_23 zwZ_7 zwZ_8) 0 v3 v2 v4 v5 wA_14 wA_15 wA_16 wA_17 wA_18 wA_19 wA_20 wA_21 wA_22 wA_23 wZ_7 wZ_8)
  else (
  f_X8_page_l138 (fun zv2 zv3 zv4 zv5 zwA_14 zwA_15 zwA_16 zwA_17 zwA_18 zwA_19 zwA_20 zwA_21 zwA_22 zwA_23 zwZ_7 zwZ_8 => f_X8_page_l113 x0 k zv2 zv3 zv4 zv5 zwA_14 zwA_15 zwA_16 zwA_17 zwA_18 zwA_19 zwA_20 zwA_21 zwA_22 zwA_23 zwZ_7 zwZ_8) 1 v3 v2 v4 v5 wA_14 wA_15 wA_16 wA_17 wA_18 wA_19 wA_20 wA_21 wA_22 wA_23 wZ_7 wZ_8)) := rfl
theorem f_X8_page_l113_z (x0 : Int32) (v2 : Int32) (v3 : Int32) (v4 : Int32) (v5 : Int32) (wA_14 : Nat → Int32) (wA_15 : Nat → Int32) (wA_16 : Nat → Int32) (wA_17 : Nat → Int32) (wA_18 : Nat → Int32) (wA_19 : Nat → Int32) (wA_20 : Nat → Int32) (wA_21 : Nat → Int32) (wA_22 : Nat → Int32) (wA_23 : Nat → Int32) (wZ_7 : Int32) (wZ_8 : Int32) : f_X8_page_l113 x0 0 v2 v3 v4 v5 wA_14 wA_15 wA_16 wA_17 wA_18 wA_19 wA_20 wA_21 wA_22 wA_23 wZ_7 wZ_8 = none := rfl
def f_X8_page_l105 (x0 : Int32) (v2 : Int32) (wA_14 : Nat → Int32) (wA_15 : Nat → Int32) (wA_16 : Nat → Int32) (wA_17 : Nat → Int32) (wA_18 : Nat → Int32) (wA_19 : Nat → Int32) (wA_20 : Nat → Int32) (wA_21 : Nat → Int32) (wA_22 : Nat → Int32) (wA_23 : Nat → Int32) (wZ_7 : Int32) (wZ_8 : Int32) : Option (Int32 × (Nat → Int32) × (Nat → Int32) × (Nat → Int32) × (Nat → Int32) × (Nat → Int32) × (Nat → Int32) × (Nat → Int32) × (Nat → Int32) × (Nat → Int32) × (Nat → Int32) × Int32 × Int32) :=
  f_X8_page_l113 x0 hm_fu v2 0 0 0 wA_14 wA_15 wA_16 wA_17 wA_18 wA_19 wA_20 wA_21 wA_22 wA_23 wZ_7 wZ_8
def f_X8_page_l97 (J69 : Int32 → Int32 → (Nat → Int32) → (Nat → Int32) → (Nat → Int32) → (Nat → Int32) → (Nat → Int32) → (Nat → Int32) → (Nat → Int32) → (Nat → Int32) → (Nat → Int32) → (Nat → Int32) → Int32 → Int32 → Option (Int32 × (Nat → Int32) × (Nat → Int32) × (Nat → Int32) × (Nat → Int32) × (Nat → Int32) × (Nat → Int32) × (Nat → Int32) × (Nat → Int32) × (Nat → Int32) × (Nat → Int32) × Int32 × Int32)) (s97_0 : Int32) (s97_1 : Int32) (v3 : Int32) (wA_14 : Nat → Int32) (wA_15 : Nat → Int32) (wA_16 : Nat → Int32) (wA_17 : Nat → Int32) (wA_18 : Nat → Int32) (wA_19 : Nat → Int32) (wA_20 : Nat → Int32) (wA_21 : Nat → Int32) (wA_22 : Nat → Int32) (wA_23 : Nat → Int32) (wZ_7 : Int32) (wZ_8 : Int32) : Option (Int32 × (Nat → Int32) × (Nat → Int32) × (Nat → Int32) × (Nat → Int32) × (Nat → Int32) × (Nat → Int32) × (Nat → Int32) × (Nat → Int32) × (Nat → Int32) × (Nat → Int32) × Int32 × Int32) :=
  J69 (s97_1 + s97_0) (v3 + 1) wA_14 wA_15 wA_16 wA_17 wA_18 wA_19 wA_20 wA_21 wA_22 wA_23 wZ_7 wZ_8
def f_X8_page_l69 (A_6 : Nat → Int32) (x0 : Int32) : Nat → Int32 → Int32 → (Nat → Int32) → (Nat → Int32) → (Nat → Int32) → (Nat → Int32) → (Nat → Int32) → (Nat → Int32) → (Nat → Int32) → (Nat → Int32) → (Nat → Int32) → (Nat → Int32) → Int32 → Int32 → Option (Int32 × (Nat → Int32) × (Nat → Int32) × (Nat → Int32) × (Nat → Int32) × (Nat → Int32) × (Nat → Int32) × (Nat → Int32) × (Nat → Int32) × (Nat → Int32) × (Nat → Int32) × Int32 × Int32)
  | 0, _, _, _, _, _, _, _, _, _, _, _, _, _, _ => none
  | k + 1, v2, v3, wA_14, wA_15, wA_16, wA_17, wA_18, wA_19, wA_20, wA_21, wA_22, wA_23, wZ_7, wZ_8 =>
  if wZ_7 ≤ v3 then (
  f_X8_page_l105 x0 v2 wA_14 wA_15 wA_16 wA_17 wA_18 wA_19 wA_20 wA_21 wA_22 wA_23 wZ_7 wZ_8)
  else (
  (hm_rd 104 wA_18 v3).bind fun t8 =>
  (hm_rd 104 A_6 t8).bind fun t9 =>
  if t9 = 0 then (
  f_X8_page_l97 (fun zv2 zv3 zwA_14 zwA_15 zwA_16 zwA_17 zwA_18 zwA_19 zwA_20 zwA_21 zwA_22 zwA_23 zwZ_7 zwZ_8 => f_X8_page_l69 A_6 x0 k zv2 zv3 zwA_14 zwA_15 zwA_16 zwA_17 zwA_18 zwA_19 zwA_20 zwA_21 zwA_22 zwA_23 zwZ_7 zwZ_8) 0 v2 v3 wA_14 wA_15 wA_16 wA_17 wA_18 wA_19 wA_20 wA_21 wA_22 wA_23 wZ_7 wZ_8)
  else (
  f_X8_page_l97 (fun zv2 zv3 zwA_14 zwA_15 zwA_16 zwA_17 zwA_18 zwA_19 zwA_20 zwA_21 zwA_22 zwA_23 zwZ_7 zwZ_8 => f_X8_page_l69 A_6 x0 k zv2 zv3 zwA_14 zwA_15 zwA_16 zwA_17 zwA_18 zwA_19 zwA_20 zwA_21 zwA_22 zwA_23 zwZ_7 zwZ_8) 1 v2 v3 wA_14 wA_15 wA_16 wA_17 wA_18 wA_19 wA_20 wA_21 wA_22 wA_23 wZ_7 wZ_8))
theorem f_X8_page_l69_s (A_6 : Nat → Int32) (x0 : Int32) (k : Nat) (v2 : Int32) (v3 : Int32) (wA_14 : Nat → Int32) (wA_15 : Nat → Int32) (wA_16 : Nat → Int32) (wA_17 : Nat → Int32) (wA_18 : Nat → Int32) (wA_19 : Nat → Int32) (wA_20 : Nat → Int32) (wA_21 : Nat → Int32) (wA_22 : Nat → Int32) (wA_23 : Nat → Int32) (wZ_7 : Int32) (wZ_8 : Int32) : f_X8_page_l69 A_6 x0 (k + 1) v2 v3 wA_14 wA_15 wA_16 wA_17 wA_18 wA_19 wA_20 wA_21 wA_22 wA_23 wZ_7 wZ_8 =
  if wZ_7 ≤ v3 then (
  f_X8_page_l105 x0 v2 wA_14 wA_15 wA_16 wA_17 wA_18 wA_19 wA_20 wA_21 wA_22 wA_23 wZ_7 wZ_8)
  else (
  (hm_rd 104 wA_18 v3).bind fun t8 =>
  (hm_rd 104 A_6 t8).bind fun t9 =>
  if t9 = 0 then (
  f_X8_page_l97 (fun zv2 zv3 zwA_14 zwA_15 zwA_16 zwA_17 zwA_18 zwA_19 zwA_20 zwA_21 zwA_22 zwA_23 zwZ_7 zwZ_8 => f_X8_page_l69 A_6 x0 k zv2 zv3 zwA_14 zwA_15 zwA_16 zwA_17 zwA_18 zwA_19 zwA_20 zwA_21 zwA_22 zwA_23 zwZ_7 zwZ_8) 0 v2 v3 wA_14 wA_15 wA_16 wA_17 wA_18 wA_19 wA_20 wA_21 wA_22 wA_23 wZ_7 wZ_8)
  else (
  f_X8_page_l97 (fun zv2 zv3 zwA_14 zwA_15 zwA_16 zwA_17 zwA_18 zwA_19 zwA_20 zwA_21 zwA_22 zwA_23 zwZ_7 zwZ_8 => f_X8_page_l69 A_6 x0 k zv2 zv3 zwA_14 zwA_15 zwA_16 zwA_17 zwA_18 zwA_19 zwA_20 zwA_21 zwA_22 zwA_23 zwZ_7 zwZ_8) 1 v2 v3 wA_14 wA_15 wA_16 wA_17 wA_18 wA_19 wA_20 wA_21 wA_22 wA_23 wZ_7 wZ_8)) := rfl
theorem f_X8_page_l69_z (A_6 : Nat → Int32) (x0 : Int32) (v2 : Int32) (v3 : Int32) (wA_14 : Nat → Int32) (wA_15 : Nat → Int32) (wA_16 : Nat → Int32) (wA_17 : Nat → Int32) (wA_18 : Nat → Int32) (wA_19 : Nat → Int32) (wA_20 : Nat → Int32) (wA_21 : Nat → Int32) (wA_22 : Nat → Int32) (wA_23 : Nat → Int32) (wZ_7 : Int32) (wZ_8 : Int32) : f_X8_page_l69 A_6 x0 0 v2 v3 wA_14 wA_15 wA_16 wA_17 wA_18 wA_19 wA_20 wA_21 wA_22 wA_23 wZ_7 wZ_8 = none := rfl
def f_X8_page (A_1 : Nat → Int32) (A_2 : Nat → Int32) (A_3 : Nat → Int32) (A_4 : Nat → Int32) (A_5 : Nat → Int32) (A_6 : Nat → Int32) (A_7 : Nat → Int32) (A_14 : Nat → Int32) (A_15 : Nat → Int32) (A_16 : Nat → Int32) (A_17 : Nat → Int32) (A_18 : Nat → Int32) (A_19 : Nat → Int32) (A_20 : Nat → Int32) (A_21 : Nat → Int32) (A_22 : Nat → Int32) (A_23 : Nat → Int32) (Z_1 : Int32) (Z_3 : Int32) (Z_7 : Int32) (Z_8 : Int32) (x0 : Int32)  : Option (Int32 × (Nat → Int32) × (Nat → Int32) × (Nat → Int32) × (Nat → Int32) × (Nat → Int32) × (Nat → Int32) × (Nat → Int32) × (Nat → Int32) × (Nat → Int32) × (Nat → Int32) × Int32 × Int32) :=
  (f_X8_in x0 0 5).bind fun t1 =>
  if t1 = 0 then (
  some ((-1), A_14, A_15, A_16, A_17, A_18, A_19, A_20, A_21, A_22, A_23, Z_7, Z_8))
  else (
  (hm_rd 38 A_7 35).bind fun t2 =>
  (f_X8_laysPage A_1 A_2 A_4 A_5 A_6 A_7 A_14 A_15 A_16 A_17 A_18 Z_1 Z_3 t2).bind fun t3 =>
  if t3.1 = 0 then (
  some ((-9), t3.2.1, t3.2.2.1, t3.2.2.2.1, t3.2.2.2.2.1, t3.2.2.2.2.2.1, A_19, A_20, A_21, A_22, A_23, t3.2.2.2.2.2.2, Z_8))
  else (
  if (2 : Int32) ≤ x0 then (
  if x0 = 3 then (
  (f_X8_rough A_1 A_2 A_4 A_5 A_6 A_7 t3.2.1 t3.2.2.2.2.2.1 t3.2.2.2.2.2.2).bind fun t10 =>
  some (t10, t3.2.1, t3.2.2.1, t3.2.2.2.1, t3.2.2.2.2.1, t3.2.2.2.2.2.1, A_19, A_20, A_21, A_22, A_23, t3.2.2.2.2.2.2, Z_8))
  else (
  (f_X8_laysBlanks A_1 A_2 A_3 A_4 A_5 A_6 A_7 t3.2.1 t3.2.2.2.2.2.1 A_19 A_20 A_21 A_22 A_23 t3.2.2.2.2.2.2).bind fun t4 =>
  f_X8_page_l69 A_6 x0 hm_fu 0 0 t3.2.1 t3.2.2.1 t3.2.2.2.1 t3.2.2.2.2.1 t3.2.2.2.2.2.1 t4.1 t4.2.1 t4.2.2.1 t4.2.2.2.1 t4.2.2.2.2.1 t3.2.2.2.2.2.2 t4.2.2.2.2.2))
  else (
  if x0 = 0 then (
  (hm_rd 105 t3.2.2.1 0).bind fun t11 =>
  some (t11, t3.2.1, t3.2.2.1, t3.2.2.2.1, t3.2.2.2.2.1, t3.2.2.2.2.2.1, A_19, A_20, A_21, A_22, A_23, t3.2.2.2.2.2.2, Z_8))
  else (
  some (t3.2.2.2.2.2.2, t3.2.1, t3.2.2.1, t3.2.2.2.1, t3.2.2.2.2.1, t3.2.2.2.2.2.1, A_19, A_20, A_21, A_22, A_23, t3.2.2.2.2.2.2, Z_8)))))
abbrev rm_X8_page : Room := { frames := 7, cells := 0, slots := 0, locals := 153 }
set_option maxHeartbeats 4000000 in
set_option maxRecDepth 100000 in
theorem c_X8_page (l : Launch) (g : hm_G) (a : Nat → Nat) (A : Nat → Nat → Int32) (Z : Nat → Int32) (x0 : Int32) (q : Int32 × (Nat → Int32) × (Nat → Int32) × (Nat → Int32) × (Nat → Int32) × (Nat → Int32) × (Nat → Int32) × (Nat → Int32) × (Nat → Int32) × (Nat → Int32) × (Nat → Int32) × Int32 × Int32) (hF : f_X8_page (A 1) (A 2) (A 3) (A 4) (A 5) (A 6) (A 7) (A 14) (A 15) (A 16) (A 17) (A 18) (A 19) (A 20) (A 21) (A 22) (A 23) (Z 1) (Z 3) (Z 7) (Z 8) x0 = some q) : hm_Mi l yX8_page (Cond.code yX8_page cX8_page 6 (some .int) :: hm_W) rm_X8_page g [.ref (a 0), .int x0] (hm_wMM g a A Z) (hm_wMM g a (hm_up (hm_up (hm_up (hm_up (hm_up (hm_up (hm_up (hm_up (hm_up (hm_up A 14 q.2.1) 15 q.2.2.1) 16 q.2.2.2.1) 17 q.2.2.2.2.1) 18 q.2.2.2.2.2.1) 19 q.2.2.2.2.2.2.1) 20 q.2.2.2.2.2.2.2.1) 21 q.2.2.2.2.2.2.2.2.1) 22 q.2.2.2.2.2.2.2.2.2.1) 23 q.2.2.2.2.2.2.2.2.2.2.1) (hm_up (hm_up Z 7 q.2.2.2.2.2.2.2.2.2.2.2.1) 8 q.2.2.2.2.2.2.2.2.2.2.2.2)) q.1 := by
  refine hm_ofi [(0, .ref (a 0)), (1, .int x0)] (by decide) (own := RX8) rfl (Nat.le_of_ble_eq_true rfl) rfl rfl ?_
  intro p e s m args below meth c AA S hr hlk X ls hl
  have hx := S.1
  have hb := S.2.1
  have hown := S.2.2.2.1
  have hts := S.2.2.2.2
  have hl172 : ∀ (v2 : Int32) (v3 : Int32) (v4 : Int32) (wA_14 : Nat → Int32) (wA_15 : Nat → Int32) (wA_16 : Nat → Int32) (wA_17 : Nat → Int32) (wA_18 : Nat → Int32) (wA_19 : Nat → Int32) (wA_20 : Nat → Int32) (wA_21 : Nat → Int32) (wA_22 : Nat → Int32) (wA_23 : Nat → Int32) (wZ_7 : Int32) (wZ_8 : Int32), f_X8_page_l172 x0 v2 v3 v4 wA_14 wA_15 wA_16 wA_17 wA_18 wA_19 wA_20 wA_21 wA_22 wA_23 wZ_7 wZ_8 = some q → ∀ (H : Heap) (locs : List Loc), hm_X g AA s H locs (hm_wMM g a (hm_up (hm_up (hm_up (hm_up (hm_up (hm_up (hm_up (hm_up (hm_up (hm_up A 14 wA_14) 15 wA_15) 16 wA_16) 17 wA_17) 18 wA_18) 19 wA_19) 20 wA_20) 21 wA_21) 22 wA_22) 23 wA_23) (hm_up (hm_up Z 7 wZ_7) 8 wZ_8)) → ∀ ls : Array Slot, lv_has ls 6 [(1, .int x0), (2, .int v2), (3, .int v3), (4, .int v4)] → W p l e rm_X8_page s m args below meth c H locs 0 0 (MQ below (hm_Qi g AA (hm_wMM g a (hm_up (hm_up (hm_up (hm_up (hm_up (hm_up (hm_up (hm_up (hm_up (hm_up A 14 q.2.1) 15 q.2.2.1) 16 q.2.2.2.1) 17 q.2.2.2.2.1) 18 q.2.2.2.2.2.1) 19 q.2.2.2.2.2.2.1) 20 q.2.2.2.2.2.2.2.1) 21 q.2.2.2.2.2.2.2.2.1) 22 q.2.2.2.2.2.2.2.2.2.1) 23 q.2.2.2.2.2.2.2.2.2.2.1) (hm_up (hm_up Z 7 q.2.2.2.2.2.2.2.2.2.2.2.1) 8 q.2.2.2.2.2.2.2.2.2.2.2.2)) q.1) args s 0 0 AA) (F0 m 172 ls []) := by
    intro v2 v3 v4 wA_14 wA_15 wA_16 wA_17 wA_18 wA_19 wA_20 wA_21 wA_22 wA_23 wZ_7 wZ_8 hF H locs X ls hl
    unfold f_X8_page_l172 at hF
    refine lv_iload_n hx hb dX8_page_172 rfl (lv_at hl 0 rfl) ?_
    refine lv_iconst (v := 2) hx hb dX8_page_173 (by decide) ?_
    refine lv_icmp_ne (tgt := 181) hx hb dX8_page_174 (by decide) (fun c174 => ?_) (fun c174 => ?_)
    · have hF := hm_nf hF c174
      refine lv_iload_n hx hb dX8_page_181 rfl (lv_at hl 0 rfl) ?_
      refine lv_iconst (v := 4) hx hb dX8_page_182 (by decide) ?_
      refine lv_icmp_ne (tgt := 190) hx hb dX8_page_183 (by decide) (fun c183 => ?_) (fun c183 => ?_)
      · have hF := hm_nf hF c183
        refine lv_iload hx hb dX8_page_190 (lv_at hl 3 rfl) ?_
        obtain rfl := Option.some.inj hF
        exact hm_ri S hr hlk X rfl rfl dX8_page_192
      · have hF := hm_if hF c183
        refine lv_iload_n hx hb dX8_page_186 rfl (lv_at hl 2 rfl) ?_
        refine lv_goto (tgt := 192) hx hb dX8_page_187 (by decide) ?_
        obtain rfl := Option.some.inj hF
        exact hm_ri S hr hlk X rfl rfl dX8_page_192
    · have hF := hm_if hF c174
      refine lv_iload_n hx hb dX8_page_177 rfl (lv_at hl 1 rfl) ?_
      refine lv_goto (tgt := 192) hx hb dX8_page_178 (by decide) ?_
      obtain rfl := Option.some.inj hF
      exact hm_ri S hr hlk X rfl rfl dX8_page_192
  have hl113 : ∀ (k113 : Nat) (v2 : Int32) (v3 : Int32) (v4 : Int32) (v5 : Int32) (wA_14 : Nat → Int32) (wA_15 : Nat → Int32) (wA_16 : Nat → Int32) (wA_17 : Nat → Int32) (wA_18 : Nat → Int32) (wA_19 : Nat → Int32) (wA_20 : Nat → Int32) (wA_21 : Nat → Int32) (wA_22 : Nat → Int32) (wA_23 : Nat → Int32) (wZ_7 : Int32) (wZ_8 : Int32), f_X8_page_l113 x0 k113 v2 v3 v4 v5 wA_14 wA_15 wA_16 wA_17 wA_18 wA_19 wA_20 wA_21 wA_22 wA_23 wZ_7 wZ_8 = some q → ∀ (H : Heap) (locs : List Loc), hm_X g AA s H locs (hm_wMM g a (hm_up (hm_up (hm_up (hm_up (hm_up (hm_up (hm_up (hm_up (hm_up (hm_up A 14 wA_14) 15 wA_15) 16 wA_16) 17 wA_17) 18 wA_18) 19 wA_19) 20 wA_20) 21 wA_21) 22 wA_22) 23 wA_23) (hm_up (hm_up Z 7 wZ_7) 8 wZ_8)) → ∀ ls : Array Slot, lv_has ls 6 [(0, .ref (a 0)), (1, .int x0), (2, .int v2), (3, .int v3), (4, .int v4), (5, .int v5)] → W p l e rm_X8_page s m args below meth c H locs 0 0 (MQ below (hm_Qi g AA (hm_wMM g a (hm_up (hm_up (hm_up (hm_up (hm_up (hm_up (hm_up (hm_up (hm_up (hm_up A 14 q.2.1) 15 q.2.2.1) 16 q.2.2.2.1) 17 q.2.2.2.2.1) 18 q.2.2.2.2.2.1) 19 q.2.2.2.2.2.2.1) 20 q.2.2.2.2.2.2.2.1) 21 q.2.2.2.2.2.2.2.2.1) 22 q.2.2.2.2.2.2.2.2.2.1) 23 q.2.2.2.2.2.2.2.2.2.2.1) (hm_up (hm_up Z 7 q.2.2.2.2.2.2.2.2.2.2.2.1) 8 q.2.2.2.2.2.2.2.2.2.2.2.2)) q.1) args s 0 0 AA) (F0 m 113 ls []) := by
    intro k113
    induction k113 with
    | zero =>
      intro v2 v3 v4 v5 wA_14 wA_15 wA_16 wA_17 wA_18 wA_19 wA_20 wA_21 wA_22 wA_23 wZ_7 wZ_8 hF
      rw [f_X8_page_l113_z] at hF
      cases hF
    | succ k113 ih113 =>
      have hl164 : ∀ (s164_0 : Int32) (v2 : Int32) (v3 : Int32) (v5 : Int32) (wA_14 : Nat → Int32) (wA_15 : Nat → Int32) (wA_16 : Nat → Int32) (wA_17 : Nat → Int32) (wA_18 : Nat → Int32) (wA_19 : Nat → Int32) (wA_20 : Nat → Int32) (wA_21 : Nat → Int32) (wA_22 : Nat → Int32) (wA_23 : Nat → Int32) (wZ_7 : Int32) (wZ_8 : Int32), f_X8_page_l164 (fun zv2 zv3 zv4 zv5 zwA_14 zwA_15 zwA_16 zwA_17 zwA_18 zwA_19 zwA_20 zwA_21 zwA_22 zwA_23 zwZ_7 zwZ_8 => f_X8_page_l113 x0 k113 zv2 zv3 zv4 zv5 zwA_14 zwA_15 zwA_16 zwA_17 zwA_18 zwA_19 zwA_20 zwA_21 zwA_22 zwA_23 zwZ_7 zwZ_8) s164_0 v2 v3 v5 wA_14 wA_15 wA_16 wA_17 wA_18 wA_19 wA_20 wA_21 wA_22 wA_23 wZ_7 wZ_8 = some q → ∀ (H : Heap) (locs : List Loc), hm_X g AA s H locs (hm_wMM g a (hm_up (hm_up (hm_up (hm_up (hm_up (hm_up (hm_up (hm_up (hm_up (hm_up A 14 wA_14) 15 wA_15) 16 wA_16) 17 wA_17) 18 wA_18) 19 wA_19) 20 wA_20) 21 wA_21) 22 wA_22) 23 wA_23) (hm_up (hm_up Z 7 wZ_7) 8 wZ_8)) → ∀ ls : Array Slot, lv_has ls 6 [(0, .ref (a 0)), (1, .int x0), (2, .int v2), (3, .int v3), (5, .int v5)] → W p l e rm_X8_page s m args below meth c H locs 0 0 (MQ below (hm_Qi g AA (hm_wMM g a (hm_up (hm_up (hm_up (hm_up (hm_up (hm_up (hm_up (hm_up (hm_up (hm_up A 14 q.2.1) 15 q.2.2.1) 16 q.2.2.2.1) 17 q.2.2.2.2.1) 18 q.2.2.2.2.2.1) 19 q.2.2.2.2.2.2.1) 20 q.2.2.2.2.2.2.2.1) 21 q.2.2.2.2.2.2.2.2.1) 22 q.2.2.2.2.2.2.2.2.2.1) 23 q.2.2.2.2.2.2.2.2.2.2.1) (hm_up (hm_up Z 7 q.2.2.2.2.2.2.2.2.2.2.2.1) 8 q.2.2.2.2.2.2.2.2.2.2.2.2)) q.1) args s 0 0 AA) (F0 m 164 ls [.int s164_0]) := by
        intro s164_0 v2 v3 v5 wA_14 wA_15 wA_16 wA_17 wA_18 wA_19 wA_20 wA_21 wA_22 wA_23 wZ_7 wZ_8 hF H locs X ls hl
        unfold f_X8_page_l164 at hF
        refine lv_istore (lv' := [(4, .int s164_0), (0, .ref (a 0)), (1, .int x0), (2, .int v2), (3, .int v3), (5, .int v5)]) hx hb dX8_page_164 hl (by decide) rfl (fun ls hl => ?_)
        refine lv_iinc (v := (v5 + 1)) (lv' := [(5, .int (v5 + 1)), (4, .int s164_0), (0, .ref (a 0)), (1, .int x0), (2, .int v2), (3, .int v3)]) hx hb dX8_page_166 hl (k := 5) rfl rfl (by decide) rfl (fun ls hl => ?_)
        refine lv_goto (tgt := 113) hx hb dX8_page_169 (by decide) ?_
        exact ih113 v2 v3 s164_0 (v5 + 1) wA_14 wA_15 wA_16 wA_17 wA_18 wA_19 wA_20 wA_21 wA_22 wA_23 wZ_7 wZ_8 hF _ _ X _ (lv_sub hl [2, 3, 4, 5, 1, 0] rfl)
      have hl138 : ∀ (s138_0 : Int32) (s138_1 : Int32) (v2 : Int32) (v4 : Int32) (v5 : Int32) (wA_14 : Nat → Int32) (wA_15 : Nat → Int32) (wA_16 : Nat → Int32) (wA_17 : Nat → Int32) (wA_18 : Nat → Int32) (wA_19 : Nat → Int32) (wA_20 : Nat → Int32) (wA_21 : Nat → Int32) (wA_22 : Nat → Int32) (wA_23 : Nat → Int32) (wZ_7 : Int32) (wZ_8 : Int32), f_X8_page_l138 (fun zv2 zv3 zv4 zv5 zwA_14 zwA_15 zwA_16 zwA_17 zwA_18 zwA_19 zwA_20 zwA_21 zwA_22 zwA_23 zwZ_7 zwZ_8 => f_X8_page_l113 x0 k113 zv2 zv3 zv4 zv5 zwA_14 zwA_15 zwA_16 zwA_17 zwA_18 zwA_19 zwA_20 zwA_21 zwA_22 zwA_23 zwZ_7 zwZ_8) s138_0 s138_1 v2 v4 v5 wA_14 wA_15 wA_16 wA_17 wA_18 wA_19 wA_20 wA_21 wA_22 wA_23 wZ_7 wZ_8 = some q → ∀ (H : Heap) (locs : List Loc), hm_X g AA s H locs (hm_wMM g a (hm_up (hm_up (hm_up (hm_up (hm_up (hm_up (hm_up (hm_up (hm_up (hm_up A 14 wA_14) 15 wA_15) 16 wA_16) 17 wA_17) 18 wA_18) 19 wA_19) 20 wA_20) 21 wA_21) 22 wA_22) 23 wA_23) (hm_up (hm_up Z 7 wZ_7) 8 wZ_8)) → ∀ ls : Array Slot, lv_has ls 6 [(0, .ref (a 0)), (1, .int x0), (2, .int v2), (4, .int v4), (5, .int v5)] → W p l e rm_X8_page s m args below meth c H locs 0 0 (MQ below (hm_Qi g AA (hm_wMM g a (hm_up (hm_up (hm_up (hm_up (hm_up (hm_up (hm_up (hm_up (hm_up (hm_up A 14 q.2.1) 15 q.2.2.1) 16 q.2.2.2.1) 17 q.2.2.2.2.1) 18 q.2.2.2.2.2.1) 19 q.2.2.2.2.2.2.1) 20 q.2.2.2.2.2.2.2.1) 21 q.2.2.2.2.2.2.2.2.1) 22 q.2.2.2.2.2.2.2.2.2.1) 23 q.2.2.2.2.2.2.2.2.2.2.1) (hm_up (hm_up Z 7 q.2.2.2.2.2.2.2.2.2.2.2.1) 8 q.2.2.2.2.2.2.2.2.2.2.2.2)) q.1) args s 0 0 AA) (F0 m 138 ls [.int s138_0, .int s138_1]) := by
        intro s138_0 s138_1 v2 v4 v5 wA_14 wA_15 wA_16 wA_17 wA_18 wA_19 wA_20 wA_21 wA_22 wA_23 wZ_7 wZ_8 hF H locs X ls hl
        unfold f_X8_page_l138 at hF
        refine lv_iadd hx hb dX8_page_138 ?_
        refine lv_istore_n (lv' := [(3, .int (s138_1 + s138_0)), (0, .ref (a 0)), (1, .int x0), (2, .int v2), (4, .int v4), (5, .int v5)]) hx hb dX8_page_139 rfl hl (by decide) rfl (fun ls hl => ?_)
        refine lv_aload_n hx hb dX8_page_140 rfl (lv_at hl 1 rfl) ?_
        refine hm_get S X hf_X8_77 0 rfl rfl dX8_page_141 ?_
        refine lv_iload hx hb dX8_page_144 (lv_at hl 5 rfl) ?_
        obtain ⟨t6, ht6, hF⟩ := hm_bd hF
        refine hm_iald S X ht6 23 rfl dX8_page_146 ?_
        refine lv_iload hx hb dX8_page_147 (lv_at hl 4 rfl) ?_
        refine lv_icmp_le (tgt := 162) hx hb dX8_page_149 (by decide) (fun c149 => ?_) (fun c149 => ?_)
        · have hF := hm_if hF c149
          refine lv_iload hx hb dX8_page_162 (lv_at hl 4 rfl) ?_
          exact hl164 v4 v2 (s138_1 + s138_0) v5 wA_14 wA_15 wA_16 wA_17 wA_18 wA_19 wA_20 wA_21 wA_22 wA_23 wZ_7 wZ_8 hF _ _ X _ (lv_sub hl [1, 2, 3, 0, 5] rfl)
        · have hF := hm_nf hF c149
          refine lv_aload_n hx hb dX8_page_152 rfl (lv_at hl 1 rfl) ?_
          refine hm_get S X hf_X8_77 0 rfl rfl dX8_page_153 ?_
          refine lv_iload hx hb dX8_page_156 (lv_at hl 5 rfl) ?_
          obtain ⟨t7, ht7, hF⟩ := hm_bd hF
          refine hm_iald S X ht7 23 rfl dX8_page_158 ?_
          refine lv_goto (tgt := 164) hx hb dX8_page_159 (by decide) ?_
          exact hl164 t7 v2 (s138_1 + s138_0) v5 wA_14 wA_15 wA_16 wA_17 wA_18 wA_19 wA_20 wA_21 wA_22 wA_23 wZ_7 wZ_8 hF _ _ X _ (lv_sub hl [1, 2, 3, 0, 5] rfl)
      intro v2 v3 v4 v5 wA_14 wA_15 wA_16 wA_17 wA_18 wA_19 wA_20 wA_21 wA_22 wA_23 wZ_7 wZ_8 hF H locs X ls hl
      rw [f_X8_page_l113_s] at hF
      refine lv_iload hx hb dX8_page_113 (lv_at hl 5 rfl) ?_
      refine lv_aload_n hx hb dX8_page_115 rfl (lv_at hl 0 rfl) ?_
      refine hm_get S X hf_X8_198 0 rfl rfl dX8_page_116 ?_
      refine lv_icmp_ge (tgt := 172) hx hb dX8_page_119 (by decide) (fun c119 => ?_) (fun c119 => ?_)
      · have hF := hm_if hF c119
        exact hl172 v2 v3 v4 wA_14 wA_15 wA_16 wA_17 wA_18 wA_19 wA_20 wA_21 wA_22 wA_23 wZ_7 wZ_8 hF _ _ X _ (lv_sub hl [1, 2, 3, 4] rfl)
      · have hF := hm_nf hF c119
        refine lv_iload_n hx hb dX8_page_122 rfl (lv_at hl 3 rfl) ?_
        refine lv_aload_n hx hb dX8_page_123 rfl (lv_at hl 0 rfl) ?_
        refine hm_get S X hf_X8_80 0 rfl rfl dX8_page_124 ?_
        refine lv_iload hx hb dX8_page_127 (lv_at hl 5 rfl) ?_
        obtain ⟨t5, ht5, hF⟩ := hm_bd hF
        refine hm_zald S X ht5 24 rfl dX8_page_129 ?_
        refine lv_if_eq (tgt := 137) hx hb dX8_page_130 (by decide) (fun c130 => ?_) (fun c130 => ?_)
        · have hF := hm_if hF c130
          refine lv_iconst (v := 0) hx hb dX8_page_137 (by decide) ?_
          exact hl138 0 v3 v2 v4 v5 wA_14 wA_15 wA_16 wA_17 wA_18 wA_19 wA_20 wA_21 wA_22 wA_23 wZ_7 wZ_8 hF _ _ X _ (lv_sub hl [0, 1, 2, 4, 5] rfl)
        · have hF := hm_nf hF c130
          refine lv_iconst (v := 1) hx hb dX8_page_133 (by decide) ?_
          refine lv_goto (tgt := 138) hx hb dX8_page_134 (by decide) ?_
          exact hl138 1 v3 v2 v4 v5 wA_14 wA_15 wA_16 wA_17 wA_18 wA_19 wA_20 wA_21 wA_22 wA_23 wZ_7 wZ_8 hF _ _ X _ (lv_sub hl [0, 1, 2, 4, 5] rfl)
  have hl105 : ∀ (v2 : Int32) (wA_14 : Nat → Int32) (wA_15 : Nat → Int32) (wA_16 : Nat → Int32) (wA_17 : Nat → Int32) (wA_18 : Nat → Int32) (wA_19 : Nat → Int32) (wA_20 : Nat → Int32) (wA_21 : Nat → Int32) (wA_22 : Nat → Int32) (wA_23 : Nat → Int32) (wZ_7 : Int32) (wZ_8 : Int32), f_X8_page_l105 x0 v2 wA_14 wA_15 wA_16 wA_17 wA_18 wA_19 wA_20 wA_21 wA_22 wA_23 wZ_7 wZ_8 = some q → ∀ (H : Heap) (locs : List Loc), hm_X g AA s H locs (hm_wMM g a (hm_up (hm_up (hm_up (hm_up (hm_up (hm_up (hm_up (hm_up (hm_up (hm_up A 14 wA_14) 15 wA_15) 16 wA_16) 17 wA_17) 18 wA_18) 19 wA_19) 20 wA_20) 21 wA_21) 22 wA_22) 23 wA_23) (hm_up (hm_up Z 7 wZ_7) 8 wZ_8)) → ∀ ls : Array Slot, lv_has ls 6 [(0, .ref (a 0)), (1, .int x0), (2, .int v2)] → W p l e rm_X8_page s m args below meth c H locs 0 0 (MQ below (hm_Qi g AA (hm_wMM g a (hm_up (hm_up (hm_up (hm_up (hm_up (hm_up (hm_up (hm_up (hm_up (hm_up A 14 q.2.1) 15 q.2.2.1) 16 q.2.2.2.1) 17 q.2.2.2.2.1) 18 q.2.2.2.2.2.1) 19 q.2.2.2.2.2.2.1) 20 q.2.2.2.2.2.2.2.1) 21 q.2.2.2.2.2.2.2.2.1) 22 q.2.2.2.2.2.2.2.2.2.1) 23 q.2.2.2.2.2.2.2.2.2.2.1) (hm_up (hm_up Z 7 q.2.2.2.2.2.2.2.2.2.2.2.1) 8 q.2.2.2.2.2.2.2.2.2.2.2.2)) q.1) args s 0 0 AA) (F0 m 105 ls []) := by
    intro v2 wA_14 wA_15 wA_16 wA_17 wA_18 wA_19 wA_20 wA_21 wA_22 wA_23 wZ_7 wZ_8 hF H locs X ls hl
    unfold f_X8_page_l105 at hF
    refine lv_iconst (v := 0) hx hb dX8_page_105 (by decide) ?_
    refine lv_istore_n (lv' := [(3, .int 0), (0, .ref (a 0)), (1, .int x0), (2, .int v2)]) hx hb dX8_page_106 rfl hl (by decide) rfl (fun ls hl => ?_)
    refine lv_iconst (v := 0) hx hb dX8_page_107 (by decide) ?_
    refine lv_istore (lv' := [(4, .int 0), (3, .int 0), (0, .ref (a 0)), (1, .int x0), (2, .int v2)]) hx hb dX8_page_108 hl (by decide) rfl (fun ls hl => ?_)
    refine lv_iconst (v := 0) hx hb dX8_page_110 (by decide) ?_
    refine lv_istore (lv' := [(5, .int 0), (4, .int 0), (3, .int 0), (0, .ref (a 0)), (1, .int x0), (2, .int v2)]) hx hb dX8_page_111 hl (by decide) rfl (fun ls hl => ?_)
    exact hl113 hm_fu v2 0 0 0 wA_14 wA_15 wA_16 wA_17 wA_18 wA_19 wA_20 wA_21 wA_22 wA_23 wZ_7 wZ_8 hF _ _ X _ (lv_sub hl [3, 4, 5, 2, 1, 0] rfl)
  have hl69 : ∀ (k69 : Nat) (v2 : Int32) (v3 : Int32) (wA_14 : Nat → Int32) (wA_15 : Nat → Int32) (wA_16 : Nat → Int32) (wA_17 : Nat → Int32) (wA_18 : Nat → Int32) (wA_19 : Nat → Int32) (wA_20 : Nat → Int32) (wA_21 : Nat → Int32) (wA_22 : Nat → Int32) (wA_23 : Nat → Int32) (wZ_7 : Int32) (wZ_8 : Int32), f_X8_page_l69 (A 6) x0 k69 v2 v3 wA_14 wA_15 wA_16 wA_17 wA_18 wA_19 wA_20 wA_21 wA_22 wA_23 wZ_7 wZ_8 = some q → ∀ (H : Heap) (locs : List Loc), hm_X g AA s H locs (hm_wMM g a (hm_up (hm_up (hm_up (hm_up (hm_up (hm_up (hm_up (hm_up (hm_up (hm_up A 14 wA_14) 15 wA_15) 16 wA_16) 17 wA_17) 18 wA_18) 19 wA_19) 20 wA_20) 21 wA_21) 22 wA_22) 23 wA_23) (hm_up (hm_up Z 7 wZ_7) 8 wZ_8)) → ∀ ls : Array Slot, lv_has ls 6 [(0, .ref (a 0)), (1, .int x0), (2, .int v2), (3, .int v3)] → W p l e rm_X8_page s m args below meth c H locs 0 0 (MQ below (hm_Qi g AA (hm_wMM g a (hm_up (hm_up (hm_up (hm_up (hm_up (hm_up (hm_up (hm_up (hm_up (hm_up A 14 q.2.1) 15 q.2.2.1) 16 q.2.2.2.1) 17 q.2.2.2.2.1) 18 q.2.2.2.2.2.1) 19 q.2.2.2.2.2.2.1) 20 q.2.2.2.2.2.2.2.1) 21 q.2.2.2.2.2.2.2.2.1) 22 q.2.2.2.2.2.2.2.2.2.1) 23 q.2.2.2.2.2.2.2.2.2.2.1) (hm_up (hm_up Z 7 q.2.2.2.2.2.2.2.2.2.2.2.1) 8 q.2.2.2.2.2.2.2.2.2.2.2.2)) q.1) args s 0 0 AA) (F0 m 69 ls []) := by
    intro k69
    induction k69 with
    | zero =>
      intro v2 v3 wA_14 wA_15 wA_16 wA_17 wA_18 wA_19 wA_20 wA_21 wA_22 wA_23 wZ_7 wZ_8 hF
      rw [f_X8_page_l69_z] at hF
      cases hF
    | succ k69 ih69 =>
      have hl97 : ∀ (s97_0 : Int32) (s97_1 : Int32) (v3 : Int32) (wA_14 : Nat → Int32) (wA_15 : Nat → Int32) (wA_16 : Nat → Int32) (wA_17 : Nat → Int32) (wA_18 : Nat → Int32) (wA_19 : Nat → Int32) (wA_20 : Nat → Int32) (wA_21 : Nat → Int32) (wA_22 : Nat → Int32) (wA_23 : Nat → Int32) (wZ_7 : Int32) (wZ_8 : Int32), f_X8_page_l97 (fun zv2 zv3 zwA_14 zwA_15 zwA_16 zwA_17 zwA_18 zwA_19 zwA_20 zwA_21 zwA_22 zwA_23 zwZ_7 zwZ_8 => f_X8_page_l69 (A 6) x0 k69 zv2 zv3 zwA_14 zwA_15 zwA_16 zwA_17 zwA_18 zwA_19 zwA_20 zwA_21 zwA_22 zwA_23 zwZ_7 zwZ_8) s97_0 s97_1 v3 wA_14 wA_15 wA_16 wA_17 wA_18 wA_19 wA_20 wA_21 wA_22 wA_23 wZ_7 wZ_8 = some q → ∀ (H : Heap) (locs : List Loc), hm_X g AA s H locs (hm_wMM g a (hm_up (hm_up (hm_up (hm_up (hm_up (hm_up (hm_up (hm_up (hm_up (hm_up A 14 wA_14) 15 wA_15) 16 wA_16) 17 wA_17) 18 wA_18) 19 wA_19) 20 wA_20) 21 wA_21) 22 wA_22) 23 wA_23) (hm_up (hm_up Z 7 wZ_7) 8 wZ_8)) → ∀ ls : Array Slot, lv_has ls 6 [(0, .ref (a 0)), (1, .int x0), (3, .int v3)] → W p l e rm_X8_page s m args below meth c H locs 0 0 (MQ below (hm_Qi g AA (hm_wMM g a (hm_up (hm_up (hm_up (hm_up (hm_up (hm_up (hm_up (hm_up (hm_up (hm_up A 14 q.2.1) 15 q.2.2.1) 16 q.2.2.2.1) 17 q.2.2.2.2.1) 18 q.2.2.2.2.2.1) 19 q.2.2.2.2.2.2.1) 20 q.2.2.2.2.2.2.2.1) 21 q.2.2.2.2.2.2.2.2.1) 22 q.2.2.2.2.2.2.2.2.2.1) 23 q.2.2.2.2.2.2.2.2.2.2.1) (hm_up (hm_up Z 7 q.2.2.2.2.2.2.2.2.2.2.2.1) 8 q.2.2.2.2.2.2.2.2.2.2.2.2)) q.1) args s 0 0 AA) (F0 m 97 ls [.int s97_0, .int s97_1]) := by
        intro s97_0 s97_1 v3 wA_14 wA_15 wA_16 wA_17 wA_18 wA_19 wA_20 wA_21 wA_22 wA_23 wZ_7 wZ_8 hF H locs X ls hl
        unfold f_X8_page_l97 at hF
        refine lv_iadd hx hb dX8_page_97 ?_
        refine lv_istore_n (lv' := [(2, .int (s97_1 + s97_0)), (0, .ref (a 0)), (1, .int x0), (3, .int v3)]) hx hb dX8_page_98 rfl hl (by decide) rfl (fun ls hl => ?_)
        refine lv_iinc (v := (v3 + 1)) (lv' := [(3, .int (v3 + 1)), (2, .int (s97_1 + s97_0)), (0, .ref (a 0)), (1, .int x0)]) hx hb dX8_page_99 hl (k := 3) rfl rfl (by decide) rfl (fun ls hl => ?_)
        refine lv_goto (tgt := 69) hx hb dX8_page_102 (by decide) ?_
        exact ih69 (s97_1 + s97_0) (v3 + 1) wA_14 wA_15 wA_16 wA_17 wA_18 wA_19 wA_20 wA_21 wA_22 wA_23 wZ_7 wZ_8 hF _ _ X _ (lv_sub hl [2, 3, 1, 0] rfl)
      intro v2 v3 wA_14 wA_15 wA_16 wA_17 wA_18 wA_19 wA_20 wA_21 wA_22 wA_23 wZ_7 wZ_8 hF H locs X ls hl
      rw [f_X8_page_l69_s] at hF
      refine lv_iload_n hx hb dX8_page_69 rfl (lv_at hl 3 rfl) ?_
      refine lv_aload_n hx hb dX8_page_70 rfl (lv_at hl 0 rfl) ?_
      refine hm_get S X hf_X8_183 0 rfl rfl dX8_page_71 ?_
      refine lv_icmp_ge (tgt := 105) hx hb dX8_page_74 (by decide) (fun c74 => ?_) (fun c74 => ?_)
      · have hF := hm_if hF c74
        exact hl105 v2 wA_14 wA_15 wA_16 wA_17 wA_18 wA_19 wA_20 wA_21 wA_22 wA_23 wZ_7 wZ_8 hF _ _ X _ (lv_sub hl [0, 1, 2] rfl)
      · have hF := hm_nf hF c74
        refine lv_iload_n hx hb dX8_page_77 rfl (lv_at hl 2 rfl) ?_
        refine lv_aload_n hx hb dX8_page_78 rfl (lv_at hl 0 rfl) ?_
        refine hm_get S X hf_X8_28 0 rfl rfl dX8_page_79 ?_
        refine lv_aload_n hx hb dX8_page_82 rfl (lv_at hl 0 rfl) ?_
        refine hm_get S X hf_X8_65 0 rfl rfl dX8_page_83 ?_
        refine lv_iload_n hx hb dX8_page_86 rfl (lv_at hl 3 rfl) ?_
        obtain ⟨t8, ht8, hF⟩ := hm_bd hF
        refine hm_iald S X ht8 19 rfl dX8_page_87 ?_
        obtain ⟨t9, ht9, hF⟩ := hm_bd hF
        refine hm_zald S X ht9 7 rfl dX8_page_88 ?_
        refine lv_if_eq (tgt := 96) hx hb dX8_page_89 (by decide) (fun c89 => ?_) (fun c89 => ?_)
        · have hF := hm_if hF c89
          refine lv_iconst (v := 0) hx hb dX8_page_96 (by decide) ?_
          exact hl97 0 v2 v3 wA_14 wA_15 wA_16 wA_17 wA_18 wA_19 wA_20 wA_21 wA_22 wA_23 wZ_7 wZ_8 hF _ _ X _ (lv_sub hl [0, 1, 3] rfl)
        · have hF := hm_nf hF c89
          refine lv_iconst (v := 1) hx hb dX8_page_92 (by decide) ?_
          refine lv_goto (tgt := 97) hx hb dX8_page_93 (by decide) ?_
          exact hl97 1 v2 v3 wA_14 wA_15 wA_16 wA_17 wA_18 wA_19 wA_20 wA_21 wA_22 wA_23 wZ_7 wZ_8 hF _ _ X _ (lv_sub hl [0, 1, 3] rfl)
  unfold f_X8_page at hF
  refine lv_iload_n hx hb dX8_page_0 rfl (lv_at hl 1 rfl) ?_
  refine lv_iconst (v := 0) hx hb dX8_page_1 (by decide) ?_
  refine lv_iconst (v := 5) hx hb dX8_page_2 (by decide) ?_
  obtain ⟨t1, ht1, hF⟩ := hm_bd hF
  refine hm_si S X mw_X8_in hw_4_193 (c_X8_in l g x0 0 5 t1 ht1) (List.Perm.refl _) (List.Perm.refl _) ⟨rfl, rfl, Nat.le_of_ble_eq_true rfl, Nat.le_of_ble_eq_true rfl⟩ rfl hl.1 rfl (Nat.le_of_ble_eq_true rfl) dX8_page_3 ⟨Nat.zero_le _, Nat.zero_le _⟩ (fun H locs X => ?_)
  refine lv_if_ne (tgt := 11) hx hb dX8_page_6 (by decide) (fun c6 => ?_) (fun c6 => ?_)
  · have hF := hm_nf hF c6
    refine lv_aload_n hx hb dX8_page_11 rfl (lv_at hl 0 rfl) ?_
    refine lv_aload_n hx hb dX8_page_12 rfl (lv_at hl 0 rfl) ?_
    refine hm_get S X hf_X8_32 0 rfl rfl dX8_page_13 ?_
    refine lv_bipush (v := 35) hx hb dX8_page_16 (by decide) ?_
    obtain ⟨t2, ht2, hF⟩ := hm_bd hF
    refine hm_iald S X ht2 8 rfl dX8_page_18 ?_
    obtain ⟨t3, ht3, hF⟩ := hm_bd hF
    refine hm_vi (As := [.int t2]) S X mw_X8_laysPage hw_5_41 (c_X8_laysPage l g a A Z t2 t3 ht3) hm_same hm_same rfl rfl rfl ⟨rfl, rfl, Nat.le_of_ble_eq_true rfl, Nat.le_of_ble_eq_true rfl⟩ rfl hl.1 rfl (Nat.le_of_ble_eq_true rfl) dX8_page_19 ⟨Nat.zero_le _, Nat.zero_le _⟩ (fun H locs X => ?_)
    refine lv_if_ne (tgt := 28) hx hb dX8_page_22 (by decide) (fun c22 => ?_) (fun c22 => ?_)
    · have hF := hm_nf hF c22
      refine lv_iload_n hx hb dX8_page_28 rfl (lv_at hl 1 rfl) ?_
      refine lv_iconst (v := 2) hx hb dX8_page_29 (by decide) ?_
      refine lv_icmp_ge (tgt := 51) hx hb dX8_page_30 (by decide) (fun c30 => ?_) (fun c30 => ?_)
      · have hF := hm_if hF c30
        refine lv_iload_n hx hb dX8_page_51 rfl (lv_at hl 1 rfl) ?_
        refine lv_iconst (v := 3) hx hb dX8_page_52 (by decide) ?_
        refine lv_icmp_ne (tgt := 61) hx hb dX8_page_53 (by decide) (fun c53 => ?_) (fun c53 => ?_)
        · have hF := hm_nf hF c53
          refine lv_aload_n hx hb dX8_page_61 rfl (lv_at hl 0 rfl) ?_
          obtain ⟨t4, ht4, hF⟩ := hm_bd hF
          refine hm_vv (As := []) S X mw_X8_laysBlanks hw_5_101 (c_X8_laysBlanks l g a (hm_up (hm_up (hm_up (hm_up (hm_up A 14 t3.2.1) 15 t3.2.2.1) 16 t3.2.2.2.1) 17 t3.2.2.2.2.1) 18 t3.2.2.2.2.2.1) (hm_up Z 7 t3.2.2.2.2.2.2) t4 ht4) hm_same hm_same rfl rfl rfl ⟨rfl, rfl, Nat.le_of_ble_eq_true rfl, Nat.le_of_ble_eq_true rfl⟩ rfl hl.1 rfl (Nat.le_of_ble_eq_true rfl) dX8_page_62 ⟨Nat.zero_le _, Nat.zero_le _⟩ (fun H locs X => ?_)
          refine lv_iconst (v := 0) hx hb dX8_page_65 (by decide) ?_
          refine lv_istore_n (lv' := [(2, .int 0), (0, .ref (a 0)), (1, .int x0)]) hx hb dX8_page_66 rfl hl (by decide) rfl (fun ls hl => ?_)
          refine lv_iconst (v := 0) hx hb dX8_page_67 (by decide) ?_
          refine lv_istore_n (lv' := [(3, .int 0), (2, .int 0), (0, .ref (a 0)), (1, .int x0)]) hx hb dX8_page_68 rfl hl (by decide) rfl (fun ls hl => ?_)
          exact hl69 hm_fu 0 0 t3.2.1 t3.2.2.1 t3.2.2.2.1 t3.2.2.2.2.1 t3.2.2.2.2.2.1 t4.1 t4.2.1 t4.2.2.1 t4.2.2.2.1 t4.2.2.2.2.1 t3.2.2.2.2.2.2 t4.2.2.2.2.2 hF _ _ X _ (lv_sub hl [2, 3, 1, 0] rfl)
        · have hF := hm_if hF c53
          refine lv_aload_n hx hb dX8_page_56 rfl (lv_at hl 0 rfl) ?_
          obtain ⟨t10, ht10, hF⟩ := hm_bd hF
          refine hm_vi (As := []) S X mw_X8_rough hw_5_77 (c_X8_rough l g a (hm_up (hm_up (hm_up (hm_up (hm_up A 14 t3.2.1) 15 t3.2.2.1) 16 t3.2.2.2.1) 17 t3.2.2.2.2.1) 18 t3.2.2.2.2.2.1) (hm_up Z 7 t3.2.2.2.2.2.2) t10 ht10) hm_same hm_same rfl rfl rfl ⟨rfl, rfl, Nat.le_of_ble_eq_true rfl, Nat.le_of_ble_eq_true rfl⟩ rfl hl.1 rfl (Nat.le_of_ble_eq_true rfl) dX8_page_57 ⟨Nat.zero_le _, Nat.zero_le _⟩ (fun H locs X => ?_)
          obtain rfl := Option.some.inj hF
          exact hm_ri S hr hlk X rfl rfl dX8_page_60
      · have hF := hm_nf hF c30
        refine lv_iload_n hx hb dX8_page_33 rfl (lv_at hl 1 rfl) ?_
        refine lv_if_ne (tgt := 46) hx hb dX8_page_34 (by decide) (fun c34 => ?_) (fun c34 => ?_)
        · have hF := hm_nf hF c34
          refine lv_aload_n hx hb dX8_page_46 rfl (lv_at hl 0 rfl) ?_
          refine hm_get S X hf_X8_183 0 rfl rfl dX8_page_47 ?_
          obtain rfl := Option.some.inj hF
          exact hm_ri S hr hlk X rfl rfl dX8_page_50
        · have hF := hm_if hF c34
          refine lv_aload_n hx hb dX8_page_37 rfl (lv_at hl 0 rfl) ?_
          refine hm_get S X hf_X8_56 0 rfl rfl dX8_page_38 ?_
          refine lv_iconst (v := 0) hx hb dX8_page_41 (by decide) ?_
          obtain ⟨t11, ht11, hF⟩ := hm_bd hF
          refine hm_iald S X ht11 16 rfl dX8_page_42 ?_
          refine lv_goto (tgt := 50) hx hb dX8_page_43 (by decide) ?_
          obtain rfl := Option.some.inj hF
          exact hm_ri S hr hlk X rfl rfl dX8_page_50
    · have hF := hm_if hF c22
      refine lv_bipush (v := (-9)) hx hb dX8_page_25 (by decide) ?_
      obtain rfl := Option.some.inj hF
      exact hm_ri S hr hlk X rfl rfl dX8_page_27
  · have hF := hm_if hF c6
    refine lv_iconst (v := (-1)) hx hb dX8_page_9 (by decide) ?_
    obtain rfl := Option.some.inj hF
    exact hm_ri S hr hlk X rfl rfl dX8_page_10
def f_X8_line (A_1 : Nat → Int32) (A_2 : Nat → Int32) (A_4 : Nat → Int32) (A_5 : Nat → Int32) (A_6 : Nat → Int32) (A_7 : Nat → Int32) (A_14 : Nat → Int32) (A_15 : Nat → Int32) (A_16 : Nat → Int32) (A_17 : Nat → Int32) (A_18 : Nat → Int32) (Z_1 : Int32) (Z_3 : Int32) (Z_7 : Int32) (x0 : Int32) (x1 : Int32)  : Option (Int32 × (Nat → Int32) × (Nat → Int32) × (Nat → Int32) × (Nat → Int32) × (Nat → Int32) × Int32) :=
  if x0 < 0 then (
  some ((-1), A_14, A_15, A_16, A_17, A_18, Z_7))
  else (
  (f_X8_in x1 0 6).bind fun t1 =>
  if t1 = 0 then (
  some ((-1), A_14, A_15, A_16, A_17, A_18, Z_7))
  else (
  (hm_rd 38 A_7 35).bind fun t2 =>
  (f_X8_laysPage A_1 A_2 A_4 A_5 A_6 A_7 A_14 A_15 A_16 A_17 A_18 Z_1 Z_3 t2).bind fun t3 =>
  if t3.1 = 0 then (
  some ((-9), t3.2.1, t3.2.2.1, t3.2.2.2.1, t3.2.2.2.2.1, t3.2.2.2.2.2.1, t3.2.2.2.2.2.2))
  else (
  if x0 < t3.2.2.2.2.2.2 then (
  if x1 = 0 then (
  (hm_rd 104 t3.2.2.2.2.2.1 x0).bind fun t4 =>
  some (t4, t3.2.1, t3.2.2.1, t3.2.2.2.1, t3.2.2.2.2.1, t3.2.2.2.2.2.1, t3.2.2.2.2.2.2))
  else (
  if x1 = 1 then (
  (f_X8_before t3.2.2.2.2.2.1 x0).bind fun t5 =>
  (hm_rd 104 t3.2.2.2.2.2.1 x0).bind fun t6 =>
  (f_X8_natural A_2 A_4 A_5 A_6 A_7 t3.2.1 t5 t6).bind fun t7 =>
  some (t7, t3.2.1, t3.2.2.1, t3.2.2.2.1, t3.2.2.2.2.1, t3.2.2.2.2.2.1, t3.2.2.2.2.2.2))
  else (
  if x1 = 2 then (
  (hm_rd 104 t3.2.2.2.2.2.1 x0).bind fun t8 =>
  (f_X8_hung A_1 A_5 A_6 A_7 t8).bind fun t9 =>
  some (t9, t3.2.1, t3.2.2.1, t3.2.2.2.1, t3.2.2.2.2.1, t3.2.2.2.2.2.1, t3.2.2.2.2.2.2))
  else (
  if x1 = 3 then (
  (f_X8_leftIn A_1 A_2 A_4 A_5 A_6 A_7 t3.2.1 t3.2.2.2.2.2.1 x0).bind fun t10 =>
  some (t10, t3.2.1, t3.2.2.1, t3.2.2.2.1, t3.2.2.2.2.1, t3.2.2.2.2.2.1, t3.2.2.2.2.2.2))
  else (
  if x1 = 4 then (
  (f_X8_before t3.2.2.2.2.2.1 x0).bind fun t11 =>
  (hm_rd 104 t3.2.2.2.2.2.1 x0).bind fun t12 =>
  (f_X8_leftIn A_1 A_2 A_4 A_5 A_6 A_7 t3.2.1 t3.2.2.2.2.2.1 x0).bind fun t13 =>
  (f_X8_costOf A_6 A_7 Z_3 t11 t12 t13).bind fun t14 =>
  some (t14, t3.2.1, t3.2.2.1, t3.2.2.2.1, t3.2.2.2.2.1, t3.2.2.2.2.2.1, t3.2.2.2.2.2.2))
  else (
  if x1 = 5 then (
  (f_X8_blanksOf A_4 A_6 t3.2.2.2.2.2.1 x0).bind fun t15 =>
  some (t15, t3.2.1, t3.2.2.1, t3.2.2.2.1, t3.2.2.2.2.1, t3.2.2.2.2.2.1, t3.2.2.2.2.2.2))
  else (
  (f_X8_endOf A_1 A_2 A_4 A_5 A_6 A_7 t3.2.1 t3.2.2.2.2.2.1 t3.2.2.2.2.2.2 x0).bind fun t16 =>
  some (t16, t3.2.1, t3.2.2.1, t3.2.2.2.1, t3.2.2.2.2.1, t3.2.2.2.2.2.1, t3.2.2.2.2.2.2))))))))
  else (
  some ((-1), t3.2.1, t3.2.2.1, t3.2.2.2.1, t3.2.2.2.2.1, t3.2.2.2.2.2.1, t3.2.2.2.2.2.2)))))
abbrev rm_X8_line : Room := { frames := 6, cells := 0, slots := 0, locals := 137 }
set_option maxHeartbeats 4000000 in
set_option maxRecDepth 100000 in
theorem c_X8_line (l : Launch) (g : hm_G) (a : Nat → Nat) (A : Nat → Nat → Int32) (Z : Nat → Int32) (x0 : Int32) (x1 : Int32) (q : Int32 × (Nat → Int32) × (Nat → Int32) × (Nat → Int32) × (Nat → Int32) × (Nat → Int32) × Int32) (hF : f_X8_line (A 1) (A 2) (A 4) (A 5) (A 6) (A 7) (A 14) (A 15) (A 16) (A 17) (A 18) (Z 1) (Z 3) (Z 7) x0 x1 = some q) : hm_Mi l yX8_line (Cond.code yX8_line cX8_line 3 (some .int) :: hm_W) rm_X8_line g [.ref (a 0), .int x0, .int x1] (hm_wMM g a A Z) (hm_wMM g a (hm_up (hm_up (hm_up (hm_up (hm_up A 14 q.2.1) 15 q.2.2.1) 16 q.2.2.2.1) 17 q.2.2.2.2.1) 18 q.2.2.2.2.2.1) (hm_up Z 7 q.2.2.2.2.2.2)) q.1 := by
  refine hm_ofi [(0, .ref (a 0)), (1, .int x0), (2, .int x1)] (by decide) (own := RX8) rfl (Nat.le_of_ble_eq_true rfl) rfl rfl ?_
  intro p e s m args below meth c AA S hr hlk X ls hl
  have hx := S.1
  have hb := S.2.1
  have hown := S.2.2.2.1
  have hts := S.2.2.2.2
  unfold f_X8_line at hF
  refine lv_iload_n hx hb dX8_line_0 rfl (lv_at hl 1 rfl) ?_
  refine lv_if_lt (tgt := 14) hx hb dX8_line_1 (by decide) (fun c1 => ?_) (fun c1 => ?_)
  · have hF := hm_if hF c1
    refine lv_iconst (v := (-1)) hx hb dX8_line_14 (by decide) ?_
    obtain rfl := Option.some.inj hF
    exact hm_ri S hr hlk X rfl rfl dX8_line_15
  · have hF := hm_nf hF c1
    refine lv_iload_n hx hb dX8_line_4 rfl (lv_at hl 2 rfl) ?_
    refine lv_iconst (v := 0) hx hb dX8_line_5 (by decide) ?_
    refine lv_bipush (v := 6) hx hb dX8_line_6 (by decide) ?_
    obtain ⟨t1, ht1, hF⟩ := hm_bd hF
    refine hm_si S X mw_X8_in hw_4_193 (c_X8_in l g x1 0 6 t1 ht1) (List.Perm.refl _) (List.Perm.refl _) ⟨rfl, rfl, Nat.le_of_ble_eq_true rfl, Nat.le_of_ble_eq_true rfl⟩ rfl hl.1 rfl (Nat.le_of_ble_eq_true rfl) dX8_line_8 ⟨Nat.zero_le _, Nat.zero_le _⟩ (fun H locs X => ?_)
    refine lv_if_ne (tgt := 16) hx hb dX8_line_11 (by decide) (fun c11 => ?_) (fun c11 => ?_)
    · have hF := hm_nf hF c11
      refine lv_aload_n hx hb dX8_line_16 rfl (lv_at hl 0 rfl) ?_
      refine lv_aload_n hx hb dX8_line_17 rfl (lv_at hl 0 rfl) ?_
      refine hm_get S X hf_X8_32 0 rfl rfl dX8_line_18 ?_
      refine lv_bipush (v := 35) hx hb dX8_line_21 (by decide) ?_
      obtain ⟨t2, ht2, hF⟩ := hm_bd hF
      refine hm_iald S X ht2 8 rfl dX8_line_23 ?_
      obtain ⟨t3, ht3, hF⟩ := hm_bd hF
      refine hm_vi (As := [.int t2]) S X mw_X8_laysPage hw_5_41 (c_X8_laysPage l g a A Z t2 t3 ht3) hm_same hm_same rfl rfl rfl ⟨rfl, rfl, Nat.le_of_ble_eq_true rfl, Nat.le_of_ble_eq_true rfl⟩ rfl hl.1 rfl (Nat.le_of_ble_eq_true rfl) dX8_line_24 ⟨Nat.zero_le _, Nat.zero_le _⟩ (fun H locs X => ?_)
      refine lv_if_ne (tgt := 33) hx hb dX8_line_27 (by decide) (fun c27 => ?_) (fun c27 => ?_)
      · have hF := hm_nf hF c27
        refine lv_iload_n hx hb dX8_line_33 rfl (lv_at hl 1 rfl) ?_
        refine lv_aload_n hx hb dX8_line_34 rfl (lv_at hl 0 rfl) ?_
        refine hm_get S X hf_X8_183 0 rfl rfl dX8_line_35 ?_
        refine lv_icmp_lt (tgt := 43) hx hb dX8_line_38 (by decide) (fun c38 => ?_) (fun c38 => ?_)
        · have hF := hm_if hF c38
          refine lv_iload_n hx hb dX8_line_43 rfl (lv_at hl 2 rfl) ?_
          by_cases c44_0 : x1 = 0
          · have hF := hm_if hF c44_0
            refine hm_tabIn (off := 40) (tgt := 84) (k := 0) hx hb dX8_line_44 c44_0 (by decide) (by decide) (by decide) rfl (by decide) ?_
            refine lv_aload_n hx hb dX8_line_84 rfl (lv_at hl 0 rfl) ?_
            refine hm_get S X hf_X8_65 0 rfl rfl dX8_line_85 ?_
            refine lv_iload_n hx hb dX8_line_88 rfl (lv_at hl 1 rfl) ?_
            obtain ⟨t4, ht4, hF⟩ := hm_bd hF
            refine hm_iald S X ht4 19 rfl dX8_line_89 ?_
            obtain rfl := Option.some.inj hF
            exact hm_ri S hr hlk X rfl rfl dX8_line_90
          · have hF := hm_nf hF c44_0
            by_cases c44_1 : x1 = 1
            · have hF := hm_if hF c44_1
              refine hm_tabIn (off := 47) (tgt := 91) (k := 1) hx hb dX8_line_44 c44_1 (by decide) (by decide) (by decide) rfl (by decide) ?_
              refine lv_aload_n hx hb dX8_line_91 rfl (lv_at hl 0 rfl) ?_
              refine lv_aload_n hx hb dX8_line_92 rfl (lv_at hl 0 rfl) ?_
              refine lv_iload_n hx hb dX8_line_93 rfl (lv_at hl 1 rfl) ?_
              obtain ⟨t5, ht5, hF⟩ := hm_bd hF
              refine hm_vi (As := [.int x0]) S X mw_X8_before hw_5_85 (c_X8_before l g a (hm_up (hm_up (hm_up (hm_up (hm_up A 14 t3.2.1) 15 t3.2.2.1) 16 t3.2.2.2.1) 17 t3.2.2.2.2.1) 18 t3.2.2.2.2.2.1) (hm_up Z 7 t3.2.2.2.2.2.2) x0 t5 ht5) hm_same hm_same rfl rfl rfl ⟨rfl, rfl, Nat.le_of_ble_eq_true rfl, Nat.le_of_ble_eq_true rfl⟩ rfl hl.1 rfl (Nat.le_of_ble_eq_true rfl) dX8_line_94 ⟨Nat.zero_le _, Nat.zero_le _⟩ (fun H locs X => ?_)
              refine lv_aload_n hx hb dX8_line_97 rfl (lv_at hl 0 rfl) ?_
              refine hm_get S X hf_X8_65 0 rfl rfl dX8_line_98 ?_
              refine lv_iload_n hx hb dX8_line_101 rfl (lv_at hl 1 rfl) ?_
              obtain ⟨t6, ht6, hF⟩ := hm_bd hF
              refine hm_iald S X ht6 19 rfl dX8_line_102 ?_
              obtain ⟨t7, ht7, hF⟩ := hm_bd hF
              refine hm_vi (As := [.int t5, .int t6]) S X mw_X8_natural hw_5_61 (c_X8_natural l g a (hm_up (hm_up (hm_up (hm_up (hm_up A 14 t3.2.1) 15 t3.2.2.1) 16 t3.2.2.2.1) 17 t3.2.2.2.2.1) 18 t3.2.2.2.2.2.1) (hm_up Z 7 t3.2.2.2.2.2.2) t5 t6 t7 ht7) hm_same hm_same rfl rfl rfl ⟨rfl, rfl, Nat.le_of_ble_eq_true rfl, Nat.le_of_ble_eq_true rfl⟩ rfl hl.1 rfl (Nat.le_of_ble_eq_true rfl) dX8_line_103 ⟨Nat.zero_le _, Nat.zero_le _⟩ (fun H locs X => ?_)
              obtain rfl := Option.some.inj hF
              exact hm_ri S hr hlk X rfl rfl dX8_line_106
            · have hF := hm_nf hF c44_1
              by_cases c44_2 : x1 = 2
              · have hF := hm_if hF c44_2
                refine hm_tabIn (off := 63) (tgt := 107) (k := 2) hx hb dX8_line_44 c44_2 (by decide) (by decide) (by decide) rfl (by decide) ?_
                refine lv_aload_n hx hb dX8_line_107 rfl (lv_at hl 0 rfl) ?_
                refine lv_aload_n hx hb dX8_line_108 rfl (lv_at hl 0 rfl) ?_
                refine hm_get S X hf_X8_65 0 rfl rfl dX8_line_109 ?_
                refine lv_iload_n hx hb dX8_line_112 rfl (lv_at hl 1 rfl) ?_
                obtain ⟨t8, ht8, hF⟩ := hm_bd hF
                refine hm_iald S X ht8 19 rfl dX8_line_113 ?_
                obtain ⟨t9, ht9, hF⟩ := hm_bd hF
                refine hm_vi (As := [.int t8]) S X mw_X8_hung hw_5_57 (c_X8_hung l g a (hm_up (hm_up (hm_up (hm_up (hm_up A 14 t3.2.1) 15 t3.2.2.1) 16 t3.2.2.2.1) 17 t3.2.2.2.2.1) 18 t3.2.2.2.2.2.1) (hm_up Z 7 t3.2.2.2.2.2.2) t8 t9 ht9) hm_same hm_same rfl rfl rfl ⟨rfl, rfl, Nat.le_of_ble_eq_true rfl, Nat.le_of_ble_eq_true rfl⟩ rfl hl.1 rfl (Nat.le_of_ble_eq_true rfl) dX8_line_114 ⟨Nat.zero_le _, Nat.zero_le _⟩ (fun H locs X => ?_)
                obtain rfl := Option.some.inj hF
                exact hm_ri S hr hlk X rfl rfl dX8_line_117
              · have hF := hm_nf hF c44_2
                by_cases c44_3 : x1 = 3
                · have hF := hm_if hF c44_3
                  refine hm_tabIn (off := 74) (tgt := 118) (k := 3) hx hb dX8_line_44 c44_3 (by decide) (by decide) (by decide) rfl (by decide) ?_
                  refine lv_aload_n hx hb dX8_line_118 rfl (lv_at hl 0 rfl) ?_
                  refine lv_iload_n hx hb dX8_line_119 rfl (lv_at hl 1 rfl) ?_
                  obtain ⟨t10, ht10, hF⟩ := hm_bd hF
                  refine hm_vi (As := [.int x0]) S X mw_X8_leftIn hw_5_97 (c_X8_leftIn l g a (hm_up (hm_up (hm_up (hm_up (hm_up A 14 t3.2.1) 15 t3.2.2.1) 16 t3.2.2.2.1) 17 t3.2.2.2.2.1) 18 t3.2.2.2.2.2.1) (hm_up Z 7 t3.2.2.2.2.2.2) x0 t10 ht10) hm_same hm_same rfl rfl rfl ⟨rfl, rfl, Nat.le_of_ble_eq_true rfl, Nat.le_of_ble_eq_true rfl⟩ rfl hl.1 rfl (Nat.le_of_ble_eq_true rfl) dX8_line_120 ⟨Nat.zero_le _, Nat.zero_le _⟩ (fun H locs X => ?_)
                  obtain rfl := Option.some.inj hF
                  exact hm_ri S hr hlk X rfl rfl dX8_line_123
                · have hF := hm_nf hF c44_3
                  by_cases c44_4 : x1 = 4
                  · have hF := hm_if hF c44_4
                    refine hm_tabIn (off := 80) (tgt := 124) (k := 4) hx hb dX8_line_44 c44_4 (by decide) (by decide) (by decide) rfl (by decide) ?_
                    refine lv_aload_n hx hb dX8_line_124 rfl (lv_at hl 0 rfl) ?_
                    refine lv_aload_n hx hb dX8_line_125 rfl (lv_at hl 0 rfl) ?_
                    refine lv_iload_n hx hb dX8_line_126 rfl (lv_at hl 1 rfl) ?_
                    obtain ⟨t11, ht11, hF⟩ := hm_bd hF
                    refine hm_vi (As := [.int x0]) S X mw_X8_before hw_5_85 (c_X8_before l g a (hm_up (hm_up (hm_up (hm_up (hm_up A 14 t3.2.1) 15 t3.2.2.1) 16 t3.2.2.2.1) 17 t3.2.2.2.2.1) 18 t3.2.2.2.2.2.1) (hm_up Z 7 t3.2.2.2.2.2.2) x0 t11 ht11) hm_same hm_same rfl rfl rfl ⟨rfl, rfl, Nat.le_of_ble_eq_true rfl, Nat.le_of_ble_eq_true rfl⟩ rfl hl.1 rfl (Nat.le_of_ble_eq_true rfl) dX8_line_127 ⟨Nat.zero_le _, Nat.zero_le _⟩ (fun H locs X => ?_)
                    refine lv_aload_n hx hb dX8_line_130 rfl (lv_at hl 0 rfl) ?_
                    refine hm_get S X hf_X8_65 0 rfl rfl dX8_line_131 ?_
                    refine lv_iload_n hx hb dX8_line_134 rfl (lv_at hl 1 rfl) ?_
                    obtain ⟨t12, ht12, hF⟩ := hm_bd hF
                    refine hm_iald S X ht12 19 rfl dX8_line_135 ?_
                    refine lv_aload_n hx hb dX8_line_136 rfl (lv_at hl 0 rfl) ?_
                    refine lv_iload_n hx hb dX8_line_137 rfl (lv_at hl 1 rfl) ?_
                    obtain ⟨t13, ht13, hF⟩ := hm_bd hF
                    refine hm_vi (As := [.int x0]) S X mw_X8_leftIn hw_5_97 (c_X8_leftIn l g a (hm_up (hm_up (hm_up (hm_up (hm_up A 14 t3.2.1) 15 t3.2.2.1) 16 t3.2.2.2.1) 17 t3.2.2.2.2.1) 18 t3.2.2.2.2.2.1) (hm_up Z 7 t3.2.2.2.2.2.2) x0 t13 ht13) hm_same hm_same rfl rfl rfl ⟨rfl, rfl, Nat.le_of_ble_eq_true rfl, Nat.le_of_ble_eq_true rfl⟩ rfl hl.1 rfl (Nat.le_of_ble_eq_true rfl) dX8_line_138 ⟨Nat.zero_le _, Nat.zero_le _⟩ (fun H locs X => ?_)
                    obtain ⟨t14, ht14, hF⟩ := hm_bd hF
                    refine hm_vi (As := [.int t11, .int t12, .int t13]) S X mw_X8_costOf hw_5_73 (c_X8_costOf l g a (hm_up (hm_up (hm_up (hm_up (hm_up A 14 t3.2.1) 15 t3.2.2.1) 16 t3.2.2.2.1) 17 t3.2.2.2.2.1) 18 t3.2.2.2.2.2.1) (hm_up Z 7 t3.2.2.2.2.2.2) t11 t12 t13 t14 ht14) hm_same hm_same rfl rfl rfl ⟨rfl, rfl, Nat.le_of_ble_eq_true rfl, Nat.le_of_ble_eq_true rfl⟩ rfl hl.1 rfl (Nat.le_of_ble_eq_true rfl) dX8_line_141 ⟨Nat.zero_le _, Nat.zero_le _⟩ (fun H locs X => ?_)
                    obtain rfl := Option.some.inj hF
                    exact hm_ri S hr hlk X rfl rfl dX8_line_144
                  · have hF := hm_nf hF c44_4
                    by_cases c44_5 : x1 = 5
                    · have hF := hm_if hF c44_5
                      refine hm_tabIn (off := 101) (tgt := 145) (k := 5) hx hb dX8_line_44 c44_5 (by decide) (by decide) (by decide) rfl (by decide) ?_
                      refine lv_aload_n hx hb dX8_line_145 rfl (lv_at hl 0 rfl) ?_
                      refine lv_iload_n hx hb dX8_line_146 rfl (lv_at hl 1 rfl) ?_
                      obtain ⟨t15, ht15, hF⟩ := hm_bd hF
                      refine hm_vi (As := [.int x0]) S X mw_X8_blanksOf hw_5_93 (c_X8_blanksOf l g a (hm_up (hm_up (hm_up (hm_up (hm_up A 14 t3.2.1) 15 t3.2.2.1) 16 t3.2.2.2.1) 17 t3.2.2.2.2.1) 18 t3.2.2.2.2.2.1) (hm_up Z 7 t3.2.2.2.2.2.2) x0 t15 ht15) hm_same hm_same rfl rfl rfl ⟨rfl, rfl, Nat.le_of_ble_eq_true rfl, Nat.le_of_ble_eq_true rfl⟩ rfl hl.1 rfl (Nat.le_of_ble_eq_true rfl) dX8_line_147 ⟨Nat.zero_le _, Nat.zero_le _⟩ (fun H locs X => ?_)
                      obtain rfl := Option.some.inj hF
                      exact hm_ri S hr hlk X rfl rfl dX8_line_150
                    · have hF := hm_nf hF c44_5
                      refine lv_tableOut (tgt := 151) hx hb dX8_line_44 (hm_out 0 5 [0, 1, 2, 3, 4, 5] (by decide) (List.forall_mem_cons.mpr ⟨c44_0, List.forall_mem_cons.mpr ⟨c44_1, List.forall_mem_cons.mpr ⟨c44_2, List.forall_mem_cons.mpr ⟨c44_3, List.forall_mem_cons.mpr ⟨c44_4, List.forall_mem_cons.mpr ⟨c44_5, fun _ h => absurd h List.not_mem_nil⟩⟩⟩⟩⟩⟩)) (by decide) ?_
                      refine lv_aload_n hx hb dX8_line_151 rfl (lv_at hl 0 rfl) ?_
                      refine lv_iload_n hx hb dX8_line_152 rfl (lv_at hl 1 rfl) ?_
                      obtain ⟨t16, ht16, hF⟩ := hm_bd hF
                      refine hm_vi (As := [.int x0]) S X mw_X8_endOf hw_5_81 (c_X8_endOf l g a (hm_up (hm_up (hm_up (hm_up (hm_up A 14 t3.2.1) 15 t3.2.2.1) 16 t3.2.2.2.1) 17 t3.2.2.2.2.1) 18 t3.2.2.2.2.2.1) (hm_up Z 7 t3.2.2.2.2.2.2) x0 t16 ht16) hm_same hm_same rfl rfl rfl ⟨rfl, rfl, Nat.le_of_ble_eq_true rfl, Nat.le_of_ble_eq_true rfl⟩ rfl hl.1 rfl (Nat.le_of_ble_eq_true rfl) dX8_line_153 ⟨Nat.zero_le _, Nat.zero_le _⟩ (fun H locs X => ?_)
                      obtain rfl := Option.some.inj hF
                      exact hm_ri S hr hlk X rfl rfl dX8_line_156
        · have hF := hm_nf hF c38
          refine lv_iconst (v := (-1)) hx hb dX8_line_41 (by decide) ?_
          obtain rfl := Option.some.inj hF
          exact hm_ri S hr hlk X rfl rfl dX8_line_42
      · have hF := hm_if hF c27
        refine lv_bipush (v := (-9)) hx hb dX8_line_30 (by decide) ?_
        obtain rfl := Option.some.inj hF
        exact hm_ri S hr hlk X rfl rfl dX8_line_32
    · have hF := hm_if hF c11
      refine lv_iconst (v := (-1)) hx hb dX8_line_14 (by decide) ?_
      obtain rfl := Option.some.inj hF
      exact hm_ri S hr hlk X rfl rfl dX8_line_15
def f_X8_blank_l84 (x2 : Int32) (v4 : Int32) (wA_14 : Nat → Int32) (wA_15 : Nat → Int32) (wA_16 : Nat → Int32) (wA_17 : Nat → Int32) (wA_18 : Nat → Int32) (wA_19 : Nat → Int32) (wA_20 : Nat → Int32) (wA_21 : Nat → Int32) (wA_22 : Nat → Int32) (wA_23 : Nat → Int32) (wZ_7 : Int32) (wZ_8 : Int32) : Option (Int32 × (Nat → Int32) × (Nat → Int32) × (Nat → Int32) × (Nat → Int32) × (Nat → Int32) × (Nat → Int32) × (Nat → Int32) × (Nat → Int32) × (Nat → Int32) × (Nat → Int32) × Int32 × Int32) :=
  if x2 = 0 then (
  (hm_rd 30 wA_20 v4).bind fun t10 =>
  some (t10, wA_14, wA_15, wA_16, wA_17, wA_18, wA_19, wA_20, wA_21, wA_22, wA_23, wZ_7, wZ_8))
  else (
  if x2 = 1 then (
  (hm_rd 30 wA_21 v4).bind fun t9 =>
  some (t9, wA_14, wA_15, wA_16, wA_17, wA_18, wA_19, wA_20, wA_21, wA_22, wA_23, wZ_7, wZ_8))
  else (
  if x2 = 2 then (
  (hm_rd 30 wA_22 v4).bind fun t8 =>
  some (t8, wA_14, wA_15, wA_16, wA_17, wA_18, wA_19, wA_20, wA_21, wA_22, wA_23, wZ_7, wZ_8))
  else (
  (hm_rd 30 wA_23 v4).bind fun t7 =>
  if t7 = 0 then (
  some (0, wA_14, wA_15, wA_16, wA_17, wA_18, wA_19, wA_20, wA_21, wA_22, wA_23, wZ_7, wZ_8))
  else (
  some (1, wA_14, wA_15, wA_16, wA_17, wA_18, wA_19, wA_20, wA_21, wA_22, wA_23, wZ_7, wZ_8)))))
def f_X8_blank_l65 (x0 : Int32) (x1 : Int32) (x2 : Int32) : Nat → Int32 → (Nat → Int32) → (Nat → Int32) → (Nat → Int32) → (Nat → Int32) → (Nat → Int32) → (Nat → Int32) → (Nat → Int32) → (Nat → Int32) → (Nat → Int32) → (Nat → Int32) → Int32 → Int32 → Option (Int32 × (Nat → Int32) × (Nat → Int32) × (Nat → Int32) × (Nat → Int32) × (Nat → Int32) × (Nat → Int32) × (Nat → Int32) × (Nat → Int32) × (Nat → Int32) × (Nat → Int32) × Int32 × Int32)
  | 0, _, _, _, _, _, _, _, _, _, _, _, _, _ => none
  | k + 1, v4, wA_14, wA_15, wA_16, wA_17, wA_18, wA_19, wA_20, wA_21, wA_22, wA_23, wZ_7, wZ_8 =>
  (hm_rd 30 wA_19 (v4 - x1)).bind fun t6 =>
  if t6 = x0 then (
  f_X8_blank_l84 x2 v4 wA_14 wA_15 wA_16 wA_17 wA_18 wA_19 wA_20 wA_21 wA_22 wA_23 wZ_7 wZ_8)
  else (
  f_X8_blank_l65 x0 x1 x2 k (v4 + 1) wA_14 wA_15 wA_16 wA_17 wA_18 wA_19 wA_20 wA_21 wA_22 wA_23 wZ_7 wZ_8)
theorem f_X8_blank_l65_s (x0 : Int32) (x1 : Int32) (x2 : Int32) (k : Nat) (v4 : Int32) (wA_14 : Nat → Int32) (wA_15 : Nat → Int32) (wA_16 : Nat → Int32) (wA_17 : Nat → Int32) (wA_18 : Nat → Int32) (wA_19 : Nat → Int32) (wA_20 : Nat → Int32) (wA_21 : Nat → Int32) (wA_22 : Nat → Int32) (wA_23 : Nat → Int32) (wZ_7 : Int32) (wZ_8 : Int32) : f_X8_blank_l65 x0 x1 x2 (k + 1) v4 wA_14 wA_15 wA_16 wA_17 wA_18 wA_19 wA_20 wA_21 wA_22 wA_23 wZ_7 wZ_8 =
  (hm_rd 30 wA_19 (v4 - x1)).bind fun t6 =>
  if t6 = x0 then (
  f_X8_blank_l84 x2 v4 wA_14 wA_15 wA_16 wA_17 wA_18 wA_19 wA_20 wA_21 wA_22 wA_23 wZ_7 wZ_8)
  else (
  f_X8_blank_l65 x0 x1 x2 k (v4 + 1) wA_14 wA_15 wA_16 wA_17 wA_18 wA_19 wA_20 wA_21 wA_22 wA_23 wZ_7 wZ_8) := rfl
theorem f_X8_blank_l65_z (x0 : Int32) (x1 : Int32) (x2 : Int32) (v4 : Int32) (wA_14 : Nat → Int32) (wA_15 : Nat → Int32) (wA_16 : Nat → Int32) (wA_17 : Nat → Int32) (wA_18 : Nat → Int32) (wA_19 : Nat → Int32) (wA_20 : Nat → Int32) (wA_21 : Nat → Int32) (wA_22 : Nat → Int32) (wA_23 : Nat → Int32) (wZ_7 : Int32) (wZ_8 : Int32) : f_X8_blank_l65 x0 x1 x2 0 v4 wA_14 wA_15 wA_16 wA_17 wA_18 wA_19 wA_20 wA_21 wA_22 wA_23 wZ_7 wZ_8 = none := rfl
def f_X8_blank (A_1 : Nat → Int32) (A_2 : Nat → Int32) (A_3 : Nat → Int32) (A_4 : Nat → Int32) (A_5 : Nat → Int32) (A_6 : Nat → Int32) (A_7 : Nat → Int32) (A_14 : Nat → Int32) (A_15 : Nat → Int32) (A_16 : Nat → Int32) (A_17 : Nat → Int32) (A_18 : Nat → Int32) (A_19 : Nat → Int32) (A_20 : Nat → Int32) (A_21 : Nat → Int32) (A_22 : Nat → Int32) (A_23 : Nat → Int32) (Z_1 : Int32) (Z_3 : Int32) (Z_7 : Int32) (Z_8 : Int32) (x0 : Int32) (x1 : Int32) (x2 : Int32)  : Option (Int32 × (Nat → Int32) × (Nat → Int32) × (Nat → Int32) × (Nat → Int32) × (Nat → Int32) × (Nat → Int32) × (Nat → Int32) × (Nat → Int32) × (Nat → Int32) × (Nat → Int32) × Int32 × Int32) :=
  if x0 < 0 then (
  some ((-1), A_14, A_15, A_16, A_17, A_18, A_19, A_20, A_21, A_22, A_23, Z_7, Z_8))
  else (
  if x1 < 0 then (
  some ((-1), A_14, A_15, A_16, A_17, A_18, A_19, A_20, A_21, A_22, A_23, Z_7, Z_8))
  else (
  (f_X8_in x2 0 3).bind fun t1 =>
  if t1 = 0 then (
  some ((-1), A_14, A_15, A_16, A_17, A_18, A_19, A_20, A_21, A_22, A_23, Z_7, Z_8))
  else (
  (hm_rd 38 A_7 35).bind fun t2 =>
  (f_X8_laysPage A_1 A_2 A_4 A_5 A_6 A_7 A_14 A_15 A_16 A_17 A_18 Z_1 Z_3 t2).bind fun t3 =>
  if t3.1 = 0 then (
  some ((-9), t3.2.1, t3.2.2.1, t3.2.2.2.1, t3.2.2.2.2.1, t3.2.2.2.2.2.1, A_19, A_20, A_21, A_22, A_23, t3.2.2.2.2.2.2, Z_8))
  else (
  if x0 < t3.2.2.2.2.2.2 then (
  (f_X8_blanksOf A_4 A_6 t3.2.2.2.2.2.1 x0).bind fun t4 =>
  if x1 < t4 then (
  (f_X8_laysBlanks A_1 A_2 A_3 A_4 A_5 A_6 A_7 t3.2.1 t3.2.2.2.2.2.1 A_19 A_20 A_21 A_22 A_23 t3.2.2.2.2.2.2).bind fun t5 =>
  f_X8_blank_l65 x0 x1 x2 hm_fu x1 t3.2.1 t3.2.2.1 t3.2.2.2.1 t3.2.2.2.2.1 t3.2.2.2.2.2.1 t5.1 t5.2.1 t5.2.2.1 t5.2.2.2.1 t5.2.2.2.2.1 t3.2.2.2.2.2.2 t5.2.2.2.2.2)
  else (
  some ((-9), t3.2.1, t3.2.2.1, t3.2.2.2.1, t3.2.2.2.2.1, t3.2.2.2.2.2.1, A_19, A_20, A_21, A_22, A_23, t3.2.2.2.2.2.2, Z_8)))
  else (
  some ((-1), t3.2.1, t3.2.2.1, t3.2.2.2.1, t3.2.2.2.2.1, t3.2.2.2.2.2.1, A_19, A_20, A_21, A_22, A_23, t3.2.2.2.2.2.2, Z_8))))))
abbrev rm_X8_blank : Room := { frames := 6, cells := 0, slots := 0, locals := 137 }
set_option maxHeartbeats 4000000 in
set_option maxRecDepth 100000 in
theorem c_X8_blank (l : Launch) (g : hm_G) (a : Nat → Nat) (A : Nat → Nat → Int32) (Z : Nat → Int32) (x0 : Int32) (x1 : Int32) (x2 : Int32) (q : Int32 × (Nat → Int32) × (Nat → Int32) × (Nat → Int32) × (Nat → Int32) × (Nat → Int32) × (Nat → Int32) × (Nat → Int32) × (Nat → Int32) × (Nat → Int32) × (Nat → Int32) × Int32 × Int32) (hF : f_X8_blank (A 1) (A 2) (A 3) (A 4) (A 5) (A 6) (A 7) (A 14) (A 15) (A 16) (A 17) (A 18) (A 19) (A 20) (A 21) (A 22) (A 23) (Z 1) (Z 3) (Z 7) (Z 8) x0 x1 x2 = some q) : hm_Mi l yX8_blank (Cond.code yX8_blank cX8_blank 5 (some .int) :: hm_W) rm_X8_blank g [.ref (a 0), .int x0, .int x1, .int x2] (hm_wMM g a A Z) (hm_wMM g a (hm_up (hm_up (hm_up (hm_up (hm_up (hm_up (hm_up (hm_up (hm_up (hm_up A 14 q.2.1) 15 q.2.2.1) 16 q.2.2.2.1) 17 q.2.2.2.2.1) 18 q.2.2.2.2.2.1) 19 q.2.2.2.2.2.2.1) 20 q.2.2.2.2.2.2.2.1) 21 q.2.2.2.2.2.2.2.2.1) 22 q.2.2.2.2.2.2.2.2.2.1) 23 q.2.2.2.2.2.2.2.2.2.2.1) (hm_up (hm_up Z 7 q.2.2.2.2.2.2.2.2.2.2.2.1) 8 q.2.2.2.2.2.2.2.2.2.2.2.2)) q.1 := by
  refine hm_ofi [(0, .ref (a 0)), (1, .int x0), (2, .int x1), (3, .int x2)] (by decide) (own := RX8) rfl (Nat.le_of_ble_eq_true rfl) rfl rfl ?_
  intro p e s m args below meth c AA S hr hlk X ls hl
  have hx := S.1
  have hb := S.2.1
  have hown := S.2.2.2.1
  have hts := S.2.2.2.2
  have hl84 : ∀ (v4 : Int32) (wA_14 : Nat → Int32) (wA_15 : Nat → Int32) (wA_16 : Nat → Int32) (wA_17 : Nat → Int32) (wA_18 : Nat → Int32) (wA_19 : Nat → Int32) (wA_20 : Nat → Int32) (wA_21 : Nat → Int32) (wA_22 : Nat → Int32) (wA_23 : Nat → Int32) (wZ_7 : Int32) (wZ_8 : Int32), f_X8_blank_l84 x2 v4 wA_14 wA_15 wA_16 wA_17 wA_18 wA_19 wA_20 wA_21 wA_22 wA_23 wZ_7 wZ_8 = some q → ∀ (H : Heap) (locs : List Loc), hm_X g AA s H locs (hm_wMM g a (hm_up (hm_up (hm_up (hm_up (hm_up (hm_up (hm_up (hm_up (hm_up (hm_up A 14 wA_14) 15 wA_15) 16 wA_16) 17 wA_17) 18 wA_18) 19 wA_19) 20 wA_20) 21 wA_21) 22 wA_22) 23 wA_23) (hm_up (hm_up Z 7 wZ_7) 8 wZ_8)) → ∀ ls : Array Slot, lv_has ls 5 [(0, .ref (a 0)), (3, .int x2), (4, .int v4)] → W p l e rm_X8_blank s m args below meth c H locs 0 0 (MQ below (hm_Qi g AA (hm_wMM g a (hm_up (hm_up (hm_up (hm_up (hm_up (hm_up (hm_up (hm_up (hm_up (hm_up A 14 q.2.1) 15 q.2.2.1) 16 q.2.2.2.1) 17 q.2.2.2.2.1) 18 q.2.2.2.2.2.1) 19 q.2.2.2.2.2.2.1) 20 q.2.2.2.2.2.2.2.1) 21 q.2.2.2.2.2.2.2.2.1) 22 q.2.2.2.2.2.2.2.2.2.1) 23 q.2.2.2.2.2.2.2.2.2.2.1) (hm_up (hm_up Z 7 q.2.2.2.2.2.2.2.2.2.2.2.1) 8 q.2.2.2.2.2.2.2.2.2.2.2.2)) q.1) args s 0 0 AA) (F0 m 84 ls []) := by
    intro v4 wA_14 wA_15 wA_16 wA_17 wA_18 wA_19 wA_20 wA_21 wA_22 wA_23 wZ_7 wZ_8 hF H locs X ls hl
    unfold f_X8_blank_l84 at hF
    refine lv_iload_n hx hb dX8_blank_84 rfl (lv_at hl 1 rfl) ?_
    refine lv_if_ne (tgt := 98) hx hb dX8_blank_85 (by decide) (fun c85 => ?_) (fun c85 => ?_)
    · have hF := hm_nf hF c85
      refine lv_iload_n hx hb dX8_blank_98 rfl (lv_at hl 1 rfl) ?_
      refine lv_iconst (v := 1) hx hb dX8_blank_99 (by decide) ?_
      refine lv_icmp_ne (tgt := 113) hx hb dX8_blank_100 (by decide) (fun c100 => ?_) (fun c100 => ?_)
      · have hF := hm_nf hF c100
        refine lv_iload_n hx hb dX8_blank_113 rfl (lv_at hl 1 rfl) ?_
        refine lv_iconst (v := 2) hx hb dX8_blank_114 (by decide) ?_
        refine lv_icmp_ne (tgt := 128) hx hb dX8_blank_115 (by decide) (fun c115 => ?_) (fun c115 => ?_)
        · have hF := hm_nf hF c115
          refine lv_aload_n hx hb dX8_blank_128 rfl (lv_at hl 0 rfl) ?_
          refine hm_get S X hf_X8_80 0 rfl rfl dX8_blank_129 ?_
          refine lv_iload hx hb dX8_blank_132 (lv_at hl 2 rfl) ?_
          obtain ⟨t7, ht7, hF⟩ := hm_bd hF
          refine hm_zald S X ht7 24 rfl dX8_blank_134 ?_
          refine lv_if_eq (tgt := 142) hx hb dX8_blank_135 (by decide) (fun c135 => ?_) (fun c135 => ?_)
          · have hF := hm_if hF c135
            refine lv_iconst (v := 0) hx hb dX8_blank_142 (by decide) ?_
            obtain rfl := Option.some.inj hF
            exact hm_ri S hr hlk X rfl rfl dX8_blank_143
          · have hF := hm_nf hF c135
            refine lv_iconst (v := 1) hx hb dX8_blank_138 (by decide) ?_
            refine lv_goto (tgt := 143) hx hb dX8_blank_139 (by decide) ?_
            obtain rfl := Option.some.inj hF
            exact hm_ri S hr hlk X rfl rfl dX8_blank_143
        · have hF := hm_if hF c115
          refine lv_aload_n hx hb dX8_blank_118 rfl (lv_at hl 0 rfl) ?_
          refine hm_get S X hf_X8_77 0 rfl rfl dX8_blank_119 ?_
          refine lv_iload hx hb dX8_blank_122 (lv_at hl 2 rfl) ?_
          obtain ⟨t8, ht8, hF⟩ := hm_bd hF
          refine hm_iald S X ht8 23 rfl dX8_blank_124 ?_
          refine lv_goto (tgt := 143) hx hb dX8_blank_125 (by decide) ?_
          obtain rfl := Option.some.inj hF
          exact hm_ri S hr hlk X rfl rfl dX8_blank_143
      · have hF := hm_if hF c100
        refine lv_aload_n hx hb dX8_blank_103 rfl (lv_at hl 0 rfl) ?_
        refine hm_get S X hf_X8_74 0 rfl rfl dX8_blank_104 ?_
        refine lv_iload hx hb dX8_blank_107 (lv_at hl 2 rfl) ?_
        obtain ⟨t9, ht9, hF⟩ := hm_bd hF
        refine hm_iald S X ht9 22 rfl dX8_blank_109 ?_
        refine lv_goto (tgt := 143) hx hb dX8_blank_110 (by decide) ?_
        obtain rfl := Option.some.inj hF
        exact hm_ri S hr hlk X rfl rfl dX8_blank_143
    · have hF := hm_if hF c85
      refine lv_aload_n hx hb dX8_blank_88 rfl (lv_at hl 0 rfl) ?_
      refine hm_get S X hf_X8_71 0 rfl rfl dX8_blank_89 ?_
      refine lv_iload hx hb dX8_blank_92 (lv_at hl 2 rfl) ?_
      obtain ⟨t10, ht10, hF⟩ := hm_bd hF
      refine hm_iald S X ht10 21 rfl dX8_blank_94 ?_
      refine lv_goto (tgt := 143) hx hb dX8_blank_95 (by decide) ?_
      obtain rfl := Option.some.inj hF
      exact hm_ri S hr hlk X rfl rfl dX8_blank_143
  have hl65 : ∀ (k65 : Nat) (v4 : Int32) (wA_14 : Nat → Int32) (wA_15 : Nat → Int32) (wA_16 : Nat → Int32) (wA_17 : Nat → Int32) (wA_18 : Nat → Int32) (wA_19 : Nat → Int32) (wA_20 : Nat → Int32) (wA_21 : Nat → Int32) (wA_22 : Nat → Int32) (wA_23 : Nat → Int32) (wZ_7 : Int32) (wZ_8 : Int32), f_X8_blank_l65 x0 x1 x2 k65 v4 wA_14 wA_15 wA_16 wA_17 wA_18 wA_19 wA_20 wA_21 wA_22 wA_23 wZ_7 wZ_8 = some q → ∀ (H : Heap) (locs : List Loc), hm_X g AA s H locs (hm_wMM g a (hm_up (hm_up (hm_up (hm_up (hm_up (hm_up (hm_up (hm_up (hm_up (hm_up A 14 wA_14) 15 wA_15) 16 wA_16) 17 wA_17) 18 wA_18) 19 wA_19) 20 wA_20) 21 wA_21) 22 wA_22) 23 wA_23) (hm_up (hm_up Z 7 wZ_7) 8 wZ_8)) → ∀ ls : Array Slot, lv_has ls 5 [(0, .ref (a 0)), (1, .int x0), (2, .int x1), (3, .int x2), (4, .int v4)] → W p l e rm_X8_blank s m args below meth c H locs 0 0 (MQ below (hm_Qi g AA (hm_wMM g a (hm_up (hm_up (hm_up (hm_up (hm_up (hm_up (hm_up (hm_up (hm_up (hm_up A 14 q.2.1) 15 q.2.2.1) 16 q.2.2.2.1) 17 q.2.2.2.2.1) 18 q.2.2.2.2.2.1) 19 q.2.2.2.2.2.2.1) 20 q.2.2.2.2.2.2.2.1) 21 q.2.2.2.2.2.2.2.2.1) 22 q.2.2.2.2.2.2.2.2.2.1) 23 q.2.2.2.2.2.2.2.2.2.2.1) (hm_up (hm_up Z 7 q.2.2.2.2.2.2.2.2.2.2.2.1) 8 q.2.2.2.2.2.2.2.2.2.2.2.2)) q.1) args s 0 0 AA) (F0 m 65 ls []) := by
    intro k65
    induction k65 with
    | zero =>
      intro v4 wA_14 wA_15 wA_16 wA_17 wA_18 wA_19 wA_20 wA_21 wA_22 wA_23 wZ_7 wZ_8 hF
      rw [f_X8_blank_l65_z] at hF
      cases hF
    | succ k65 ih65 =>
      intro v4 wA_14 wA_15 wA_16 wA_17 wA_18 wA_19 wA_20 wA_21 wA_22 wA_23 wZ_7 wZ_8 hF H locs X ls hl
      rw [f_X8_blank_l65_s] at hF
      refine lv_aload_n hx hb dX8_blank_65 rfl (lv_at hl 0 rfl) ?_
      refine hm_get S X hf_X8_68 0 rfl rfl dX8_blank_66 ?_
      refine lv_iload hx hb dX8_blank_69 (lv_at hl 4 rfl) ?_
      refine lv_iload_n hx hb dX8_blank_71 rfl (lv_at hl 2 rfl) ?_
      refine lv_isub hx hb dX8_blank_72 ?_
      obtain ⟨t6, ht6, hF⟩ := hm_bd hF
      refine hm_iald S X ht6 20 rfl dX8_blank_73 ?_
      refine lv_iload_n hx hb dX8_blank_74 rfl (lv_at hl 1 rfl) ?_
      refine lv_icmp_eq (tgt := 84) hx hb dX8_blank_75 (by decide) (fun c75 => ?_) (fun c75 => ?_)
      · have hF := hm_if hF c75
        exact hl84 v4 wA_14 wA_15 wA_16 wA_17 wA_18 wA_19 wA_20 wA_21 wA_22 wA_23 wZ_7 wZ_8 hF _ _ X _ (lv_sub hl [0, 3, 4] rfl)
      · have hF := hm_nf hF c75
        refine lv_iinc (v := (v4 + 1)) (lv' := [(4, .int (v4 + 1)), (0, .ref (a 0)), (1, .int x0), (2, .int x1), (3, .int x2)]) hx hb dX8_blank_78 hl (k := 4) rfl rfl (by decide) rfl (fun ls hl => ?_)
        refine lv_goto (tgt := 65) hx hb dX8_blank_81 (by decide) ?_
        exact ih65 (v4 + 1) wA_14 wA_15 wA_16 wA_17 wA_18 wA_19 wA_20 wA_21 wA_22 wA_23 wZ_7 wZ_8 hF _ _ X _ (lv_sub hl [1, 2, 3, 4, 0] rfl)
  unfold f_X8_blank at hF
  refine lv_iload_n hx hb dX8_blank_0 rfl (lv_at hl 1 rfl) ?_
  refine lv_if_lt (tgt := 17) hx hb dX8_blank_1 (by decide) (fun c1 => ?_) (fun c1 => ?_)
  · have hF := hm_if hF c1
    refine lv_iconst (v := (-1)) hx hb dX8_blank_17 (by decide) ?_
    obtain rfl := Option.some.inj hF
    exact hm_ri S hr hlk X rfl rfl dX8_blank_18
  · have hF := hm_nf hF c1
    refine lv_iload_n hx hb dX8_blank_4 rfl (lv_at hl 2 rfl) ?_
    refine lv_if_lt (tgt := 17) hx hb dX8_blank_5 (by decide) (fun c5 => ?_) (fun c5 => ?_)
    · have hF := hm_if hF c5
      refine lv_iconst (v := (-1)) hx hb dX8_blank_17 (by decide) ?_
      obtain rfl := Option.some.inj hF
      exact hm_ri S hr hlk X rfl rfl dX8_blank_18
    · have hF := hm_nf hF c5
      refine lv_iload_n hx hb dX8_blank_8 rfl (lv_at hl 3 rfl) ?_
      refine lv_iconst (v := 0) hx hb dX8_blank_9 (by decide) ?_
      refine lv_iconst (v := 3) hx hb dX8_blank_10 (by decide) ?_
      obtain ⟨t1, ht1, hF⟩ := hm_bd hF
      refine hm_si S X mw_X8_in hw_4_193 (c_X8_in l g x2 0 3 t1 ht1) (List.Perm.refl _) (List.Perm.refl _) ⟨rfl, rfl, Nat.le_of_ble_eq_true rfl, Nat.le_of_ble_eq_true rfl⟩ rfl hl.1 rfl (Nat.le_of_ble_eq_true rfl) dX8_blank_11 ⟨Nat.zero_le _, Nat.zero_le _⟩ (fun H locs X => ?_)
      refine lv_if_ne (tgt := 19) hx hb dX8_blank_14 (by decide) (fun c14 => ?_) (fun c14 => ?_)
      · have hF := hm_nf hF c14
        refine lv_aload_n hx hb dX8_blank_19 rfl (lv_at hl 0 rfl) ?_
        refine lv_aload_n hx hb dX8_blank_20 rfl (lv_at hl 0 rfl) ?_
        refine hm_get S X hf_X8_32 0 rfl rfl dX8_blank_21 ?_
        refine lv_bipush (v := 35) hx hb dX8_blank_24 (by decide) ?_
        obtain ⟨t2, ht2, hF⟩ := hm_bd hF
        refine hm_iald S X ht2 8 rfl dX8_blank_26 ?_
        obtain ⟨t3, ht3, hF⟩ := hm_bd hF
        refine hm_vi (As := [.int t2]) S X mw_X8_laysPage hw_5_41 (c_X8_laysPage l g a A Z t2 t3 ht3) hm_same hm_same rfl rfl rfl ⟨rfl, rfl, Nat.le_of_ble_eq_true rfl, Nat.le_of_ble_eq_true rfl⟩ rfl hl.1 rfl (Nat.le_of_ble_eq_true rfl) dX8_blank_27 ⟨Nat.zero_le _, Nat.zero_le _⟩ (fun H locs X => ?_)
        refine lv_if_ne (tgt := 36) hx hb dX8_blank_30 (by decide) (fun c30 => ?_) (fun c30 => ?_)
        · have hF := hm_nf hF c30
          refine lv_iload_n hx hb dX8_blank_36 rfl (lv_at hl 1 rfl) ?_
          refine lv_aload_n hx hb dX8_blank_37 rfl (lv_at hl 0 rfl) ?_
          refine hm_get S X hf_X8_183 0 rfl rfl dX8_blank_38 ?_
          refine lv_icmp_lt (tgt := 46) hx hb dX8_blank_41 (by decide) (fun c41 => ?_) (fun c41 => ?_)
          · have hF := hm_if hF c41
            refine lv_iload_n hx hb dX8_blank_46 rfl (lv_at hl 2 rfl) ?_
            refine lv_aload_n hx hb dX8_blank_47 rfl (lv_at hl 0 rfl) ?_
            refine lv_iload_n hx hb dX8_blank_48 rfl (lv_at hl 1 rfl) ?_
            obtain ⟨t4, ht4, hF⟩ := hm_bd hF
            refine hm_vi (As := [.int x0]) S X mw_X8_blanksOf hw_5_93 (c_X8_blanksOf l g a (hm_up (hm_up (hm_up (hm_up (hm_up A 14 t3.2.1) 15 t3.2.2.1) 16 t3.2.2.2.1) 17 t3.2.2.2.2.1) 18 t3.2.2.2.2.2.1) (hm_up Z 7 t3.2.2.2.2.2.2) x0 t4 ht4) hm_same hm_same rfl rfl rfl ⟨rfl, rfl, Nat.le_of_ble_eq_true rfl, Nat.le_of_ble_eq_true rfl⟩ rfl hl.1 rfl (Nat.le_of_ble_eq_true rfl) dX8_blank_49 ⟨Nat.zero_le _, Nat.zero_le _⟩ (fun H locs X => ?_)
            refine lv_icmp_lt (tgt := 58) hx hb dX8_blank_52 (by decide) (fun c52 => ?_) (fun c52 => ?_)
            · have hF := hm_if hF c52
              refine lv_aload_n hx hb dX8_blank_58 rfl (lv_at hl 0 rfl) ?_
              obtain ⟨t5, ht5, hF⟩ := hm_bd hF
              refine hm_vv (As := []) S X mw_X8_laysBlanks hw_5_101 (c_X8_laysBlanks l g a (hm_up (hm_up (hm_up (hm_up (hm_up A 14 t3.2.1) 15 t3.2.2.1) 16 t3.2.2.2.1) 17 t3.2.2.2.2.1) 18 t3.2.2.2.2.2.1) (hm_up Z 7 t3.2.2.2.2.2.2) t5 ht5) hm_same hm_same rfl rfl rfl ⟨rfl, rfl, Nat.le_of_ble_eq_true rfl, Nat.le_of_ble_eq_true rfl⟩ rfl hl.1 rfl (Nat.le_of_ble_eq_true rfl) dX8_blank_59 ⟨Nat.zero_le _, Nat.zero_le _⟩ (fun H locs X => ?_)
              refine lv_iload_n hx hb dX8_blank_62 rfl (lv_at hl 2 rfl) ?_
              refine lv_istore (lv' := [(4, .int x1), (0, .ref (a 0)), (1, .int x0), (2, .int x1), (3, .int x2)]) hx hb dX8_blank_63 hl (by decide) rfl (fun ls hl => ?_)
              exact hl65 hm_fu x1 t3.2.1 t3.2.2.1 t3.2.2.2.1 t3.2.2.2.2.1 t3.2.2.2.2.2.1 t5.1 t5.2.1 t5.2.2.1 t5.2.2.2.1 t5.2.2.2.2.1 t3.2.2.2.2.2.2 t5.2.2.2.2.2 hF _ _ X _ (lv_sub hl [1, 2, 3, 4, 0] rfl)
            · have hF := hm_nf hF c52
              refine lv_bipush (v := (-9)) hx hb dX8_blank_55 (by decide) ?_
              obtain rfl := Option.some.inj hF
              exact hm_ri S hr hlk X rfl rfl dX8_blank_57
          · have hF := hm_nf hF c41
            refine lv_iconst (v := (-1)) hx hb dX8_blank_44 (by decide) ?_
            obtain rfl := Option.some.inj hF
            exact hm_ri S hr hlk X rfl rfl dX8_blank_45
        · have hF := hm_if hF c30
          refine lv_bipush (v := (-9)) hx hb dX8_blank_33 (by decide) ?_
          obtain rfl := Option.some.inj hF
          exact hm_ri S hr hlk X rfl rfl dX8_blank_35
      · have hF := hm_if hF c14
        refine lv_iconst (v := (-1)) hx hb dX8_blank_17 (by decide) ?_
        obtain rfl := Option.some.inj hF
        exact hm_ri S hr hlk X rfl rfl dX8_blank_18
def f_X8_leftOf (A_1 : Nat → Int32) (A_2 : Nat → Int32) (A_4 : Nat → Int32) (A_5 : Nat → Int32) (A_6 : Nat → Int32) (A_7 : Nat → Int32) (A_14 : Nat → Int32) (Z_1 : Int32) (Z_3 : Int32) (x0 : Int32) (x1 : Int32)  : Option (Int32 × (Nat → Int32)) :=
  (f_X8_isPlace Z_3 x1).bind fun t1 =>
  if t1 = 0 then (
  some ((-1000000), A_14))
  else (
  (f_X8_in x0 (-1) (x1 - 1)).bind fun t2 =>
  if t2 = 0 then (
  some ((-1000000), A_14))
  else (
  (f_X8_sums A_1 A_7 A_14 Z_1).bind fun t3 =>
  (hm_rd 38 A_7 35).bind fun t4 =>
  (f_X8_left A_1 A_2 A_4 A_5 A_6 A_7 t3 x0 x1 t4).bind fun t5 =>
  some (t5, t3)))
abbrev rm_X8_leftOf : Room := { frames := 4, cells := 0, slots := 0, locals := 88 }
set_option maxHeartbeats 4000000 in
set_option maxRecDepth 100000 in
theorem c_X8_leftOf (l : Launch) (g : hm_G) (a : Nat → Nat) (A : Nat → Nat → Int32) (Z : Nat → Int32) (x0 : Int32) (x1 : Int32) (q : Int32 × (Nat → Int32)) (hF : f_X8_leftOf (A 1) (A 2) (A 4) (A 5) (A 6) (A 7) (A 14) (Z 1) (Z 3) x0 x1 = some q) : hm_Mi l yX8_leftOf (Cond.code yX8_leftOf cX8_leftOf 3 (some .int) :: hm_W) rm_X8_leftOf g [.ref (a 0), .int x0, .int x1] (hm_wMM g a A Z) (hm_wMM g a (hm_up A 14 q.2) Z) q.1 := by
  refine hm_ofi [(0, .ref (a 0)), (1, .int x0), (2, .int x1)] (by decide) (own := RX8) rfl (Nat.le_of_ble_eq_true rfl) rfl rfl ?_
  intro p e s m args below meth c AA S hr hlk X ls hl
  have hx := S.1
  have hb := S.2.1
  have hown := S.2.2.2.1
  have hts := S.2.2.2.2
  unfold f_X8_leftOf at hF
  refine lv_aload_n hx hb dX8_leftOf_0 rfl (lv_at hl 0 rfl) ?_
  refine lv_iload_n hx hb dX8_leftOf_1 rfl (lv_at hl 2 rfl) ?_
  obtain ⟨t1, ht1, hF⟩ := hm_bd hF
  refine hm_vi (As := [.int x1]) S X mw_X8_isPlace hw_5_6 (c_X8_isPlace l g a A Z x1 t1 ht1) hm_same hm_same rfl rfl rfl ⟨rfl, rfl, Nat.le_of_ble_eq_true rfl, Nat.le_of_ble_eq_true rfl⟩ rfl hl.1 rfl (Nat.le_of_ble_eq_true rfl) dX8_leftOf_2 ⟨Nat.zero_le _, Nat.zero_le _⟩ (fun H locs X => ?_)
  refine lv_if_eq (tgt := 19) hx hb dX8_leftOf_5 (by decide) (fun c5 => ?_) (fun c5 => ?_)
  · have hF := hm_if hF c5
    refine lv_ldc (v := -1000000) hx hb hown (hts _ hw_5_125) dX8_leftOf_19 ?_
    obtain rfl := Option.some.inj hF
    exact hm_ri S hr hlk X rfl rfl dX8_leftOf_21
  · have hF := hm_nf hF c5
    refine lv_iload_n hx hb dX8_leftOf_8 rfl (lv_at hl 1 rfl) ?_
    refine lv_iconst (v := (-1)) hx hb dX8_leftOf_9 (by decide) ?_
    refine lv_iload_n hx hb dX8_leftOf_10 rfl (lv_at hl 2 rfl) ?_
    refine lv_iconst (v := 1) hx hb dX8_leftOf_11 (by decide) ?_
    refine lv_isub hx hb dX8_leftOf_12 ?_
    obtain ⟨t2, ht2, hF⟩ := hm_bd hF
    refine hm_si S X mw_X8_in hw_4_193 (c_X8_in l g x0 (-1) (x1 - 1) t2 ht2) (List.Perm.refl _) (List.Perm.refl _) ⟨rfl, rfl, Nat.le_of_ble_eq_true rfl, Nat.le_of_ble_eq_true rfl⟩ rfl hl.1 rfl (Nat.le_of_ble_eq_true rfl) dX8_leftOf_13 ⟨Nat.zero_le _, Nat.zero_le _⟩ (fun H locs X => ?_)
    refine lv_if_ne (tgt := 22) hx hb dX8_leftOf_16 (by decide) (fun c16 => ?_) (fun c16 => ?_)
    · have hF := hm_nf hF c16
      refine lv_aload_n hx hb dX8_leftOf_22 rfl (lv_at hl 0 rfl) ?_
      obtain ⟨t3, ht3, hF⟩ := hm_bd hF
      refine hm_vv (As := []) S X mw_X8_sums hw_5_45 (c_X8_sums l g a A Z t3 ht3) hm_same hm_same rfl rfl rfl ⟨rfl, rfl, Nat.le_of_ble_eq_true rfl, Nat.le_of_ble_eq_true rfl⟩ rfl hl.1 rfl (Nat.le_of_ble_eq_true rfl) dX8_leftOf_23 ⟨Nat.zero_le _, Nat.zero_le _⟩ (fun H locs X => ?_)
      refine lv_aload_n hx hb dX8_leftOf_26 rfl (lv_at hl 0 rfl) ?_
      refine lv_iload_n hx hb dX8_leftOf_27 rfl (lv_at hl 1 rfl) ?_
      refine lv_iload_n hx hb dX8_leftOf_28 rfl (lv_at hl 2 rfl) ?_
      refine lv_aload_n hx hb dX8_leftOf_29 rfl (lv_at hl 0 rfl) ?_
      refine hm_get S X hf_X8_32 0 rfl rfl dX8_leftOf_30 ?_
      refine lv_bipush (v := 35) hx hb dX8_leftOf_33 (by decide) ?_
      obtain ⟨t4, ht4, hF⟩ := hm_bd hF
      refine hm_iald S X ht4 8 rfl dX8_leftOf_35 ?_
      obtain ⟨t5, ht5, hF⟩ := hm_bd hF
      refine hm_vi (As := [.int x0, .int x1, .int t4]) S X mw_X8_left hw_5_53 (c_X8_left l g a (hm_up A 14 t3) Z x0 x1 t4 t5 ht5) hm_same hm_same rfl rfl rfl ⟨rfl, rfl, Nat.le_of_ble_eq_true rfl, Nat.le_of_ble_eq_true rfl⟩ rfl hl.1 rfl (Nat.le_of_ble_eq_true rfl) dX8_leftOf_36 ⟨Nat.zero_le _, Nat.zero_le _⟩ (fun H locs X => ?_)
      obtain rfl := Option.some.inj hF
      exact hm_ri S hr hlk X rfl rfl dX8_leftOf_39
    · have hF := hm_if hF c16
      refine lv_ldc (v := -1000000) hx hb hown (hts _ hw_5_125) dX8_leftOf_19 ?_
      obtain rfl := Option.some.inj hF
      exact hm_ri S hr hlk X rfl rfl dX8_leftOf_21
def f_X8_puts_l32 (A_11 : Nat → Int32) (Z_5 : Int32) (x0 : Int32)  : Option (Int32 × (Nat → Int32) × Int32) :=
  (hm_wr 104 A_11 Z_5 x0).bind fun f2 =>
  some ((Z_5 + 1), f2, (Z_5 + 1))
def f_X8_puts (A_11 : Nat → Int32) (Z_3 : Int32) (Z_5 : Int32) (x0 : Int32)  : Option (Int32 × (Nat → Int32) × Int32) :=
  (f_X8_isPlace Z_3 x0).bind fun t1 =>
  if t1 = 0 then (
  some ((-1), A_11, Z_5))
  else (
  if Z_5 ≤ 0 then (
  f_X8_puts_l32 A_11 Z_5 x0)
  else (
  (hm_rd 104 A_11 (Z_5 - 1)).bind fun t3 =>
  if t3 < x0 then (
  f_X8_puts_l32 A_11 Z_5 x0)
  else (
  some ((-1), A_11, Z_5))))
abbrev rm_X8_puts : Room := { frames := 2, cells := 0, slots := 0, locals := 43 }
set_option maxHeartbeats 4000000 in
set_option maxRecDepth 100000 in
theorem c_X8_puts (l : Launch) (g : hm_G) (a : Nat → Nat) (A : Nat → Nat → Int32) (Z : Nat → Int32) (x0 : Int32) (q : Int32 × (Nat → Int32) × Int32) (hF : f_X8_puts (A 11) (Z 3) (Z 5) x0 = some q) : hm_Mi l yX8_puts (Cond.code yX8_puts cX8_puts 2 (some .int) :: hm_W) rm_X8_puts g [.ref (a 0), .int x0] (hm_wMM g a A Z) (hm_wMM g a (hm_up A 11 q.2.1) (hm_up Z 5 q.2.2)) q.1 := by
  refine hm_ofi [(0, .ref (a 0)), (1, .int x0)] (by decide) (own := RX8) rfl (Nat.le_of_ble_eq_true rfl) rfl rfl ?_
  intro p e s m args below meth c AA S hr hlk X ls hl
  have hx := S.1
  have hb := S.2.1
  have hown := S.2.2.2.1
  have hts := S.2.2.2.2
  have hl32 : f_X8_puts_l32 (A 11) (Z 5) x0 = some q → ∀ (H : Heap) (locs : List Loc), hm_X g AA s H locs (hm_wMM g a A Z) → ∀ ls : Array Slot, lv_has ls 2 [(0, .ref (a 0)), (1, .int x0)] → W p l e rm_X8_puts s m args below meth c H locs 0 0 (MQ below (hm_Qi g AA (hm_wMM g a (hm_up A 11 q.2.1) (hm_up Z 5 q.2.2)) q.1) args s 0 0 AA) (F0 m 32 ls []) := by
    intro hF H locs X ls hl
    unfold f_X8_puts_l32 at hF
    refine lv_aload_n hx hb dX8_puts_32 rfl (lv_at hl 0 rfl) ?_
    refine hm_get S X hf_X8_44 0 rfl rfl dX8_puts_33 ?_
    refine lv_aload_n hx hb dX8_puts_36 rfl (lv_at hl 0 rfl) ?_
    refine hm_get S X hf_X8_93 0 rfl rfl dX8_puts_37 ?_
    refine lv_iload_n hx hb dX8_puts_40 rfl (lv_at hl 1 rfl) ?_
    obtain ⟨f2, hf2, hF⟩ := hm_bd hF
    refine hm_iast S X hf2 12 rfl dX8_puts_41 (fun H locs X => ?_)
    have X := X.to (ws' := (hm_wMM g a (hm_up A 11 f2) Z)) rfl
    refine lv_aload_n hx hb dX8_puts_42 rfl (lv_at hl 0 rfl) ?_
    refine lv_dup hx hb dX8_puts_43 rfl ?_
    refine hm_get S X hf_X8_93 0 rfl rfl dX8_puts_44 ?_
    refine lv_iconst (v := 1) hx hb dX8_puts_47 (by decide) ?_
    refine lv_iadd hx hb dX8_puts_48 ?_
    refine hm_put S X hf_X8_93 hg_X8_drafted 0 rfl rfl rfl (Nat.le_of_ble_eq_true rfl) dX8_puts_49 (fun H locs X => ?_)
    have X := X.to (ws' := (hm_wMM g a (hm_up A 11 f2) (hm_up Z 5 ((Z 5) + 1)))) rfl
    refine lv_aload_n hx hb dX8_puts_52 rfl (lv_at hl 0 rfl) ?_
    refine hm_get S X hf_X8_93 0 rfl rfl dX8_puts_53 ?_
    obtain rfl := Option.some.inj hF
    exact hm_ri S hr hlk X rfl rfl dX8_puts_56
  unfold f_X8_puts at hF
  refine lv_aload_n hx hb dX8_puts_0 rfl (lv_at hl 0 rfl) ?_
  refine lv_iload_n hx hb dX8_puts_1 rfl (lv_at hl 1 rfl) ?_
  obtain ⟨t1, ht1, hF⟩ := hm_bd hF
  refine hm_vi (As := [.int x0]) S X mw_X8_isPlace hw_5_6 (c_X8_isPlace l g a A Z x0 t1 ht1) hm_same hm_same rfl rfl rfl ⟨rfl, rfl, Nat.le_of_ble_eq_true rfl, Nat.le_of_ble_eq_true rfl⟩ rfl hl.1 rfl (Nat.le_of_ble_eq_true rfl) dX8_puts_2 ⟨Nat.zero_le _, Nat.zero_le _⟩ (fun H locs X => ?_)
  refine lv_if_eq (tgt := 30) hx hb dX8_puts_5 (by decide) (fun c5 => ?_) (fun c5 => ?_)
  · have hF := hm_if hF c5
    refine lv_iconst (v := (-1)) hx hb dX8_puts_30 (by decide) ?_
    obtain rfl := Option.some.inj hF
    exact hm_ri S hr hlk X rfl rfl dX8_puts_31
  · have hF := hm_nf hF c5
    refine lv_aload_n hx hb dX8_puts_8 rfl (lv_at hl 0 rfl) ?_
    refine hm_get S X hf_X8_93 0 rfl rfl dX8_puts_9 ?_
    refine lv_if_le (tgt := 32) hx hb dX8_puts_12 (by decide) (fun c12 => ?_) (fun c12 => ?_)
    · have hF := hm_if hF c12
      exact hl32  hF _ _ X _ (lv_sub hl [0, 1] rfl)
    · have hF := hm_nf hF c12
      refine lv_iload_n hx hb dX8_puts_15 rfl (lv_at hl 1 rfl) ?_
      refine lv_aload_n hx hb dX8_puts_16 rfl (lv_at hl 0 rfl) ?_
      refine hm_get S X hf_X8_44 0 rfl rfl dX8_puts_17 ?_
      refine lv_aload_n hx hb dX8_puts_20 rfl (lv_at hl 0 rfl) ?_
      refine hm_get S X hf_X8_93 0 rfl rfl dX8_puts_21 ?_
      refine lv_iconst (v := 1) hx hb dX8_puts_24 (by decide) ?_
      refine lv_isub hx hb dX8_puts_25 ?_
      obtain ⟨t3, ht3, hF⟩ := hm_bd hF
      refine hm_iald S X ht3 12 rfl dX8_puts_26 ?_
      refine lv_icmp_gt (tgt := 32) hx hb dX8_puts_27 (by decide) (fun c27 => ?_) (fun c27 => ?_)
      · have hF := hm_if hF c27
        exact hl32  hF _ _ X _ (lv_sub hl [0, 1] rfl)
      · have hF := hm_nf hF c27
        refine lv_iconst (v := (-1)) hx hb dX8_puts_30 (by decide) ?_
        obtain rfl := Option.some.inj hF
        exact hm_ri S hr hlk X rfl rfl dX8_puts_31
def f_X8_takes (A_11 : Nat → Int32) (Z_5 : Int32)  : Option (Int32 × Int32) :=
  if Z_5 = 0 then (
  some ((-2), Z_5))
  else (
  (hm_rd 104 A_11 (Z_5 - 1)).bind fun t1 =>
  some (t1, (Z_5 - 1)))
abbrev rm_X8_takes : Room := { frames := 0, cells := 0, slots := 0, locals := 0 }
set_option maxHeartbeats 4000000 in
set_option maxRecDepth 100000 in
theorem c_X8_takes (l : Launch) (g : hm_G) (a : Nat → Nat) (A : Nat → Nat → Int32) (Z : Nat → Int32) (q : Int32 × Int32) (hF : f_X8_takes (A 11) (Z 5) = some q) : hm_Mi l yX8_takes (Cond.code yX8_takes cX8_takes 1 (some .int) :: hm_W) rm_X8_takes g [.ref (a 0)] (hm_wMM g a A Z) (hm_wMM g a A (hm_up Z 5 q.2)) q.1 := by
  refine hm_ofi [(0, .ref (a 0))] (by decide) (own := RX8) rfl (Nat.le_of_ble_eq_true rfl) rfl rfl ?_
  intro p e s m args below meth c AA S hr hlk X ls hl
  have hx := S.1
  have hb := S.2.1
  have hown := S.2.2.2.1
  have hts := S.2.2.2.2
  unfold f_X8_takes at hF
  refine lv_aload_n hx hb dX8_takes_0 rfl (lv_at hl 0 rfl) ?_
  refine hm_get S X hf_X8_93 0 rfl rfl dX8_takes_1 ?_
  refine lv_if_ne (tgt := 10) hx hb dX8_takes_4 (by decide) (fun c4 => ?_) (fun c4 => ?_)
  · have hF := hm_nf hF c4
    refine lv_aload_n hx hb dX8_takes_10 rfl (lv_at hl 0 rfl) ?_
    refine lv_dup hx hb dX8_takes_11 rfl ?_
    refine hm_get S X hf_X8_93 0 rfl rfl dX8_takes_12 ?_
    refine lv_iconst (v := 1) hx hb dX8_takes_15 (by decide) ?_
    refine lv_isub hx hb dX8_takes_16 ?_
    refine hm_put S X hf_X8_93 hg_X8_drafted 0 rfl rfl rfl (Nat.le_of_ble_eq_true rfl) dX8_takes_17 (fun H locs X => ?_)
    have X := X.to (ws' := (hm_wMM g a A (hm_up Z 5 ((Z 5) - 1)))) rfl
    refine lv_aload_n hx hb dX8_takes_20 rfl (lv_at hl 0 rfl) ?_
    refine hm_get S X hf_X8_44 0 rfl rfl dX8_takes_21 ?_
    refine lv_aload_n hx hb dX8_takes_24 rfl (lv_at hl 0 rfl) ?_
    refine hm_get S X hf_X8_93 0 rfl rfl dX8_takes_25 ?_
    obtain ⟨t1, ht1, hF⟩ := hm_bd hF
    refine hm_iald S X ht1 12 rfl dX8_takes_28 ?_
    obtain rfl := Option.some.inj hF
    exact hm_ri S hr hlk X rfl rfl dX8_takes_29
  · have hF := hm_if hF c4
    refine lv_bipush (v := (-2)) hx hb dX8_takes_7 (by decide) ?_
    obtain rfl := Option.some.inj hF
    exact hm_ri S hr hlk X rfl rfl dX8_takes_9
def f_X8_judged_l109 (A_1 : Nat → Int32) (A_2 : Nat → Int32) (A_4 : Nat → Int32) (A_5 : Nat → Int32) (A_6 : Nat → Int32) (A_7 : Nat → Int32) (A_15 : Nat → Int32) (A_16 : Nat → Int32) (A_17 : Nat → Int32) (A_18 : Nat → Int32) (Z_1 : Int32) (Z_3 : Int32) (Z_5 : Int32) (Z_7 : Int32) (x0 : Int32) (v2 : Int32) (v3 : Int32) (wA_14 : Nat → Int32) : Option (Int32 × (Nat → Int32) × (Nat → Int32) × (Nat → Int32) × (Nat → Int32) × (Nat → Int32) × Int32) :=
  if (Z_3 - 1) ≤ v3 then (
  (hm_rd 38 A_7 35).bind fun t3 =>
  (f_X8_laysPage A_1 A_2 A_4 A_5 A_6 A_7 wA_14 A_15 A_16 A_17 A_18 Z_1 Z_3 t3).bind fun t4 =>
  if x0 = 0 then (
  some (0, t4.2.1, t4.2.2.1, t4.2.2.2.1, t4.2.2.2.2.1, t4.2.2.2.2.2.1, t4.2.2.2.2.2.2))
  else (
  if x0 = 1 then (
  some ((-9), t4.2.1, t4.2.2.1, t4.2.2.2.1, t4.2.2.2.2.1, t4.2.2.2.2.2.1, t4.2.2.2.2.2.2))
  else (
  (hm_rd 105 t4.2.2.1 0).bind fun t5 =>
  some ((v2 - t5), t4.2.1, t4.2.2.1, t4.2.2.2.1, t4.2.2.2.2.1, t4.2.2.2.2.2.1, t4.2.2.2.2.2.2))))
  else (
  if x0 = 0 then (
  some (2, wA_14, A_15, A_16, A_17, A_18, Z_7))
  else (
  if x0 = 1 then (
  some (Z_5, wA_14, A_15, A_16, A_17, A_18, Z_7))
  else (
  some ((-9), wA_14, A_15, A_16, A_17, A_18, Z_7))))
def f_X8_judged_l22 (A_1 : Nat → Int32) (A_2 : Nat → Int32) (A_4 : Nat → Int32) (A_5 : Nat → Int32) (A_6 : Nat → Int32) (A_7 : Nat → Int32) (A_11 : Nat → Int32) (A_15 : Nat → Int32) (A_16 : Nat → Int32) (A_17 : Nat → Int32) (A_18 : Nat → Int32) (Z_1 : Int32) (Z_3 : Int32) (Z_5 : Int32) (Z_7 : Int32) (x0 : Int32) : Nat → Int32 → Int32 → Int32 → (Nat → Int32) → Option (Int32 × (Nat → Int32) × (Nat → Int32) × (Nat → Int32) × (Nat → Int32) × (Nat → Int32) × Int32)
  | 0, _, _, _, _ => none
  | k + 1, v2, v3, v4, wA_14 =>
  if Z_5 ≤ v4 then (
  f_X8_judged_l109 A_1 A_2 A_4 A_5 A_6 A_7 A_15 A_16 A_17 A_18 Z_1 Z_3 Z_5 Z_7 x0 v2 v3 wA_14)
  else (
  (hm_rd 104 A_11 v4).bind fun t6 =>
  (hm_rd 38 A_7 35).bind fun t7 =>
  (f_X8_left A_1 A_2 A_4 A_5 A_6 A_7 wA_14 v3 t6 t7).bind fun t8 =>
  if (0 : Int32) ≤ t8 then (
  (hm_rd 104 A_11 v4).bind fun t9 =>
  (f_X8_costOf A_6 A_7 Z_3 v3 t9 t8).bind fun t10 =>
  (hm_rd 104 A_11 v4).bind fun t11 =>
  f_X8_judged_l22 A_1 A_2 A_4 A_5 A_6 A_7 A_11 A_15 A_16 A_17 A_18 Z_1 Z_3 Z_5 Z_7 x0 k (v2 + t10) t11 (v4 + 1) wA_14)
  else (
  if x0 = 0 then (
  some (1, wA_14, A_15, A_16, A_17, A_18, Z_7))
  else (
  if x0 = 1 then (
  some (v4, wA_14, A_15, A_16, A_17, A_18, Z_7))
  else (
  some ((-9), wA_14, A_15, A_16, A_17, A_18, Z_7)))))
theorem f_X8_judged_l22_s (A_1 : Nat → Int32) (A_2 : Nat → Int32) (A_4 : Nat → Int32) (A_5 : Nat → Int32) (A_6 : Nat → Int32) (A_7 : Nat → Int32) (A_11 : Nat → Int32) (A_15 : Nat → Int32) (A_16 : Nat → Int32) (A_17 : Nat → Int32) (A_18 : Nat → Int32) (Z_1 : Int32) (Z_3 : Int32) (Z_5 : Int32) (Z_7 : Int32) (x0 : Int32) (k : Nat) (v2 : Int32) (v3 : Int32) (v4 : Int32) (wA_14 : Nat → Int32) : f_X8_judged_l22 A_1 A_2 A_4 A_5 A_6 A_7 A_11 A_15 A_16 A_17 A_18 Z_1 Z_3 Z_5 Z_7 x0 (k + 1) v2 v3 v4 wA_14 =
  if Z_5 ≤ v4 then (
  f_X8_judged_l109 A_1 A_2 A_4 A_5 A_6 A_7 A_15 A_16 A_17 A_18 Z_1 Z_3 Z_5 Z_7 x0 v2 v3 wA_14)
  else (
  (hm_rd 104 A_11 v4).bind fun t6 =>
  (hm_rd 38 A_7 35).bind fun t7 =>
  (f_X8_left A_1 A_2 A_4 A_5 A_6 A_7 wA_14 v3 t6 t7).bind fun t8 =>
  if (0 : Int32) ≤ t8 then (
  (hm_rd 104 A_11 v4).bind fun t9 =>
  (f_X8_costOf A_6 A_7 Z_3 v3 t9 t8).bind fun t10 =>
  (hm_rd 104 A_11 v4).bind fun t11 =>
  f_X8_judged_l22 A_1 A_2 A_4 A_5 A_6 A_7 A_11 A_15 A_16 A_17 A_18 Z_1 Z_3 Z_5 Z_7 x0 k (v2 + t10) t11 (v4 + 1) wA_14)
  else (
  if x0 = 0 then (
  some (1, wA_14, A_15, A_16, A_17, A_18, Z_7))
  else (
  if x0 = 1 then (
  some (v4, wA_14, A_15, A_16, A_17, A_18, Z_7))
  else (
  some ((-9), wA_14, A_15, A_16, A_17, A_18, Z_7))))) := rfl
theorem f_X8_judged_l22_z (A_1 : Nat → Int32) (A_2 : Nat → Int32) (A_4 : Nat → Int32) (A_5 : Nat → Int32) (A_6 : Nat → Int32) (A_7 : Nat → Int32) (A_11 : Nat → Int32) (A_15 : Nat → Int32) (A_16 : Nat → Int32) (A_17 : Nat → Int32) (A_18 : Nat → Int32) (Z_1 : Int32) (Z_3 : Int32) (Z_5 : Int32) (Z_7 : Int32) (x0 : Int32) (v2 : Int32) (v3 : Int32) (v4 : Int32) (wA_14 : Nat → Int32) : f_X8_judged_l22 A_1 A_2 A_4 A_5 A_6 A_7 A_11 A_15 A_16 A_17 A_18 Z_1 Z_3 Z_5 Z_7 x0 0 v2 v3 v4 wA_14 = none := rfl
def f_X8_judged (A_1 : Nat → Int32) (A_2 : Nat → Int32) (A_4 : Nat → Int32) (A_5 : Nat → Int32) (A_6 : Nat → Int32) (A_7 : Nat → Int32) (A_11 : Nat → Int32) (A_14 : Nat → Int32) (A_15 : Nat → Int32) (A_16 : Nat → Int32) (A_17 : Nat → Int32) (A_18 : Nat → Int32) (Z_1 : Int32) (Z_3 : Int32) (Z_5 : Int32) (Z_7 : Int32) (x0 : Int32)  : Option (Int32 × (Nat → Int32) × (Nat → Int32) × (Nat → Int32) × (Nat → Int32) × (Nat → Int32) × Int32) :=
  (f_X8_in x0 0 2).bind fun t1 =>
  if t1 = 0 then (
  some ((-1), A_14, A_15, A_16, A_17, A_18, Z_7))
  else (
  (f_X8_sums A_1 A_7 A_14 Z_1).bind fun t2 =>
  f_X8_judged_l22 A_1 A_2 A_4 A_5 A_6 A_7 A_11 A_15 A_16 A_17 A_18 Z_1 Z_3 Z_5 Z_7 x0 hm_fu 0 (-1) 0 t2)
abbrev rm_X8_judged : Room := { frames := 6, cells := 0, slots := 0, locals := 137 }
set_option maxHeartbeats 4000000 in
set_option maxRecDepth 100000 in
theorem c_X8_judged (l : Launch) (g : hm_G) (a : Nat → Nat) (A : Nat → Nat → Int32) (Z : Nat → Int32) (x0 : Int32) (q : Int32 × (Nat → Int32) × (Nat → Int32) × (Nat → Int32) × (Nat → Int32) × (Nat → Int32) × Int32) (hF : f_X8_judged (A 1) (A 2) (A 4) (A 5) (A 6) (A 7) (A 11) (A 14) (A 15) (A 16) (A 17) (A 18) (Z 1) (Z 3) (Z 5) (Z 7) x0 = some q) : hm_Mi l yX8_judged (Cond.code yX8_judged cX8_judged 6 (some .int) :: hm_W) rm_X8_judged g [.ref (a 0), .int x0] (hm_wMM g a A Z) (hm_wMM g a (hm_up (hm_up (hm_up (hm_up (hm_up A 14 q.2.1) 15 q.2.2.1) 16 q.2.2.2.1) 17 q.2.2.2.2.1) 18 q.2.2.2.2.2.1) (hm_up Z 7 q.2.2.2.2.2.2)) q.1 := by
  refine hm_ofi [(0, .ref (a 0)), (1, .int x0)] (by decide) (own := RX8) rfl (Nat.le_of_ble_eq_true rfl) rfl rfl ?_
  intro p e s m args below meth c AA S hr hlk X ls hl
  have hx := S.1
  have hb := S.2.1
  have hown := S.2.2.2.1
  have hts := S.2.2.2.2
  have hl109 : ∀ (v2 : Int32) (v3 : Int32) (wA_14 : Nat → Int32), f_X8_judged_l109 (A 1) (A 2) (A 4) (A 5) (A 6) (A 7) (A 15) (A 16) (A 17) (A 18) (Z 1) (Z 3) (Z 5) (Z 7) x0 v2 v3 wA_14 = some q → ∀ (H : Heap) (locs : List Loc), hm_X g AA s H locs (hm_wMM g a (hm_up A 14 wA_14) Z) → ∀ ls : Array Slot, lv_has ls 6 [(0, .ref (a 0)), (1, .int x0), (2, .int v2), (3, .int v3)] → W p l e rm_X8_judged s m args below meth c H locs 0 0 (MQ below (hm_Qi g AA (hm_wMM g a (hm_up (hm_up (hm_up (hm_up (hm_up A 14 q.2.1) 15 q.2.2.1) 16 q.2.2.2.1) 17 q.2.2.2.2.1) 18 q.2.2.2.2.2.1) (hm_up Z 7 q.2.2.2.2.2.2)) q.1) args s 0 0 AA) (F0 m 109 ls []) := by
    intro v2 v3 wA_14 hF H locs X ls hl
    unfold f_X8_judged_l109 at hF
    refine lv_iload_n hx hb dX8_judged_109 rfl (lv_at hl 3 rfl) ?_
    refine lv_aload_n hx hb dX8_judged_110 rfl (lv_at hl 0 rfl) ?_
    refine hm_get S X hf_X8_117 0 rfl rfl dX8_judged_111 ?_
    refine lv_iconst (v := 1) hx hb dX8_judged_114 (by decide) ?_
    refine lv_isub hx hb dX8_judged_115 ?_
    refine lv_icmp_ge (tgt := 142) hx hb dX8_judged_116 (by decide) (fun c116 => ?_) (fun c116 => ?_)
    · have hF := hm_if hF c116
      refine lv_aload_n hx hb dX8_judged_142 rfl (lv_at hl 0 rfl) ?_
      refine lv_aload_n hx hb dX8_judged_143 rfl (lv_at hl 0 rfl) ?_
      refine hm_get S X hf_X8_32 0 rfl rfl dX8_judged_144 ?_
      refine lv_bipush (v := 35) hx hb dX8_judged_147 (by decide) ?_
      obtain ⟨t3, ht3, hF⟩ := hm_bd hF
      refine hm_iald S X ht3 8 rfl dX8_judged_149 ?_
      obtain ⟨t4, ht4, hF⟩ := hm_bd hF
      refine hm_vi (As := [.int t3]) S X mw_X8_laysPage hw_5_41 (c_X8_laysPage l g a (hm_up A 14 wA_14) Z t3 t4 ht4) hm_same hm_same rfl rfl rfl ⟨rfl, rfl, Nat.le_of_ble_eq_true rfl, Nat.le_of_ble_eq_true rfl⟩ rfl hl.1 rfl (Nat.le_of_ble_eq_true rfl) dX8_judged_150 ⟨Nat.zero_le _, Nat.zero_le _⟩ (fun H locs X => ?_)
      refine lv_pop hx hb dX8_judged_153 rfl ?_
      refine lv_iload_n hx hb dX8_judged_154 rfl (lv_at hl 1 rfl) ?_
      refine lv_if_ne (tgt := 162) hx hb dX8_judged_155 (by decide) (fun c155 => ?_) (fun c155 => ?_)
      · have hF := hm_nf hF c155
        refine lv_iload_n hx hb dX8_judged_162 rfl (lv_at hl 1 rfl) ?_
        refine lv_iconst (v := 1) hx hb dX8_judged_163 (by decide) ?_
        refine lv_icmp_ne (tgt := 172) hx hb dX8_judged_164 (by decide) (fun c164 => ?_) (fun c164 => ?_)
        · have hF := hm_nf hF c164
          refine lv_iload_n hx hb dX8_judged_172 rfl (lv_at hl 2 rfl) ?_
          refine lv_aload_n hx hb dX8_judged_173 rfl (lv_at hl 0 rfl) ?_
          refine hm_get S X hf_X8_56 0 rfl rfl dX8_judged_174 ?_
          refine lv_iconst (v := 0) hx hb dX8_judged_177 (by decide) ?_
          obtain ⟨t5, ht5, hF⟩ := hm_bd hF
          refine hm_iald S X ht5 16 rfl dX8_judged_178 ?_
          refine lv_isub hx hb dX8_judged_179 ?_
          obtain rfl := Option.some.inj hF
          exact hm_ri S hr hlk X rfl rfl dX8_judged_180
        · have hF := hm_if hF c164
          refine lv_bipush (v := (-9)) hx hb dX8_judged_167 (by decide) ?_
          refine lv_goto (tgt := 180) hx hb dX8_judged_169 (by decide) ?_
          obtain rfl := Option.some.inj hF
          exact hm_ri S hr hlk X rfl rfl dX8_judged_180
      · have hF := hm_if hF c155
        refine lv_iconst (v := 0) hx hb dX8_judged_158 (by decide) ?_
        refine lv_goto (tgt := 180) hx hb dX8_judged_159 (by decide) ?_
        obtain rfl := Option.some.inj hF
        exact hm_ri S hr hlk X rfl rfl dX8_judged_180
    · have hF := hm_nf hF c116
      refine lv_iload_n hx hb dX8_judged_119 rfl (lv_at hl 1 rfl) ?_
      refine lv_if_ne (tgt := 127) hx hb dX8_judged_120 (by decide) (fun c120 => ?_) (fun c120 => ?_)
      · have hF := hm_nf hF c120
        refine lv_iload_n hx hb dX8_judged_127 rfl (lv_at hl 1 rfl) ?_
        refine lv_iconst (v := 1) hx hb dX8_judged_128 (by decide) ?_
        refine lv_icmp_ne (tgt := 139) hx hb dX8_judged_129 (by decide) (fun c129 => ?_) (fun c129 => ?_)
        · have hF := hm_nf hF c129
          refine lv_bipush (v := (-9)) hx hb dX8_judged_139 (by decide) ?_
          obtain rfl := Option.some.inj hF
          exact hm_ri S hr hlk X rfl rfl dX8_judged_141
        · have hF := hm_if hF c129
          refine lv_aload_n hx hb dX8_judged_132 rfl (lv_at hl 0 rfl) ?_
          refine hm_get S X hf_X8_93 0 rfl rfl dX8_judged_133 ?_
          refine lv_goto (tgt := 141) hx hb dX8_judged_136 (by decide) ?_
          obtain rfl := Option.some.inj hF
          exact hm_ri S hr hlk X rfl rfl dX8_judged_141
      · have hF := hm_if hF c120
        refine lv_iconst (v := 2) hx hb dX8_judged_123 (by decide) ?_
        refine lv_goto (tgt := 141) hx hb dX8_judged_124 (by decide) ?_
        obtain rfl := Option.some.inj hF
        exact hm_ri S hr hlk X rfl rfl dX8_judged_141
  have hl22 : ∀ (k22 : Nat) (v2 : Int32) (v3 : Int32) (v4 : Int32) (wA_14 : Nat → Int32), f_X8_judged_l22 (A 1) (A 2) (A 4) (A 5) (A 6) (A 7) (A 11) (A 15) (A 16) (A 17) (A 18) (Z 1) (Z 3) (Z 5) (Z 7) x0 k22 v2 v3 v4 wA_14 = some q → ∀ (H : Heap) (locs : List Loc), hm_X g AA s H locs (hm_wMM g a (hm_up A 14 wA_14) Z) → ∀ ls : Array Slot, lv_has ls 6 [(0, .ref (a 0)), (1, .int x0), (2, .int v2), (3, .int v3), (4, .int v4)] → W p l e rm_X8_judged s m args below meth c H locs 0 0 (MQ below (hm_Qi g AA (hm_wMM g a (hm_up (hm_up (hm_up (hm_up (hm_up A 14 q.2.1) 15 q.2.2.1) 16 q.2.2.2.1) 17 q.2.2.2.2.1) 18 q.2.2.2.2.2.1) (hm_up Z 7 q.2.2.2.2.2.2)) q.1) args s 0 0 AA) (F0 m 22 ls []) := by
    intro k22
    induction k22 with
    | zero =>
      intro v2 v3 v4 wA_14 hF
      rw [f_X8_judged_l22_z] at hF
      cases hF
    | succ k22 ih22 =>
      intro v2 v3 v4 wA_14 hF H locs X ls hl
      rw [f_X8_judged_l22_s] at hF
      refine lv_iload hx hb dX8_judged_22 (lv_at hl 4 rfl) ?_
      refine lv_aload_n hx hb dX8_judged_24 rfl (lv_at hl 0 rfl) ?_
      refine hm_get S X hf_X8_93 0 rfl rfl dX8_judged_25 ?_
      refine lv_icmp_ge (tgt := 109) hx hb dX8_judged_28 (by decide) (fun c28 => ?_) (fun c28 => ?_)
      · have hF := hm_if hF c28
        exact hl109 v2 v3 wA_14 hF _ _ X _ (lv_sub hl [0, 1, 2, 3] rfl)
      · have hF := hm_nf hF c28
        refine lv_aload_n hx hb dX8_judged_31 rfl (lv_at hl 0 rfl) ?_
        refine lv_iload_n hx hb dX8_judged_32 rfl (lv_at hl 3 rfl) ?_
        refine lv_aload_n hx hb dX8_judged_33 rfl (lv_at hl 0 rfl) ?_
        refine hm_get S X hf_X8_44 0 rfl rfl dX8_judged_34 ?_
        refine lv_iload hx hb dX8_judged_37 (lv_at hl 4 rfl) ?_
        obtain ⟨t6, ht6, hF⟩ := hm_bd hF
        refine hm_iald S X ht6 12 rfl dX8_judged_39 ?_
        refine lv_aload_n hx hb dX8_judged_40 rfl (lv_at hl 0 rfl) ?_
        refine hm_get S X hf_X8_32 0 rfl rfl dX8_judged_41 ?_
        refine lv_bipush (v := 35) hx hb dX8_judged_44 (by decide) ?_
        obtain ⟨t7, ht7, hF⟩ := hm_bd hF
        refine hm_iald S X ht7 8 rfl dX8_judged_46 ?_
        obtain ⟨t8, ht8, hF⟩ := hm_bd hF
        refine hm_vi (As := [.int v3, .int t6, .int t7]) S X mw_X8_left hw_5_53 (c_X8_left l g a (hm_up A 14 wA_14) Z v3 t6 t7 t8 ht8) hm_same hm_same rfl rfl rfl ⟨rfl, rfl, Nat.le_of_ble_eq_true rfl, Nat.le_of_ble_eq_true rfl⟩ rfl hl.1 rfl (Nat.le_of_ble_eq_true rfl) dX8_judged_47 ⟨Nat.zero_le _, Nat.zero_le _⟩ (fun H locs X => ?_)
        refine lv_istore (lv' := [(5, .int t8), (0, .ref (a 0)), (1, .int x0), (2, .int v2), (3, .int v3), (4, .int v4)]) hx hb dX8_judged_50 hl (by decide) rfl (fun ls hl => ?_)
        refine lv_iload hx hb dX8_judged_52 (lv_at hl 0 rfl) ?_
        refine lv_if_ge (tgt := 78) hx hb dX8_judged_54 (by decide) (fun c54 => ?_) (fun c54 => ?_)
        · have hF := hm_if hF c54
          refine lv_iload_n hx hb dX8_judged_78 rfl (lv_at hl 3 rfl) ?_
          refine lv_aload_n hx hb dX8_judged_79 rfl (lv_at hl 1 rfl) ?_
          refine lv_iload_n hx hb dX8_judged_80 rfl (lv_at hl 4 rfl) ?_
          refine lv_aload_n hx hb dX8_judged_81 rfl (lv_at hl 1 rfl) ?_
          refine hm_get S X hf_X8_44 0 rfl rfl dX8_judged_82 ?_
          refine lv_iload hx hb dX8_judged_85 (lv_at hl 5 rfl) ?_
          obtain ⟨t9, ht9, hF⟩ := hm_bd hF
          refine hm_iald S X ht9 12 rfl dX8_judged_87 ?_
          refine lv_iload hx hb dX8_judged_88 (lv_at hl 0 rfl) ?_
          obtain ⟨t10, ht10, hF⟩ := hm_bd hF
          refine hm_vi (As := [.int v3, .int t9, .int t8]) S X mw_X8_costOf hw_5_73 (c_X8_costOf l g a (hm_up A 14 wA_14) Z v3 t9 t8 t10 ht10) hm_same hm_same rfl rfl rfl ⟨rfl, rfl, Nat.le_of_ble_eq_true rfl, Nat.le_of_ble_eq_true rfl⟩ rfl hl.1 rfl (Nat.le_of_ble_eq_true rfl) dX8_judged_90 ⟨Nat.zero_le _, Nat.zero_le _⟩ (fun H locs X => ?_)
          refine lv_iadd hx hb dX8_judged_93 ?_
          refine lv_istore_n (lv' := [(2, .int (v2 + t10)), (5, .int t8), (0, .ref (a 0)), (1, .int x0), (3, .int v3), (4, .int v4)]) hx hb dX8_judged_94 rfl hl (by decide) rfl (fun ls hl => ?_)
          refine lv_aload_n hx hb dX8_judged_95 rfl (lv_at hl 2 rfl) ?_
          refine hm_get S X hf_X8_44 0 rfl rfl dX8_judged_96 ?_
          refine lv_iload hx hb dX8_judged_99 (lv_at hl 5 rfl) ?_
          obtain ⟨t11, ht11, hF⟩ := hm_bd hF
          refine hm_iald S X ht11 12 rfl dX8_judged_101 ?_
          refine lv_istore_n (lv' := [(3, .int t11), (2, .int (v2 + t10)), (5, .int t8), (0, .ref (a 0)), (1, .int x0), (4, .int v4)]) hx hb dX8_judged_102 rfl hl (by decide) rfl (fun ls hl => ?_)
          refine lv_iinc (v := (v4 + 1)) (lv' := [(4, .int (v4 + 1)), (3, .int t11), (2, .int (v2 + t10)), (5, .int t8), (0, .ref (a 0)), (1, .int x0)]) hx hb dX8_judged_103 hl (k := 5) rfl rfl (by decide) rfl (fun ls hl => ?_)
          refine lv_goto (tgt := 22) hx hb dX8_judged_106 (by decide) ?_
          exact ih22 (v2 + t10) t11 (v4 + 1) wA_14 hF _ _ X _ (lv_sub hl [4, 5, 2, 1, 0] rfl)
        · have hF := hm_nf hF c54
          refine lv_iload_n hx hb dX8_judged_57 rfl (lv_at hl 2 rfl) ?_
          refine lv_if_ne (tgt := 65) hx hb dX8_judged_58 (by decide) (fun c58 => ?_) (fun c58 => ?_)
          · have hF := hm_nf hF c58
            refine lv_iload_n hx hb dX8_judged_65 rfl (lv_at hl 2 rfl) ?_
            refine lv_iconst (v := 1) hx hb dX8_judged_66 (by decide) ?_
            refine lv_icmp_ne (tgt := 75) hx hb dX8_judged_67 (by decide) (fun c67 => ?_) (fun c67 => ?_)
            · have hF := hm_nf hF c67
              refine lv_bipush (v := (-9)) hx hb dX8_judged_75 (by decide) ?_
              obtain rfl := Option.some.inj hF
              exact hm_ri S hr hlk X rfl rfl dX8_judged_77
            · have hF := hm_if hF c67
              refine lv_iload hx hb dX8_judged_70 (lv_at hl 5 rfl) ?_
              refine lv_goto (tgt := 77) hx hb dX8_judged_72 (by decide) ?_
              obtain rfl := Option.some.inj hF
              exact hm_ri S hr hlk X rfl rfl dX8_judged_77
          · have hF := hm_if hF c58
            refine lv_iconst (v := 1) hx hb dX8_judged_61 (by decide) ?_
            refine lv_goto (tgt := 77) hx hb dX8_judged_62 (by decide) ?_
            obtain rfl := Option.some.inj hF
            exact hm_ri S hr hlk X rfl rfl dX8_judged_77
  unfold f_X8_judged at hF
  refine lv_iload_n hx hb dX8_judged_0 rfl (lv_at hl 1 rfl) ?_
  refine lv_iconst (v := 0) hx hb dX8_judged_1 (by decide) ?_
  refine lv_iconst (v := 2) hx hb dX8_judged_2 (by decide) ?_
  obtain ⟨t1, ht1, hF⟩ := hm_bd hF
  refine hm_si S X mw_X8_in hw_4_193 (c_X8_in l g x0 0 2 t1 ht1) (List.Perm.refl _) (List.Perm.refl _) ⟨rfl, rfl, Nat.le_of_ble_eq_true rfl, Nat.le_of_ble_eq_true rfl⟩ rfl hl.1 rfl (Nat.le_of_ble_eq_true rfl) dX8_judged_3 ⟨Nat.zero_le _, Nat.zero_le _⟩ (fun H locs X => ?_)
  refine lv_if_ne (tgt := 11) hx hb dX8_judged_6 (by decide) (fun c6 => ?_) (fun c6 => ?_)
  · have hF := hm_nf hF c6
    refine lv_aload_n hx hb dX8_judged_11 rfl (lv_at hl 0 rfl) ?_
    obtain ⟨t2, ht2, hF⟩ := hm_bd hF
    refine hm_vv (As := []) S X mw_X8_sums hw_5_45 (c_X8_sums l g a A Z t2 ht2) hm_same hm_same rfl rfl rfl ⟨rfl, rfl, Nat.le_of_ble_eq_true rfl, Nat.le_of_ble_eq_true rfl⟩ rfl hl.1 rfl (Nat.le_of_ble_eq_true rfl) dX8_judged_12 ⟨Nat.zero_le _, Nat.zero_le _⟩ (fun H locs X => ?_)
    refine lv_iconst (v := 0) hx hb dX8_judged_15 (by decide) ?_
    refine lv_istore_n (lv' := [(2, .int 0), (0, .ref (a 0)), (1, .int x0)]) hx hb dX8_judged_16 rfl hl (by decide) rfl (fun ls hl => ?_)
    refine lv_iconst (v := (-1)) hx hb dX8_judged_17 (by decide) ?_
    refine lv_istore_n (lv' := [(3, .int (-1)), (2, .int 0), (0, .ref (a 0)), (1, .int x0)]) hx hb dX8_judged_18 rfl hl (by decide) rfl (fun ls hl => ?_)
    refine lv_iconst (v := 0) hx hb dX8_judged_19 (by decide) ?_
    refine lv_istore (lv' := [(4, .int 0), (3, .int (-1)), (2, .int 0), (0, .ref (a 0)), (1, .int x0)]) hx hb dX8_judged_20 hl (by decide) rfl (fun ls hl => ?_)
    exact hl22 hm_fu 0 (-1) 0 t2 hF _ _ X _ (lv_sub hl [3, 4, 2, 1, 0] rfl)
  · have hF := hm_if hF c6
    refine lv_iconst (v := (-1)) hx hb dX8_judged_9 (by decide) ?_
    obtain rfl := Option.some.inj hF
    exact hm_ri S hr hlk X rfl rfl dX8_judged_10
def f_X8_finds_l16 (Z_9 : Int32) (x0 : Int32) (s16_0 : Int32) : Option (Int32 × Int32 × Int32) :=
  some (s16_0, x0, (Z_9 + 1))
def f_X8_finds (Z_9 : Int32) (Z_10 : Int32) (x0 : Int32)  : Option (Int32 × Int32 × Int32) :=
  if Z_9 = 0 then (
  f_X8_finds_l16 Z_9 x0 x0)
  else (
  f_X8_finds_l16 Z_9 x0 Z_10)
abbrev rm_X8_finds : Room := { frames := 0, cells := 0, slots := 0, locals := 0 }
set_option maxHeartbeats 4000000 in
set_option maxRecDepth 100000 in
theorem c_X8_finds (l : Launch) (g : hm_G) (a : Nat → Nat) (A : Nat → Nat → Int32) (Z : Nat → Int32) (x0 : Int32) (q : Int32 × Int32 × Int32) (hF : f_X8_finds (Z 9) (Z 10) x0 = some q) : hm_Mv l yX8_finds (Cond.code yX8_finds cX8_finds 2 none :: hm_W) rm_X8_finds g [.ref (a 0), .int x0] (hm_wMM g a A Z) (hm_wMM g a A (hm_up (hm_up (hm_up Z 9 q.2.2) 10 q.1) 11 q.2.1)) := by
  refine hm_ofv [(0, .ref (a 0)), (1, .int x0)] (by decide) (own := RX8) rfl (Nat.le_of_ble_eq_true rfl) rfl rfl ?_
  intro p e s m args below meth c AA S hr hlk X ls hl
  have hx := S.1
  have hb := S.2.1
  have hown := S.2.2.2.1
  have hts := S.2.2.2.2
  have hl16 : ∀ (s16_0 : Int32), f_X8_finds_l16 (Z 9) x0 s16_0 = some q → ∀ (H : Heap) (locs : List Loc), hm_X g AA s H locs (hm_wMM g a A Z) → ∀ ls : Array Slot, lv_has ls 2 [(0, .ref (a 0)), (1, .int x0)] → W p l e rm_X8_finds s m args below meth c H locs 0 0 (MQ below (hm_Qv g AA (hm_wMM g a A (hm_up (hm_up (hm_up Z 9 q.2.2) 10 q.1) 11 q.2.1))) args s 0 0 AA) (F0 m 16 ls [.int s16_0, .ref (a 0)]) := by
    intro s16_0 hF H locs X ls hl
    unfold f_X8_finds_l16 at hF
    refine hm_put S X hf_X8_223 hg_X8_goodLeast 0 rfl rfl rfl (Nat.le_of_ble_eq_true rfl) dX8_finds_16 (fun H locs X => ?_)
    have X := X.to (ws' := (hm_wMM g a A (hm_up Z 10 s16_0))) rfl
    refine lv_aload_n hx hb dX8_finds_19 rfl (lv_at hl 0 rfl) ?_
    refine lv_iload_n hx hb dX8_finds_20 rfl (lv_at hl 1 rfl) ?_
    refine hm_put S X hf_X8_226 hg_X8_goodMost 0 rfl rfl rfl (Nat.le_of_ble_eq_true rfl) dX8_finds_21 (fun H locs X => ?_)
    have X := X.to (ws' := (hm_wMM g a A (hm_up (hm_up Z 10 s16_0) 11 x0))) rfl
    refine lv_aload_n hx hb dX8_finds_24 rfl (lv_at hl 0 rfl) ?_
    refine lv_dup hx hb dX8_finds_25 rfl ?_
    refine hm_get S X hf_X8_220 0 rfl rfl dX8_finds_26 ?_
    refine lv_iconst (v := 1) hx hb dX8_finds_29 (by decide) ?_
    refine lv_iadd hx hb dX8_finds_30 ?_
    refine hm_put S X hf_X8_220 hg_X8_goodMany 0 rfl rfl rfl (Nat.le_of_ble_eq_true rfl) dX8_finds_31 (fun H locs X => ?_)
    have X := X.to (ws' := (hm_wMM g a A (hm_up (hm_up (hm_up Z 9 ((Z 9) + 1)) 10 s16_0) 11 x0))) rfl
    obtain rfl := Option.some.inj hF
    exact hm_rv S hr hlk X rfl dX8_finds_34
  unfold f_X8_finds at hF
  refine lv_aload_n hx hb dX8_finds_0 rfl (lv_at hl 0 rfl) ?_
  refine lv_aload_n hx hb dX8_finds_1 rfl (lv_at hl 0 rfl) ?_
  refine hm_get S X hf_X8_220 0 rfl rfl dX8_finds_2 ?_
  refine lv_if_ne (tgt := 12) hx hb dX8_finds_5 (by decide) (fun c5 => ?_) (fun c5 => ?_)
  · have hF := hm_nf hF c5
    refine lv_aload_n hx hb dX8_finds_12 rfl (lv_at hl 0 rfl) ?_
    refine hm_get S X hf_X8_223 0 rfl rfl dX8_finds_13 ?_
    exact hl16 (Z 10) hF _ _ X _ (lv_sub hl [0, 1] rfl)
  · have hF := hm_if hF c5
    refine lv_iload_n hx hb dX8_finds_8 rfl (lv_at hl 1 rfl) ?_
    refine lv_goto (tgt := 16) hx hb dX8_finds_9 (by decide) ?_
    exact hl16 x0 hF _ _ X _ (lv_sub hl [0, 1] rfl)
def f_X8_found (Z_9 : Int32) (Z_10 : Int32) (Z_11 : Int32) (x0 : Int32)  : Option (Int32) :=
  if x0 = 0 then (
  some (Z_9))
  else (
  if Z_9 = 0 then (
  some ((-9)))
  else (
  if x0 = 1 then (
  some (Z_10))
  else (
  some (Z_11))))
abbrev rm_X8_found : Room := { frames := 0, cells := 0, slots := 0, locals := 0 }
set_option maxHeartbeats 4000000 in
set_option maxRecDepth 100000 in
theorem c_X8_found (l : Launch) (g : hm_G) (a : Nat → Nat) (A : Nat → Nat → Int32) (Z : Nat → Int32) (x0 : Int32) (q : Int32) (hF : f_X8_found (Z 9) (Z 10) (Z 11) x0 = some q) : hm_Mi l yX8_found (Cond.code yX8_found cX8_found 2 (some .int) :: hm_W) rm_X8_found g [.ref (a 0), .int x0] (hm_wMM g a A Z) (hm_wMM g a A Z) q := by
  refine hm_ofi [(0, .ref (a 0)), (1, .int x0)] (by decide) (own := RX8) rfl (Nat.le_of_ble_eq_true rfl) rfl rfl ?_
  intro p e s m args below meth c AA S hr hlk X ls hl
  have hx := S.1
  have hb := S.2.1
  have hown := S.2.2.2.1
  have hts := S.2.2.2.2
  unfold f_X8_found at hF
  refine lv_iload_n hx hb dX8_found_0 rfl (lv_at hl 1 rfl) ?_
  refine lv_if_ne (tgt := 11) hx hb dX8_found_1 (by decide) (fun c1 => ?_) (fun c1 => ?_)
  · have hF := hm_nf hF c1
    refine lv_aload_n hx hb dX8_found_11 rfl (lv_at hl 0 rfl) ?_
    refine hm_get S X hf_X8_220 0 rfl rfl dX8_found_12 ?_
    refine lv_if_ne (tgt := 23) hx hb dX8_found_15 (by decide) (fun c15 => ?_) (fun c15 => ?_)
    · have hF := hm_nf hF c15
      refine lv_iload_n hx hb dX8_found_23 rfl (lv_at hl 1 rfl) ?_
      refine lv_iconst (v := 1) hx hb dX8_found_24 (by decide) ?_
      refine lv_icmp_ne (tgt := 35) hx hb dX8_found_25 (by decide) (fun c25 => ?_) (fun c25 => ?_)
      · have hF := hm_nf hF c25
        refine lv_aload_n hx hb dX8_found_35 rfl (lv_at hl 0 rfl) ?_
        refine hm_get S X hf_X8_226 0 rfl rfl dX8_found_36 ?_
        obtain rfl := Option.some.inj hF
        exact hm_ri S hr hlk X rfl rfl dX8_found_39
      · have hF := hm_if hF c25
        refine lv_aload_n hx hb dX8_found_28 rfl (lv_at hl 0 rfl) ?_
        refine hm_get S X hf_X8_223 0 rfl rfl dX8_found_29 ?_
        refine lv_goto (tgt := 39) hx hb dX8_found_32 (by decide) ?_
        obtain rfl := Option.some.inj hF
        exact hm_ri S hr hlk X rfl rfl dX8_found_39
    · have hF := hm_if hF c15
      refine lv_bipush (v := (-9)) hx hb dX8_found_18 (by decide) ?_
      refine lv_goto (tgt := 39) hx hb dX8_found_20 (by decide) ?_
      obtain rfl := Option.some.inj hF
      exact hm_ri S hr hlk X rfl rfl dX8_found_39
  · have hF := hm_if hF c1
    refine lv_aload_n hx hb dX8_found_4 rfl (lv_at hl 0 rfl) ?_
    refine hm_get S X hf_X8_220 0 rfl rfl dX8_found_5 ?_
    refine lv_goto (tgt := 39) hx hb dX8_found_8 (by decide) ?_
    obtain rfl := Option.some.inj hF
    exact hm_ri S hr hlk X rfl rfl dX8_found_39
def f_X8_alike_l156 (x0 : Int32) (wA_14 : Nat → Int32) (wA_15 : Nat → Int32) (wA_16 : Nat → Int32) (wA_17 : Nat → Int32) (wA_18 : Nat → Int32) (wA_24 : Nat → Int32) (wZ_10 : Int32) (wZ_11 : Int32) (wZ_7 : Int32) (wZ_9 : Int32) : Option (Int32 × (Nat → Int32) × (Nat → Int32) × (Nat → Int32) × (Nat → Int32) × (Nat → Int32) × (Nat → Int32) × Int32 × Int32 × Int32 × Int32) :=
  (f_X8_found wZ_9 wZ_10 wZ_11 x0).bind fun t4 =>
  some (t4, wA_14, wA_15, wA_16, wA_17, wA_18, wA_24, wZ_10, wZ_11, wZ_7, wZ_9)
def f_X8_alike_l150 (J66 : Int32 → Int32 → (Nat → Int32) → (Nat → Int32) → (Nat → Int32) → (Nat → Int32) → (Nat → Int32) → (Nat → Int32) → Int32 → Int32 → Int32 → Int32 → Option (Int32 × (Nat → Int32) × (Nat → Int32) × (Nat → Int32) × (Nat → Int32) × (Nat → Int32) × (Nat → Int32) × Int32 × Int32 × Int32 × Int32)) (v2 : Int32) (v3 : Int32) (wA_14 : Nat → Int32) (wA_15 : Nat → Int32) (wA_16 : Nat → Int32) (wA_17 : Nat → Int32) (wA_18 : Nat → Int32) (wA_24 : Nat → Int32) (wZ_10 : Int32) (wZ_11 : Int32) (wZ_7 : Int32) (wZ_9 : Int32) : Option (Int32 × (Nat → Int32) × (Nat → Int32) × (Nat → Int32) × (Nat → Int32) × (Nat → Int32) × (Nat → Int32) × Int32 × Int32 × Int32 × Int32) :=
  J66 v2 (v3 + 1) wA_14 wA_15 wA_16 wA_17 wA_18 wA_24 wZ_10 wZ_11 wZ_7 wZ_9
def f_X8_alike_l140 (J66 : Int32 → Int32 → (Nat → Int32) → (Nat → Int32) → (Nat → Int32) → (Nat → Int32) → (Nat → Int32) → (Nat → Int32) → Int32 → Int32 → Int32 → Int32 → Option (Int32 × (Nat → Int32) × (Nat → Int32) × (Nat → Int32) × (Nat → Int32) × (Nat → Int32) × (Nat → Int32) × Int32 × Int32 × Int32 × Int32)) (v2 : Int32) (v3 : Int32) (v4 : Int32) (wA_14 : Nat → Int32) (wA_15 : Nat → Int32) (wA_16 : Nat → Int32) (wA_17 : Nat → Int32) (wA_18 : Nat → Int32) (wA_24 : Nat → Int32) (wZ_10 : Int32) (wZ_11 : Int32) (wZ_7 : Int32) (wZ_9 : Int32) : Option (Int32 × (Nat → Int32) × (Nat → Int32) × (Nat → Int32) × (Nat → Int32) × (Nat → Int32) × (Nat → Int32) × Int32 × Int32 × Int32 × Int32) :=
  if v4 = 0 then (
  f_X8_alike_l150 J66 v2 v3 wA_14 wA_15 wA_16 wA_17 wA_18 wA_24 wZ_10 wZ_11 wZ_7 wZ_9)
  else (
  (f_X8_finds wZ_9 wZ_10 v3).bind fun t6 =>
  f_X8_alike_l150 J66 v2 v3 wA_14 wA_15 wA_16 wA_17 wA_18 wA_24 t6.1 t6.2.1 wZ_7 t6.2.2)
def f_X8_alike_l132 (J66 : Int32 → Int32 → (Nat → Int32) → (Nat → Int32) → (Nat → Int32) → (Nat → Int32) → (Nat → Int32) → (Nat → Int32) → Int32 → Int32 → Int32 → Int32 → Option (Int32 × (Nat → Int32) × (Nat → Int32) × (Nat → Int32) × (Nat → Int32) × (Nat → Int32) × (Nat → Int32) × Int32 × Int32 × Int32 × Int32)) (J99 : Int32 → Int32 → Int32 → Int32 → (Nat → Int32) → (Nat → Int32) → (Nat → Int32) → (Nat → Int32) → (Nat → Int32) → (Nat → Int32) → Int32 → Int32 → Int32 → Int32 → Option (Int32 × (Nat → Int32) × (Nat → Int32) × (Nat → Int32) × (Nat → Int32) × (Nat → Int32) × (Nat → Int32) × Int32 × Int32 × Int32 × Int32)) (s132_0 : Int32) (v2 : Int32) (v3 : Int32) (v5 : Int32) (wA_14 : Nat → Int32) (wA_15 : Nat → Int32) (wA_16 : Nat → Int32) (wA_17 : Nat → Int32) (wA_18 : Nat → Int32) (wA_24 : Nat → Int32) (wZ_10 : Int32) (wZ_11 : Int32) (wZ_7 : Int32) (wZ_9 : Int32) : Option (Int32 × (Nat → Int32) × (Nat → Int32) × (Nat → Int32) × (Nat → Int32) × (Nat → Int32) × (Nat → Int32) × Int32 × Int32 × Int32 × Int32) :=
  J99 v2 v3 s132_0 (v5 + 1) wA_14 wA_15 wA_16 wA_17 wA_18 wA_24 wZ_10 wZ_11 wZ_7 wZ_9
def f_X8_alike_l99 (J66 : Int32 → Int32 → (Nat → Int32) → (Nat → Int32) → (Nat → Int32) → (Nat → Int32) → (Nat → Int32) → (Nat → Int32) → Int32 → Int32 → Int32 → Int32 → Option (Int32 × (Nat → Int32) × (Nat → Int32) × (Nat → Int32) × (Nat → Int32) × (Nat → Int32) × (Nat → Int32) × Int32 × Int32 × Int32 × Int32)) : Nat → Int32 → Int32 → Int32 → Int32 → (Nat → Int32) → (Nat → Int32) → (Nat → Int32) → (Nat → Int32) → (Nat → Int32) → (Nat → Int32) → Int32 → Int32 → Int32 → Int32 → Option (Int32 × (Nat → Int32) × (Nat → Int32) × (Nat → Int32) × (Nat → Int32) × (Nat → Int32) × (Nat → Int32) × Int32 × Int32 × Int32 × Int32)
  | 0, _, _, _, _, _, _, _, _, _, _, _, _, _, _ => none
  | k + 1, v2, v3, v4, v5, wA_14, wA_15, wA_16, wA_17, wA_18, wA_24, wZ_10, wZ_11, wZ_7, wZ_9 =>
  if v2 ≤ v5 then (
  f_X8_alike_l140 J66 v2 v3 v4 wA_14 wA_15 wA_16 wA_17 wA_18 wA_24 wZ_10 wZ_11 wZ_7 wZ_9)
  else (
  if v4 = 0 then (
  f_X8_alike_l140 J66 v2 v3 v4 wA_14 wA_15 wA_16 wA_17 wA_18 wA_24 wZ_10 wZ_11 wZ_7 wZ_9)
  else (
  (hm_rd 104 wA_18 v5).bind fun t7 =>
  (hm_rd 104 wA_24 v5).bind fun t8 =>
  if t7 = t8 then (
  f_X8_alike_l132 J66 (fun zv2 zv3 zv4 zv5 zwA_14 zwA_15 zwA_16 zwA_17 zwA_18 zwA_24 zwZ_10 zwZ_11 zwZ_7 zwZ_9 => f_X8_alike_l99 J66 k zv2 zv3 zv4 zv5 zwA_14 zwA_15 zwA_16 zwA_17 zwA_18 zwA_24 zwZ_10 zwZ_11 zwZ_7 zwZ_9) 1 v2 v3 v5 wA_14 wA_15 wA_16 wA_17 wA_18 wA_24 wZ_10 wZ_11 wZ_7 wZ_9)
  else (
  f_X8_alike_l132 J66 (fun zv2 zv3 zv4 zv5 zwA_14 zwA_15 zwA_16 zwA_17 zwA_18 zwA_24 zwZ_10 zwZ_11 zwZ_7 zwZ_9 => f_X8_alike_l99 J66 k zv2 zv3 zv4 zv5 zwA_14 zwA_15 zwA_16 zwA_17 zwA_18 zwA_24 zwZ_10 zwZ_11 zwZ_7 zwZ_9) 0 v2 v3 v5 wA_14 wA_15 wA_16 wA_17 wA_18 wA_24 wZ_10 wZ_11 wZ_7 wZ_9)))
theorem f_X8_alike_l99_s (J66 : Int32 → Int32 → (Nat → Int32) → (Nat → Int32) → (Nat → Int32) → (Nat → Int32) → (Nat → Int32) → (Nat → Int32) → Int32 → Int32 → Int32 → Int32 → Option (Int32 × (Nat → Int32) × (Nat → Int32) × (Nat → Int32) × (Nat → Int32) × (Nat → Int32) × (Nat → Int32) × Int32 × Int32 × Int32 × Int32)) (k : Nat) (v2 : Int32) (v3 : Int32) (v4 : Int32) (v5 : Int32) (wA_14 : Nat → Int32) (wA_15 : Nat → Int32) (wA_16 : Nat → Int32) (wA_17 : Nat → Int32) (wA_18 : Nat → Int32) (wA_24 : Nat → Int32) (wZ_10 : Int32) (wZ_11 : Int32) (wZ_7 : Int32) (wZ_9 : Int32) : f_X8_alike_l99 J66 (k + 1) v2 v3 v4 v5 wA_14 wA_15 wA_16 wA_17 wA_18 wA_24 wZ_10 wZ_11 wZ_7 wZ_9 =
  if v2 ≤ v5 then (
  f_X8_alike_l140 J66 v2 v3 v4 wA_14 wA_15 wA_16 wA_17 wA_18 wA_24 wZ_10 wZ_11 wZ_7 wZ_9)
  else (
  if v4 = 0 then (
  f_X8_alike_l140 J66 v2 v3 v4 wA_14 wA_15 wA_16 wA_17 wA_18 wA_24 wZ_10 wZ_11 wZ_7 wZ_9)
  else (
  (hm_rd 104 wA_18 v5).bind fun t7 =>
  (hm_rd 104 wA_24 v5).bind fun t8 =>
  if t7 = t8 then (
  f_X8_alike_l132 J66 (fun zv2 zv3 zv4 zv5 zwA_14 zwA_15 zwA_16 zwA_17 zwA_18 zwA_24 zwZ_10 zwZ_11 zwZ_7 zwZ_9 => f_X8_alike_l99 J66 k zv2 zv3 zv4 zv5 zwA_14 zwA_15 zwA_16 zwA_17 zwA_18 zwA_24 zwZ_10 zwZ_11 zwZ_7 zwZ_9) 1 v2 v3 v5 wA_14 wA_15 wA_16 wA_17 wA_18 wA_24 wZ_10 wZ_11 wZ_7 wZ_9)
  else (
  f_X8_alike_l132 J66 (fun zv2 zv3 zv4 zv5 zwA_14 zwA_15 zwA_16 zwA_17 zwA_18 zwA_24 zwZ_10 zwZ_11 zwZ_7 zwZ_9 => f_X8_alike_l99 J66 k zv2 zv3 zv4 zv5 zwA_14 zwA_15 zwA_16 zwA_17 zwA_18 zwA_24 zwZ_10 zwZ_11 zwZ_7 zwZ_9) 0 v2 v3 v5 wA_14 wA_15 wA_16 wA_17 wA_18 wA_24 wZ_10 wZ_11 wZ_7 wZ_9))) := rfl
theorem f_X8_alike_l99_z (J66 : Int32 → Int32 → (Nat → Int32) → (Nat → Int32) → (Nat → Int32) → (Nat → Int32) → (Nat → Int32) → (Nat → Int32) → Int32 → Int32 → Int32 → Int32 → Option (Int32 × (Nat → Int32) × (Nat → Int32) × (Nat → Int32) × (Nat → Int32) × (Nat → Int32) × (Nat → Int32) × Int32 × Int32 × Int32 × Int32)) (v2 : Int32) (v3 : Int32) (v4 : Int32) (v5 : Int32) (wA_14 : Nat → Int32) (wA_15 : Nat → Int32) (wA_16 : Nat → Int32) (wA_17 : Nat → Int32) (wA_18 : Nat → Int32) (wA_24 : Nat → Int32) (wZ_10 : Int32) (wZ_11 : Int32) (wZ_7 : Int32) (wZ_9 : Int32) : f_X8_alike_l99 J66 0 v2 v3 v4 v5 wA_14 wA_15 wA_16 wA_17 wA_18 wA_24 wZ_10 wZ_11 wZ_7 wZ_9 = none := rfl
def f_X8_alike_l94 (J66 : Int32 → Int32 → (Nat → Int32) → (Nat → Int32) → (Nat → Int32) → (Nat → Int32) → (Nat → Int32) → (Nat → Int32) → Int32 → Int32 → Int32 → Int32 → Option (Int32 × (Nat → Int32) × (Nat → Int32) × (Nat → Int32) × (Nat → Int32) × (Nat → Int32) × (Nat → Int32) × Int32 × Int32 × Int32 × Int32)) (s94_0 : Int32) (v2 : Int32) (v3 : Int32) (wA_14 : Nat → Int32) (wA_15 : Nat → Int32) (wA_16 : Nat → Int32) (wA_17 : Nat → Int32) (wA_18 : Nat → Int32) (wA_24 : Nat → Int32) (wZ_10 : Int32) (wZ_11 : Int32) (wZ_7 : Int32) (wZ_9 : Int32) : Option (Int32 × (Nat → Int32) × (Nat → Int32) × (Nat → Int32) × (Nat → Int32) × (Nat → Int32) × (Nat → Int32) × Int32 × Int32 × Int32 × Int32) :=
  f_X8_alike_l99 J66 hm_fu v2 v3 s94_0 0 wA_14 wA_15 wA_16 wA_17 wA_18 wA_24 wZ_10 wZ_11 wZ_7 wZ_9
def f_X8_alike_l93 (J66 : Int32 → Int32 → (Nat → Int32) → (Nat → Int32) → (Nat → Int32) → (Nat → Int32) → (Nat → Int32) → (Nat → Int32) → Int32 → Int32 → Int32 → Int32 → Option (Int32 × (Nat → Int32) × (Nat → Int32) × (Nat → Int32) × (Nat → Int32) × (Nat → Int32) × (Nat → Int32) × Int32 × Int32 × Int32 × Int32)) (v2 : Int32) (v3 : Int32) (wA_14 : Nat → Int32) (wA_15 : Nat → Int32) (wA_16 : Nat → Int32) (wA_17 : Nat → Int32) (wA_18 : Nat → Int32) (wA_24 : Nat → Int32) (wZ_10 : Int32) (wZ_11 : Int32) (wZ_7 : Int32) (wZ_9 : Int32) : Option (Int32 × (Nat → Int32) × (Nat → Int32) × (Nat → Int32) × (Nat → Int32) × (Nat → Int32) × (Nat → Int32) × Int32 × Int32 × Int32 × Int32) :=
  f_X8_alike_l94 J66 0 v2 v3 wA_14 wA_15 wA_16 wA_17 wA_18 wA_24 wZ_10 wZ_11 wZ_7 wZ_9
def f_X8_alike_l66 (A_1 : Nat → Int32) (A_2 : Nat → Int32) (A_4 : Nat → Int32) (A_5 : Nat → Int32) (A_6 : Nat → Int32) (A_7 : Nat → Int32) (Z_1 : Int32) (Z_3 : Int32) (x0 : Int32) : Nat → Int32 → Int32 → (Nat → Int32) → (Nat → Int32) → (Nat → Int32) → (Nat → Int32) → (Nat → Int32) → (Nat → Int32) → Int32 → Int32 → Int32 → Int32 → Option (Int32 × (Nat → Int32) × (Nat → Int32) × (Nat → Int32) × (Nat → Int32) × (Nat → Int32) × (Nat → Int32) × Int32 × Int32 × Int32 × Int32)
  | 0, _, _, _, _, _, _, _, _, _, _, _, _ => none
  | k + 1, v2, v3, wA_14, wA_15, wA_16, wA_17, wA_18, wA_24, wZ_10, wZ_11, wZ_7, wZ_9 =>
  if (200 : Int32) < v3 then (
  f_X8_alike_l156 x0 wA_14 wA_15 wA_16 wA_17 wA_18 wA_24 wZ_10 wZ_11 wZ_7 wZ_9)
  else (
  (f_X8_laysPage A_1 A_2 A_4 A_5 A_6 A_7 wA_14 wA_15 wA_16 wA_17 wA_18 Z_1 Z_3 v3).bind fun t5 =>
  if t5.1 = 0 then (
  f_X8_alike_l93 (fun zv2 zv3 zwA_14 zwA_15 zwA_16 zwA_17 zwA_18 zwA_24 zwZ_10 zwZ_11 zwZ_7 zwZ_9 => f_X8_alike_l66 A_1 A_2 A_4 A_5 A_6 A_7 Z_1 Z_3 x0 k zv2 zv3 zwA_14 zwA_15 zwA_16 zwA_17 zwA_18 zwA_24 zwZ_10 zwZ_11 zwZ_7 zwZ_9) v2 v3 t5.2.1 t5.2.2.1 t5.2.2.2.1 t5.2.2.2.2.1 t5.2.2.2.2.2.1 wA_24 wZ_10 wZ_11 t5.2.2.2.2.2.2 wZ_9)
  else (
  if t5.2.2.2.2.2.2 = v2 then (
  f_X8_alike_l94 (fun zv2 zv3 zwA_14 zwA_15 zwA_16 zwA_17 zwA_18 zwA_24 zwZ_10 zwZ_11 zwZ_7 zwZ_9 => f_X8_alike_l66 A_1 A_2 A_4 A_5 A_6 A_7 Z_1 Z_3 x0 k zv2 zv3 zwA_14 zwA_15 zwA_16 zwA_17 zwA_18 zwA_24 zwZ_10 zwZ_11 zwZ_7 zwZ_9) 1 v2 v3 t5.2.1 t5.2.2.1 t5.2.2.2.1 t5.2.2.2.2.1 t5.2.2.2.2.2.1 wA_24 wZ_10 wZ_11 t5.2.2.2.2.2.2 wZ_9)
  else (
  f_X8_alike_l93 (fun zv2 zv3 zwA_14 zwA_15 zwA_16 zwA_17 zwA_18 zwA_24 zwZ_10 zwZ_11 zwZ_7 zwZ_9 => f_X8_alike_l66 A_1 A_2 A_4 A_5 A_6 A_7 Z_1 Z_3 x0 k zv2 zv3 zwA_14 zwA_15 zwA_16 zwA_17 zwA_18 zwA_24 zwZ_10 zwZ_11 zwZ_7 zwZ_9) v2 v3 t5.2.1 t5.2.2.1 t5.2.2.2.1 t5.2.2.2.2.1 t5.2.2.2.2.2.1 wA_24 wZ_10 wZ_11 t5.2.2.2.2.2.2 wZ_9)))
theorem f_X8_alike_l66_s (A_1 : Nat → Int32) (A_2 : Nat → Int32) (A_4 : Nat → Int32) (A_5 : Nat → Int32) (A_6 : Nat → Int32) (A_7 : Nat → Int32) (Z_1 : Int32) (Z_3 : Int32) (x0 : Int32) (k : Nat) (v2 : Int32) (v3 : Int32) (wA_14 : Nat → Int32) (wA_15 : Nat → Int32) (wA_16 : Nat → Int32) (wA_17 : Nat → Int32) (wA_18 : Nat → Int32) (wA_24 : Nat → Int32) (wZ_10 : Int32) (wZ_11 : Int32) (wZ_7 : Int32) (wZ_9 : Int32) : f_X8_alike_l66 A_1 A_2 A_4 A_5 A_6 A_7 Z_1 Z_3 x0 (k + 1) v2 v3 wA_14 wA_15 wA_16 wA_17 wA_18 wA_24 wZ_10 wZ_11 wZ_7 wZ_9 =
  if (200 : Int32) < v3 then (
  f_X8_alike_l156 x0 wA_14 wA_15 wA_16 wA_17 wA_18 wA_24 wZ_10 wZ_11 wZ_7 wZ_9)
  else (
  (f_X8_laysPage A_1 A_2 A_4 A_5 A_6 A_7 wA_14 wA_15 wA_16 wA_17 wA_18 Z_1 Z_3 v3).bind fun t5 =>
  if t5.1 = 0 then (
  f_X8_alike_l93 (fun zv2 zv3 zwA_14 zwA_15 zwA_16 zwA_17 zwA_18 zwA_24 zwZ_10 zwZ_11 zwZ_7 zwZ_9 => f_X8_alike_l66 A_1 A_2 A_4 A_5 A_6 A_7 Z_1 Z_3 x0 k zv2 zv3 zwA_14 zwA_15 zwA_16 zwA_17 zwA_18 zwA_24 zwZ_10 zwZ_11 zwZ_7 zwZ_9) v2 v3 t5.2.1 t5.2.2.1 t5.2.2.2.1 t5.2.2.2.2.1 t5.2.2.2.2.2.1 wA_24 wZ_10 wZ_11 t5.2.2.2.2.2.2 wZ_9)
  else (
  if t5.2.2.2.2.2.2 = v2 then (
  f_X8_alike_l94 (fun zv2 zv3 zwA_14 zwA_15 zwA_16 zwA_17 zwA_18 zwA_24 zwZ_10 zwZ_11 zwZ_7 zwZ_9 => f_X8_alike_l66 A_1 A_2 A_4 A_5 A_6 A_7 Z_1 Z_3 x0 k zv2 zv3 zwA_14 zwA_15 zwA_16 zwA_17 zwA_18 zwA_24 zwZ_10 zwZ_11 zwZ_7 zwZ_9) 1 v2 v3 t5.2.1 t5.2.2.1 t5.2.2.2.1 t5.2.2.2.2.1 t5.2.2.2.2.2.1 wA_24 wZ_10 wZ_11 t5.2.2.2.2.2.2 wZ_9)
  else (
  f_X8_alike_l93 (fun zv2 zv3 zwA_14 zwA_15 zwA_16 zwA_17 zwA_18 zwA_24 zwZ_10 zwZ_11 zwZ_7 zwZ_9 => f_X8_alike_l66 A_1 A_2 A_4 A_5 A_6 A_7 Z_1 Z_3 x0 k zv2 zv3 zwA_14 zwA_15 zwA_16 zwA_17 zwA_18 zwA_24 zwZ_10 zwZ_11 zwZ_7 zwZ_9) v2 v3 t5.2.1 t5.2.2.1 t5.2.2.2.1 t5.2.2.2.2.1 t5.2.2.2.2.2.1 wA_24 wZ_10 wZ_11 t5.2.2.2.2.2.2 wZ_9))) := rfl
theorem f_X8_alike_l66_z (A_1 : Nat → Int32) (A_2 : Nat → Int32) (A_4 : Nat → Int32) (A_5 : Nat → Int32) (A_6 : Nat → Int32) (A_7 : Nat → Int32) (Z_1 : Int32) (Z_3 : Int32) (x0 : Int32) (v2 : Int32) (v3 : Int32) (wA_14 : Nat → Int32) (wA_15 : Nat → Int32) (wA_16 : Nat → Int32) (wA_17 : Nat → Int32) (wA_18 : Nat → Int32) (wA_24 : Nat → Int32) (wZ_10 : Int32) (wZ_11 : Int32) (wZ_7 : Int32) (wZ_9 : Int32) : f_X8_alike_l66 A_1 A_2 A_4 A_5 A_6 A_7 Z_1 Z_3 x0 0 v2 v3 wA_14 wA_15 wA_16 wA_17 wA_18 wA_24 wZ_10 wZ_11 wZ_7 wZ_9 = none := rfl
def f_X8_alike_l58 (A_1 : Nat → Int32) (A_2 : Nat → Int32) (A_4 : Nat → Int32) (A_5 : Nat → Int32) (A_6 : Nat → Int32) (A_7 : Nat → Int32) (Z_1 : Int32) (Z_3 : Int32) (Z_10 : Int32) (Z_11 : Int32) (x0 : Int32) (v2 : Int32) (wA_14 : Nat → Int32) (wA_15 : Nat → Int32) (wA_16 : Nat → Int32) (wA_17 : Nat → Int32) (wA_18 : Nat → Int32) (wA_24 : Nat → Int32) (wZ_7 : Int32) : Option (Int32 × (Nat → Int32) × (Nat → Int32) × (Nat → Int32) × (Nat → Int32) × (Nat → Int32) × (Nat → Int32) × Int32 × Int32 × Int32 × Int32) :=
  f_X8_alike_l66 A_1 A_2 A_4 A_5 A_6 A_7 Z_1 Z_3 x0 hm_fu v2 10 wA_14 wA_15 wA_16 wA_17 wA_18 wA_24 Z_10 Z_11 wZ_7 0
def f_X8_alike_l35 (A_1 : Nat → Int32) (A_2 : Nat → Int32) (A_4 : Nat → Int32) (A_5 : Nat → Int32) (A_6 : Nat → Int32) (A_7 : Nat → Int32) (Z_1 : Int32) (Z_3 : Int32) (Z_10 : Int32) (Z_11 : Int32) (x0 : Int32) : Nat → Int32 → Int32 → (Nat → Int32) → (Nat → Int32) → (Nat → Int32) → (Nat → Int32) → (Nat → Int32) → (Nat → Int32) → Int32 → Option (Int32 × (Nat → Int32) × (Nat → Int32) × (Nat → Int32) × (Nat → Int32) × (Nat → Int32) × (Nat → Int32) × Int32 × Int32 × Int32 × Int32)
  | 0, _, _, _, _, _, _, _, _, _ => none
  | k + 1, v2, v3, wA_14, wA_15, wA_16, wA_17, wA_18, wA_24, wZ_7 =>
  if v2 ≤ v3 then (
  f_X8_alike_l58 A_1 A_2 A_4 A_5 A_6 A_7 Z_1 Z_3 Z_10 Z_11 x0 v2 wA_14 wA_15 wA_16 wA_17 wA_18 wA_24 wZ_7)
  else (
  (hm_rd 104 wA_18 v3).bind fun t9 =>
  (hm_wr 104 wA_24 v3 t9).bind fun f10 =>
  f_X8_alike_l35 A_1 A_2 A_4 A_5 A_6 A_7 Z_1 Z_3 Z_10 Z_11 x0 k v2 (v3 + 1) wA_14 wA_15 wA_16 wA_17 wA_18 f10 wZ_7)
theorem f_X8_alike_l35_s (A_1 : Nat → Int32) (A_2 : Nat → Int32) (A_4 : Nat → Int32) (A_5 : Nat → Int32) (A_6 : Nat → Int32) (A_7 : Nat → Int32) (Z_1 : Int32) (Z_3 : Int32) (Z_10 : Int32) (Z_11 : Int32) (x0 : Int32) (k : Nat) (v2 : Int32) (v3 : Int32) (wA_14 : Nat → Int32) (wA_15 : Nat → Int32) (wA_16 : Nat → Int32) (wA_17 : Nat → Int32) (wA_18 : Nat → Int32) (wA_24 : Nat → Int32) (wZ_7 : Int32) : f_X8_alike_l35 A_1 A_2 A_4 A_5 A_6 A_7 Z_1 Z_3 Z_10 Z_11 x0 (k + 1) v2 v3 wA_14 wA_15 wA_16 wA_17 wA_18 wA_24 wZ_7 =
  if v2 ≤ v3 then (
  f_X8_alike_l58 A_1 A_2 A_4 A_5 A_6 A_7 Z_1 Z_3 Z_10 Z_11 x0 v2 wA_14 wA_15 wA_16 wA_17 wA_18 wA_24 wZ_7)
  else (
  (hm_rd 104 wA_18 v3).bind fun t9 =>
  (hm_wr 104 wA_24 v3 t9).bind fun f10 =>
  f_X8_alike_l35 A_1 A_2 A_4 A_5 A_6 A_7 Z_1 Z_3 Z_10 Z_11 x0 k v2 (v3 + 1) wA_14 wA_15 wA_16 wA_17 wA_18 f10 wZ_7) := rfl
theorem f_X8_alike_l35_z (A_1 : Nat → Int32) (A_2 : Nat → Int32) (A_4 : Nat → Int32) (A_5 : Nat → Int32) (A_6 : Nat → Int32) (A_7 : Nat → Int32) (Z_1 : Int32) (Z_3 : Int32) (Z_10 : Int32) (Z_11 : Int32) (x0 : Int32) (v2 : Int32) (v3 : Int32) (wA_14 : Nat → Int32) (wA_15 : Nat → Int32) (wA_16 : Nat → Int32) (wA_17 : Nat → Int32) (wA_18 : Nat → Int32) (wA_24 : Nat → Int32) (wZ_7 : Int32) : f_X8_alike_l35 A_1 A_2 A_4 A_5 A_6 A_7 Z_1 Z_3 Z_10 Z_11 x0 0 v2 v3 wA_14 wA_15 wA_16 wA_17 wA_18 wA_24 wZ_7 = none := rfl
def f_X8_alike (A_1 : Nat → Int32) (A_2 : Nat → Int32) (A_4 : Nat → Int32) (A_5 : Nat → Int32) (A_6 : Nat → Int32) (A_7 : Nat → Int32) (A_14 : Nat → Int32) (A_15 : Nat → Int32) (A_16 : Nat → Int32) (A_17 : Nat → Int32) (A_18 : Nat → Int32) (A_24 : Nat → Int32) (Z_1 : Int32) (Z_3 : Int32) (Z_7 : Int32) (Z_9 : Int32) (Z_10 : Int32) (Z_11 : Int32) (x0 : Int32)  : Option (Int32 × (Nat → Int32) × (Nat → Int32) × (Nat → Int32) × (Nat → Int32) × (Nat → Int32) × (Nat → Int32) × Int32 × Int32 × Int32 × Int32) :=
  (f_X8_in x0 0 2).bind fun t1 =>
  if t1 = 0 then (
  some ((-1), A_14, A_15, A_16, A_17, A_18, A_24, Z_10, Z_11, Z_7, Z_9))
  else (
  (hm_rd 38 A_7 35).bind fun t2 =>
  (f_X8_laysPage A_1 A_2 A_4 A_5 A_6 A_7 A_14 A_15 A_16 A_17 A_18 Z_1 Z_3 t2).bind fun t3 =>
  if t3.1 = 0 then (
  some ((-9), t3.2.1, t3.2.2.1, t3.2.2.2.1, t3.2.2.2.2.1, t3.2.2.2.2.2.1, A_24, Z_10, Z_11, t3.2.2.2.2.2.2, Z_9))
  else (
  f_X8_alike_l35 A_1 A_2 A_4 A_5 A_6 A_7 Z_1 Z_3 Z_10 Z_11 x0 hm_fu t3.2.2.2.2.2.2 0 t3.2.1 t3.2.2.1 t3.2.2.2.1 t3.2.2.2.2.1 t3.2.2.2.2.2.1 A_24 t3.2.2.2.2.2.2))
abbrev rm_X8_alike : Room := { frames := 6, cells := 0, slots := 0, locals := 137 }
set_option maxHeartbeats 4000000 in
set_option maxRecDepth 100000 in
theorem c_X8_alike (l : Launch) (g : hm_G) (a : Nat → Nat) (A : Nat → Nat → Int32) (Z : Nat → Int32) (x0 : Int32) (q : Int32 × (Nat → Int32) × (Nat → Int32) × (Nat → Int32) × (Nat → Int32) × (Nat → Int32) × (Nat → Int32) × Int32 × Int32 × Int32 × Int32) (hF : f_X8_alike (A 1) (A 2) (A 4) (A 5) (A 6) (A 7) (A 14) (A 15) (A 16) (A 17) (A 18) (A 24) (Z 1) (Z 3) (Z 7) (Z 9) (Z 10) (Z 11) x0 = some q) : hm_Mi l yX8_alike (Cond.code yX8_alike cX8_alike 6 (some .int) :: hm_W) rm_X8_alike g [.ref (a 0), .int x0] (hm_wMM g a A Z) (hm_wMM g a (hm_up (hm_up (hm_up (hm_up (hm_up (hm_up A 14 q.2.1) 15 q.2.2.1) 16 q.2.2.2.1) 17 q.2.2.2.2.1) 18 q.2.2.2.2.2.1) 24 q.2.2.2.2.2.2.1) (hm_up (hm_up (hm_up (hm_up Z 7 q.2.2.2.2.2.2.2.2.2.1) 9 q.2.2.2.2.2.2.2.2.2.2) 10 q.2.2.2.2.2.2.2.1) 11 q.2.2.2.2.2.2.2.2.1)) q.1 := by
  refine hm_ofi [(0, .ref (a 0)), (1, .int x0)] (by decide) (own := RX8) rfl (Nat.le_of_ble_eq_true rfl) rfl rfl ?_
  intro p e s m args below meth c AA S hr hlk X ls hl
  have hx := S.1
  have hb := S.2.1
  have hown := S.2.2.2.1
  have hts := S.2.2.2.2
  have hl156 : ∀ (wA_14 : Nat → Int32) (wA_15 : Nat → Int32) (wA_16 : Nat → Int32) (wA_17 : Nat → Int32) (wA_18 : Nat → Int32) (wA_24 : Nat → Int32) (wZ_10 : Int32) (wZ_11 : Int32) (wZ_7 : Int32) (wZ_9 : Int32), f_X8_alike_l156 x0 wA_14 wA_15 wA_16 wA_17 wA_18 wA_24 wZ_10 wZ_11 wZ_7 wZ_9 = some q → ∀ (H : Heap) (locs : List Loc), hm_X g AA s H locs (hm_wMM g a (hm_up (hm_up (hm_up (hm_up (hm_up (hm_up A 14 wA_14) 15 wA_15) 16 wA_16) 17 wA_17) 18 wA_18) 24 wA_24) (hm_up (hm_up (hm_up (hm_up Z 7 wZ_7) 9 wZ_9) 10 wZ_10) 11 wZ_11)) → ∀ ls : Array Slot, lv_has ls 6 [(0, .ref (a 0)), (1, .int x0)] → W p l e rm_X8_alike s m args below meth c H locs 0 0 (MQ below (hm_Qi g AA (hm_wMM g a (hm_up (hm_up (hm_up (hm_up (hm_up (hm_up A 14 q.2.1) 15 q.2.2.1) 16 q.2.2.2.1) 17 q.2.2.2.2.1) 18 q.2.2.2.2.2.1) 24 q.2.2.2.2.2.2.1) (hm_up (hm_up (hm_up (hm_up Z 7 q.2.2.2.2.2.2.2.2.2.1) 9 q.2.2.2.2.2.2.2.2.2.2) 10 q.2.2.2.2.2.2.2.1) 11 q.2.2.2.2.2.2.2.2.1)) q.1) args s 0 0 AA) (F0 m 156 ls []) := by
    intro wA_14 wA_15 wA_16 wA_17 wA_18 wA_24 wZ_10 wZ_11 wZ_7 wZ_9 hF H locs X ls hl
    unfold f_X8_alike_l156 at hF
    refine lv_aload_n hx hb dX8_alike_156 rfl (lv_at hl 0 rfl) ?_
    refine lv_iload_n hx hb dX8_alike_157 rfl (lv_at hl 1 rfl) ?_
    obtain ⟨t4, ht4, hF⟩ := hm_bd hF
    refine hm_vi (As := [.int x0]) S X mw_X8_found hw_5_146 (c_X8_found l g a (hm_up (hm_up (hm_up (hm_up (hm_up (hm_up A 14 wA_14) 15 wA_15) 16 wA_16) 17 wA_17) 18 wA_18) 24 wA_24) (hm_up (hm_up (hm_up (hm_up Z 7 wZ_7) 9 wZ_9) 10 wZ_10) 11 wZ_11) x0 t4 ht4) hm_same hm_same rfl rfl rfl ⟨rfl, rfl, Nat.le_of_ble_eq_true rfl, Nat.le_of_ble_eq_true rfl⟩ rfl hl.1 rfl (Nat.le_of_ble_eq_true rfl) dX8_alike_158 ⟨Nat.zero_le _, Nat.zero_le _⟩ (fun H locs X => ?_)
    obtain rfl := Option.some.inj hF
    exact hm_ri S hr hlk X rfl rfl dX8_alike_161
  have hl66 : ∀ (k66 : Nat) (v2 : Int32) (v3 : Int32) (wA_14 : Nat → Int32) (wA_15 : Nat → Int32) (wA_16 : Nat → Int32) (wA_17 : Nat → Int32) (wA_18 : Nat → Int32) (wA_24 : Nat → Int32) (wZ_10 : Int32) (wZ_11 : Int32) (wZ_7 : Int32) (wZ_9 : Int32), f_X8_alike_l66 (A 1) (A 2) (A 4) (A 5) (A 6) (A 7) (Z 1) (Z 3) x0 k66 v2 v3 wA_14 wA_15 wA_16 wA_17 wA_18 wA_24 wZ_10 wZ_11 wZ_7 wZ_9 = some q → ∀ (H : Heap) (locs : List Loc), hm_X g AA s H locs (hm_wMM g a (hm_up (hm_up (hm_up (hm_up (hm_up (hm_up A 14 wA_14) 15 wA_15) 16 wA_16) 17 wA_17) 18 wA_18) 24 wA_24) (hm_up (hm_up (hm_up (hm_up Z 7 wZ_7) 9 wZ_9) 10 wZ_10) 11 wZ_11)) → ∀ ls : Array Slot, lv_has ls 6 [(0, .ref (a 0)), (1, .int x0), (2, .int v2), (3, .int v3)] → W p l e rm_X8_alike s m args below meth c H locs 0 0 (MQ below (hm_Qi g AA (hm_wMM g a (hm_up (hm_up (hm_up (hm_up (hm_up (hm_up A 14 q.2.1) 15 q.2.2.1) 16 q.2.2.2.1) 17 q.2.2.2.2.1) 18 q.2.2.2.2.2.1) 24 q.2.2.2.2.2.2.1) (hm_up (hm_up (hm_up (hm_up Z 7 q.2.2.2.2.2.2.2.2.2.1) 9 q.2.2.2.2.2.2.2.2.2.2) 10 q.2.2.2.2.2.2.2.1) 11 q.2.2.2.2.2.2.2.2.1)) q.1) args s 0 0 AA) (F0 m 66 ls []) := by
    intro k66
    induction k66 with
    | zero =>
      intro v2 v3 wA_14 wA_15 wA_16 wA_17 wA_18 wA_24 wZ_10 wZ_11 wZ_7 wZ_9 hF
      rw [f_X8_alike_l66_z] at hF
      cases hF
    | succ k66 ih66 =>
      have hl150 : ∀ (v2 : Int32) (v3 : Int32) (wA_14 : Nat → Int32) (wA_15 : Nat → Int32) (wA_16 : Nat → Int32) (wA_17 : Nat → Int32) (wA_18 : Nat → Int32) (wA_24 : Nat → Int32) (wZ_10 : Int32) (wZ_11 : Int32) (wZ_7 : Int32) (wZ_9 : Int32), f_X8_alike_l150 (fun zv2 zv3 zwA_14 zwA_15 zwA_16 zwA_17 zwA_18 zwA_24 zwZ_10 zwZ_11 zwZ_7 zwZ_9 => f_X8_alike_l66 (A 1) (A 2) (A 4) (A 5) (A 6) (A 7) (Z 1) (Z 3) x0 k66 zv2 zv3 zwA_14 zwA_15 zwA_16 zwA_17 zwA_18 zwA_24 zwZ_10 zwZ_11 zwZ_7 zwZ_9) v2 v3 wA_14 wA_15 wA_16 wA_17 wA_18 wA_24 wZ_10 wZ_11 wZ_7 wZ_9 = some q → ∀ (H : Heap) (locs : List Loc), hm_X g AA s H locs (hm_wMM g a (hm_up (hm_up (hm_up (hm_up (hm_up (hm_up A 14 wA_14) 15 wA_15) 16 wA_16) 17 wA_17) 18 wA_18) 24 wA_24) (hm_up (hm_up (hm_up (hm_up Z 7 wZ_7) 9 wZ_9) 10 wZ_10) 11 wZ_11)) → ∀ ls : Array Slot, lv_has ls 6 [(0, .ref (a 0)), (1, .int x0), (2, .int v2), (3, .int v3)] → W p l e rm_X8_alike s m args below meth c H locs 0 0 (MQ below (hm_Qi g AA (hm_wMM g a (hm_up (hm_up (hm_up (hm_up (hm_up (hm_up A 14 q.2.1) 15 q.2.2.1) 16 q.2.2.2.1) 17 q.2.2.2.2.1) 18 q.2.2.2.2.2.1) 24 q.2.2.2.2.2.2.1) (hm_up (hm_up (hm_up (hm_up Z 7 q.2.2.2.2.2.2.2.2.2.1) 9 q.2.2.2.2.2.2.2.2.2.2) 10 q.2.2.2.2.2.2.2.1) 11 q.2.2.2.2.2.2.2.2.1)) q.1) args s 0 0 AA) (F0 m 150 ls []) := by
        intro v2 v3 wA_14 wA_15 wA_16 wA_17 wA_18 wA_24 wZ_10 wZ_11 wZ_7 wZ_9 hF H locs X ls hl
        unfold f_X8_alike_l150 at hF
        refine lv_iinc (v := (v3 + 1)) (lv' := [(3, .int (v3 + 1)), (0, .ref (a 0)), (1, .int x0), (2, .int v2)]) hx hb dX8_alike_150 hl (k := 3) rfl rfl (by decide) rfl (fun ls hl => ?_)
        refine lv_goto (tgt := 66) hx hb dX8_alike_153 (by decide) ?_
        exact ih66 v2 (v3 + 1) wA_14 wA_15 wA_16 wA_17 wA_18 wA_24 wZ_10 wZ_11 wZ_7 wZ_9 hF _ _ X _ (lv_sub hl [1, 2, 3, 0] rfl)
      have hl140 : ∀ (v2 : Int32) (v3 : Int32) (v4 : Int32) (wA_14 : Nat → Int32) (wA_15 : Nat → Int32) (wA_16 : Nat → Int32) (wA_17 : Nat → Int32) (wA_18 : Nat → Int32) (wA_24 : Nat → Int32) (wZ_10 : Int32) (wZ_11 : Int32) (wZ_7 : Int32) (wZ_9 : Int32), f_X8_alike_l140 (fun zv2 zv3 zwA_14 zwA_15 zwA_16 zwA_17 zwA_18 zwA_24 zwZ_10 zwZ_11 zwZ_7 zwZ_9 => f_X8_alike_l66 (A 1) (A 2) (A 4) (A 5) (A 6) (A 7) (Z 1) (Z 3) x0 k66 zv2 zv3 zwA_14 zwA_15 zwA_16 zwA_17 zwA_18 zwA_24 zwZ_10 zwZ_11 zwZ_7 zwZ_9) v2 v3 v4 wA_14 wA_15 wA_16 wA_17 wA_18 wA_24 wZ_10 wZ_11 wZ_7 wZ_9 = some q → ∀ (H : Heap) (locs : List Loc), hm_X g AA s H locs (hm_wMM g a (hm_up (hm_up (hm_up (hm_up (hm_up (hm_up A 14 wA_14) 15 wA_15) 16 wA_16) 17 wA_17) 18 wA_18) 24 wA_24) (hm_up (hm_up (hm_up (hm_up Z 7 wZ_7) 9 wZ_9) 10 wZ_10) 11 wZ_11)) → ∀ ls : Array Slot, lv_has ls 6 [(0, .ref (a 0)), (1, .int x0), (2, .int v2), (3, .int v3), (4, .int v4)] → W p l e rm_X8_alike s m args below meth c H locs 0 0 (MQ below (hm_Qi g AA (hm_wMM g a (hm_up (hm_up (hm_up (hm_up (hm_up (hm_up A 14 q.2.1) 15 q.2.2.1) 16 q.2.2.2.1) 17 q.2.2.2.2.1) 18 q.2.2.2.2.2.1) 24 q.2.2.2.2.2.2.1) (hm_up (hm_up (hm_up (hm_up Z 7 q.2.2.2.2.2.2.2.2.2.1) 9 q.2.2.2.2.2.2.2.2.2.2) 10 q.2.2.2.2.2.2.2.1) 11 q.2.2.2.2.2.2.2.2.1)) q.1) args s 0 0 AA) (F0 m 140 ls []) := by
        intro v2 v3 v4 wA_14 wA_15 wA_16 wA_17 wA_18 wA_24 wZ_10 wZ_11 wZ_7 wZ_9 hF H locs X ls hl
        unfold f_X8_alike_l140 at hF
        refine lv_iload hx hb dX8_alike_140 (lv_at hl 4 rfl) ?_
        refine lv_if_eq (tgt := 150) hx hb dX8_alike_142 (by decide) (fun c142 => ?_) (fun c142 => ?_)
        · have hF := hm_if hF c142
          exact hl150 v2 v3 wA_14 wA_15 wA_16 wA_17 wA_18 wA_24 wZ_10 wZ_11 wZ_7 wZ_9 hF _ _ X _ (lv_sub hl [0, 1, 2, 3] rfl)
        · have hF := hm_nf hF c142
          refine lv_aload_n hx hb dX8_alike_145 rfl (lv_at hl 0 rfl) ?_
          refine lv_iload_n hx hb dX8_alike_146 rfl (lv_at hl 3 rfl) ?_
          obtain ⟨t6, ht6, hF⟩ := hm_bd hF
          refine hm_vv (As := [.int v3]) S X mw_X8_finds hw_5_142 (c_X8_finds l g a (hm_up (hm_up (hm_up (hm_up (hm_up (hm_up A 14 wA_14) 15 wA_15) 16 wA_16) 17 wA_17) 18 wA_18) 24 wA_24) (hm_up (hm_up (hm_up (hm_up Z 7 wZ_7) 9 wZ_9) 10 wZ_10) 11 wZ_11) v3 t6 ht6) hm_same hm_same rfl rfl rfl ⟨rfl, rfl, Nat.le_of_ble_eq_true rfl, Nat.le_of_ble_eq_true rfl⟩ rfl hl.1 rfl (Nat.le_of_ble_eq_true rfl) dX8_alike_147 ⟨Nat.zero_le _, Nat.zero_le _⟩ (fun H locs X => ?_)
          exact hl150 v2 v3 wA_14 wA_15 wA_16 wA_17 wA_18 wA_24 t6.1 t6.2.1 wZ_7 t6.2.2 hF _ _ X _ (lv_sub hl [0, 1, 2, 3] rfl)
      have hl99 : ∀ (k99 : Nat) (v2 : Int32) (v3 : Int32) (v4 : Int32) (v5 : Int32) (wA_14 : Nat → Int32) (wA_15 : Nat → Int32) (wA_16 : Nat → Int32) (wA_17 : Nat → Int32) (wA_18 : Nat → Int32) (wA_24 : Nat → Int32) (wZ_10 : Int32) (wZ_11 : Int32) (wZ_7 : Int32) (wZ_9 : Int32), f_X8_alike_l99 (fun zv2 zv3 zwA_14 zwA_15 zwA_16 zwA_17 zwA_18 zwA_24 zwZ_10 zwZ_11 zwZ_7 zwZ_9 => f_X8_alike_l66 (A 1) (A 2) (A 4) (A 5) (A 6) (A 7) (Z 1) (Z 3) x0 k66 zv2 zv3 zwA_14 zwA_15 zwA_16 zwA_17 zwA_18 zwA_24 zwZ_10 zwZ_11 zwZ_7 zwZ_9) k99 v2 v3 v4 v5 wA_14 wA_15 wA_16 wA_17 wA_18 wA_24 wZ_10 wZ_11 wZ_7 wZ_9 = some q → ∀ (H : Heap) (locs : List Loc), hm_X g AA s H locs (hm_wMM g a (hm_up (hm_up (hm_up (hm_up (hm_up (hm_up A 14 wA_14) 15 wA_15) 16 wA_16) 17 wA_17) 18 wA_18) 24 wA_24) (hm_up (hm_up (hm_up (hm_up Z 7 wZ_7) 9 wZ_9) 10 wZ_10) 11 wZ_11)) → ∀ ls : Array Slot, lv_has ls 6 [(0, .ref (a 0)), (1, .int x0), (2, .int v2), (3, .int v3), (4, .int v4), (5, .int v5)] → W p l e rm_X8_alike s m args below meth c H locs 0 0 (MQ below (hm_Qi g AA (hm_wMM g a (hm_up (hm_up (hm_up (hm_up (hm_up (hm_up A 14 q.2.1) 15 q.2.2.1) 16 q.2.2.2.1) 17 q.2.2.2.2.1) 18 q.2.2.2.2.2.1) 24 q.2.2.2.2.2.2.1) (hm_up (hm_up (hm_up (hm_up Z 7 q.2.2.2.2.2.2.2.2.2.1) 9 q.2.2.2.2.2.2.2.2.2.2) 10 q.2.2.2.2.2.2.2.1) 11 q.2.2.2.2.2.2.2.2.1)) q.1) args s 0 0 AA) (F0 m 99 ls []) := by
        intro k99
        induction k99 with
        | zero =>
          intro v2 v3 v4 v5 wA_14 wA_15 wA_16 wA_17 wA_18 wA_24 wZ_10 wZ_11 wZ_7 wZ_9 hF
          rw [f_X8_alike_l99_z] at hF
          cases hF
        | succ k99 ih99 =>
          have hl132 : ∀ (s132_0 : Int32) (v2 : Int32) (v3 : Int32) (v5 : Int32) (wA_14 : Nat → Int32) (wA_15 : Nat → Int32) (wA_16 : Nat → Int32) (wA_17 : Nat → Int32) (wA_18 : Nat → Int32) (wA_24 : Nat → Int32) (wZ_10 : Int32) (wZ_11 : Int32) (wZ_7 : Int32) (wZ_9 : Int32), f_X8_alike_l132 (fun zv2 zv3 zwA_14 zwA_15 zwA_16 zwA_17 zwA_18 zwA_24 zwZ_10 zwZ_11 zwZ_7 zwZ_9 => f_X8_alike_l66 (A 1) (A 2) (A 4) (A 5) (A 6) (A 7) (Z 1) (Z 3) x0 k66 zv2 zv3 zwA_14 zwA_15 zwA_16 zwA_17 zwA_18 zwA_24 zwZ_10 zwZ_11 zwZ_7 zwZ_9) (fun zv2 zv3 zv4 zv5 zwA_14 zwA_15 zwA_16 zwA_17 zwA_18 zwA_24 zwZ_10 zwZ_11 zwZ_7 zwZ_9 => f_X8_alike_l99 (fun zv2 zv3 zwA_14 zwA_15 zwA_16 zwA_17 zwA_18 zwA_24 zwZ_10 zwZ_11 zwZ_7 zwZ_9 => f_X8_alike_l66 (A 1) (A 2) (A 4) (A 5) (A 6) (A 7) (Z 1) (Z 3) x0 k66 zv2 zv3 zwA_14 zwA_15 zwA_16 zwA_17 zwA_18 zwA_24 zwZ_10 zwZ_11 zwZ_7 zwZ_9) k99 zv2 zv3 zv4 zv5 zwA_14 zwA_15 zwA_16 zwA_17 zwA_18 zwA_24 zwZ_10 zwZ_11 zwZ_7 zwZ_9) s132_0 v2 v3 v5 wA_14 wA_15 wA_16 wA_17 wA_18 wA_24 wZ_10 wZ_11 wZ_7 wZ_9 = some q → ∀ (H : Heap) (locs : List Loc), hm_X g AA s H locs (hm_wMM g a (hm_up (hm_up (hm_up (hm_up (hm_up (hm_up A 14 wA_14) 15 wA_15) 16 wA_16) 17 wA_17) 18 wA_18) 24 wA_24) (hm_up (hm_up (hm_up (hm_up Z 7 wZ_7) 9 wZ_9) 10 wZ_10) 11 wZ_11)) → ∀ ls : Array Slot, lv_has ls 6 [(0, .ref (a 0)), (1, .int x0), (2, .int v2), (3, .int v3), (5, .int v5)] → W p l e rm_X8_alike s m args below meth c H locs 0 0 (MQ below (hm_Qi g AA (hm_wMM g a (hm_up (hm_up (hm_up (hm_up (hm_up (hm_up A 14 q.2.1) 15 q.2.2.1) 16 q.2.2.2.1) 17 q.2.2.2.2.1) 18 q.2.2.2.2.2.1) 24 q.2.2.2.2.2.2.1) (hm_up (hm_up (hm_up (hm_up Z 7 q.2.2.2.2.2.2.2.2.2.1) 9 q.2.2.2.2.2.2.2.2.2.2) 10 q.2.2.2.2.2.2.2.1) 11 q.2.2.2.2.2.2.2.2.1)) q.1) args s 0 0 AA) (F0 m 132 ls [.int s132_0]) := by
            intro s132_0 v2 v3 v5 wA_14 wA_15 wA_16 wA_17 wA_18 wA_24 wZ_10 wZ_11 wZ_7 wZ_9 hF H locs X ls hl
            unfold f_X8_alike_l132 at hF
            refine lv_istore (lv' := [(4, .int s132_0), (0, .ref (a 0)), (1, .int x0), (2, .int v2), (3, .int v3), (5, .int v5)]) hx hb dX8_alike_132 hl (by decide) rfl (fun ls hl => ?_)
            refine lv_iinc (v := (v5 + 1)) (lv' := [(5, .int (v5 + 1)), (4, .int s132_0), (0, .ref (a 0)), (1, .int x0), (2, .int v2), (3, .int v3)]) hx hb dX8_alike_134 hl (k := 5) rfl rfl (by decide) rfl (fun ls hl => ?_)
            refine lv_goto (tgt := 99) hx hb dX8_alike_137 (by decide) ?_
            exact ih99 v2 v3 s132_0 (v5 + 1) wA_14 wA_15 wA_16 wA_17 wA_18 wA_24 wZ_10 wZ_11 wZ_7 wZ_9 hF _ _ X _ (lv_sub hl [2, 3, 4, 5, 1, 0] rfl)
          intro v2 v3 v4 v5 wA_14 wA_15 wA_16 wA_17 wA_18 wA_24 wZ_10 wZ_11 wZ_7 wZ_9 hF H locs X ls hl
          rw [f_X8_alike_l99_s] at hF
          refine lv_iload hx hb dX8_alike_99 (lv_at hl 5 rfl) ?_
          refine lv_iload_n hx hb dX8_alike_101 rfl (lv_at hl 2 rfl) ?_
          refine lv_icmp_ge (tgt := 140) hx hb dX8_alike_102 (by decide) (fun c102 => ?_) (fun c102 => ?_)
          · have hF := hm_if hF c102
            exact hl140 v2 v3 v4 wA_14 wA_15 wA_16 wA_17 wA_18 wA_24 wZ_10 wZ_11 wZ_7 wZ_9 hF _ _ X _ (lv_sub hl [0, 1, 2, 3, 4] rfl)
          · have hF := hm_nf hF c102
            refine lv_iload hx hb dX8_alike_105 (lv_at hl 4 rfl) ?_
            refine lv_if_eq (tgt := 140) hx hb dX8_alike_107 (by decide) (fun c107 => ?_) (fun c107 => ?_)
            · have hF := hm_if hF c107
              exact hl140 v2 v3 v4 wA_14 wA_15 wA_16 wA_17 wA_18 wA_24 wZ_10 wZ_11 wZ_7 wZ_9 hF _ _ X _ (lv_sub hl [0, 1, 2, 3, 4] rfl)
            · have hF := hm_nf hF c107
              refine lv_aload_n hx hb dX8_alike_110 rfl (lv_at hl 0 rfl) ?_
              refine hm_get S X hf_X8_65 0 rfl rfl dX8_alike_111 ?_
              refine lv_iload hx hb dX8_alike_114 (lv_at hl 5 rfl) ?_
              obtain ⟨t7, ht7, hF⟩ := hm_bd hF
              refine hm_iald S X ht7 19 rfl dX8_alike_116 ?_
              refine lv_aload_n hx hb dX8_alike_117 rfl (lv_at hl 0 rfl) ?_
              refine hm_get S X hf_X8_83 0 rfl rfl dX8_alike_118 ?_
              refine lv_iload hx hb dX8_alike_121 (lv_at hl 5 rfl) ?_
              obtain ⟨t8, ht8, hF⟩ := hm_bd hF
              refine hm_iald S X ht8 25 rfl dX8_alike_123 ?_
              refine lv_icmp_ne (tgt := 131) hx hb dX8_alike_124 (by decide) (fun c124 => ?_) (fun c124 => ?_)
              · have hF := hm_nf hF c124
                refine lv_iconst (v := 0) hx hb dX8_alike_131 (by decide) ?_
                exact hl132 0 v2 v3 v5 wA_14 wA_15 wA_16 wA_17 wA_18 wA_24 wZ_10 wZ_11 wZ_7 wZ_9 hF _ _ X _ (lv_sub hl [0, 1, 2, 3, 5] rfl)
              · have hF := hm_if hF c124
                refine lv_iconst (v := 1) hx hb dX8_alike_127 (by decide) ?_
                refine lv_goto (tgt := 132) hx hb dX8_alike_128 (by decide) ?_
                exact hl132 1 v2 v3 v5 wA_14 wA_15 wA_16 wA_17 wA_18 wA_24 wZ_10 wZ_11 wZ_7 wZ_9 hF _ _ X _ (lv_sub hl [0, 1, 2, 3, 5] rfl)
      have hl94 : ∀ (s94_0 : Int32) (v2 : Int32) (v3 : Int32) (wA_14 : Nat → Int32) (wA_15 : Nat → Int32) (wA_16 : Nat → Int32) (wA_17 : Nat → Int32) (wA_18 : Nat → Int32) (wA_24 : Nat → Int32) (wZ_10 : Int32) (wZ_11 : Int32) (wZ_7 : Int32) (wZ_9 : Int32), f_X8_alike_l94 (fun zv2 zv3 zwA_14 zwA_15 zwA_16 zwA_17 zwA_18 zwA_24 zwZ_10 zwZ_11 zwZ_7 zwZ_9 => f_X8_alike_l66 (A 1) (A 2) (A 4) (A 5) (A 6) (A 7) (Z 1) (Z 3) x0 k66 zv2 zv3 zwA_14 zwA_15 zwA_16 zwA_17 zwA_18 zwA_24 zwZ_10 zwZ_11 zwZ_7 zwZ_9) s94_0 v2 v3 wA_14 wA_15 wA_16 wA_17 wA_18 wA_24 wZ_10 wZ_11 wZ_7 wZ_9 = some q → ∀ (H : Heap) (locs : List Loc), hm_X g AA s H locs (hm_wMM g a (hm_up (hm_up (hm_up (hm_up (hm_up (hm_up A 14 wA_14) 15 wA_15) 16 wA_16) 17 wA_17) 18 wA_18) 24 wA_24) (hm_up (hm_up (hm_up (hm_up Z 7 wZ_7) 9 wZ_9) 10 wZ_10) 11 wZ_11)) → ∀ ls : Array Slot, lv_has ls 6 [(0, .ref (a 0)), (1, .int x0), (2, .int v2), (3, .int v3)] → W p l e rm_X8_alike s m args below meth c H locs 0 0 (MQ below (hm_Qi g AA (hm_wMM g a (hm_up (hm_up (hm_up (hm_up (hm_up (hm_up A 14 q.2.1) 15 q.2.2.1) 16 q.2.2.2.1) 17 q.2.2.2.2.1) 18 q.2.2.2.2.2.1) 24 q.2.2.2.2.2.2.1) (hm_up (hm_up (hm_up (hm_up Z 7 q.2.2.2.2.2.2.2.2.2.1) 9 q.2.2.2.2.2.2.2.2.2.2) 10 q.2.2.2.2.2.2.2.1) 11 q.2.2.2.2.2.2.2.2.1)) q.1) args s 0 0 AA) (F0 m 94 ls [.int s94_0]) := by
        intro s94_0 v2 v3 wA_14 wA_15 wA_16 wA_17 wA_18 wA_24 wZ_10 wZ_11 wZ_7 wZ_9 hF H locs X ls hl
        unfold f_X8_alike_l94 at hF
        refine lv_istore (lv' := [(4, .int s94_0), (0, .ref (a 0)), (1, .int x0), (2, .int v2), (3, .int v3)]) hx hb dX8_alike_94 hl (by decide) rfl (fun ls hl => ?_)
        refine lv_iconst (v := 0) hx hb dX8_alike_96 (by decide) ?_
        refine lv_istore (lv' := [(5, .int 0), (4, .int s94_0), (0, .ref (a 0)), (1, .int x0), (2, .int v2), (3, .int v3)]) hx hb dX8_alike_97 hl (by decide) rfl (fun ls hl => ?_)
        exact hl99 hm_fu v2 v3 s94_0 0 wA_14 wA_15 wA_16 wA_17 wA_18 wA_24 wZ_10 wZ_11 wZ_7 wZ_9 hF _ _ X _ (lv_sub hl [2, 3, 4, 5, 1, 0] rfl)
      have hl93 : ∀ (v2 : Int32) (v3 : Int32) (wA_14 : Nat → Int32) (wA_15 : Nat → Int32) (wA_16 : Nat → Int32) (wA_17 : Nat → Int32) (wA_18 : Nat → Int32) (wA_24 : Nat → Int32) (wZ_10 : Int32) (wZ_11 : Int32) (wZ_7 : Int32) (wZ_9 : Int32), f_X8_alike_l93 (fun zv2 zv3 zwA_14 zwA_15 zwA_16 zwA_17 zwA_18 zwA_24 zwZ_10 zwZ_11 zwZ_7 zwZ_9 => f_X8_alike_l66 (A 1) (A 2) (A 4) (A 5) (A 6) (A 7) (Z 1) (Z 3) x0 k66 zv2 zv3 zwA_14 zwA_15 zwA_16 zwA_17 zwA_18 zwA_24 zwZ_10 zwZ_11 zwZ_7 zwZ_9) v2 v3 wA_14 wA_15 wA_16 wA_17 wA_18 wA_24 wZ_10 wZ_11 wZ_7 wZ_9 = some q → ∀ (H : Heap) (locs : List Loc), hm_X g AA s H locs (hm_wMM g a (hm_up (hm_up (hm_up (hm_up (hm_up (hm_up A 14 wA_14) 15 wA_15) 16 wA_16) 17 wA_17) 18 wA_18) 24 wA_24) (hm_up (hm_up (hm_up (hm_up Z 7 wZ_7) 9 wZ_9) 10 wZ_10) 11 wZ_11)) → ∀ ls : Array Slot, lv_has ls 6 [(0, .ref (a 0)), (1, .int x0), (2, .int v2), (3, .int v3)] → W p l e rm_X8_alike s m args below meth c H locs 0 0 (MQ below (hm_Qi g AA (hm_wMM g a (hm_up (hm_up (hm_up (hm_up (hm_up (hm_up A 14 q.2.1) 15 q.2.2.1) 16 q.2.2.2.1) 17 q.2.2.2.2.1) 18 q.2.2.2.2.2.1) 24 q.2.2.2.2.2.2.1) (hm_up (hm_up (hm_up (hm_up Z 7 q.2.2.2.2.2.2.2.2.2.1) 9 q.2.2.2.2.2.2.2.2.2.2) 10 q.2.2.2.2.2.2.2.1) 11 q.2.2.2.2.2.2.2.2.1)) q.1) args s 0 0 AA) (F0 m 93 ls []) := by
        intro v2 v3 wA_14 wA_15 wA_16 wA_17 wA_18 wA_24 wZ_10 wZ_11 wZ_7 wZ_9 hF H locs X ls hl
        unfold f_X8_alike_l93 at hF
        refine lv_iconst (v := 0) hx hb dX8_alike_93 (by decide) ?_
        exact hl94 0 v2 v3 wA_14 wA_15 wA_16 wA_17 wA_18 wA_24 wZ_10 wZ_11 wZ_7 wZ_9 hF _ _ X _ (lv_sub hl [0, 1, 2, 3] rfl)
      intro v2 v3 wA_14 wA_15 wA_16 wA_17 wA_18 wA_24 wZ_10 wZ_11 wZ_7 wZ_9 hF H locs X ls hl
      rw [f_X8_alike_l66_s] at hF
      refine lv_iload_n hx hb dX8_alike_66 rfl (lv_at hl 3 rfl) ?_
      refine lv_sipush (v := 200) hx hb dX8_alike_67 (by decide) ?_
      refine lv_icmp_gt (tgt := 156) hx hb dX8_alike_70 (by decide) (fun c70 => ?_) (fun c70 => ?_)
      · have hF := hm_if hF c70
        exact hl156 wA_14 wA_15 wA_16 wA_17 wA_18 wA_24 wZ_10 wZ_11 wZ_7 wZ_9 hF _ _ X _ (lv_sub hl [0, 1] rfl)
      · have hF := hm_nf hF c70
        refine lv_aload_n hx hb dX8_alike_73 rfl (lv_at hl 0 rfl) ?_
        refine lv_iload_n hx hb dX8_alike_74 rfl (lv_at hl 3 rfl) ?_
        obtain ⟨t5, ht5, hF⟩ := hm_bd hF
        refine hm_vi (As := [.int v3]) S X mw_X8_laysPage hw_5_41 (c_X8_laysPage l g a (hm_up (hm_up (hm_up (hm_up (hm_up (hm_up A 14 wA_14) 15 wA_15) 16 wA_16) 17 wA_17) 18 wA_18) 24 wA_24) (hm_up (hm_up (hm_up (hm_up Z 7 wZ_7) 9 wZ_9) 10 wZ_10) 11 wZ_11) v3 t5 ht5) hm_same hm_same rfl rfl rfl ⟨rfl, rfl, Nat.le_of_ble_eq_true rfl, Nat.le_of_ble_eq_true rfl⟩ rfl hl.1 rfl (Nat.le_of_ble_eq_true rfl) dX8_alike_75 ⟨Nat.zero_le _, Nat.zero_le _⟩ (fun H locs X => ?_)
        refine lv_if_eq (tgt := 93) hx hb dX8_alike_78 (by decide) (fun c78 => ?_) (fun c78 => ?_)
        · have hF := hm_if hF c78
          exact hl93 v2 v3 t5.2.1 t5.2.2.1 t5.2.2.2.1 t5.2.2.2.2.1 t5.2.2.2.2.2.1 wA_24 wZ_10 wZ_11 t5.2.2.2.2.2.2 wZ_9 hF _ _ X _ (lv_sub hl [0, 1, 2, 3] rfl)
        · have hF := hm_nf hF c78
          refine lv_aload_n hx hb dX8_alike_81 rfl (lv_at hl 0 rfl) ?_
          refine hm_get S X hf_X8_183 0 rfl rfl dX8_alike_82 ?_
          refine lv_iload_n hx hb dX8_alike_85 rfl (lv_at hl 2 rfl) ?_
          refine lv_icmp_ne (tgt := 93) hx hb dX8_alike_86 (by decide) (fun c86 => ?_) (fun c86 => ?_)
          · have hF := hm_nf hF c86
            exact hl93 v2 v3 t5.2.1 t5.2.2.1 t5.2.2.2.1 t5.2.2.2.2.1 t5.2.2.2.2.2.1 wA_24 wZ_10 wZ_11 t5.2.2.2.2.2.2 wZ_9 hF _ _ X _ (lv_sub hl [0, 1, 2, 3] rfl)
          · have hF := hm_if hF c86
            refine lv_iconst (v := 1) hx hb dX8_alike_89 (by decide) ?_
            refine lv_goto (tgt := 94) hx hb dX8_alike_90 (by decide) ?_
            exact hl94 1 v2 v3 t5.2.1 t5.2.2.1 t5.2.2.2.1 t5.2.2.2.2.1 t5.2.2.2.2.2.1 wA_24 wZ_10 wZ_11 t5.2.2.2.2.2.2 wZ_9 hF _ _ X _ (lv_sub hl [0, 1, 2, 3] rfl)
  have hl58 : ∀ (v2 : Int32) (wA_14 : Nat → Int32) (wA_15 : Nat → Int32) (wA_16 : Nat → Int32) (wA_17 : Nat → Int32) (wA_18 : Nat → Int32) (wA_24 : Nat → Int32) (wZ_7 : Int32), f_X8_alike_l58 (A 1) (A 2) (A 4) (A 5) (A 6) (A 7) (Z 1) (Z 3) (Z 10) (Z 11) x0 v2 wA_14 wA_15 wA_16 wA_17 wA_18 wA_24 wZ_7 = some q → ∀ (H : Heap) (locs : List Loc), hm_X g AA s H locs (hm_wMM g a (hm_up (hm_up (hm_up (hm_up (hm_up (hm_up A 14 wA_14) 15 wA_15) 16 wA_16) 17 wA_17) 18 wA_18) 24 wA_24) (hm_up Z 7 wZ_7)) → ∀ ls : Array Slot, lv_has ls 6 [(0, .ref (a 0)), (1, .int x0), (2, .int v2)] → W p l e rm_X8_alike s m args below meth c H locs 0 0 (MQ below (hm_Qi g AA (hm_wMM g a (hm_up (hm_up (hm_up (hm_up (hm_up (hm_up A 14 q.2.1) 15 q.2.2.1) 16 q.2.2.2.1) 17 q.2.2.2.2.1) 18 q.2.2.2.2.2.1) 24 q.2.2.2.2.2.2.1) (hm_up (hm_up (hm_up (hm_up Z 7 q.2.2.2.2.2.2.2.2.2.1) 9 q.2.2.2.2.2.2.2.2.2.2) 10 q.2.2.2.2.2.2.2.1) 11 q.2.2.2.2.2.2.2.2.1)) q.1) args s 0 0 AA) (F0 m 58 ls []) := by
    intro v2 wA_14 wA_15 wA_16 wA_17 wA_18 wA_24 wZ_7 hF H locs X ls hl
    unfold f_X8_alike_l58 at hF
    refine lv_aload_n hx hb dX8_alike_58 rfl (lv_at hl 0 rfl) ?_
    refine lv_iconst (v := 0) hx hb dX8_alike_59 (by decide) ?_
    refine hm_put S X hf_X8_220 hg_X8_goodMany 0 rfl rfl rfl (Nat.le_of_ble_eq_true rfl) dX8_alike_60 (fun H locs X => ?_)
    have X := X.to (ws' := (hm_wMM g a (hm_up (hm_up (hm_up (hm_up (hm_up (hm_up A 14 wA_14) 15 wA_15) 16 wA_16) 17 wA_17) 18 wA_18) 24 wA_24) (hm_up (hm_up Z 7 wZ_7) 9 0))) rfl
    refine lv_bipush (v := 10) hx hb dX8_alike_63 (by decide) ?_
    refine lv_istore_n (lv' := [(3, .int 10), (0, .ref (a 0)), (1, .int x0), (2, .int v2)]) hx hb dX8_alike_65 rfl hl (by decide) rfl (fun ls hl => ?_)
    exact hl66 hm_fu v2 10 wA_14 wA_15 wA_16 wA_17 wA_18 wA_24 (Z 10) (Z 11) wZ_7 0 hF _ _ (X.to (ws' := (hm_wMM g a (hm_up (hm_up (hm_up (hm_up (hm_up (hm_up A 14 wA_14) 15 wA_15) 16 wA_16) 17 wA_17) 18 wA_18) 24 wA_24) (hm_up (hm_up (hm_up (hm_up Z 7 wZ_7) 9 0) 10 (Z 10)) 11 (Z 11)))) rfl) _ (lv_sub hl [1, 2, 3, 0] rfl)
  have hl35 : ∀ (k35 : Nat) (v2 : Int32) (v3 : Int32) (wA_14 : Nat → Int32) (wA_15 : Nat → Int32) (wA_16 : Nat → Int32) (wA_17 : Nat → Int32) (wA_18 : Nat → Int32) (wA_24 : Nat → Int32) (wZ_7 : Int32), f_X8_alike_l35 (A 1) (A 2) (A 4) (A 5) (A 6) (A 7) (Z 1) (Z 3) (Z 10) (Z 11) x0 k35 v2 v3 wA_14 wA_15 wA_16 wA_17 wA_18 wA_24 wZ_7 = some q → ∀ (H : Heap) (locs : List Loc), hm_X g AA s H locs (hm_wMM g a (hm_up (hm_up (hm_up (hm_up (hm_up (hm_up A 14 wA_14) 15 wA_15) 16 wA_16) 17 wA_17) 18 wA_18) 24 wA_24) (hm_up Z 7 wZ_7)) → ∀ ls : Array Slot, lv_has ls 6 [(0, .ref (a 0)), (1, .int x0), (2, .int v2), (3, .int v3)] → W p l e rm_X8_alike s m args below meth c H locs 0 0 (MQ below (hm_Qi g AA (hm_wMM g a (hm_up (hm_up (hm_up (hm_up (hm_up (hm_up A 14 q.2.1) 15 q.2.2.1) 16 q.2.2.2.1) 17 q.2.2.2.2.1) 18 q.2.2.2.2.2.1) 24 q.2.2.2.2.2.2.1) (hm_up (hm_up (hm_up (hm_up Z 7 q.2.2.2.2.2.2.2.2.2.1) 9 q.2.2.2.2.2.2.2.2.2.2) 10 q.2.2.2.2.2.2.2.1) 11 q.2.2.2.2.2.2.2.2.1)) q.1) args s 0 0 AA) (F0 m 35 ls []) := by
    intro k35
    induction k35 with
    | zero =>
      intro v2 v3 wA_14 wA_15 wA_16 wA_17 wA_18 wA_24 wZ_7 hF
      rw [f_X8_alike_l35_z] at hF
      cases hF
    | succ k35 ih35 =>
      intro v2 v3 wA_14 wA_15 wA_16 wA_17 wA_18 wA_24 wZ_7 hF H locs X ls hl
      rw [f_X8_alike_l35_s] at hF
      refine lv_iload_n hx hb dX8_alike_35 rfl (lv_at hl 3 rfl) ?_
      refine lv_iload_n hx hb dX8_alike_36 rfl (lv_at hl 2 rfl) ?_
      refine lv_icmp_ge (tgt := 58) hx hb dX8_alike_37 (by decide) (fun c37 => ?_) (fun c37 => ?_)
      · have hF := hm_if hF c37
        exact hl58 v2 wA_14 wA_15 wA_16 wA_17 wA_18 wA_24 wZ_7 hF _ _ X _ (lv_sub hl [0, 1, 2] rfl)
      · have hF := hm_nf hF c37
        refine lv_aload_n hx hb dX8_alike_40 rfl (lv_at hl 0 rfl) ?_
        refine hm_get S X hf_X8_83 0 rfl rfl dX8_alike_41 ?_
        refine lv_iload_n hx hb dX8_alike_44 rfl (lv_at hl 3 rfl) ?_
        refine lv_aload_n hx hb dX8_alike_45 rfl (lv_at hl 0 rfl) ?_
        refine hm_get S X hf_X8_65 0 rfl rfl dX8_alike_46 ?_
        refine lv_iload_n hx hb dX8_alike_49 rfl (lv_at hl 3 rfl) ?_
        obtain ⟨t9, ht9, hF⟩ := hm_bd hF
        refine hm_iald S X ht9 19 rfl dX8_alike_50 ?_
        obtain ⟨f10, hf10, hF⟩ := hm_bd hF
        refine hm_iast S X hf10 25 rfl dX8_alike_51 (fun H locs X => ?_)
        have X := X.to (ws' := (hm_wMM g a (hm_up (hm_up (hm_up (hm_up (hm_up (hm_up A 14 wA_14) 15 wA_15) 16 wA_16) 17 wA_17) 18 wA_18) 24 f10) (hm_up Z 7 wZ_7))) rfl
        refine lv_iinc (v := (v3 + 1)) (lv' := [(3, .int (v3 + 1)), (0, .ref (a 0)), (1, .int x0), (2, .int v2)]) hx hb dX8_alike_52 hl (k := 3) rfl rfl (by decide) rfl (fun ls hl => ?_)
        refine lv_goto (tgt := 35) hx hb dX8_alike_55 (by decide) ?_
        exact ih35 v2 (v3 + 1) wA_14 wA_15 wA_16 wA_17 wA_18 f10 wZ_7 hF _ _ X _ (lv_sub hl [1, 2, 3, 0] rfl)
  unfold f_X8_alike at hF
  refine lv_iload_n hx hb dX8_alike_0 rfl (lv_at hl 1 rfl) ?_
  refine lv_iconst (v := 0) hx hb dX8_alike_1 (by decide) ?_
  refine lv_iconst (v := 2) hx hb dX8_alike_2 (by decide) ?_
  obtain ⟨t1, ht1, hF⟩ := hm_bd hF
  refine hm_si S X mw_X8_in hw_4_193 (c_X8_in l g x0 0 2 t1 ht1) (List.Perm.refl _) (List.Perm.refl _) ⟨rfl, rfl, Nat.le_of_ble_eq_true rfl, Nat.le_of_ble_eq_true rfl⟩ rfl hl.1 rfl (Nat.le_of_ble_eq_true rfl) dX8_alike_3 ⟨Nat.zero_le _, Nat.zero_le _⟩ (fun H locs X => ?_)
  refine lv_if_ne (tgt := 11) hx hb dX8_alike_6 (by decide) (fun c6 => ?_) (fun c6 => ?_)
  · have hF := hm_nf hF c6
    refine lv_aload_n hx hb dX8_alike_11 rfl (lv_at hl 0 rfl) ?_
    refine lv_aload_n hx hb dX8_alike_12 rfl (lv_at hl 0 rfl) ?_
    refine hm_get S X hf_X8_32 0 rfl rfl dX8_alike_13 ?_
    refine lv_bipush (v := 35) hx hb dX8_alike_16 (by decide) ?_
    obtain ⟨t2, ht2, hF⟩ := hm_bd hF
    refine hm_iald S X ht2 8 rfl dX8_alike_18 ?_
    obtain ⟨t3, ht3, hF⟩ := hm_bd hF
    refine hm_vi (As := [.int t2]) S X mw_X8_laysPage hw_5_41 (c_X8_laysPage l g a A Z t2 t3 ht3) hm_same hm_same rfl rfl rfl ⟨rfl, rfl, Nat.le_of_ble_eq_true rfl, Nat.le_of_ble_eq_true rfl⟩ rfl hl.1 rfl (Nat.le_of_ble_eq_true rfl) dX8_alike_19 ⟨Nat.zero_le _, Nat.zero_le _⟩ (fun H locs X => ?_)
    refine lv_if_ne (tgt := 28) hx hb dX8_alike_22 (by decide) (fun c22 => ?_) (fun c22 => ?_)
    · have hF := hm_nf hF c22
      refine lv_aload_n hx hb dX8_alike_28 rfl (lv_at hl 0 rfl) ?_
      refine hm_get S X hf_X8_183 0 rfl rfl dX8_alike_29 ?_
      refine lv_istore_n (lv' := [(2, .int t3.2.2.2.2.2.2), (0, .ref (a 0)), (1, .int x0)]) hx hb dX8_alike_32 rfl hl (by decide) rfl (fun ls hl => ?_)
      refine lv_iconst (v := 0) hx hb dX8_alike_33 (by decide) ?_
      refine lv_istore_n (lv' := [(3, .int 0), (2, .int t3.2.2.2.2.2.2), (0, .ref (a 0)), (1, .int x0)]) hx hb dX8_alike_34 rfl hl (by decide) rfl (fun ls hl => ?_)
      exact hl35 hm_fu t3.2.2.2.2.2.2 0 t3.2.1 t3.2.2.1 t3.2.2.2.1 t3.2.2.2.2.1 t3.2.2.2.2.2.1 (A 24) t3.2.2.2.2.2.2 hF _ _ (X.to (ws' := (hm_wMM g a (hm_up (hm_up (hm_up (hm_up (hm_up (hm_up A 14 t3.2.1) 15 t3.2.2.1) 16 t3.2.2.2.1) 17 t3.2.2.2.2.1) 18 t3.2.2.2.2.2.1) 24 (A 24)) (hm_up Z 7 t3.2.2.2.2.2.2))) rfl) _ (lv_sub hl [2, 3, 1, 0] rfl)
    · have hF := hm_if hF c22
      refine lv_bipush (v := (-9)) hx hb dX8_alike_25 (by decide) ?_
      obtain rfl := Option.some.inj hF
      exact hm_ri S hr hlk X rfl rfl dX8_alike_27
  · have hF := hm_if hF c6
    refine lv_iconst (v := (-1)) hx hb dX8_alike_9 (by decide) ?_
    obtain rfl := Option.some.inj hF
    exact hm_ri S hr hlk X rfl rfl dX8_alike_10
def f_X8_sees (A_12 : Nat → Int32) (A_13 : Nat → Int32) (Z_2 : Int32) (Z_6 : Int32) (x0 : Int32) (x1 : Int32)  : Option (Int32 × (Nat → Int32) × (Nat → Int32) × Int32) :=
  (f_X8_isWord Z_2 x0).bind fun t1 =>
  if t1 = 0 then (
  some ((-1), A_12, A_13, Z_6))
  else (
  (f_X8_in x1 0 1).bind fun t2 =>
  if t2 = 0 then (
  some ((-1), A_12, A_13, Z_6))
  else (
  if Z_6 = 6 then (
  some ((-3), A_12, A_13, Z_6))
  else (
  (hm_wr 6 A_12 Z_6 x0).bind fun f3 =>
  (hm_wr 6 A_13 Z_6 x1).bind fun f4 =>
  some ((Z_6 + 1), f3, f4, (Z_6 + 1)))))
abbrev rm_X8_sees : Room := { frames := 2, cells := 0, slots := 0, locals := 43 }
set_option maxHeartbeats 4000000 in
set_option maxRecDepth 100000 in
theorem c_X8_sees (l : Launch) (g : hm_G) (a : Nat → Nat) (A : Nat → Nat → Int32) (Z : Nat → Int32) (x0 : Int32) (x1 : Int32) (q : Int32 × (Nat → Int32) × (Nat → Int32) × Int32) (hF : f_X8_sees (A 12) (A 13) (Z 2) (Z 6) x0 x1 = some q) : hm_Mi l yX8_sees (Cond.code yX8_sees cX8_sees 3 (some .int) :: hm_W) rm_X8_sees g [.ref (a 0), .int x0, .int x1] (hm_wMM g a A Z) (hm_wMM g a (hm_up (hm_up A 12 q.2.1) 13 q.2.2.1) (hm_up Z 6 q.2.2.2)) q.1 := by
  refine hm_ofi [(0, .ref (a 0)), (1, .int x0), (2, .int x1)] (by decide) (own := RX8) rfl (Nat.le_of_ble_eq_true rfl) rfl rfl ?_
  intro p e s m args below meth c AA S hr hlk X ls hl
  have hx := S.1
  have hb := S.2.1
  have hown := S.2.2.2.1
  have hts := S.2.2.2.2
  unfold f_X8_sees at hF
  refine lv_aload_n hx hb dX8_sees_0 rfl (lv_at hl 0 rfl) ?_
  refine lv_iload_n hx hb dX8_sees_1 rfl (lv_at hl 1 rfl) ?_
  obtain ⟨t1, ht1, hF⟩ := hm_bd hF
  refine hm_vi (As := [.int x0]) S X mw_X8_isWord hw_4_226 (c_X8_isWord l g a A Z x0 t1 ht1) hm_same hm_same rfl rfl rfl ⟨rfl, rfl, Nat.le_of_ble_eq_true rfl, Nat.le_of_ble_eq_true rfl⟩ rfl hl.1 rfl (Nat.le_of_ble_eq_true rfl) dX8_sees_2 ⟨Nat.zero_le _, Nat.zero_le _⟩ (fun H locs X => ?_)
  refine lv_if_eq (tgt := 17) hx hb dX8_sees_5 (by decide) (fun c5 => ?_) (fun c5 => ?_)
  · have hF := hm_if hF c5
    refine lv_iconst (v := (-1)) hx hb dX8_sees_17 (by decide) ?_
    obtain rfl := Option.some.inj hF
    exact hm_ri S hr hlk X rfl rfl dX8_sees_18
  · have hF := hm_nf hF c5
    refine lv_iload_n hx hb dX8_sees_8 rfl (lv_at hl 2 rfl) ?_
    refine lv_iconst (v := 0) hx hb dX8_sees_9 (by decide) ?_
    refine lv_iconst (v := 1) hx hb dX8_sees_10 (by decide) ?_
    obtain ⟨t2, ht2, hF⟩ := hm_bd hF
    refine hm_si S X mw_X8_in hw_4_193 (c_X8_in l g x1 0 1 t2 ht2) (List.Perm.refl _) (List.Perm.refl _) ⟨rfl, rfl, Nat.le_of_ble_eq_true rfl, Nat.le_of_ble_eq_true rfl⟩ rfl hl.1 rfl (Nat.le_of_ble_eq_true rfl) dX8_sees_11 ⟨Nat.zero_le _, Nat.zero_le _⟩ (fun H locs X => ?_)
    refine lv_if_ne (tgt := 19) hx hb dX8_sees_14 (by decide) (fun c14 => ?_) (fun c14 => ?_)
    · have hF := hm_nf hF c14
      refine lv_aload_n hx hb dX8_sees_19 rfl (lv_at hl 0 rfl) ?_
      refine hm_get S X hf_X8_96 0 rfl rfl dX8_sees_20 ?_
      refine lv_bipush (v := 6) hx hb dX8_sees_23 (by decide) ?_
      refine lv_icmp_ne (tgt := 31) hx hb dX8_sees_25 (by decide) (fun c25 => ?_) (fun c25 => ?_)
      · have hF := hm_nf hF c25
        refine lv_aload_n hx hb dX8_sees_31 rfl (lv_at hl 0 rfl) ?_
        refine hm_get S X hf_X8_47 0 rfl rfl dX8_sees_32 ?_
        refine lv_aload_n hx hb dX8_sees_35 rfl (lv_at hl 0 rfl) ?_
        refine hm_get S X hf_X8_96 0 rfl rfl dX8_sees_36 ?_
        refine lv_iload_n hx hb dX8_sees_39 rfl (lv_at hl 1 rfl) ?_
        obtain ⟨f3, hf3, hF⟩ := hm_bd hF
        refine hm_iast S X hf3 13 rfl dX8_sees_40 (fun H locs X => ?_)
        have X := X.to (ws' := (hm_wMM g a (hm_up A 12 f3) Z)) rfl
        refine lv_aload_n hx hb dX8_sees_41 rfl (lv_at hl 0 rfl) ?_
        refine hm_get S X hf_X8_50 0 rfl rfl dX8_sees_42 ?_
        refine lv_aload_n hx hb dX8_sees_45 rfl (lv_at hl 0 rfl) ?_
        refine hm_get S X hf_X8_96 0 rfl rfl dX8_sees_46 ?_
        refine lv_iload_n hx hb dX8_sees_49 rfl (lv_at hl 2 rfl) ?_
        obtain ⟨f4, hf4, hF⟩ := hm_bd hF
        refine hm_iast S X hf4 14 rfl dX8_sees_50 (fun H locs X => ?_)
        have X := X.to (ws' := (hm_wMM g a (hm_up (hm_up A 12 f3) 13 f4) Z)) rfl
        refine lv_aload_n hx hb dX8_sees_51 rfl (lv_at hl 0 rfl) ?_
        refine lv_dup hx hb dX8_sees_52 rfl ?_
        refine hm_get S X hf_X8_96 0 rfl rfl dX8_sees_53 ?_
        refine lv_iconst (v := 1) hx hb dX8_sees_56 (by decide) ?_
        refine lv_iadd hx hb dX8_sees_57 ?_
        refine hm_put S X hf_X8_96 hg_X8_seen 0 rfl rfl rfl (Nat.le_of_ble_eq_true rfl) dX8_sees_58 (fun H locs X => ?_)
        have X := X.to (ws' := (hm_wMM g a (hm_up (hm_up A 12 f3) 13 f4) (hm_up Z 6 ((Z 6) + 1)))) rfl
        refine lv_aload_n hx hb dX8_sees_61 rfl (lv_at hl 0 rfl) ?_
        refine hm_get S X hf_X8_96 0 rfl rfl dX8_sees_62 ?_
        obtain rfl := Option.some.inj hF
        exact hm_ri S hr hlk X rfl rfl dX8_sees_65
      · have hF := hm_if hF c25
        refine lv_bipush (v := (-3)) hx hb dX8_sees_28 (by decide) ?_
        obtain rfl := Option.some.inj hF
        exact hm_ri S hr hlk X rfl rfl dX8_sees_30
    · have hF := hm_if hF c14
      refine lv_iconst (v := (-1)) hx hb dX8_sees_17 (by decide) ?_
      obtain rfl := Option.some.inj hF
      exact hm_ri S hr hlk X rfl rfl dX8_sees_18
def f_X8_forget (Z_6 : Int32)  : Option (Int32 × Int32) :=
  some (Z_6, 0)
abbrev rm_X8_forget : Room := { frames := 0, cells := 0, slots := 0, locals := 0 }
set_option maxHeartbeats 4000000 in
set_option maxRecDepth 100000 in
theorem c_X8_forget (l : Launch) (g : hm_G) (a : Nat → Nat) (A : Nat → Nat → Int32) (Z : Nat → Int32) (q : Int32 × Int32) (hF : f_X8_forget (Z 6) = some q) : hm_Mi l yX8_forget (Cond.code yX8_forget cX8_forget 2 (some .int) :: hm_W) rm_X8_forget g [.ref (a 0)] (hm_wMM g a A Z) (hm_wMM g a A (hm_up Z 6 q.2)) q.1 := by
  refine hm_ofi [(0, .ref (a 0))] (by decide) (own := RX8) rfl (Nat.le_of_ble_eq_true rfl) rfl rfl ?_
  intro p e s m args below meth c AA S hr hlk X ls hl
  have hx := S.1
  have hb := S.2.1
  have hown := S.2.2.2.1
  have hts := S.2.2.2.2
  unfold f_X8_forget at hF
  refine lv_aload_n hx hb dX8_forget_0 rfl (lv_at hl 0 rfl) ?_
  refine hm_get S X hf_X8_96 0 rfl rfl dX8_forget_1 ?_
  refine lv_istore_n (lv' := [(1, .int (Z 6)), (0, .ref (a 0))]) hx hb dX8_forget_4 rfl hl (by decide) rfl (fun ls hl => ?_)
  refine lv_aload_n hx hb dX8_forget_5 rfl (lv_at hl 1 rfl) ?_
  refine lv_iconst (v := 0) hx hb dX8_forget_6 (by decide) ?_
  refine hm_put S X hf_X8_96 hg_X8_seen 0 rfl rfl rfl (Nat.le_of_ble_eq_true rfl) dX8_forget_7 (fun H locs X => ?_)
  have X := X.to (ws' := (hm_wMM g a A (hm_up Z 6 0))) rfl
  refine lv_iload_n hx hb dX8_forget_10 rfl (lv_at hl 0 rfl) ?_
  obtain rfl := Option.some.inj hF
  exact hm_ri S hr hlk X rfl rfl dX8_forget_11
def f_X8_isBegun_l39 (J4 : Int32 → Int32 → Option (Int32)) (s39_0 : Int32) (v3 : Int32) : Option (Int32) :=
  J4 s39_0 (v3 + 1)
def f_X8_isBegun_l34 (J4 : Int32 → Int32 → Option (Int32)) (v3 : Int32) : Option (Int32) :=
  f_X8_isBegun_l39 J4 1 v3
def f_X8_isBegun_l4 (A_2 : Nat → Int32) (A_4 : Nat → Int32) (A_5 : Nat → Int32) (A_6 : Nat → Int32) (A_18 : Nat → Int32) (Z_7 : Int32) (x0 : Int32) : Nat → Int32 → Int32 → Option (Int32)
  | 0, _, _ => none
  | k + 1, v2, v3 =>
  if Z_7 ≤ v3 then (
  (hm_bl v2).bind fun t1 =>
  some (v2))
  else (
  if v2 = 0 then (
  (f_X8_before A_18 v3).bind fun t2 =>
  (f_X8_firstLetter A_2 A_4 A_5 A_6 t2).bind fun t3 =>
  (hm_rd 30 A_2 x0).bind fun t4 =>
  if t3 = t4 then (
  f_X8_isBegun_l34 (fun zv2 zv3 => f_X8_isBegun_l4 A_2 A_4 A_5 A_6 A_18 Z_7 x0 k zv2 zv3) v3)
  else (
  f_X8_isBegun_l39 (fun zv2 zv3 => f_X8_isBegun_l4 A_2 A_4 A_5 A_6 A_18 Z_7 x0 k zv2 zv3) 0 v3))
  else (
  f_X8_isBegun_l34 (fun zv2 zv3 => f_X8_isBegun_l4 A_2 A_4 A_5 A_6 A_18 Z_7 x0 k zv2 zv3) v3))
theorem f_X8_isBegun_l4_s (A_2 : Nat → Int32) (A_4 : Nat → Int32) (A_5 : Nat → Int32) (A_6 : Nat → Int32) (A_18 : Nat → Int32) (Z_7 : Int32) (x0 : Int32) (k : Nat) (v2 : Int32) (v3 : Int32) : f_X8_isBegun_l4 A_2 A_4 A_5 A_6 A_18 Z_7 x0 (k + 1) v2 v3 =
  if Z_7 ≤ v3 then (
  (hm_bl v2).bind fun t1 =>
  some (v2))
  else (
  if v2 = 0 then (
  (f_X8_before A_18 v3).bind fun t2 =>
  (f_X8_firstLetter A_2 A_4 A_5 A_6 t2).bind fun t3 =>
  (hm_rd 30 A_2 x0).bind fun t4 =>
  if t3 = t4 then (
  f_X8_isBegun_l34 (fun zv2 zv3 => f_X8_isBegun_l4 A_2 A_4 A_5 A_6 A_18 Z_7 x0 k zv2 zv3) v3)
  else (
  f_X8_isBegun_l39 (fun zv2 zv3 => f_X8_isBegun_l4 A_2 A_4 A_5 A_6 A_18 Z_7 x0 k zv2 zv3) 0 v3))
  else (
  f_X8_isBegun_l34 (fun zv2 zv3 => f_X8_isBegun_l4 A_2 A_4 A_5 A_6 A_18 Z_7 x0 k zv2 zv3) v3)) := rfl
theorem f_X8_isBegun_l4_z (A_2 : Nat → Int32) (A_4 : Nat → Int32) (A_5 : Nat → Int32) (A_6 : Nat → Int32) (A_18 : Nat → Int32) (Z_7 : Int32) (x0 : Int32) (v2 : Int32) (v3 : Int32) : f_X8_isBegun_l4 A_2 A_4 A_5 A_6 A_18 Z_7 x0 0 v2 v3 = none := rfl
def f_X8_isBegun (A_2 : Nat → Int32) (A_4 : Nat → Int32) (A_5 : Nat → Int32) (A_6 : Nat → Int32) (A_18 : Nat → Int32) (Z_7 : Int32) (x0 : Int32)  : Option (Int32) :=
  f_X8_isBegun_l4 A_2 A_4 A_5 A_6 A_18 Z_7 x0 hm_fu 0 0
abbrev rm_X8_isBegun : Room := { frames := 2, cells := 0, slots := 0, locals := 42 }
set_option maxHeartbeats 4000000 in
set_option maxRecDepth 100000 in
theorem c_X8_isBegun (l : Launch) (g : hm_G) (a : Nat → Nat) (A : Nat → Nat → Int32) (Z : Nat → Int32) (x0 : Int32) (q : Int32) (hF : f_X8_isBegun (A 2) (A 4) (A 5) (A 6) (A 18) (Z 7) x0 = some q) : hm_Mi l yX8_isBegun (Cond.code yX8_isBegun cX8_isBegun 4 (some .boolean) :: hm_W) rm_X8_isBegun g [.ref (a 0), .int x0] (hm_wMM g a A Z) (hm_wMM g a A Z) q := by
  refine hm_ofi [(0, .ref (a 0)), (1, .int x0)] (by decide) (own := RX8) rfl (Nat.le_of_ble_eq_true rfl) rfl rfl ?_
  intro p e s m args below meth c AA S hr hlk X ls hl
  have hx := S.1
  have hb := S.2.1
  have hown := S.2.2.2.1
  have hts := S.2.2.2.2
  have hl4 : ∀ (k4 : Nat) (v2 : Int32) (v3 : Int32), f_X8_isBegun_l4 (A 2) (A 4) (A 5) (A 6) (A 18) (Z 7) x0 k4 v2 v3 = some q → ∀ (H : Heap) (locs : List Loc), hm_X g AA s H locs (hm_wMM g a A Z) → ∀ ls : Array Slot, lv_has ls 4 [(0, .ref (a 0)), (1, .int x0), (2, .int v2), (3, .int v3)] → W p l e rm_X8_isBegun s m args below meth c H locs 0 0 (MQ below (hm_Qi g AA (hm_wMM g a A Z) q) args s 0 0 AA) (F0 m 4 ls []) := by
    intro k4
    induction k4 with
    | zero =>
      intro v2 v3 hF
      rw [f_X8_isBegun_l4_z] at hF
      cases hF
    | succ k4 ih4 =>
      have hl39 : ∀ (s39_0 : Int32) (v3 : Int32), f_X8_isBegun_l39 (fun zv2 zv3 => f_X8_isBegun_l4 (A 2) (A 4) (A 5) (A 6) (A 18) (Z 7) x0 k4 zv2 zv3) s39_0 v3 = some q → ∀ (H : Heap) (locs : List Loc), hm_X g AA s H locs (hm_wMM g a A Z) → ∀ ls : Array Slot, lv_has ls 4 [(0, .ref (a 0)), (1, .int x0), (3, .int v3)] → W p l e rm_X8_isBegun s m args below meth c H locs 0 0 (MQ below (hm_Qi g AA (hm_wMM g a A Z) q) args s 0 0 AA) (F0 m 39 ls [.int s39_0]) := by
        intro s39_0 v3 hF H locs X ls hl
        unfold f_X8_isBegun_l39 at hF
        refine lv_istore_n (lv' := [(2, .int s39_0), (0, .ref (a 0)), (1, .int x0), (3, .int v3)]) hx hb dX8_isBegun_39 rfl hl (by decide) rfl (fun ls hl => ?_)
        refine lv_iinc (v := (v3 + 1)) (lv' := [(3, .int (v3 + 1)), (2, .int s39_0), (0, .ref (a 0)), (1, .int x0)]) hx hb dX8_isBegun_40 hl (k := 3) rfl rfl (by decide) rfl (fun ls hl => ?_)
        refine lv_goto (tgt := 4) hx hb dX8_isBegun_43 (by decide) ?_
        exact ih4 s39_0 (v3 + 1) hF _ _ X _ (lv_sub hl [2, 3, 1, 0] rfl)
      have hl34 : ∀ (v3 : Int32), f_X8_isBegun_l34 (fun zv2 zv3 => f_X8_isBegun_l4 (A 2) (A 4) (A 5) (A 6) (A 18) (Z 7) x0 k4 zv2 zv3) v3 = some q → ∀ (H : Heap) (locs : List Loc), hm_X g AA s H locs (hm_wMM g a A Z) → ∀ ls : Array Slot, lv_has ls 4 [(0, .ref (a 0)), (1, .int x0), (3, .int v3)] → W p l e rm_X8_isBegun s m args below meth c H locs 0 0 (MQ below (hm_Qi g AA (hm_wMM g a A Z) q) args s 0 0 AA) (F0 m 34 ls []) := by
        intro v3 hF H locs X ls hl
        unfold f_X8_isBegun_l34 at hF
        refine lv_iconst (v := 1) hx hb dX8_isBegun_34 (by decide) ?_
        refine lv_goto (tgt := 39) hx hb dX8_isBegun_35 (by decide) ?_
        exact hl39 1 v3 hF _ _ X _ (lv_sub hl [0, 1, 2] rfl)
      intro v2 v3 hF H locs X ls hl
      rw [f_X8_isBegun_l4_s] at hF
      refine lv_iload_n hx hb dX8_isBegun_4 rfl (lv_at hl 3 rfl) ?_
      refine lv_aload_n hx hb dX8_isBegun_5 rfl (lv_at hl 0 rfl) ?_
      refine hm_get S X hf_X8_183 0 rfl rfl dX8_isBegun_6 ?_
      refine lv_icmp_ge (tgt := 46) hx hb dX8_isBegun_9 (by decide) (fun c9 => ?_) (fun c9 => ?_)
      · have hF := hm_if hF c9
        refine lv_iload_n hx hb dX8_isBegun_46 rfl (lv_at hl 2 rfl) ?_
        obtain ⟨t1, ht1, hF⟩ := hm_bd hF
        obtain rfl := Option.some.inj hF
        exact hm_rz S hr hlk X rfl rfl (hm_bl_z ht1) dX8_isBegun_47
      · have hF := hm_nf hF c9
        refine lv_iload_n hx hb dX8_isBegun_12 rfl (lv_at hl 2 rfl) ?_
        refine lv_if_ne (tgt := 34) hx hb dX8_isBegun_13 (by decide) (fun c13 => ?_) (fun c13 => ?_)
        · have hF := hm_nf hF c13
          exact hl34 v3 hF _ _ X _ (lv_sub hl [0, 1, 3] rfl)
        · have hF := hm_if hF c13
          refine lv_aload_n hx hb dX8_isBegun_16 rfl (lv_at hl 0 rfl) ?_
          refine lv_aload_n hx hb dX8_isBegun_17 rfl (lv_at hl 0 rfl) ?_
          refine lv_iload_n hx hb dX8_isBegun_18 rfl (lv_at hl 3 rfl) ?_
          obtain ⟨t2, ht2, hF⟩ := hm_bd hF
          refine hm_vi (As := [.int v3]) S X mw_X8_before hw_5_85 (c_X8_before l g a A Z v3 t2 ht2) hm_same hm_same rfl rfl rfl ⟨rfl, rfl, Nat.le_of_ble_eq_true rfl, Nat.le_of_ble_eq_true rfl⟩ rfl hl.1 rfl (Nat.le_of_ble_eq_true rfl) dX8_isBegun_19 ⟨Nat.zero_le _, Nat.zero_le _⟩ (fun H locs X => ?_)
          obtain ⟨t3, ht3, hF⟩ := hm_bd hF
          refine hm_vi (As := [.int t2]) S X mw_X8_firstLetter hw_5_69 (c_X8_firstLetter l g a A Z t2 t3 ht3) hm_same hm_same rfl rfl rfl ⟨rfl, rfl, Nat.le_of_ble_eq_true rfl, Nat.le_of_ble_eq_true rfl⟩ rfl hl.1 rfl (Nat.le_of_ble_eq_true rfl) dX8_isBegun_22 ⟨Nat.zero_le _, Nat.zero_le _⟩ (fun H locs X => ?_)
          refine lv_aload_n hx hb dX8_isBegun_25 rfl (lv_at hl 0 rfl) ?_
          refine hm_get S X hf_X8_16 0 rfl rfl dX8_isBegun_26 ?_
          refine lv_iload_n hx hb dX8_isBegun_29 rfl (lv_at hl 1 rfl) ?_
          obtain ⟨t4, ht4, hF⟩ := hm_bd hF
          refine hm_iald S X ht4 3 rfl dX8_isBegun_30 ?_
          refine lv_icmp_ne (tgt := 38) hx hb dX8_isBegun_31 (by decide) (fun c31 => ?_) (fun c31 => ?_)
          · have hF := hm_nf hF c31
            refine lv_iconst (v := 0) hx hb dX8_isBegun_38 (by decide) ?_
            exact hl39 0 v3 hF _ _ X _ (lv_sub hl [0, 1, 3] rfl)
          · have hF := hm_if hF c31
            exact hl34 v3 hF _ _ X _ (lv_sub hl [0, 1, 3] rfl)
  unfold f_X8_isBegun at hF
  refine lv_iconst (v := 0) hx hb dX8_isBegun_0 (by decide) ?_
  refine lv_istore_n (lv' := [(2, .int 0), (0, .ref (a 0)), (1, .int x0)]) hx hb dX8_isBegun_1 rfl hl (by decide) rfl (fun ls hl => ?_)
  refine lv_iconst (v := 0) hx hb dX8_isBegun_2 (by decide) ?_
  refine lv_istore_n (lv' := [(3, .int 0), (2, .int 0), (0, .ref (a 0)), (1, .int x0)]) hx hb dX8_isBegun_3 rfl hl (by decide) rfl (fun ls hl => ?_)
  exact hl4 hm_fu 0 0 hF _ _ X _ (lv_sub hl [2, 3, 1, 0] rfl)
def f_X8_unseen_l105 (x0 : Int32) (wA_14 : Nat → Int32) (wA_15 : Nat → Int32) (wA_16 : Nat → Int32) (wA_17 : Nat → Int32) (wA_18 : Nat → Int32) (wZ_10 : Int32) (wZ_11 : Int32) (wZ_7 : Int32) (wZ_9 : Int32) : Option (Int32 × (Nat → Int32) × (Nat → Int32) × (Nat → Int32) × (Nat → Int32) × (Nat → Int32) × Int32 × Int32 × Int32 × Int32) :=
  (f_X8_found wZ_9 wZ_10 wZ_11 x0).bind fun t2 =>
  some (t2, wA_14, wA_15, wA_16, wA_17, wA_18, wZ_10, wZ_11, wZ_7, wZ_9)
def f_X8_unseen_l99 (J19 : Int32 → (Nat → Int32) → (Nat → Int32) → (Nat → Int32) → (Nat → Int32) → (Nat → Int32) → Int32 → Int32 → Int32 → Int32 → Option (Int32 × (Nat → Int32) × (Nat → Int32) × (Nat → Int32) × (Nat → Int32) × (Nat → Int32) × Int32 × Int32 × Int32 × Int32)) (v2 : Int32) (wA_14 : Nat → Int32) (wA_15 : Nat → Int32) (wA_16 : Nat → Int32) (wA_17 : Nat → Int32) (wA_18 : Nat → Int32) (wZ_10 : Int32) (wZ_11 : Int32) (wZ_7 : Int32) (wZ_9 : Int32) : Option (Int32 × (Nat → Int32) × (Nat → Int32) × (Nat → Int32) × (Nat → Int32) × (Nat → Int32) × Int32 × Int32 × Int32 × Int32) :=
  J19 (v2 + 1) wA_14 wA_15 wA_16 wA_17 wA_18 wZ_10 wZ_11 wZ_7 wZ_9
def f_X8_unseen_l90 (J19 : Int32 → (Nat → Int32) → (Nat → Int32) → (Nat → Int32) → (Nat → Int32) → (Nat → Int32) → Int32 → Int32 → Int32 → Int32 → Option (Int32 × (Nat → Int32) × (Nat → Int32) × (Nat → Int32) × (Nat → Int32) × (Nat → Int32) × Int32 × Int32 × Int32 × Int32)) (v2 : Int32) (v3 : Int32) (wA_14 : Nat → Int32) (wA_15 : Nat → Int32) (wA_16 : Nat → Int32) (wA_17 : Nat → Int32) (wA_18 : Nat → Int32) (wZ_10 : Int32) (wZ_11 : Int32) (wZ_7 : Int32) (wZ_9 : Int32) : Option (Int32 × (Nat → Int32) × (Nat → Int32) × (Nat → Int32) × (Nat → Int32) × (Nat → Int32) × Int32 × Int32 × Int32 × Int32) :=
  if v3 = 0 then (
  f_X8_unseen_l99 J19 v2 wA_14 wA_15 wA_16 wA_17 wA_18 wZ_10 wZ_11 wZ_7 wZ_9)
  else (
  (f_X8_finds wZ_9 wZ_10 v2).bind fun t4 =>
  f_X8_unseen_l99 J19 v2 wA_14 wA_15 wA_16 wA_17 wA_18 t4.1 t4.2.1 wZ_7 t4.2.2)
def f_X8_unseen_l83 (J19 : Int32 → (Nat → Int32) → (Nat → Int32) → (Nat → Int32) → (Nat → Int32) → (Nat → Int32) → Int32 → Int32 → Int32 → Int32 → Option (Int32 × (Nat → Int32) × (Nat → Int32) × (Nat → Int32) × (Nat → Int32) × (Nat → Int32) × Int32 × Int32 × Int32 × Int32)) (J35 : Int32 → Int32 → Int32 → (Nat → Int32) → (Nat → Int32) → (Nat → Int32) → (Nat → Int32) → (Nat → Int32) → Int32 → Int32 → Int32 → Int32 → Option (Int32 × (Nat → Int32) × (Nat → Int32) × (Nat → Int32) × (Nat → Int32) × (Nat → Int32) × Int32 × Int32 × Int32 × Int32)) (s83_0 : Int32) (v2 : Int32) (v4 : Int32) (wA_14 : Nat → Int32) (wA_15 : Nat → Int32) (wA_16 : Nat → Int32) (wA_17 : Nat → Int32) (wA_18 : Nat → Int32) (wZ_10 : Int32) (wZ_11 : Int32) (wZ_7 : Int32) (wZ_9 : Int32) : Option (Int32 × (Nat → Int32) × (Nat → Int32) × (Nat → Int32) × (Nat → Int32) × (Nat → Int32) × Int32 × Int32 × Int32 × Int32) :=
  J35 v2 s83_0 (v4 + 1) wA_14 wA_15 wA_16 wA_17 wA_18 wZ_10 wZ_11 wZ_7 wZ_9
def f_X8_unseen_l75 (J19 : Int32 → (Nat → Int32) → (Nat → Int32) → (Nat → Int32) → (Nat → Int32) → (Nat → Int32) → Int32 → Int32 → Int32 → Int32 → Option (Int32 × (Nat → Int32) × (Nat → Int32) × (Nat → Int32) × (Nat → Int32) × (Nat → Int32) × Int32 × Int32 × Int32 × Int32)) (J35 : Int32 → Int32 → Int32 → (Nat → Int32) → (Nat → Int32) → (Nat → Int32) → (Nat → Int32) → (Nat → Int32) → Int32 → Int32 → Int32 → Int32 → Option (Int32 × (Nat → Int32) × (Nat → Int32) × (Nat → Int32) × (Nat → Int32) × (Nat → Int32) × Int32 × Int32 × Int32 × Int32)) (s75_0 : Int32) (s75_1 : Int32) (v2 : Int32) (v4 : Int32) (wA_14 : Nat → Int32) (wA_15 : Nat → Int32) (wA_16 : Nat → Int32) (wA_17 : Nat → Int32) (wA_18 : Nat → Int32) (wZ_10 : Int32) (wZ_11 : Int32) (wZ_7 : Int32) (wZ_9 : Int32) : Option (Int32 × (Nat → Int32) × (Nat → Int32) × (Nat → Int32) × (Nat → Int32) × (Nat → Int32) × Int32 × Int32 × Int32 × Int32) :=
  if s75_1 = s75_0 then (
  f_X8_unseen_l83 J19 J35 1 v2 v4 wA_14 wA_15 wA_16 wA_17 wA_18 wZ_10 wZ_11 wZ_7 wZ_9)
  else (
  f_X8_unseen_l83 J19 J35 0 v2 v4 wA_14 wA_15 wA_16 wA_17 wA_18 wZ_10 wZ_11 wZ_7 wZ_9)
def f_X8_unseen_l35 (J19 : Int32 → (Nat → Int32) → (Nat → Int32) → (Nat → Int32) → (Nat → Int32) → (Nat → Int32) → Int32 → Int32 → Int32 → Int32 → Option (Int32 × (Nat → Int32) × (Nat → Int32) × (Nat → Int32) × (Nat → Int32) × (Nat → Int32) × Int32 × Int32 × Int32 × Int32)) (A_2 : Nat → Int32) (A_4 : Nat → Int32) (A_5 : Nat → Int32) (A_6 : Nat → Int32) (A_12 : Nat → Int32) (A_13 : Nat → Int32) (Z_6 : Int32) : Nat → Int32 → Int32 → Int32 → (Nat → Int32) → (Nat → Int32) → (Nat → Int32) → (Nat → Int32) → (Nat → Int32) → Int32 → Int32 → Int32 → Int32 → Option (Int32 × (Nat → Int32) × (Nat → Int32) × (Nat → Int32) × (Nat → Int32) × (Nat → Int32) × Int32 × Int32 × Int32 × Int32)
  | 0, _, _, _, _, _, _, _, _, _, _, _, _ => none
  | k + 1, v2, v3, v4, wA_14, wA_15, wA_16, wA_17, wA_18, wZ_10, wZ_11, wZ_7, wZ_9 =>
  if Z_6 ≤ v4 then (
  f_X8_unseen_l90 J19 v2 v3 wA_14 wA_15 wA_16 wA_17 wA_18 wZ_10 wZ_11 wZ_7 wZ_9)
  else (
  if v3 = 0 then (
  f_X8_unseen_l90 J19 v2 v3 wA_14 wA_15 wA_16 wA_17 wA_18 wZ_10 wZ_11 wZ_7 wZ_9)
  else (
  (hm_rd 6 A_12 v4).bind fun t5 =>
  (f_X8_isBegun A_2 A_4 A_5 A_6 wA_18 wZ_7 t5).bind fun t6 =>
  (hm_rd 6 A_13 v4).bind fun t7 =>
  if t7 = 1 then (
  f_X8_unseen_l75 J19 (fun zv2 zv3 zv4 zwA_14 zwA_15 zwA_16 zwA_17 zwA_18 zwZ_10 zwZ_11 zwZ_7 zwZ_9 => f_X8_unseen_l35 J19 A_2 A_4 A_5 A_6 A_12 A_13 Z_6 k zv2 zv3 zv4 zwA_14 zwA_15 zwA_16 zwA_17 zwA_18 zwZ_10 zwZ_11 zwZ_7 zwZ_9) 1 t6 v2 v4 wA_14 wA_15 wA_16 wA_17 wA_18 wZ_10 wZ_11 wZ_7 wZ_9)
  else (
  f_X8_unseen_l75 J19 (fun zv2 zv3 zv4 zwA_14 zwA_15 zwA_16 zwA_17 zwA_18 zwZ_10 zwZ_11 zwZ_7 zwZ_9 => f_X8_unseen_l35 J19 A_2 A_4 A_5 A_6 A_12 A_13 Z_6 k zv2 zv3 zv4 zwA_14 zwA_15 zwA_16 zwA_17 zwA_18 zwZ_10 zwZ_11 zwZ_7 zwZ_9) 0 t6 v2 v4 wA_14 wA_15 wA_16 wA_17 wA_18 wZ_10 wZ_11 wZ_7 wZ_9)))
theorem f_X8_unseen_l35_s (J19 : Int32 → (Nat → Int32) → (Nat → Int32) → (Nat → Int32) → (Nat → Int32) → (Nat → Int32) → Int32 → Int32 → Int32 → Int32 → Option (Int32 × (Nat → Int32) × (Nat → Int32) × (Nat → Int32) × (Nat → Int32) × (Nat → Int32) × Int32 × Int32 × Int32 × Int32)) (A_2 : Nat → Int32) (A_4 : Nat → Int32) (A_5 : Nat → Int32) (A_6 : Nat → Int32) (A_12 : Nat → Int32) (A_13 : Nat → Int32) (Z_6 : Int32) (k : Nat) (v2 : Int32) (v3 : Int32) (v4 : Int32) (wA_14 : Nat → Int32) (wA_15 : Nat → Int32) (wA_16 : Nat → Int32) (wA_17 : Nat → Int32) (wA_18 : Nat → Int32) (wZ_10 : Int32) (wZ_11 : Int32) (wZ_7 : Int32) (wZ_9 : Int32) : f_X8_unseen_l35 J19 A_2 A_4 A_5 A_6 A_12 A_13 Z_6 (k + 1) v2 v3 v4 wA_14 wA_15 wA_16 wA_17 wA_18 wZ_10 wZ_11 wZ_7 wZ_9 =
  if Z_6 ≤ v4 then (
  f_X8_unseen_l90 J19 v2 v3 wA_14 wA_15 wA_16 wA_17 wA_18 wZ_10 wZ_11 wZ_7 wZ_9)
  else (
  if v3 = 0 then (
  f_X8_unseen_l90 J19 v2 v3 wA_14 wA_15 wA_16 wA_17 wA_18 wZ_10 wZ_11 wZ_7 wZ_9)
  else (
  (hm_rd 6 A_12 v4).bind fun t5 =>
  (f_X8_isBegun A_2 A_4 A_5 A_6 wA_18 wZ_7 t5).bind fun t6 =>
  (hm_rd 6 A_13 v4).bind fun t7 =>
  if t7 = 1 then (
  f_X8_unseen_l75 J19 (fun zv2 zv3 zv4 zwA_14 zwA_15 zwA_16 zwA_17 zwA_18 zwZ_10 zwZ_11 zwZ_7 zwZ_9 => f_X8_unseen_l35 J19 A_2 A_4 A_5 A_6 A_12 A_13 Z_6 k zv2 zv3 zv4 zwA_14 zwA_15 zwA_16 zwA_17 zwA_18 zwZ_10 zwZ_11 zwZ_7 zwZ_9) 1 t6 v2 v4 wA_14 wA_15 wA_16 wA_17 wA_18 wZ_10 wZ_11 wZ_7 wZ_9)
  else (
  f_X8_unseen_l75 J19 (fun zv2 zv3 zv4 zwA_14 zwA_15 zwA_16 zwA_17 zwA_18 zwZ_10 zwZ_11 zwZ_7 zwZ_9 => f_X8_unseen_l35 J19 A_2 A_4 A_5 A_6 A_12 A_13 Z_6 k zv2 zv3 zv4 zwA_14 zwA_15 zwA_16 zwA_17 zwA_18 zwZ_10 zwZ_11 zwZ_7 zwZ_9) 0 t6 v2 v4 wA_14 wA_15 wA_16 wA_17 wA_18 wZ_10 wZ_11 wZ_7 wZ_9))) := rfl
theorem f_X8_unseen_l35_z (J19 : Int32 → (Nat → Int32) → (Nat → Int32) → (Nat → Int32) → (Nat → Int32) → (Nat → Int32) → Int32 → Int32 → Int32 → Int32 → Option (Int32 × (Nat → Int32) × (Nat → Int32) × (Nat → Int32) × (Nat → Int32) × (Nat → Int32) × Int32 × Int32 × Int32 × Int32)) (A_2 : Nat → Int32) (A_4 : Nat → Int32) (A_5 : Nat → Int32) (A_6 : Nat → Int32) (A_12 : Nat → Int32) (A_13 : Nat → Int32) (Z_6 : Int32) (v2 : Int32) (v3 : Int32) (v4 : Int32) (wA_14 : Nat → Int32) (wA_15 : Nat → Int32) (wA_16 : Nat → Int32) (wA_17 : Nat → Int32) (wA_18 : Nat → Int32) (wZ_10 : Int32) (wZ_11 : Int32) (wZ_7 : Int32) (wZ_9 : Int32) : f_X8_unseen_l35 J19 A_2 A_4 A_5 A_6 A_12 A_13 Z_6 0 v2 v3 v4 wA_14 wA_15 wA_16 wA_17 wA_18 wZ_10 wZ_11 wZ_7 wZ_9 = none := rfl
def f_X8_unseen_l19 (A_1 : Nat → Int32) (A_2 : Nat → Int32) (A_4 : Nat → Int32) (A_5 : Nat → Int32) (A_6 : Nat → Int32) (A_7 : Nat → Int32) (A_12 : Nat → Int32) (A_13 : Nat → Int32) (Z_1 : Int32) (Z_3 : Int32) (Z_6 : Int32) (x0 : Int32) : Nat → Int32 → (Nat → Int32) → (Nat → Int32) → (Nat → Int32) → (Nat → Int32) → (Nat → Int32) → Int32 → Int32 → Int32 → Int32 → Option (Int32 × (Nat → Int32) × (Nat → Int32) × (Nat → Int32) × (Nat → Int32) × (Nat → Int32) × Int32 × Int32 × Int32 × Int32)
  | 0, _, _, _, _, _, _, _, _, _, _ => none
  | k + 1, v2, wA_14, wA_15, wA_16, wA_17, wA_18, wZ_10, wZ_11, wZ_7, wZ_9 =>
  if (200 : Int32) < v2 then (
  f_X8_unseen_l105 x0 wA_14 wA_15 wA_16 wA_17 wA_18 wZ_10 wZ_11 wZ_7 wZ_9)
  else (
  (f_X8_laysPage A_1 A_2 A_4 A_5 A_6 A_7 wA_14 wA_15 wA_16 wA_17 wA_18 Z_1 Z_3 v2).bind fun t3 =>
  f_X8_unseen_l35 (fun zv2 zwA_14 zwA_15 zwA_16 zwA_17 zwA_18 zwZ_10 zwZ_11 zwZ_7 zwZ_9 => f_X8_unseen_l19 A_1 A_2 A_4 A_5 A_6 A_7 A_12 A_13 Z_1 Z_3 Z_6 x0 k zv2 zwA_14 zwA_15 zwA_16 zwA_17 zwA_18 zwZ_10 zwZ_11 zwZ_7 zwZ_9) A_2 A_4 A_5 A_6 A_12 A_13 Z_6 hm_fu v2 t3.1 0 t3.2.1 t3.2.2.1 t3.2.2.2.1 t3.2.2.2.2.1 t3.2.2.2.2.2.1 wZ_10 wZ_11 t3.2.2.2.2.2.2 wZ_9)
theorem f_X8_unseen_l19_s (A_1 : Nat → Int32) (A_2 : Nat → Int32) (A_4 : Nat → Int32) (A_5 : Nat → Int32) (A_6 : Nat → Int32) (A_7 : Nat → Int32) (A_12 : Nat → Int32) (A_13 : Nat → Int32) (Z_1 : Int32) (Z_3 : Int32) (Z_6 : Int32) (x0 : Int32) (k : Nat) (v2 : Int32) (wA_14 : Nat → Int32) (wA_15 : Nat → Int32) (wA_16 : Nat → Int32) (wA_17 : Nat → Int32) (wA_18 : Nat → Int32) (wZ_10 : Int32) (wZ_11 : Int32) (wZ_7 : Int32) (wZ_9 : Int32) : f_X8_unseen_l19 A_1 A_2 A_4 A_5 A_6 A_7 A_12 A_13 Z_1 Z_3 Z_6 x0 (k + 1) v2 wA_14 wA_15 wA_16 wA_17 wA_18 wZ_10 wZ_11 wZ_7 wZ_9 =
  if (200 : Int32) < v2 then (
  f_X8_unseen_l105 x0 wA_14 wA_15 wA_16 wA_17 wA_18 wZ_10 wZ_11 wZ_7 wZ_9)
  else (
  (f_X8_laysPage A_1 A_2 A_4 A_5 A_6 A_7 wA_14 wA_15 wA_16 wA_17 wA_18 Z_1 Z_3 v2).bind fun t3 =>
  f_X8_unseen_l35 (fun zv2 zwA_14 zwA_15 zwA_16 zwA_17 zwA_18 zwZ_10 zwZ_11 zwZ_7 zwZ_9 => f_X8_unseen_l19 A_1 A_2 A_4 A_5 A_6 A_7 A_12 A_13 Z_1 Z_3 Z_6 x0 k zv2 zwA_14 zwA_15 zwA_16 zwA_17 zwA_18 zwZ_10 zwZ_11 zwZ_7 zwZ_9) A_2 A_4 A_5 A_6 A_12 A_13 Z_6 hm_fu v2 t3.1 0 t3.2.1 t3.2.2.1 t3.2.2.2.1 t3.2.2.2.2.1 t3.2.2.2.2.2.1 wZ_10 wZ_11 t3.2.2.2.2.2.2 wZ_9) := rfl
theorem f_X8_unseen_l19_z (A_1 : Nat → Int32) (A_2 : Nat → Int32) (A_4 : Nat → Int32) (A_5 : Nat → Int32) (A_6 : Nat → Int32) (A_7 : Nat → Int32) (A_12 : Nat → Int32) (A_13 : Nat → Int32) (Z_1 : Int32) (Z_3 : Int32) (Z_6 : Int32) (x0 : Int32) (v2 : Int32) (wA_14 : Nat → Int32) (wA_15 : Nat → Int32) (wA_16 : Nat → Int32) (wA_17 : Nat → Int32) (wA_18 : Nat → Int32) (wZ_10 : Int32) (wZ_11 : Int32) (wZ_7 : Int32) (wZ_9 : Int32) : f_X8_unseen_l19 A_1 A_2 A_4 A_5 A_6 A_7 A_12 A_13 Z_1 Z_3 Z_6 x0 0 v2 wA_14 wA_15 wA_16 wA_17 wA_18 wZ_10 wZ_11 wZ_7 wZ_9 = none := rfl
def f_X8_unseen (A_1 : Nat → Int32) (A_2 : Nat → Int32) (A_4 : Nat → Int32) (A_5 : Nat → Int32) (A_6 : Nat → Int32) (A_7 : Nat → Int32) (A_12 : Nat → Int32) (A_13 : Nat → Int32) (A_14 : Nat → Int32) (A_15 : Nat → Int32) (A_16 : Nat → Int32) (A_17 : Nat → Int32) (A_18 : Nat → Int32) (Z_1 : Int32) (Z_3 : Int32) (Z_6 : Int32) (Z_7 : Int32) (Z_9 : Int32) (Z_10 : Int32) (Z_11 : Int32) (x0 : Int32)  : Option (Int32 × (Nat → Int32) × (Nat → Int32) × (Nat → Int32) × (Nat → Int32) × (Nat → Int32) × Int32 × Int32 × Int32 × Int32) :=
  (f_X8_in x0 0 2).bind fun t1 =>
  if t1 = 0 then (
  some ((-1), A_14, A_15, A_16, A_17, A_18, Z_10, Z_11, Z_7, Z_9))
  else (
  f_X8_unseen_l19 A_1 A_2 A_4 A_5 A_6 A_7 A_12 A_13 Z_1 Z_3 Z_6 x0 hm_fu 10 A_14 A_15 A_16 A_17 A_18 Z_10 Z_11 Z_7 0)
abbrev rm_X8_unseen : Room := { frames := 6, cells := 0, slots := 0, locals := 137 }
set_option maxHeartbeats 4000000 in
set_option maxRecDepth 100000 in
theorem c_X8_unseen (l : Launch) (g : hm_G) (a : Nat → Nat) (A : Nat → Nat → Int32) (Z : Nat → Int32) (x0 : Int32) (q : Int32 × (Nat → Int32) × (Nat → Int32) × (Nat → Int32) × (Nat → Int32) × (Nat → Int32) × Int32 × Int32 × Int32 × Int32) (hF : f_X8_unseen (A 1) (A 2) (A 4) (A 5) (A 6) (A 7) (A 12) (A 13) (A 14) (A 15) (A 16) (A 17) (A 18) (Z 1) (Z 3) (Z 6) (Z 7) (Z 9) (Z 10) (Z 11) x0 = some q) : hm_Mi l yX8_unseen (Cond.code yX8_unseen cX8_unseen 5 (some .int) :: hm_W) rm_X8_unseen g [.ref (a 0), .int x0] (hm_wMM g a A Z) (hm_wMM g a (hm_up (hm_up (hm_up (hm_up (hm_up A 14 q.2.1) 15 q.2.2.1) 16 q.2.2.2.1) 17 q.2.2.2.2.1) 18 q.2.2.2.2.2.1) (hm_up (hm_up (hm_up (hm_up Z 7 q.2.2.2.2.2.2.2.2.1) 9 q.2.2.2.2.2.2.2.2.2) 10 q.2.2.2.2.2.2.1) 11 q.2.2.2.2.2.2.2.1)) q.1 := by
  refine hm_ofi [(0, .ref (a 0)), (1, .int x0)] (by decide) (own := RX8) rfl (Nat.le_of_ble_eq_true rfl) rfl rfl ?_
  intro p e s m args below meth c AA S hr hlk X ls hl
  have hx := S.1
  have hb := S.2.1
  have hown := S.2.2.2.1
  have hts := S.2.2.2.2
  have hl105 : ∀ (wA_14 : Nat → Int32) (wA_15 : Nat → Int32) (wA_16 : Nat → Int32) (wA_17 : Nat → Int32) (wA_18 : Nat → Int32) (wZ_10 : Int32) (wZ_11 : Int32) (wZ_7 : Int32) (wZ_9 : Int32), f_X8_unseen_l105 x0 wA_14 wA_15 wA_16 wA_17 wA_18 wZ_10 wZ_11 wZ_7 wZ_9 = some q → ∀ (H : Heap) (locs : List Loc), hm_X g AA s H locs (hm_wMM g a (hm_up (hm_up (hm_up (hm_up (hm_up A 14 wA_14) 15 wA_15) 16 wA_16) 17 wA_17) 18 wA_18) (hm_up (hm_up (hm_up (hm_up Z 7 wZ_7) 9 wZ_9) 10 wZ_10) 11 wZ_11)) → ∀ ls : Array Slot, lv_has ls 5 [(0, .ref (a 0)), (1, .int x0)] → W p l e rm_X8_unseen s m args below meth c H locs 0 0 (MQ below (hm_Qi g AA (hm_wMM g a (hm_up (hm_up (hm_up (hm_up (hm_up A 14 q.2.1) 15 q.2.2.1) 16 q.2.2.2.1) 17 q.2.2.2.2.1) 18 q.2.2.2.2.2.1) (hm_up (hm_up (hm_up (hm_up Z 7 q.2.2.2.2.2.2.2.2.1) 9 q.2.2.2.2.2.2.2.2.2) 10 q.2.2.2.2.2.2.1) 11 q.2.2.2.2.2.2.2.1)) q.1) args s 0 0 AA) (F0 m 105 ls []) := by
    intro wA_14 wA_15 wA_16 wA_17 wA_18 wZ_10 wZ_11 wZ_7 wZ_9 hF H locs X ls hl
    unfold f_X8_unseen_l105 at hF
    refine lv_aload_n hx hb dX8_unseen_105 rfl (lv_at hl 0 rfl) ?_
    refine lv_iload_n hx hb dX8_unseen_106 rfl (lv_at hl 1 rfl) ?_
    obtain ⟨t2, ht2, hF⟩ := hm_bd hF
    refine hm_vi (As := [.int x0]) S X mw_X8_found hw_5_146 (c_X8_found l g a (hm_up (hm_up (hm_up (hm_up (hm_up A 14 wA_14) 15 wA_15) 16 wA_16) 17 wA_17) 18 wA_18) (hm_up (hm_up (hm_up (hm_up Z 7 wZ_7) 9 wZ_9) 10 wZ_10) 11 wZ_11) x0 t2 ht2) hm_same hm_same rfl rfl rfl ⟨rfl, rfl, Nat.le_of_ble_eq_true rfl, Nat.le_of_ble_eq_true rfl⟩ rfl hl.1 rfl (Nat.le_of_ble_eq_true rfl) dX8_unseen_107 ⟨Nat.zero_le _, Nat.zero_le _⟩ (fun H locs X => ?_)
    obtain rfl := Option.some.inj hF
    exact hm_ri S hr hlk X rfl rfl dX8_unseen_110
  have hl19 : ∀ (k19 : Nat) (v2 : Int32) (wA_14 : Nat → Int32) (wA_15 : Nat → Int32) (wA_16 : Nat → Int32) (wA_17 : Nat → Int32) (wA_18 : Nat → Int32) (wZ_10 : Int32) (wZ_11 : Int32) (wZ_7 : Int32) (wZ_9 : Int32), f_X8_unseen_l19 (A 1) (A 2) (A 4) (A 5) (A 6) (A 7) (A 12) (A 13) (Z 1) (Z 3) (Z 6) x0 k19 v2 wA_14 wA_15 wA_16 wA_17 wA_18 wZ_10 wZ_11 wZ_7 wZ_9 = some q → ∀ (H : Heap) (locs : List Loc), hm_X g AA s H locs (hm_wMM g a (hm_up (hm_up (hm_up (hm_up (hm_up A 14 wA_14) 15 wA_15) 16 wA_16) 17 wA_17) 18 wA_18) (hm_up (hm_up (hm_up (hm_up Z 7 wZ_7) 9 wZ_9) 10 wZ_10) 11 wZ_11)) → ∀ ls : Array Slot, lv_has ls 5 [(0, .ref (a 0)), (1, .int x0), (2, .int v2)] → W p l e rm_X8_unseen s m args below meth c H locs 0 0 (MQ below (hm_Qi g AA (hm_wMM g a (hm_up (hm_up (hm_up (hm_up (hm_up A 14 q.2.1) 15 q.2.2.1) 16 q.2.2.2.1) 17 q.2.2.2.2.1) 18 q.2.2.2.2.2.1) (hm_up (hm_up (hm_up (hm_up Z 7 q.2.2.2.2.2.2.2.2.1) 9 q.2.2.2.2.2.2.2.2.2) 10 q.2.2.2.2.2.2.1) 11 q.2.2.2.2.2.2.2.1)) q.1) args s 0 0 AA) (F0 m 19 ls []) := by
    intro k19
    induction k19 with
    | zero =>
      intro v2 wA_14 wA_15 wA_16 wA_17 wA_18 wZ_10 wZ_11 wZ_7 wZ_9 hF
      rw [f_X8_unseen_l19_z] at hF
      cases hF
    | succ k19 ih19 =>
      have hl99 : ∀ (v2 : Int32) (wA_14 : Nat → Int32) (wA_15 : Nat → Int32) (wA_16 : Nat → Int32) (wA_17 : Nat → Int32) (wA_18 : Nat → Int32) (wZ_10 : Int32) (wZ_11 : Int32) (wZ_7 : Int32) (wZ_9 : Int32), f_X8_unseen_l99 (fun zv2 zwA_14 zwA_15 zwA_16 zwA_17 zwA_18 zwZ_10 zwZ_11 zwZ_7 zwZ_9 => f_X8_unseen_l19 (A 1) (A 2) (A 4) (A 5) (A 6) (A 7) (A 12) (A 13) (Z 1) (Z 3) (Z 6) x0 k19 zv2 zwA_14 zwA_15 zwA_16 zwA_17 zwA_18 zwZ_10 zwZ_11 zwZ_7 zwZ_9) v2 wA_14 wA_15 wA_16 wA_17 wA_18 wZ_10 wZ_11 wZ_7 wZ_9 = some q → ∀ (H : Heap) (locs : List Loc), hm_X g AA s H locs (hm_wMM g a (hm_up (hm_up (hm_up (hm_up (hm_up A 14 wA_14) 15 wA_15) 16 wA_16) 17 wA_17) 18 wA_18) (hm_up (hm_up (hm_up (hm_up Z 7 wZ_7) 9 wZ_9) 10 wZ_10) 11 wZ_11)) → ∀ ls : Array Slot, lv_has ls 5 [(0, .ref (a 0)), (1, .int x0), (2, .int v2)] → W p l e rm_X8_unseen s m args below meth c H locs 0 0 (MQ below (hm_Qi g AA (hm_wMM g a (hm_up (hm_up (hm_up (hm_up (hm_up A 14 q.2.1) 15 q.2.2.1) 16 q.2.2.2.1) 17 q.2.2.2.2.1) 18 q.2.2.2.2.2.1) (hm_up (hm_up (hm_up (hm_up Z 7 q.2.2.2.2.2.2.2.2.1) 9 q.2.2.2.2.2.2.2.2.2) 10 q.2.2.2.2.2.2.1) 11 q.2.2.2.2.2.2.2.1)) q.1) args s 0 0 AA) (F0 m 99 ls []) := by
        intro v2 wA_14 wA_15 wA_16 wA_17 wA_18 wZ_10 wZ_11 wZ_7 wZ_9 hF H locs X ls hl
        unfold f_X8_unseen_l99 at hF
        refine lv_iinc (v := (v2 + 1)) (lv' := [(2, .int (v2 + 1)), (0, .ref (a 0)), (1, .int x0)]) hx hb dX8_unseen_99 hl (k := 2) rfl rfl (by decide) rfl (fun ls hl => ?_)
        refine lv_goto (tgt := 19) hx hb dX8_unseen_102 (by decide) ?_
        exact ih19 (v2 + 1) wA_14 wA_15 wA_16 wA_17 wA_18 wZ_10 wZ_11 wZ_7 wZ_9 hF _ _ X _ (lv_sub hl [1, 2, 0] rfl)
      have hl90 : ∀ (v2 : Int32) (v3 : Int32) (wA_14 : Nat → Int32) (wA_15 : Nat → Int32) (wA_16 : Nat → Int32) (wA_17 : Nat → Int32) (wA_18 : Nat → Int32) (wZ_10 : Int32) (wZ_11 : Int32) (wZ_7 : Int32) (wZ_9 : Int32), f_X8_unseen_l90 (fun zv2 zwA_14 zwA_15 zwA_16 zwA_17 zwA_18 zwZ_10 zwZ_11 zwZ_7 zwZ_9 => f_X8_unseen_l19 (A 1) (A 2) (A 4) (A 5) (A 6) (A 7) (A 12) (A 13) (Z 1) (Z 3) (Z 6) x0 k19 zv2 zwA_14 zwA_15 zwA_16 zwA_17 zwA_18 zwZ_10 zwZ_11 zwZ_7 zwZ_9) v2 v3 wA_14 wA_15 wA_16 wA_17 wA_18 wZ_10 wZ_11 wZ_7 wZ_9 = some q → ∀ (H : Heap) (locs : List Loc), hm_X g AA s H locs (hm_wMM g a (hm_up (hm_up (hm_up (hm_up (hm_up A 14 wA_14) 15 wA_15) 16 wA_16) 17 wA_17) 18 wA_18) (hm_up (hm_up (hm_up (hm_up Z 7 wZ_7) 9 wZ_9) 10 wZ_10) 11 wZ_11)) → ∀ ls : Array Slot, lv_has ls 5 [(0, .ref (a 0)), (1, .int x0), (2, .int v2), (3, .int v3)] → W p l e rm_X8_unseen s m args below meth c H locs 0 0 (MQ below (hm_Qi g AA (hm_wMM g a (hm_up (hm_up (hm_up (hm_up (hm_up A 14 q.2.1) 15 q.2.2.1) 16 q.2.2.2.1) 17 q.2.2.2.2.1) 18 q.2.2.2.2.2.1) (hm_up (hm_up (hm_up (hm_up Z 7 q.2.2.2.2.2.2.2.2.1) 9 q.2.2.2.2.2.2.2.2.2) 10 q.2.2.2.2.2.2.1) 11 q.2.2.2.2.2.2.2.1)) q.1) args s 0 0 AA) (F0 m 90 ls []) := by
        intro v2 v3 wA_14 wA_15 wA_16 wA_17 wA_18 wZ_10 wZ_11 wZ_7 wZ_9 hF H locs X ls hl
        unfold f_X8_unseen_l90 at hF
        refine lv_iload_n hx hb dX8_unseen_90 rfl (lv_at hl 3 rfl) ?_
        refine lv_if_eq (tgt := 99) hx hb dX8_unseen_91 (by decide) (fun c91 => ?_) (fun c91 => ?_)
        · have hF := hm_if hF c91
          exact hl99 v2 wA_14 wA_15 wA_16 wA_17 wA_18 wZ_10 wZ_11 wZ_7 wZ_9 hF _ _ X _ (lv_sub hl [0, 1, 2] rfl)
        · have hF := hm_nf hF c91
          refine lv_aload_n hx hb dX8_unseen_94 rfl (lv_at hl 0 rfl) ?_
          refine lv_iload_n hx hb dX8_unseen_95 rfl (lv_at hl 2 rfl) ?_
          obtain ⟨t4, ht4, hF⟩ := hm_bd hF
          refine hm_vv (As := [.int v2]) S X mw_X8_finds hw_5_142 (c_X8_finds l g a (hm_up (hm_up (hm_up (hm_up (hm_up A 14 wA_14) 15 wA_15) 16 wA_16) 17 wA_17) 18 wA_18) (hm_up (hm_up (hm_up (hm_up Z 7 wZ_7) 9 wZ_9) 10 wZ_10) 11 wZ_11) v2 t4 ht4) hm_same hm_same rfl rfl rfl ⟨rfl, rfl, Nat.le_of_ble_eq_true rfl, Nat.le_of_ble_eq_true rfl⟩ rfl hl.1 rfl (Nat.le_of_ble_eq_true rfl) dX8_unseen_96 ⟨Nat.zero_le _, Nat.zero_le _⟩ (fun H locs X => ?_)
          exact hl99 v2 wA_14 wA_15 wA_16 wA_17 wA_18 t4.1 t4.2.1 wZ_7 t4.2.2 hF _ _ X _ (lv_sub hl [0, 1, 2] rfl)
      have hl35 : ∀ (k35 : Nat) (v2 : Int32) (v3 : Int32) (v4 : Int32) (wA_14 : Nat → Int32) (wA_15 : Nat → Int32) (wA_16 : Nat → Int32) (wA_17 : Nat → Int32) (wA_18 : Nat → Int32) (wZ_10 : Int32) (wZ_11 : Int32) (wZ_7 : Int32) (wZ_9 : Int32), f_X8_unseen_l35 (fun zv2 zwA_14 zwA_15 zwA_16 zwA_17 zwA_18 zwZ_10 zwZ_11 zwZ_7 zwZ_9 => f_X8_unseen_l19 (A 1) (A 2) (A 4) (A 5) (A 6) (A 7) (A 12) (A 13) (Z 1) (Z 3) (Z 6) x0 k19 zv2 zwA_14 zwA_15 zwA_16 zwA_17 zwA_18 zwZ_10 zwZ_11 zwZ_7 zwZ_9) (A 2) (A 4) (A 5) (A 6) (A 12) (A 13) (Z 6) k35 v2 v3 v4 wA_14 wA_15 wA_16 wA_17 wA_18 wZ_10 wZ_11 wZ_7 wZ_9 = some q → ∀ (H : Heap) (locs : List Loc), hm_X g AA s H locs (hm_wMM g a (hm_up (hm_up (hm_up (hm_up (hm_up A 14 wA_14) 15 wA_15) 16 wA_16) 17 wA_17) 18 wA_18) (hm_up (hm_up (hm_up (hm_up Z 7 wZ_7) 9 wZ_9) 10 wZ_10) 11 wZ_11)) → ∀ ls : Array Slot, lv_has ls 5 [(0, .ref (a 0)), (1, .int x0), (2, .int v2), (3, .int v3), (4, .int v4)] → W p l e rm_X8_unseen s m args below meth c H locs 0 0 (MQ below (hm_Qi g AA (hm_wMM g a (hm_up (hm_up (hm_up (hm_up (hm_up A 14 q.2.1) 15 q.2.2.1) 16 q.2.2.2.1) 17 q.2.2.2.2.1) 18 q.2.2.2.2.2.1) (hm_up (hm_up (hm_up (hm_up Z 7 q.2.2.2.2.2.2.2.2.1) 9 q.2.2.2.2.2.2.2.2.2) 10 q.2.2.2.2.2.2.1) 11 q.2.2.2.2.2.2.2.1)) q.1) args s 0 0 AA) (F0 m 35 ls []) := by
        intro k35
        induction k35 with
        | zero =>
          intro v2 v3 v4 wA_14 wA_15 wA_16 wA_17 wA_18 wZ_10 wZ_11 wZ_7 wZ_9 hF
          rw [f_X8_unseen_l35_z] at hF
          cases hF
        | succ k35 ih35 =>
          have hl83 : ∀ (s83_0 : Int32) (v2 : Int32) (v4 : Int32) (wA_14 : Nat → Int32) (wA_15 : Nat → Int32) (wA_16 : Nat → Int32) (wA_17 : Nat → Int32) (wA_18 : Nat → Int32) (wZ_10 : Int32) (wZ_11 : Int32) (wZ_7 : Int32) (wZ_9 : Int32), f_X8_unseen_l83 (fun zv2 zwA_14 zwA_15 zwA_16 zwA_17 zwA_18 zwZ_10 zwZ_11 zwZ_7 zwZ_9 => f_X8_unseen_l19 (A 1) (A 2) (A 4) (A 5) (A 6) (A 7) (A 12) (A 13) (Z 1) (Z 3) (Z 6) x0 k19 zv2 zwA_14 zwA_15 zwA_16 zwA_17 zwA_18 zwZ_10 zwZ_11 zwZ_7 zwZ_9) (fun zv2 zv3 zv4 zwA_14 zwA_15 zwA_16 zwA_17 zwA_18 zwZ_10 zwZ_11 zwZ_7 zwZ_9 => f_X8_unseen_l35 (fun zv2 zwA_14 zwA_15 zwA_16 zwA_17 zwA_18 zwZ_10 zwZ_11 zwZ_7 zwZ_9 => f_X8_unseen_l19 (A 1) (A 2) (A 4) (A 5) (A 6) (A 7) (A 12) (A 13) (Z 1) (Z 3) (Z 6) x0 k19 zv2 zwA_14 zwA_15 zwA_16 zwA_17 zwA_18 zwZ_10 zwZ_11 zwZ_7 zwZ_9) (A 2) (A 4) (A 5) (A 6) (A 12) (A 13) (Z 6) k35 zv2 zv3 zv4 zwA_14 zwA_15 zwA_16 zwA_17 zwA_18 zwZ_10 zwZ_11 zwZ_7 zwZ_9) s83_0 v2 v4 wA_14 wA_15 wA_16 wA_17 wA_18 wZ_10 wZ_11 wZ_7 wZ_9 = some q → ∀ (H : Heap) (locs : List Loc), hm_X g AA s H locs (hm_wMM g a (hm_up (hm_up (hm_up (hm_up (hm_up A 14 wA_14) 15 wA_15) 16 wA_16) 17 wA_17) 18 wA_18) (hm_up (hm_up (hm_up (hm_up Z 7 wZ_7) 9 wZ_9) 10 wZ_10) 11 wZ_11)) → ∀ ls : Array Slot, lv_has ls 5 [(0, .ref (a 0)), (1, .int x0), (2, .int v2), (4, .int v4)] → W p l e rm_X8_unseen s m args below meth c H locs 0 0 (MQ below (hm_Qi g AA (hm_wMM g a (hm_up (hm_up (hm_up (hm_up (hm_up A 14 q.2.1) 15 q.2.2.1) 16 q.2.2.2.1) 17 q.2.2.2.2.1) 18 q.2.2.2.2.2.1) (hm_up (hm_up (hm_up (hm_up Z 7 q.2.2.2.2.2.2.2.2.1) 9 q.2.2.2.2.2.2.2.2.2) 10 q.2.2.2.2.2.2.1) 11 q.2.2.2.2.2.2.2.1)) q.1) args s 0 0 AA) (F0 m 83 ls [.int s83_0]) := by
            intro s83_0 v2 v4 wA_14 wA_15 wA_16 wA_17 wA_18 wZ_10 wZ_11 wZ_7 wZ_9 hF H locs X ls hl
            unfold f_X8_unseen_l83 at hF
            refine lv_istore_n (lv' := [(3, .int s83_0), (0, .ref (a 0)), (1, .int x0), (2, .int v2), (4, .int v4)]) hx hb dX8_unseen_83 rfl hl (by decide) rfl (fun ls hl => ?_)
            refine lv_iinc (v := (v4 + 1)) (lv' := [(4, .int (v4 + 1)), (3, .int s83_0), (0, .ref (a 0)), (1, .int x0), (2, .int v2)]) hx hb dX8_unseen_84 hl (k := 4) rfl rfl (by decide) rfl (fun ls hl => ?_)
            refine lv_goto (tgt := 35) hx hb dX8_unseen_87 (by decide) ?_
            exact ih35 v2 s83_0 (v4 + 1) wA_14 wA_15 wA_16 wA_17 wA_18 wZ_10 wZ_11 wZ_7 wZ_9 hF _ _ X _ (lv_sub hl [2, 3, 4, 1, 0] rfl)
          have hl75 : ∀ (s75_0 : Int32) (s75_1 : Int32) (v2 : Int32) (v4 : Int32) (wA_14 : Nat → Int32) (wA_15 : Nat → Int32) (wA_16 : Nat → Int32) (wA_17 : Nat → Int32) (wA_18 : Nat → Int32) (wZ_10 : Int32) (wZ_11 : Int32) (wZ_7 : Int32) (wZ_9 : Int32), f_X8_unseen_l75 (fun zv2 zwA_14 zwA_15 zwA_16 zwA_17 zwA_18 zwZ_10 zwZ_11 zwZ_7 zwZ_9 => f_X8_unseen_l19 (A 1) (A 2) (A 4) (A 5) (A 6) (A 7) (A 12) (A 13) (Z 1) (Z 3) (Z 6) x0 k19 zv2 zwA_14 zwA_15 zwA_16 zwA_17 zwA_18 zwZ_10 zwZ_11 zwZ_7 zwZ_9) (fun zv2 zv3 zv4 zwA_14 zwA_15 zwA_16 zwA_17 zwA_18 zwZ_10 zwZ_11 zwZ_7 zwZ_9 => f_X8_unseen_l35 (fun zv2 zwA_14 zwA_15 zwA_16 zwA_17 zwA_18 zwZ_10 zwZ_11 zwZ_7 zwZ_9 => f_X8_unseen_l19 (A 1) (A 2) (A 4) (A 5) (A 6) (A 7) (A 12) (A 13) (Z 1) (Z 3) (Z 6) x0 k19 zv2 zwA_14 zwA_15 zwA_16 zwA_17 zwA_18 zwZ_10 zwZ_11 zwZ_7 zwZ_9) (A 2) (A 4) (A 5) (A 6) (A 12) (A 13) (Z 6) k35 zv2 zv3 zv4 zwA_14 zwA_15 zwA_16 zwA_17 zwA_18 zwZ_10 zwZ_11 zwZ_7 zwZ_9) s75_0 s75_1 v2 v4 wA_14 wA_15 wA_16 wA_17 wA_18 wZ_10 wZ_11 wZ_7 wZ_9 = some q → ∀ (H : Heap) (locs : List Loc), hm_X g AA s H locs (hm_wMM g a (hm_up (hm_up (hm_up (hm_up (hm_up A 14 wA_14) 15 wA_15) 16 wA_16) 17 wA_17) 18 wA_18) (hm_up (hm_up (hm_up (hm_up Z 7 wZ_7) 9 wZ_9) 10 wZ_10) 11 wZ_11)) → ∀ ls : Array Slot, lv_has ls 5 [(0, .ref (a 0)), (1, .int x0), (2, .int v2), (4, .int v4)] → W p l e rm_X8_unseen s m args below meth c H locs 0 0 (MQ below (hm_Qi g AA (hm_wMM g a (hm_up (hm_up (hm_up (hm_up (hm_up A 14 q.2.1) 15 q.2.2.1) 16 q.2.2.2.1) 17 q.2.2.2.2.1) 18 q.2.2.2.2.2.1) (hm_up (hm_up (hm_up (hm_up Z 7 q.2.2.2.2.2.2.2.2.1) 9 q.2.2.2.2.2.2.2.2.2) 10 q.2.2.2.2.2.2.1) 11 q.2.2.2.2.2.2.2.1)) q.1) args s 0 0 AA) (F0 m 75 ls [.int s75_0, .int s75_1]) := by
            intro s75_0 s75_1 v2 v4 wA_14 wA_15 wA_16 wA_17 wA_18 wZ_10 wZ_11 wZ_7 wZ_9 hF H locs X ls hl
            unfold f_X8_unseen_l75 at hF
            refine lv_icmp_ne (tgt := 82) hx hb dX8_unseen_75 (by decide) (fun c75 => ?_) (fun c75 => ?_)
            · have hF := hm_nf hF c75
              refine lv_iconst (v := 0) hx hb dX8_unseen_82 (by decide) ?_
              exact hl83 0 v2 v4 wA_14 wA_15 wA_16 wA_17 wA_18 wZ_10 wZ_11 wZ_7 wZ_9 hF _ _ X _ (lv_sub hl [0, 1, 2, 3] rfl)
            · have hF := hm_if hF c75
              refine lv_iconst (v := 1) hx hb dX8_unseen_78 (by decide) ?_
              refine lv_goto (tgt := 83) hx hb dX8_unseen_79 (by decide) ?_
              exact hl83 1 v2 v4 wA_14 wA_15 wA_16 wA_17 wA_18 wZ_10 wZ_11 wZ_7 wZ_9 hF _ _ X _ (lv_sub hl [0, 1, 2, 3] rfl)
          intro v2 v3 v4 wA_14 wA_15 wA_16 wA_17 wA_18 wZ_10 wZ_11 wZ_7 wZ_9 hF H locs X ls hl
          rw [f_X8_unseen_l35_s] at hF
          refine lv_iload hx hb dX8_unseen_35 (lv_at hl 4 rfl) ?_
          refine lv_aload_n hx hb dX8_unseen_37 rfl (lv_at hl 0 rfl) ?_
          refine hm_get S X hf_X8_96 0 rfl rfl dX8_unseen_38 ?_
          refine lv_icmp_ge (tgt := 90) hx hb dX8_unseen_41 (by decide) (fun c41 => ?_) (fun c41 => ?_)
          · have hF := hm_if hF c41
            exact hl90 v2 v3 wA_14 wA_15 wA_16 wA_17 wA_18 wZ_10 wZ_11 wZ_7 wZ_9 hF _ _ X _ (lv_sub hl [0, 1, 2, 3] rfl)
          · have hF := hm_nf hF c41
            refine lv_iload_n hx hb dX8_unseen_44 rfl (lv_at hl 3 rfl) ?_
            refine lv_if_eq (tgt := 90) hx hb dX8_unseen_45 (by decide) (fun c45 => ?_) (fun c45 => ?_)
            · have hF := hm_if hF c45
              exact hl90 v2 v3 wA_14 wA_15 wA_16 wA_17 wA_18 wZ_10 wZ_11 wZ_7 wZ_9 hF _ _ X _ (lv_sub hl [0, 1, 2, 3] rfl)
            · have hF := hm_nf hF c45
              refine lv_aload_n hx hb dX8_unseen_48 rfl (lv_at hl 0 rfl) ?_
              refine lv_aload_n hx hb dX8_unseen_49 rfl (lv_at hl 0 rfl) ?_
              refine hm_get S X hf_X8_47 0 rfl rfl dX8_unseen_50 ?_
              refine lv_iload hx hb dX8_unseen_53 (lv_at hl 4 rfl) ?_
              obtain ⟨t5, ht5, hF⟩ := hm_bd hF
              refine hm_iald S X ht5 13 rfl dX8_unseen_55 ?_
              obtain ⟨t6, ht6, hF⟩ := hm_bd hF
              refine hm_vi (As := [.int t5]) S X mw_X8_isBegun hw_5_162 (c_X8_isBegun l g a (hm_up (hm_up (hm_up (hm_up (hm_up A 14 wA_14) 15 wA_15) 16 wA_16) 17 wA_17) 18 wA_18) (hm_up (hm_up (hm_up (hm_up Z 7 wZ_7) 9 wZ_9) 10 wZ_10) 11 wZ_11) t5 t6 ht6) hm_same hm_same rfl rfl rfl ⟨rfl, rfl, Nat.le_of_ble_eq_true rfl, Nat.le_of_ble_eq_true rfl⟩ rfl hl.1 rfl (Nat.le_of_ble_eq_true rfl) dX8_unseen_56 ⟨Nat.zero_le _, Nat.zero_le _⟩ (fun H locs X => ?_)
              refine lv_aload_n hx hb dX8_unseen_59 rfl (lv_at hl 0 rfl) ?_
              refine hm_get S X hf_X8_50 0 rfl rfl dX8_unseen_60 ?_
              refine lv_iload hx hb dX8_unseen_63 (lv_at hl 4 rfl) ?_
              obtain ⟨t7, ht7, hF⟩ := hm_bd hF
              refine hm_iald S X ht7 14 rfl dX8_unseen_65 ?_
              refine lv_iconst (v := 1) hx hb dX8_unseen_66 (by decide) ?_
              refine lv_icmp_ne (tgt := 74) hx hb dX8_unseen_67 (by decide) (fun c67 => ?_) (fun c67 => ?_)
              · have hF := hm_nf hF c67
                refine lv_iconst (v := 0) hx hb dX8_unseen_74 (by decide) ?_
                exact hl75 0 t6 v2 v4 wA_14 wA_15 wA_16 wA_17 wA_18 wZ_10 wZ_11 wZ_7 wZ_9 hF _ _ X _ (lv_sub hl [0, 1, 2, 4] rfl)
              · have hF := hm_if hF c67
                refine lv_iconst (v := 1) hx hb dX8_unseen_70 (by decide) ?_
                refine lv_goto (tgt := 75) hx hb dX8_unseen_71 (by decide) ?_
                exact hl75 1 t6 v2 v4 wA_14 wA_15 wA_16 wA_17 wA_18 wZ_10 wZ_11 wZ_7 wZ_9 hF _ _ X _ (lv_sub hl [0, 1, 2, 4] rfl)
      intro v2 wA_14 wA_15 wA_16 wA_17 wA_18 wZ_10 wZ_11 wZ_7 wZ_9 hF H locs X ls hl
      rw [f_X8_unseen_l19_s] at hF
      refine lv_iload_n hx hb dX8_unseen_19 rfl (lv_at hl 2 rfl) ?_
      refine lv_sipush (v := 200) hx hb dX8_unseen_20 (by decide) ?_
      refine lv_icmp_gt (tgt := 105) hx hb dX8_unseen_23 (by decide) (fun c23 => ?_) (fun c23 => ?_)
      · have hF := hm_if hF c23
        exact hl105 wA_14 wA_15 wA_16 wA_17 wA_18 wZ_10 wZ_11 wZ_7 wZ_9 hF _ _ X _ (lv_sub hl [0, 1] rfl)
      · have hF := hm_nf hF c23
        refine lv_aload_n hx hb dX8_unseen_26 rfl (lv_at hl 0 rfl) ?_
        refine lv_iload_n hx hb dX8_unseen_27 rfl (lv_at hl 2 rfl) ?_
        obtain ⟨t3, ht3, hF⟩ := hm_bd hF
        refine hm_vi (As := [.int v2]) S X mw_X8_laysPage hw_5_41 (c_X8_laysPage l g a (hm_up (hm_up (hm_up (hm_up (hm_up A 14 wA_14) 15 wA_15) 16 wA_16) 17 wA_17) 18 wA_18) (hm_up (hm_up (hm_up (hm_up Z 7 wZ_7) 9 wZ_9) 10 wZ_10) 11 wZ_11) v2 t3 ht3) hm_same hm_same rfl rfl rfl ⟨rfl, rfl, Nat.le_of_ble_eq_true rfl, Nat.le_of_ble_eq_true rfl⟩ rfl hl.1 rfl (Nat.le_of_ble_eq_true rfl) dX8_unseen_28 ⟨Nat.zero_le _, Nat.zero_le _⟩ (fun H locs X => ?_)
        refine lv_istore_n (lv' := [(3, .int t3.1), (0, .ref (a 0)), (1, .int x0), (2, .int v2)]) hx hb dX8_unseen_31 rfl hl (by decide) rfl (fun ls hl => ?_)
        refine lv_iconst (v := 0) hx hb dX8_unseen_32 (by decide) ?_
        refine lv_istore (lv' := [(4, .int 0), (3, .int t3.1), (0, .ref (a 0)), (1, .int x0), (2, .int v2)]) hx hb dX8_unseen_33 hl (by decide) rfl (fun ls hl => ?_)
        exact hl35 hm_fu v2 t3.1 0 t3.2.1 t3.2.2.1 t3.2.2.2.1 t3.2.2.2.2.1 t3.2.2.2.2.2.1 wZ_10 wZ_11 t3.2.2.2.2.2.2 wZ_9 hF _ _ X _ (lv_sub hl [2, 3, 4, 1, 0] rfl)
  unfold f_X8_unseen at hF
  refine lv_iload_n hx hb dX8_unseen_0 rfl (lv_at hl 1 rfl) ?_
  refine lv_iconst (v := 0) hx hb dX8_unseen_1 (by decide) ?_
  refine lv_iconst (v := 2) hx hb dX8_unseen_2 (by decide) ?_
  obtain ⟨t1, ht1, hF⟩ := hm_bd hF
  refine hm_si S X mw_X8_in hw_4_193 (c_X8_in l g x0 0 2 t1 ht1) (List.Perm.refl _) (List.Perm.refl _) ⟨rfl, rfl, Nat.le_of_ble_eq_true rfl, Nat.le_of_ble_eq_true rfl⟩ rfl hl.1 rfl (Nat.le_of_ble_eq_true rfl) dX8_unseen_3 ⟨Nat.zero_le _, Nat.zero_le _⟩ (fun H locs X => ?_)
  refine lv_if_ne (tgt := 11) hx hb dX8_unseen_6 (by decide) (fun c6 => ?_) (fun c6 => ?_)
  · have hF := hm_nf hF c6
    refine lv_aload_n hx hb dX8_unseen_11 rfl (lv_at hl 0 rfl) ?_
    refine lv_iconst (v := 0) hx hb dX8_unseen_12 (by decide) ?_
    refine hm_put S X hf_X8_220 hg_X8_goodMany 0 rfl rfl rfl (Nat.le_of_ble_eq_true rfl) dX8_unseen_13 (fun H locs X => ?_)
    have X := X.to (ws' := (hm_wMM g a A (hm_up Z 9 0))) rfl
    refine lv_bipush (v := 10) hx hb dX8_unseen_16 (by decide) ?_
    refine lv_istore_n (lv' := [(2, .int 10), (0, .ref (a 0)), (1, .int x0)]) hx hb dX8_unseen_18 rfl hl (by decide) rfl (fun ls hl => ?_)
    exact hl19 hm_fu 10 (A 14) (A 15) (A 16) (A 17) (A 18) (Z 10) (Z 11) (Z 7) 0 hF _ _ (X.to (ws' := (hm_wMM g a (hm_up (hm_up (hm_up (hm_up (hm_up A 14 (A 14)) 15 (A 15)) 16 (A 16)) 17 (A 17)) 18 (A 18)) (hm_up (hm_up (hm_up (hm_up Z 7 (Z 7)) 9 0) 10 (Z 10)) 11 (Z 11)))) rfl) _ (lv_sub hl [1, 2, 0] rfl)
  · have hF := hm_if hF c6
    refine lv_iconst (v := (-1)) hx hb dX8_unseen_9 (by decide) ?_
    obtain rfl := Option.some.inj hF
    exact hm_ri S hr hlk X rfl rfl dX8_unseen_10
def f_X8_keep_l42 (A_7 : Nat → Int32) (A_9 : Nat → Int32) (x0 : Int32) (wA_10 : Nat → Int32) : Option (Int32 × (Nat → Int32) × (Nat → Int32)) :=
  (hm_wz 2 A_9 x0 1).bind fun f2 =>
  (hm_rd 38 A_7 35).bind fun t3 =>
  some (t3, wA_10, f2)
def f_X8_keep_l13 (A_7 : Nat → Int32) (A_9 : Nat → Int32) (x0 : Int32) : Nat → Int32 → (Nat → Int32) → Option (Int32 × (Nat → Int32) × (Nat → Int32))
  | 0, _, _ => none
  | k + 1, v2, wA_10 =>
  if (38 : Int32) ≤ v2 then (
  f_X8_keep_l42 A_7 A_9 x0 wA_10)
  else (
  (hm_rd 38 A_7 v2).bind fun t4 =>
  (hm_wr 76 wA_10 ((38 * x0) + v2) t4).bind fun f5 =>
  f_X8_keep_l13 A_7 A_9 x0 k (v2 + 1) f5)
theorem f_X8_keep_l13_s (A_7 : Nat → Int32) (A_9 : Nat → Int32) (x0 : Int32) (k : Nat) (v2 : Int32) (wA_10 : Nat → Int32) : f_X8_keep_l13 A_7 A_9 x0 (k + 1) v2 wA_10 =
  if (38 : Int32) ≤ v2 then (
  f_X8_keep_l42 A_7 A_9 x0 wA_10)
  else (
  (hm_rd 38 A_7 v2).bind fun t4 =>
  (hm_wr 76 wA_10 ((38 * x0) + v2) t4).bind fun f5 =>
  f_X8_keep_l13 A_7 A_9 x0 k (v2 + 1) f5) := rfl
theorem f_X8_keep_l13_z (A_7 : Nat → Int32) (A_9 : Nat → Int32) (x0 : Int32) (v2 : Int32) (wA_10 : Nat → Int32) : f_X8_keep_l13 A_7 A_9 x0 0 v2 wA_10 = none := rfl
def f_X8_keep (A_7 : Nat → Int32) (A_9 : Nat → Int32) (A_10 : Nat → Int32) (x0 : Int32)  : Option (Int32 × (Nat → Int32) × (Nat → Int32)) :=
  (f_X8_in x0 0 1).bind fun t1 =>
  if t1 = 0 then (
  some ((-1), A_10, A_9))
  else (
  f_X8_keep_l13 A_7 A_9 x0 hm_fu 0 A_10)
abbrev rm_X8_keep : Room := { frames := 1, cells := 0, slots := 0, locals := 22 }
set_option maxHeartbeats 4000000 in
set_option maxRecDepth 100000 in
theorem c_X8_keep (l : Launch) (g : hm_G) (a : Nat → Nat) (A : Nat → Nat → Int32) (Z : Nat → Int32) (x0 : Int32) (q : Int32 × (Nat → Int32) × (Nat → Int32)) (hF : f_X8_keep (A 7) (A 9) (A 10) x0 = some q) : hm_Mi l yX8_keep (Cond.code yX8_keep cX8_keep 3 (some .int) :: hm_W) rm_X8_keep g [.ref (a 0), .int x0] (hm_wMM g a A Z) (hm_wMM g a (hm_up (hm_up A 9 q.2.2) 10 q.2.1) Z) q.1 := by
  refine hm_ofi [(0, .ref (a 0)), (1, .int x0)] (by decide) (own := RX8) rfl (Nat.le_of_ble_eq_true rfl) rfl rfl ?_
  intro p e s m args below meth c AA S hr hlk X ls hl
  have hx := S.1
  have hb := S.2.1
  have hown := S.2.2.2.1
  have hts := S.2.2.2.2
  have hl42 : ∀ (wA_10 : Nat → Int32), f_X8_keep_l42 (A 7) (A 9) x0 wA_10 = some q → ∀ (H : Heap) (locs : List Loc), hm_X g AA s H locs (hm_wMM g a (hm_up A 10 wA_10) Z) → ∀ ls : Array Slot, lv_has ls 3 [(0, .ref (a 0)), (1, .int x0)] → W p l e rm_X8_keep s m args below meth c H locs 0 0 (MQ below (hm_Qi g AA (hm_wMM g a (hm_up (hm_up A 9 q.2.2) 10 q.2.1) Z) q.1) args s 0 0 AA) (F0 m 42 ls []) := by
    intro wA_10 hF H locs X ls hl
    unfold f_X8_keep_l42 at hF
    refine lv_aload_n hx hb dX8_keep_42 rfl (lv_at hl 0 rfl) ?_
    refine hm_get S X hf_X8_38 0 rfl rfl dX8_keep_43 ?_
    refine lv_iload_n hx hb dX8_keep_46 rfl (lv_at hl 1 rfl) ?_
    refine lv_iconst (v := 1) hx hb dX8_keep_47 (by decide) ?_
    obtain ⟨f2, hf2, hF⟩ := hm_bd hF
    refine hm_zast S X hf2 10 rfl dX8_keep_48 (fun H locs X => ?_)
    have X := X.to (ws' := (hm_wMM g a (hm_up (hm_up A 9 f2) 10 wA_10) Z)) rfl
    refine lv_aload_n hx hb dX8_keep_49 rfl (lv_at hl 0 rfl) ?_
    refine hm_get S X hf_X8_32 0 rfl rfl dX8_keep_50 ?_
    refine lv_bipush (v := 35) hx hb dX8_keep_53 (by decide) ?_
    obtain ⟨t3, ht3, hF⟩ := hm_bd hF
    refine hm_iald S X ht3 8 rfl dX8_keep_55 ?_
    obtain rfl := Option.some.inj hF
    exact hm_ri S hr hlk X rfl rfl dX8_keep_56
  have hl13 : ∀ (k13 : Nat) (v2 : Int32) (wA_10 : Nat → Int32), f_X8_keep_l13 (A 7) (A 9) x0 k13 v2 wA_10 = some q → ∀ (H : Heap) (locs : List Loc), hm_X g AA s H locs (hm_wMM g a (hm_up A 10 wA_10) Z) → ∀ ls : Array Slot, lv_has ls 3 [(0, .ref (a 0)), (1, .int x0), (2, .int v2)] → W p l e rm_X8_keep s m args below meth c H locs 0 0 (MQ below (hm_Qi g AA (hm_wMM g a (hm_up (hm_up A 9 q.2.2) 10 q.2.1) Z) q.1) args s 0 0 AA) (F0 m 13 ls []) := by
    intro k13
    induction k13 with
    | zero =>
      intro v2 wA_10 hF
      rw [f_X8_keep_l13_z] at hF
      cases hF
    | succ k13 ih13 =>
      intro v2 wA_10 hF H locs X ls hl
      rw [f_X8_keep_l13_s] at hF
      refine lv_iload_n hx hb dX8_keep_13 rfl (lv_at hl 2 rfl) ?_
      refine lv_bipush (v := 38) hx hb dX8_keep_14 (by decide) ?_
      refine lv_icmp_ge (tgt := 42) hx hb dX8_keep_16 (by decide) (fun c16 => ?_) (fun c16 => ?_)
      · have hF := hm_if hF c16
        exact hl42 wA_10 hF _ _ X _ (lv_sub hl [0, 1] rfl)
      · have hF := hm_nf hF c16
        refine lv_aload_n hx hb dX8_keep_19 rfl (lv_at hl 0 rfl) ?_
        refine hm_get S X hf_X8_41 0 rfl rfl dX8_keep_20 ?_
        refine lv_bipush (v := 38) hx hb dX8_keep_23 (by decide) ?_
        refine lv_iload_n hx hb dX8_keep_25 rfl (lv_at hl 1 rfl) ?_
        refine lv_imul hx hb dX8_keep_26 ?_
        refine lv_iload_n hx hb dX8_keep_27 rfl (lv_at hl 2 rfl) ?_
        refine lv_iadd hx hb dX8_keep_28 ?_
        refine lv_aload_n hx hb dX8_keep_29 rfl (lv_at hl 0 rfl) ?_
        refine hm_get S X hf_X8_32 0 rfl rfl dX8_keep_30 ?_
        refine lv_iload_n hx hb dX8_keep_33 rfl (lv_at hl 2 rfl) ?_
        obtain ⟨t4, ht4, hF⟩ := hm_bd hF
        refine hm_iald S X ht4 8 rfl dX8_keep_34 ?_
        obtain ⟨f5, hf5, hF⟩ := hm_bd hF
        refine hm_iast S X hf5 11 rfl dX8_keep_35 (fun H locs X => ?_)
        have X := X.to (ws' := (hm_wMM g a (hm_up A 10 f5) Z)) rfl
        refine lv_iinc (v := (v2 + 1)) (lv' := [(2, .int (v2 + 1)), (0, .ref (a 0)), (1, .int x0)]) hx hb dX8_keep_36 hl (k := 2) rfl rfl (by decide) rfl (fun ls hl => ?_)
        refine lv_goto (tgt := 13) hx hb dX8_keep_39 (by decide) ?_
        exact ih13 (v2 + 1) f5 hF _ _ X _ (lv_sub hl [1, 2, 0] rfl)
  unfold f_X8_keep at hF
  refine lv_iload_n hx hb dX8_keep_0 rfl (lv_at hl 1 rfl) ?_
  refine lv_iconst (v := 0) hx hb dX8_keep_1 (by decide) ?_
  refine lv_iconst (v := 1) hx hb dX8_keep_2 (by decide) ?_
  obtain ⟨t1, ht1, hF⟩ := hm_bd hF
  refine hm_si S X mw_X8_in hw_4_193 (c_X8_in l g x0 0 1 t1 ht1) (List.Perm.refl _) (List.Perm.refl _) ⟨rfl, rfl, Nat.le_of_ble_eq_true rfl, Nat.le_of_ble_eq_true rfl⟩ rfl hl.1 rfl (Nat.le_of_ble_eq_true rfl) dX8_keep_3 ⟨Nat.zero_le _, Nat.zero_le _⟩ (fun H locs X => ?_)
  refine lv_if_ne (tgt := 11) hx hb dX8_keep_6 (by decide) (fun c6 => ?_) (fun c6 => ?_)
  · have hF := hm_nf hF c6
    refine lv_iconst (v := 0) hx hb dX8_keep_11 (by decide) ?_
    refine lv_istore_n (lv' := [(2, .int 0), (0, .ref (a 0)), (1, .int x0)]) hx hb dX8_keep_12 rfl hl (by decide) rfl (fun ls hl => ?_)
    exact hl13 hm_fu 0 (A 10) hF _ _ (X.to (ws' := (hm_wMM g a (hm_up A 10 (A 10)) Z)) rfl) _ (lv_sub hl [1, 2, 0] rfl)
  · have hF := hm_if hF c6
    refine lv_iconst (v := (-1)) hx hb dX8_keep_9 (by decide) ?_
    obtain rfl := Option.some.inj hF
    exact hm_ri S hr hlk X rfl rfl dX8_keep_10
def f_X8_back_l54  (wA_7 : Nat → Int32) : Option (Int32 × (Nat → Int32) × Int32) :=
  (hm_rd 38 wA_7 35).bind fun t3 =>
  some (t3, wA_7, 0)
def f_X8_back_l25 (A_10 : Nat → Int32) (x0 : Int32) : Nat → Int32 → (Nat → Int32) → Option (Int32 × (Nat → Int32) × Int32)
  | 0, _, _ => none
  | k + 1, v2, wA_7 =>
  if (38 : Int32) ≤ v2 then (
  f_X8_back_l54 wA_7)
  else (
  (hm_rd 76 A_10 ((38 * x0) + v2)).bind fun t4 =>
  (hm_wr 38 wA_7 v2 t4).bind fun f5 =>
  f_X8_back_l25 A_10 x0 k (v2 + 1) f5)
theorem f_X8_back_l25_s (A_10 : Nat → Int32) (x0 : Int32) (k : Nat) (v2 : Int32) (wA_7 : Nat → Int32) : f_X8_back_l25 A_10 x0 (k + 1) v2 wA_7 =
  if (38 : Int32) ≤ v2 then (
  f_X8_back_l54 wA_7)
  else (
  (hm_rd 76 A_10 ((38 * x0) + v2)).bind fun t4 =>
  (hm_wr 38 wA_7 v2 t4).bind fun f5 =>
  f_X8_back_l25 A_10 x0 k (v2 + 1) f5) := rfl
theorem f_X8_back_l25_z (A_10 : Nat → Int32) (x0 : Int32) (v2 : Int32) (wA_7 : Nat → Int32) : f_X8_back_l25 A_10 x0 0 v2 wA_7 = none := rfl
def f_X8_back (A_7 : Nat → Int32) (A_9 : Nat → Int32) (A_10 : Nat → Int32) (Z_4 : Int32) (x0 : Int32)  : Option (Int32 × (Nat → Int32) × Int32) :=
  (f_X8_in x0 0 1).bind fun t1 =>
  if t1 = 0 then (
  some ((-1), A_7, Z_4))
  else (
  (hm_rd 2 A_9 x0).bind fun t2 =>
  if t2 = 0 then (
  some ((-2), A_7, Z_4))
  else (
  f_X8_back_l25 A_10 x0 hm_fu 0 A_7))
abbrev rm_X8_back : Room := { frames := 1, cells := 0, slots := 0, locals := 22 }
set_option maxHeartbeats 4000000 in
set_option maxRecDepth 100000 in
theorem c_X8_back (l : Launch) (g : hm_G) (a : Nat → Nat) (A : Nat → Nat → Int32) (Z : Nat → Int32) (x0 : Int32) (q : Int32 × (Nat → Int32) × Int32) (hF : f_X8_back (A 7) (A 9) (A 10) (Z 4) x0 = some q) : hm_Mi l yX8_back (Cond.code yX8_back cX8_back 3 (some .int) :: hm_W) rm_X8_back g [.ref (a 0), .int x0] (hm_wMM g a A Z) (hm_wMM g a (hm_up A 7 q.2.1) (hm_up Z 4 q.2.2)) q.1 := by
  refine hm_ofi [(0, .ref (a 0)), (1, .int x0)] (by decide) (own := RX8) rfl (Nat.le_of_ble_eq_true rfl) rfl rfl ?_
  intro p e s m args below meth c AA S hr hlk X ls hl
  have hx := S.1
  have hb := S.2.1
  have hown := S.2.2.2.1
  have hts := S.2.2.2.2
  have hl54 : ∀ (wA_7 : Nat → Int32), f_X8_back_l54 wA_7 = some q → ∀ (H : Heap) (locs : List Loc), hm_X g AA s H locs (hm_wMM g a (hm_up A 7 wA_7) Z) → ∀ ls : Array Slot, lv_has ls 3 [(0, .ref (a 0))] → W p l e rm_X8_back s m args below meth c H locs 0 0 (MQ below (hm_Qi g AA (hm_wMM g a (hm_up A 7 q.2.1) (hm_up Z 4 q.2.2)) q.1) args s 0 0 AA) (F0 m 54 ls []) := by
    intro wA_7 hF H locs X ls hl
    unfold f_X8_back_l54 at hF
    refine lv_aload_n hx hb dX8_back_54 rfl (lv_at hl 0 rfl) ?_
    refine lv_iconst (v := 0) hx hb dX8_back_55 (by decide) ?_
    refine hm_put S X hf_X8_89 hg_X8_undos 0 rfl rfl rfl (Nat.le_of_ble_eq_true rfl) dX8_back_56 (fun H locs X => ?_)
    have X := X.to (ws' := (hm_wMM g a (hm_up A 7 wA_7) (hm_up Z 4 0))) rfl
    refine lv_aload_n hx hb dX8_back_59 rfl (lv_at hl 0 rfl) ?_
    refine hm_get S X hf_X8_32 0 rfl rfl dX8_back_60 ?_
    refine lv_bipush (v := 35) hx hb dX8_back_63 (by decide) ?_
    obtain ⟨t3, ht3, hF⟩ := hm_bd hF
    refine hm_iald S X ht3 8 rfl dX8_back_65 ?_
    obtain rfl := Option.some.inj hF
    exact hm_ri S hr hlk X rfl rfl dX8_back_66
  have hl25 : ∀ (k25 : Nat) (v2 : Int32) (wA_7 : Nat → Int32), f_X8_back_l25 (A 10) x0 k25 v2 wA_7 = some q → ∀ (H : Heap) (locs : List Loc), hm_X g AA s H locs (hm_wMM g a (hm_up A 7 wA_7) Z) → ∀ ls : Array Slot, lv_has ls 3 [(0, .ref (a 0)), (1, .int x0), (2, .int v2)] → W p l e rm_X8_back s m args below meth c H locs 0 0 (MQ below (hm_Qi g AA (hm_wMM g a (hm_up A 7 q.2.1) (hm_up Z 4 q.2.2)) q.1) args s 0 0 AA) (F0 m 25 ls []) := by
    intro k25
    induction k25 with
    | zero =>
      intro v2 wA_7 hF
      rw [f_X8_back_l25_z] at hF
      cases hF
    | succ k25 ih25 =>
      intro v2 wA_7 hF H locs X ls hl
      rw [f_X8_back_l25_s] at hF
      refine lv_iload_n hx hb dX8_back_25 rfl (lv_at hl 2 rfl) ?_
      refine lv_bipush (v := 38) hx hb dX8_back_26 (by decide) ?_
      refine lv_icmp_ge (tgt := 54) hx hb dX8_back_28 (by decide) (fun c28 => ?_) (fun c28 => ?_)
      · have hF := hm_if hF c28
        exact hl54 wA_7 hF _ _ X _ (lv_sub hl [0] rfl)
      · have hF := hm_nf hF c28
        refine lv_aload_n hx hb dX8_back_31 rfl (lv_at hl 0 rfl) ?_
        refine hm_get S X hf_X8_32 0 rfl rfl dX8_back_32 ?_
        refine lv_iload_n hx hb dX8_back_35 rfl (lv_at hl 2 rfl) ?_
        refine lv_aload_n hx hb dX8_back_36 rfl (lv_at hl 0 rfl) ?_
        refine hm_get S X hf_X8_41 0 rfl rfl dX8_back_37 ?_
        refine lv_bipush (v := 38) hx hb dX8_back_40 (by decide) ?_
        refine lv_iload_n hx hb dX8_back_42 rfl (lv_at hl 1 rfl) ?_
        refine lv_imul hx hb dX8_back_43 ?_
        refine lv_iload_n hx hb dX8_back_44 rfl (lv_at hl 2 rfl) ?_
        refine lv_iadd hx hb dX8_back_45 ?_
        obtain ⟨t4, ht4, hF⟩ := hm_bd hF
        refine hm_iald S X ht4 11 rfl dX8_back_46 ?_
        obtain ⟨f5, hf5, hF⟩ := hm_bd hF
        refine hm_iast S X hf5 8 rfl dX8_back_47 (fun H locs X => ?_)
        have X := X.to (ws' := (hm_wMM g a (hm_up A 7 f5) Z)) rfl
        refine lv_iinc (v := (v2 + 1)) (lv' := [(2, .int (v2 + 1)), (0, .ref (a 0)), (1, .int x0)]) hx hb dX8_back_48 hl (k := 2) rfl rfl (by decide) rfl (fun ls hl => ?_)
        refine lv_goto (tgt := 25) hx hb dX8_back_51 (by decide) ?_
        exact ih25 (v2 + 1) f5 hF _ _ X _ (lv_sub hl [1, 2, 0] rfl)
  unfold f_X8_back at hF
  refine lv_iload_n hx hb dX8_back_0 rfl (lv_at hl 1 rfl) ?_
  refine lv_iconst (v := 0) hx hb dX8_back_1 (by decide) ?_
  refine lv_iconst (v := 1) hx hb dX8_back_2 (by decide) ?_
  obtain ⟨t1, ht1, hF⟩ := hm_bd hF
  refine hm_si S X mw_X8_in hw_4_193 (c_X8_in l g x0 0 1 t1 ht1) (List.Perm.refl _) (List.Perm.refl _) ⟨rfl, rfl, Nat.le_of_ble_eq_true rfl, Nat.le_of_ble_eq_true rfl⟩ rfl hl.1 rfl (Nat.le_of_ble_eq_true rfl) dX8_back_3 ⟨Nat.zero_le _, Nat.zero_le _⟩ (fun H locs X => ?_)
  refine lv_if_ne (tgt := 11) hx hb dX8_back_6 (by decide) (fun c6 => ?_) (fun c6 => ?_)
  · have hF := hm_nf hF c6
    refine lv_aload_n hx hb dX8_back_11 rfl (lv_at hl 0 rfl) ?_
    refine hm_get S X hf_X8_38 0 rfl rfl dX8_back_12 ?_
    refine lv_iload_n hx hb dX8_back_15 rfl (lv_at hl 1 rfl) ?_
    obtain ⟨t2, ht2, hF⟩ := hm_bd hF
    refine hm_zald S X ht2 10 rfl dX8_back_16 ?_
    refine lv_if_ne (tgt := 23) hx hb dX8_back_17 (by decide) (fun c17 => ?_) (fun c17 => ?_)
    · have hF := hm_nf hF c17
      refine lv_iconst (v := 0) hx hb dX8_back_23 (by decide) ?_
      refine lv_istore_n (lv' := [(2, .int 0), (0, .ref (a 0)), (1, .int x0)]) hx hb dX8_back_24 rfl hl (by decide) rfl (fun ls hl => ?_)
      exact hl25 hm_fu 0 (A 7) hF _ _ (X.to (ws' := (hm_wMM g a (hm_up A 7 (A 7)) Z)) rfl) _ (lv_sub hl [1, 2, 0] rfl)
    · have hF := hm_if hF c17
      refine lv_bipush (v := (-2)) hx hb dX8_back_20 (by decide) ?_
      obtain rfl := Option.some.inj hF
      exact hm_ri S hr hlk X rfl rfl dX8_back_22
  · have hF := hm_if hF c6
    refine lv_iconst (v := (-1)) hx hb dX8_back_9 (by decide) ?_
    obtain rfl := Option.some.inj hF
    exact hm_ri S hr hlk X rfl rfl dX8_back_10
def f_X8_count_l70 (A_7 : Nat → Int32) (x0 : Int32)  : Option (Int32) :=
  (hm_rd 38 A_7 ((34 + x0) - 2)).bind fun t1 =>
  some (t1)
def f_X8_count (A_1 : Nat → Int32) (A_2 : Nat → Int32) (A_3 : Nat → Int32) (A_7 : Nat → Int32) (Z_0 : Int32) (Z_2 : Int32) (Z_3 : Int32) (Z_4 : Int32) (Z_5 : Int32) (Z_6 : Int32) (x0 : Int32)  : Option (Int32) :=
  if x0 = 0 then (
  some (Z_2))
  else (
  if x0 = 1 then (
  some (Z_3))
  else (
  if x0 = 2 then (
  f_X8_count_l70 A_7 x0)
  else (
  if x0 = 3 then (
  f_X8_count_l70 A_7 x0)
  else (
  if x0 = 4 then (
  f_X8_count_l70 A_7 x0)
  else (
  if x0 = 5 then (
  f_X8_count_l70 A_7 x0)
  else (
  if x0 = 6 then (
  some (Z_5))
  else (
  if x0 = 7 then (
  some (Z_6))
  else (
  if x0 = 8 then (
  some (Z_0))
  else (
  if x0 = 9 then (
  some (Z_4))
  else (
  if x0 = 10 then (
  (f_X8_differents A_1 A_2 A_3 Z_2).bind fun t2 =>
  some (t2))
  else (
  some ((-1)))))))))))))
abbrev rm_X8_count : Room := { frames := 3, cells := 0, slots := 0, locals := 69 }
set_option maxHeartbeats 4000000 in
set_option maxRecDepth 100000 in
theorem c_X8_count (l : Launch) (g : hm_G) (a : Nat → Nat) (A : Nat → Nat → Int32) (Z : Nat → Int32) (x0 : Int32) (q : Int32) (hF : f_X8_count (A 1) (A 2) (A 3) (A 7) (Z 0) (Z 2) (Z 3) (Z 4) (Z 5) (Z 6) x0 = some q) : hm_Mi l yX8_count (Cond.code yX8_count cX8_count 2 (some .int) :: hm_W) rm_X8_count g [.ref (a 0), .int x0] (hm_wMM g a A Z) (hm_wMM g a A Z) q := by
  refine hm_ofi [(0, .ref (a 0)), (1, .int x0)] (by decide) (own := RX8) rfl (Nat.le_of_ble_eq_true rfl) rfl rfl ?_
  intro p e s m args below meth c AA S hr hlk X ls hl
  have hx := S.1
  have hb := S.2.1
  have hown := S.2.2.2.1
  have hts := S.2.2.2.2
  have hl70 : f_X8_count_l70 (A 7) x0 = some q → ∀ (H : Heap) (locs : List Loc), hm_X g AA s H locs (hm_wMM g a A Z) → ∀ ls : Array Slot, lv_has ls 2 [(0, .ref (a 0)), (1, .int x0)] → W p l e rm_X8_count s m args below meth c H locs 0 0 (MQ below (hm_Qi g AA (hm_wMM g a A Z) q) args s 0 0 AA) (F0 m 70 ls []) := by
    intro hF H locs X ls hl
    unfold f_X8_count_l70 at hF
    refine lv_aload_n hx hb dX8_count_70 rfl (lv_at hl 0 rfl) ?_
    refine hm_get S X hf_X8_32 0 rfl rfl dX8_count_71 ?_
    refine lv_bipush (v := 34) hx hb dX8_count_74 (by decide) ?_
    refine lv_iload_n hx hb dX8_count_76 rfl (lv_at hl 1 rfl) ?_
    refine lv_iadd hx hb dX8_count_77 ?_
    refine lv_iconst (v := 2) hx hb dX8_count_78 (by decide) ?_
    refine lv_isub hx hb dX8_count_79 ?_
    obtain ⟨t1, ht1, hF⟩ := hm_bd hF
    refine hm_iald S X ht1 8 rfl dX8_count_80 ?_
    obtain rfl := Option.some.inj hF
    exact hm_ri S hr hlk X rfl rfl dX8_count_81
  unfold f_X8_count at hF
  refine lv_iload_n hx hb dX8_count_0 rfl (lv_at hl 1 rfl) ?_
  by_cases c1_0 : x0 = 0
  · have hF := hm_if hF c1_0
    refine hm_tabIn (off := 59) (tgt := 60) (k := 0) hx hb dX8_count_1 c1_0 (by decide) (by decide) (by decide) rfl (by decide) ?_
    refine lv_aload_n hx hb dX8_count_60 rfl (lv_at hl 0 rfl) ?_
    refine hm_get S X hf_X8_127 0 rfl rfl dX8_count_61 ?_
    obtain rfl := Option.some.inj hF
    exact hm_ri S hr hlk X rfl rfl dX8_count_64
  · have hF := hm_nf hF c1_0
    by_cases c1_1 : x0 = 1
    · have hF := hm_if hF c1_1
      refine hm_tabIn (off := 64) (tgt := 65) (k := 1) hx hb dX8_count_1 c1_1 (by decide) (by decide) (by decide) rfl (by decide) ?_
      refine lv_aload_n hx hb dX8_count_65 rfl (lv_at hl 0 rfl) ?_
      refine hm_get S X hf_X8_117 0 rfl rfl dX8_count_66 ?_
      obtain rfl := Option.some.inj hF
      exact hm_ri S hr hlk X rfl rfl dX8_count_69
    · have hF := hm_nf hF c1_1
      by_cases c1_2 : x0 = 2
      · have hF := hm_if hF c1_2
        refine hm_tabIn (off := 69) (tgt := 70) (k := 2) hx hb dX8_count_1 c1_2 (by decide) (by decide) (by decide) rfl (by decide) ?_
        exact hl70  hF _ _ X _ (lv_sub hl [0, 1] rfl)
      · have hF := hm_nf hF c1_2
        by_cases c1_3 : x0 = 3
        · have hF := hm_if hF c1_3
          refine hm_tabIn (off := 69) (tgt := 70) (k := 3) hx hb dX8_count_1 c1_3 (by decide) (by decide) (by decide) rfl (by decide) ?_
          exact hl70  hF _ _ X _ (lv_sub hl [0, 1] rfl)
        · have hF := hm_nf hF c1_3
          by_cases c1_4 : x0 = 4
          · have hF := hm_if hF c1_4
            refine hm_tabIn (off := 69) (tgt := 70) (k := 4) hx hb dX8_count_1 c1_4 (by decide) (by decide) (by decide) rfl (by decide) ?_
            exact hl70  hF _ _ X _ (lv_sub hl [0, 1] rfl)
          · have hF := hm_nf hF c1_4
            by_cases c1_5 : x0 = 5
            · have hF := hm_if hF c1_5
              refine hm_tabIn (off := 69) (tgt := 70) (k := 5) hx hb dX8_count_1 c1_5 (by decide) (by decide) (by decide) rfl (by decide) ?_
              exact hl70  hF _ _ X _ (lv_sub hl [0, 1] rfl)
            · have hF := hm_nf hF c1_5
              by_cases c1_6 : x0 = 6
              · have hF := hm_if hF c1_6
                refine hm_tabIn (off := 81) (tgt := 82) (k := 6) hx hb dX8_count_1 c1_6 (by decide) (by decide) (by decide) rfl (by decide) ?_
                refine lv_aload_n hx hb dX8_count_82 rfl (lv_at hl 0 rfl) ?_
                refine hm_get S X hf_X8_93 0 rfl rfl dX8_count_83 ?_
                obtain rfl := Option.some.inj hF
                exact hm_ri S hr hlk X rfl rfl dX8_count_86
              · have hF := hm_nf hF c1_6
                by_cases c1_7 : x0 = 7
                · have hF := hm_if hF c1_7
                  refine hm_tabIn (off := 86) (tgt := 87) (k := 7) hx hb dX8_count_1 c1_7 (by decide) (by decide) (by decide) rfl (by decide) ?_
                  refine lv_aload_n hx hb dX8_count_87 rfl (lv_at hl 0 rfl) ?_
                  refine hm_get S X hf_X8_96 0 rfl rfl dX8_count_88 ?_
                  obtain rfl := Option.some.inj hF
                  exact hm_ri S hr hlk X rfl rfl dX8_count_91
                · have hF := hm_nf hF c1_7
                  by_cases c1_8 : x0 = 8
                  · have hF := hm_if hF c1_8
                    refine hm_tabIn (off := 91) (tgt := 92) (k := 8) hx hb dX8_count_1 c1_8 (by decide) (by decide) (by decide) rfl (by decide) ?_
                    refine lv_aload_n hx hb dX8_count_92 rfl (lv_at hl 0 rfl) ?_
                    refine hm_get S X hf_X8_103 0 rfl rfl dX8_count_93 ?_
                    obtain rfl := Option.some.inj hF
                    exact hm_ri S hr hlk X rfl rfl dX8_count_96
                  · have hF := hm_nf hF c1_8
                    by_cases c1_9 : x0 = 9
                    · have hF := hm_if hF c1_9
                      refine hm_tabIn (off := 96) (tgt := 97) (k := 9) hx hb dX8_count_1 c1_9 (by decide) (by decide) (by decide) rfl (by decide) ?_
                      refine lv_aload_n hx hb dX8_count_97 rfl (lv_at hl 0 rfl) ?_
                      refine hm_get S X hf_X8_89 0 rfl rfl dX8_count_98 ?_
                      obtain rfl := Option.some.inj hF
                      exact hm_ri S hr hlk X rfl rfl dX8_count_101
                    · have hF := hm_nf hF c1_9
                      by_cases c1_10 : x0 = 10
                      · have hF := hm_if hF c1_10
                        refine hm_tabIn (off := 101) (tgt := 102) (k := 10) hx hb dX8_count_1 c1_10 (by decide) (by decide) (by decide) rfl (by decide) ?_
                        refine lv_aload_n hx hb dX8_count_102 rfl (lv_at hl 0 rfl) ?_
                        obtain ⟨t2, ht2, hF⟩ := hm_bd hF
                        refine hm_vi (As := []) S X mw_X8_differents hw_5_178 (c_X8_differents l g a A Z t2 ht2) hm_same hm_same rfl rfl rfl ⟨rfl, rfl, Nat.le_of_ble_eq_true rfl, Nat.le_of_ble_eq_true rfl⟩ rfl hl.1 rfl (Nat.le_of_ble_eq_true rfl) dX8_count_103 ⟨Nat.zero_le _, Nat.zero_le _⟩ (fun H locs X => ?_)
                        obtain rfl := Option.some.inj hF
                        exact hm_ri S hr hlk X rfl rfl dX8_count_106
                      · have hF := hm_nf hF c1_10
                        refine lv_tableOut (tgt := 107) hx hb dX8_count_1 (hm_out 0 10 [0, 1, 2, 3, 4, 5, 6, 7, 8, 9, 10] (by decide) (List.forall_mem_cons.mpr ⟨c1_0, List.forall_mem_cons.mpr ⟨c1_1, List.forall_mem_cons.mpr ⟨c1_2, List.forall_mem_cons.mpr ⟨c1_3, List.forall_mem_cons.mpr ⟨c1_4, List.forall_mem_cons.mpr ⟨c1_5, List.forall_mem_cons.mpr ⟨c1_6, List.forall_mem_cons.mpr ⟨c1_7, List.forall_mem_cons.mpr ⟨c1_8, List.forall_mem_cons.mpr ⟨c1_9, List.forall_mem_cons.mpr ⟨c1_10, fun _ h => absurd h List.not_mem_nil⟩⟩⟩⟩⟩⟩⟩⟩⟩⟩⟩)) (by decide) ?_
                        refine lv_iconst (v := (-1)) hx hb dX8_count_107 (by decide) ?_
                        obtain rfl := Option.some.inj hF
                        exact hm_ri S hr hlk X rfl rfl dX8_count_108
