/-! the base: worlds as lists of blocks, one bundle of facts, contracts that fix the answer and the new world, calls by blocks -/
def hm_up {α : Type} (f : Nat → α) (k : Nat) (v : α) : Nat → α := fun j => bif Nat.beq j k then v else f j
abbrev hm_SR : Type := Int32 × (Nat → Int32)
abbrev hm_G : Type := va_G × ClassId × ClassId × ClassId
abbrev hm_ty (g : hm_G) : List (ClassId × FieldType) := [(g.2.1, .int), (g.2.2.1, .long), (g.2.2.2, .boolean)]
def hm_sx0 : Nat → Int32 := fun k => match k with
  | 0 => 1
  | 1 => 10
  | 2 => 0
  | _ => 0
def hm_sx1 : Nat → Int32 := fun k => match k with
  | 0 => 9
  | 1 => 200
  | 2 => 999
  | _ => 999
def hm_sx2 : Nat → Int32 := fun k => match k with
  | 0 => 3
  | 1 => 60
  | 2 => 50
  | _ => 100
/-- a static array of four ints, that is not among the cells that may change -/
def hm_Z (n : String) (xs : Nat → Int32) (t : Nat) (A : Nat → Prop) (U : State) (H : Heap) : Prop := va_Z RX7 n "[I" (.ref t) A U H ∧ va_T .int t 4 (fun j => .int (xs j)) A U H
def hm_N (U : State) : Prop := va_Nw (.methodLinkNest RX4 50 yX7_widthSlot RX7) U ∧ va_Nw (.methodLinkNest RX4 57 yX7_hangSlot RX7) U ∧ va_Nw (.fieldLinkNest RX4 41 RX7 "FIRST_SET" "[I" RX7) U ∧ va_Nw (.methodLinkNest RX7 20 yX3_init RX7) U ∧ va_Nw (.methodLinkNest RX7 43 yX1_init RX7) U ∧ va_Nw (.methodLinkNest RX7 50 yX0_init RX7) U ∧ va_Nw (.methodLinkNest RX7 57 yX5_init RX7) U ∧ va_Nw (.methodLinkNest RX7 64 yX6_init RX7) U
def hm_E (A : Nat → Prop) (U : State) (H : Heap) : Prop := hm_N U ∧ ∃ t0 t1 t2 : Nat, hm_Z "LEAST_SET" hm_sx0 t0 A U H ∧ hm_Z "GREATEST_SET" hm_sx1 t1 A U H ∧ hm_Z "FIRST_SET" hm_sx2 t2 A U H
theorem hm_N.warm {s U : State} (hW : s.WarmedH U.vm) (h : hm_N s) : hm_N U := ⟨va_Nw.warmM hW h.1, va_Nw.warmM hW h.2.1, va_Nw.warmF hW h.2.2.1, va_Nw.warmM hW h.2.2.2.1, va_Nw.warmM hW h.2.2.2.2.1, va_Nw.warmM hW h.2.2.2.2.2.1, va_Nw.warmM hW h.2.2.2.2.2.2.1, va_Nw.warmM hW h.2.2.2.2.2.2.2⟩
theorem hm_N.same {s U : State} (e : s.vm = U.vm) (h : hm_N s) : hm_N U := ⟨va_Nw.same rfl e h.1, va_Nw.same rfl e h.2.1, va_Nw.same rfl e h.2.2.1, va_Nw.same rfl e h.2.2.2.1, va_Nw.same rfl e h.2.2.2.2.1, va_Nw.same rfl e h.2.2.2.2.2.1, va_Nw.same rfl e h.2.2.2.2.2.2.1, va_Nw.same rfl e h.2.2.2.2.2.2.2⟩
theorem hm_Z.call {n : String} {xs : Nat → Int32} {t : Nat} {A B : Nat → Prop} {s U : State} {H : Heap} {locs : List Loc} (h : hm_Z n xs t A s s.heap) (hS : va_S A s.heap H locs) (hAB : ∀ q, B q → A q) (hU : U.heap = H) (hW : s.WarmedH U.vm) : hm_Z n xs t B U U.heap := by
  obtain ⟨h1, h2⟩ := h
  have hq : ∀ a : Nat, a < s.heap.size → ¬ A a → U.heap[a]? = s.heap[a]? := fun a ha hb => by rw [hU]; exact hS.2.1 a ha hb
  exact ⟨va_Z.narrow (va_Z.moved hW.alike (h1.kept hq)) hAB, va_T.narrow (va_T.moved hW.alike (h2.kept hq)) hAB⟩
theorem hm_E.call {A B : Nat → Prop} {s U : State} {H : Heap} {locs : List Loc} (h : hm_E A s s.heap) (hS : va_S A s.heap H locs) (hAB : ∀ q, B q → A q) (hU : U.heap = H) (hW : s.WarmedH U.vm) : hm_E B U U.heap := by
  obtain ⟨h1, t0, t1, t2, h2, h3, h4⟩ := h
  exact ⟨h1.warm hW, t0, t1, t2, h2.call hS hAB hU hW, h3.call hS hAB hU hW, h4.call hS hAB hU hW⟩
theorem hm_Z.same {n : String} {xs : Nat → Int32} {t : Nat} {A : Nat → Prop} {s U : State} {H : Heap} (e : s.vm.Alike U.vm) (h : hm_Z n xs t A s H) : hm_Z n xs t A U H := ⟨va_Z.moved e h.1, va_T.moved e h.2⟩
theorem hm_E.blind {A : Nat → Prop} {U : State} {H : Heap} (h : hm_E A U H) (g : JFrame) (mk : MethodId) (a : Array Value) : hm_E A (U.calling g mk a) H := by
  obtain ⟨h1, t0, t1, t2, h2, h3, h4⟩ := h
  exact ⟨hm_N.same (s := U) (U := U.calling g mk a) rfl h1, t0, t1, t2, hm_Z.same (s := U) (U := U.calling g mk a) (Vm.Alike.refl U.vm) h2, hm_Z.same (s := U) (U := U.calling g mk a) (Vm.Alike.refl U.vm) h3, hm_Z.same (s := U) (U := U.calling g mk a) (Vm.Alike.refl U.vm) h4⟩
/-- where a contract starts -/
def hm_Pr (g : hm_G) (w : va_W) (sz : Nat) (U : State) : Prop := U.heap.size = sz ∧ va_P g.1 vwCl w U.heap ∧ va_K g.1 vwCl (hm_ty g) U ∧ va_D (fun _ => True) w ∧ hm_E (va_A w sz) U U.heap
theorem hm_blind {g : hm_G} {av : List Value} {w : va_W} {sz : Nat} : FrameBlind (va_Pc av (hm_Pr g w sz)) := fun a U g mk q => by
  obtain ⟨q0, q1, qP, qK, qD, qE⟩ := q
  exact ⟨q0, q1, qP, va_K.moved (u := U) (U := U.calling g mk a) (Vm.Alike.refl U.vm) qK, qD, qE.blind g mk a⟩
abbrev hm_Qi (g : hm_G) (A : Nat → Prop) (w' : va_W) (r : Int32) : Array Value → State → Outcome → State → Prop := va_Qi (fun (r' : Int32) (_ : Unit) => r' = r) (fun _ t => va_P g.1 vwCl w' t.heap) A
abbrev hm_Qv (g : hm_G) (A : Nat → Prop) (w' : va_W) : Array Value → State → Outcome → State → Prop := va_Qv (fun (_ : Unit) => True) (fun _ t => va_P g.1 vwCl w' t.heap) A
/-- the contracts: from any heap that holds w, with these arguments: the answer is r, the heap holds w', at the same places; nothing else changes, nothing is made -/
def hm_Mi (l : Launch) (y : MethodName) (ws : List Cond) (rm : Room) (g : hm_G) (av : List Value) (w w' : va_W) (r : Int32) : Prop := w'.map Prod.fst = w.map Prod.fst ∧ ∀ sz : Nat, Met l y ws rm (va_Pc av (hm_Pr g w sz)) (hm_Qi g (va_A w sz) w' r) 0 0 (va_A w sz)
def hm_Mv (l : Launch) (y : MethodName) (ws : List Cond) (rm : Room) (g : hm_G) (av : List Value) (w w' : va_W) : Prop := w'.map Prod.fst = w.map Prod.fst ∧ ∀ sz : Nat, Met l y ws rm (va_Pc av (hm_Pr g w sz)) (hm_Qv g (va_A w sz) w') 0 0 (va_A w sz)
/-- all that is known of the heap in a walk -/
def hm_X (g : hm_G) (A : Nat → Prop) (s : State) (H : Heap) (locs : List Loc) (ws : va_W) : Prop := va_K g.1 vwCl (hm_ty g) s ∧ va_P g.1 vwCl ws H ∧ va_D A ws ∧ va_S A s.heap H locs ∧ (∀ q, s.heap.size ≤ q → A q) ∧ hm_E A s s.heap
theorem hm_X.to {g : hm_G} {A : Nat → Prop} {s : State} {H : Heap} {locs : List Loc} {ws ws' : va_W} (h : hm_X g A s H locs ws) (e : ws = ws') : hm_X g A s H locs ws' := e ▸ h
theorem hm_P_mem {D : va_G} {cl : List vw_C} {ws : va_W} {H : Heap} : va_P D cl ws H ↔ ∀ q ∈ ws, va_at D cl q H := by
  refine ⟨fun h q hq => ?_, fun h k q hk => h q (List.mem_of_getElem? hk)⟩
  obtain ⟨i, hi⟩ := List.getElem?_of_mem hq
  exact h i q hi
theorem hm_D_iff {A : Nat → Prop} {ws : va_W} : va_D A ws ↔ (ws.map Prod.fst).Nodup ∧ ∀ q ∈ ws, A q.1 := by
  constructor
  · intro h
    refine ⟨?_, fun q hq => ?_⟩
    · rw [List.nodup_iff_pairwise_ne, List.pairwise_iff_getElem]
      intro i j hi hj hij e
      rw [List.length_map] at hi hj
      rw [List.getElem_map, List.getElem_map] at e
      have := h.1 i j ws[i] ws[j] (List.getElem?_eq_getElem hi) (List.getElem?_eq_getElem hj) e
      omega
    · obtain ⟨i, hi⟩ := List.getElem?_of_mem hq
      exact h.2 i q hi
  · intro h
    refine ⟨fun i j p q hp hq e => ?_, fun k q hk => h.2 q (List.mem_of_getElem? hk)⟩
    obtain ⟨hi, ei⟩ := List.getElem?_eq_some_iff.mp hp
    obtain ⟨hj, ej⟩ := List.getElem?_eq_some_iff.mp hq
    have hn := List.pairwise_iff_getElem.mp (List.nodup_iff_pairwise_ne.mp h.1)
    rcases Nat.lt_trichotomy i j with hl | hl | hl
    · refine absurd ?_ (hn i j (by rw [List.length_map]; exact hi) (by rw [List.length_map]; exact hj) hl)
      rw [List.getElem_map, List.getElem_map, ei, ej]
      exact e
    · exact hl
    · refine absurd ?_ (hn j i (by rw [List.length_map]; exact hj) (by rw [List.length_map]; exact hi) hl)
      rw [List.getElem_map, List.getElem_map, ei, ej]
      exact e.symm
theorem hm_A_mem {w : va_W} {sz q : Nat} : va_A w sz q ↔ q ∈ w.map Prod.fst ∨ sz ≤ q := by
  constructor
  · rintro (⟨k, e, h⟩ | h)
    · exact Or.inl (List.mem_map.mpr ⟨(q, e), List.mem_of_getElem? h, rfl⟩)
    · exact Or.inr h
  · rintro (h | h)
    · obtain ⟨x, hx, rfl⟩ := List.mem_map.mp h
      obtain ⟨i, hi⟩ := List.getElem?_of_mem hx
      exact Or.inl ⟨i, x.2, hi⟩
    · exact Or.inr h
/-- blocks picked by their numbers -/
theorem hm_pick {bs : List va_W} (js : List Nat) (h : js.isPerm (List.range bs.length) = true) : bs.flatten.Perm (js.map (fun i => bs.getD i [])).flatten := by
  have h1 : js.Perm (List.range bs.length) := List.isPerm_iff.mp h
  have h2 : (List.range bs.length).map (fun i => bs.getD i []) = bs := by
    apply List.ext_getElem
    · simp
    · intro i hi hj
      rw [List.getElem_map, List.getElem_range, List.getD_eq_getElem?_getD, List.getElem?_eq_getElem hj]
      rfl
  have h3 := (h1.map (fun i => bs.getD i [])).flatten
  rw [h2] at h3
  exact h3.symm
theorem hm_cp {bs : List va_W} {wc wr : va_W} (is rs : List Nat) (h : (is ++ rs).isPerm (List.range bs.length) = true) (hc : wc = (is.map (fun i => bs.getD i [])).flatten) (hr : wr = (rs.map (fun i => bs.getD i [])).flatten) : bs.flatten.Perm (wc ++ wr) := by
  have h1 := hm_pick (is ++ rs) h
  rw [List.map_append, List.flatten_append] at h1
  rw [hc, hr]
  exact h1
section HMJ
variable {g : hm_G} {A : Nat → Prop} {s : State} {H H1 : Heap} {locs locs1 : List Loc} {ws ws' wc wc' wr : va_W}
theorem hm_X.cutA (X : hm_X g A s H locs ws) (hp : ws.Perm (wc ++ wr)) : ∀ q, va_A wc H.size q → A q := by
  intro q hq
  rcases hm_A_mem.mp hq with h | h
  · obtain ⟨x, hx, rfl⟩ := List.mem_map.mp h
    exact (hm_D_iff.mp X.2.2.1).2 x (hp.mem_iff.mpr (List.mem_append_left _ hx))
  · exact X.2.2.2.2.1 q (Nat.le_trans X.2.2.2.1.1 h)
theorem hm_X.cutP (X : hm_X g A s H locs ws) (hp : ws.Perm (wc ++ wr)) : va_P g.1 vwCl wc H := hm_P_mem.mpr fun q hq => hm_P_mem.mp X.2.1 q (hp.mem_iff.mpr (List.mem_append_left _ hq))
theorem hm_X.nd (X : hm_X g A s H locs ws) (hp : ws.Perm (wc ++ wr)) : ((wc ++ wr).map Prod.fst).Nodup := (hp.map Prod.fst).nodup (hm_D_iff.mp X.2.2.1).1
theorem hm_X.cutD (X : hm_X g A s H locs ws) (hp : ws.Perm (wc ++ wr)) : va_D (fun _ => True) wc := by
  have h := X.nd hp
  rw [List.map_append, List.nodup_append] at h
  exact hm_D_iff.mpr ⟨h.1, fun _ _ => trivial⟩
theorem hm_X.pre (X : hm_X g A s H locs ws) (hp : ws.Perm (wc ++ wr)) (av : List Value) : PreS s H (va_Pc av (hm_Pr g wc H.size)) av :=
  ⟨hm_blind, fun U hU hW => ⟨rfl, by rw [hU], by rw [hU]; exact X.cutP hp, va_K.moved hW.alike X.1, X.cutD hp, X.2.2.2.2.2.call X.2.2.2.1 (X.cutA hp) hU hW⟩⟩
theorem hm_X.join (X : hm_X g A s H locs ws) (hp : ws.Perm (wc ++ wr)) (hp' : ws'.Perm (wc' ++ wr)) (hadr : wc'.map Prod.fst = wc.map Prod.fst) (hP1 : va_P g.1 vwCl wc' H1) (hk : ∀ q : Nat, q < H.size → ¬ va_A wc H.size q → H1[q]? = H[q]?) (hS : va_S A s.heap H1 locs1) : hm_X g A s H1 locs1 ws' := by
  have hnd := X.nd hp
  refine ⟨X.1, hm_P_mem.mpr fun q hq => ?_, hm_D_iff.mpr ⟨?_, fun q hq => ?_⟩, hS, X.2.2.2.2.1, X.2.2.2.2.2⟩
  · rcases List.mem_append.mp (hp'.mem_iff.mp hq) with h | h
    · exact hm_P_mem.mp hP1 q h
    · have hat := hm_P_mem.mp X.2.1 q (hp.mem_iff.mpr (List.mem_append_right _ h))
      refine hat.kept (hk q.1 hat.lt fun hA => ?_)
      rcases hm_A_mem.mp hA with h1 | h1
      · rw [List.map_append, List.nodup_append] at hnd
        exact hnd.2.2 q.1 h1 q.1 (List.mem_map.mpr ⟨q, h, rfl⟩) rfl
      · exact absurd hat.lt (by omega)
  · refine (hp'.map Prod.fst).nodup_iff.mpr ?_
    rw [List.map_append, hadr, ← List.map_append]
    exact hnd
  · rcases List.mem_append.mp (hp'.mem_iff.mp hq) with h | h
    · have h1 : q.1 ∈ wc.map Prod.fst := by rw [← hadr]; exact List.mem_map.mpr ⟨q, h, rfl⟩
      obtain ⟨x, hx, e⟩ := List.mem_map.mp h1
      rw [← e]
      exact (hm_D_iff.mp X.2.2.1).2 x (hp.mem_iff.mpr (List.mem_append_left _ hx))
    · exact (hm_D_iff.mp X.2.2.1).2 q (hp.mem_iff.mpr (List.mem_append_right _ h))
end HMJ
/-- the words of a method that is called -/
def hm_Mw (y : MethodName) (bytes : ByteArray) (maxL : Nat) (ret : Option FieldType) (C : String) (n : Nat) : Prop := Cond.code y bytes maxL ret ∈ hm_W ∧ Cond.initialized C ∈ hm_W ∧ Cond.instanceMethod y ∈ hm_W ∧ Cond.selects C y y ∈ hm_W ∧ (y.cls = C ∧ y.cls ≠ "java/lang/invoke/MethodHandle" ∧ y.cls ≠ "java/lang/invoke/VarHandle" ∧ (parseMethodDescriptor y.desc).map (fun d => d.parameters.length) = some n)
def hm_Ms (y : MethodName) (bytes : ByteArray) (maxL : Nat) (ret : Option FieldType) (C : String) (n : Nat) : Prop := Cond.code y bytes maxL ret ∈ hm_W ∧ Cond.initialized C ∈ hm_W ∧ Cond.static y ∈ hm_W ∧ (y.cls = C ∧ y.cls ≠ "java/lang/invoke/MethodHandle" ∧ y.cls ≠ "java/lang/invoke/VarHandle" ∧ (parseMethodDescriptor y.desc).map (fun d => d.parameters.length) = some n)
theorem hm_gin {Ts : List Cond} (hT : ∀ w ∈ hm_W, w ∈ Ts) {c : Cond} (h : c ∈ hm_W) : GoodIn Ts (c :: hm_W) := fun w hw => by
  have h1 : w ∈ hm_W := by
    rcases List.mem_cons.mp hw with e | e
    · rw [e]; exact h
    · exact e
  exact ⟨hT w h1, hm_Wgood w h1⟩
section HMC
variable {p : Program} {l : Launch} {e : Env} {R : Room} {s : State} {m : MethodId} {args : Array Value} {below : List Frame} {meth : Method} {c : Code} {H : Heap} {locs : List Loc} {cells slots : Nat} {Q : State → Prop}
variable {cc bytes : ByteArray} {nL maxL index n pc : Nat} {own C : String} {y : MethodName} {ret : Option FieldType} {rm : Room} {b : Addr} {As rest st0 : List Value} {ls : Array Slot} {g : hm_G} {A : Nat → Prop} {ws ws' wc wc' wr : va_W} {r : Int32}
theorem hm_cw (S : CallFix p m c cc nL s args hm_W own) (M : hm_Mw y bytes maxL ret C n) (hl : Cond.methodLink own index y ∈ hm_W) (hrc : rm.cells = 0) (hrs : rm.slots = 0) (hR : rm.frames + 1 ≤ R.frames ∧ 8 + (maxL + 11) + rm.locals ≤ R.locals) : CallW R s args own C index y bytes maxL ret (Cond.code y bytes maxL ret :: hm_W) rm 0 0 n := by
  obtain ⟨h1, h2, h3, h4, hC, hd⟩ := M
  obtain ⟨-, -, -, -, hts⟩ := S
  subst hC
  exact ⟨callB_of n hts (hm_gin (fun _ h => h) h1) rfl hrc hrs (hts _ h2) (hts _ hl) hd hR, hts _ h3, hts _ h4⟩
theorem hm_cs (S : CallFix p m c cc nL s args hm_W own) (M : hm_Ms y bytes maxL ret C n) (hl : Cond.methodLink own index y ∈ hm_W) (hrc : rm.cells = 0) (hrs : rm.slots = 0) (hR : rm.frames + 1 ≤ R.frames ∧ 8 + (maxL + 11) + rm.locals ≤ R.locals) : CallB R s args own index y bytes maxL ret (Cond.code y bytes maxL ret :: hm_W) rm 0 0 n ∧ (Cond.static y).before args s = true := by
  obtain ⟨h1, h2, h3, hC, hd⟩ := M
  obtain ⟨-, -, -, -, hts⟩ := S
  subst hC
  exact ⟨callB_of n hts (hm_gin (fun _ h => h) h1) rfl hrc hrs (hts _ h2) (hts _ hl) hd hR, hts _ h3⟩
/-- a call of a method of an object whose cell is the first of its world: an int answer -/
theorem hm_vi (S : CallFix p m c cc nL s args hm_W own) (X : hm_X g A s H locs ws) (M : hm_Mw y bytes maxL ret C n) (hl : Cond.methodLink own index y ∈ hm_W) (hM : hm_Mi l y (Cond.code y bytes maxL ret :: hm_W) rm g (.ref b :: As) wc wc' r) (hp : ws.Perm (wc ++ wr)) (hp' : ws'.Perm (wc' ++ wr))
    {ci : Nat} {q9 : vw_C} {fs : List Value} (hc : vwCl[ci]? = some q9) (he : wc[0]? = some (b, .inr (ci, fs))) (hq : q9.1 = C) (hR : rm.cells = 0 ∧ rm.slots = 0 ∧ rm.frames + 1 ≤ R.frames ∧ 8 + (maxL + 11) + rm.locals ≤ R.locals) (hn : As.length = n) (hls : ls.size = nL) (hst : st0 = As.reverse ++ .ref b :: rest) (hW : (rest.map fun v => v.category).sum ≤ 8) (hdg : decode cc pc = .ok (.invokevirtual index, 3)) (hf : cells ≤ R.cells ∧ slots ≤ R.slots)
    (kk : ∀ (H1 : Heap) (locs1 : List Loc), hm_X g A s H1 locs1 ws' → W p l e R s m args below meth c H1 locs1 cells slots Q (F0 m (pc + 3) ls (.int r :: rest))) : W p l e R s m args below meth c H locs cells slots Q (F0 m pc ls st0) := by
  subst hq
  have hpre := X.pre hp (.ref b :: As)
  refine va_calli (va_runV S (hM.2 H.size) (hm_cw S M hl hR.1 hR.2.1 hR.2.2) ⟨hpre.1, va_recv X.1 (X.cutP hp) hc he, hpre.2⟩ rfl hn hls hst (lv_room hW) hdg hf) X.2.2.2.1 (fun q _ h => X.cutA hp q h) (X.cutA hp) (fun r' u t H1 locs1 ht hvm hr hB hz hk hS => ?_)
  subst hr
  rw [ht] at hB
  exact kk H1 locs1 (X.join hp hp' hM.1 hB hk hS)
theorem hm_vv (S : CallFix p m c cc nL s args hm_W own) (X : hm_X g A s H locs ws) (M : hm_Mw y bytes maxL ret C n) (hl : Cond.methodLink own index y ∈ hm_W) (hM : hm_Mv l y (Cond.code y bytes maxL ret :: hm_W) rm g (.ref b :: As) wc wc') (hp : ws.Perm (wc ++ wr)) (hp' : ws'.Perm (wc' ++ wr))
    {ci : Nat} {q9 : vw_C} {fs : List Value} (hc : vwCl[ci]? = some q9) (he : wc[0]? = some (b, .inr (ci, fs))) (hq : q9.1 = C) (hR : rm.cells = 0 ∧ rm.slots = 0 ∧ rm.frames + 1 ≤ R.frames ∧ 8 + (maxL + 11) + rm.locals ≤ R.locals) (hn : As.length = n) (hls : ls.size = nL) (hst : st0 = As.reverse ++ .ref b :: rest) (hW : (rest.map fun v => v.category).sum ≤ 8) (hdg : decode cc pc = .ok (.invokevirtual index, 3)) (hf : cells ≤ R.cells ∧ slots ≤ R.slots)
    (kk : ∀ (H1 : Heap) (locs1 : List Loc), hm_X g A s H1 locs1 ws' → W p l e R s m args below meth c H1 locs1 cells slots Q (F0 m (pc + 3) ls rest)) : W p l e R s m args below meth c H locs cells slots Q (F0 m pc ls st0) := by
  subst hq
  have hpre := X.pre hp (.ref b :: As)
  refine va_callv (va_runV S (hM.2 H.size) (hm_cw S M hl hR.1 hR.2.1 hR.2.2) ⟨hpre.1, va_recv X.1 (X.cutP hp) hc he, hpre.2⟩ rfl hn hls hst (lv_room hW) hdg hf) X.2.2.2.1 (fun q _ h => X.cutA hp q h) (X.cutA hp) (fun u t H1 locs1 ht hvm hr hB hz hk hS => ?_)
  rw [ht] at hB
  exact kk H1 locs1 (X.join hp hp' hM.1 hB hk hS)
theorem hm_si (S : CallFix p m c cc nL s args hm_W own) (X : hm_X g A s H locs ws) (M : hm_Ms y bytes maxL ret C n) (hl : Cond.methodLink own index y ∈ hm_W) (hM : hm_Mi l y (Cond.code y bytes maxL ret :: hm_W) rm g As wc wc' r) (hp : ws.Perm (wc ++ wr)) (hp' : ws'.Perm (wc' ++ wr))
    (hR : rm.cells = 0 ∧ rm.slots = 0 ∧ rm.frames + 1 ≤ R.frames ∧ 8 + (maxL + 11) + rm.locals ≤ R.locals) (hn : As.length = n) (hls : ls.size = nL) (hst : st0 = As.reverse ++ rest) (hW : (rest.map fun v => v.category).sum ≤ 8) (hdg : decode cc pc = .ok (.invokestatic index, 3)) (hf : cells ≤ R.cells ∧ slots ≤ R.slots)
    (kk : ∀ (H1 : Heap) (locs1 : List Loc), hm_X g A s H1 locs1 ws' → W p l e R s m args below meth c H1 locs1 cells slots Q (F0 m (pc + 3) ls (.int r :: rest))) : W p l e R s m args below meth c H locs cells slots Q (F0 m pc ls st0) := by
  have hpre := X.pre hp As
  refine va_calli (va_runS S (hM.2 H.size) (hm_cs S M hl hR.1 hR.2.1 hR.2.2) hpre rfl hn hls hst (lv_room hW) hdg hf) X.2.2.2.1 (fun q _ h => X.cutA hp q h) (X.cutA hp) (fun r' u t H1 locs1 ht hvm hr hB hz hk hS => ?_)
  subst hr
  rw [ht] at hB
  exact kk H1 locs1 (X.join hp hp' hM.1 hB hk hS)
/-- a nest mate's private static method -/
theorem hm_sni {host : String} (S : CallFix p m c cc nL s args hm_W own) (X : hm_X g A s H locs ws) (M : hm_Ms y bytes maxL ret C n) (hl : va_Nw (.methodLinkNest own index y host) s) (hM : hm_Mi l y (Cond.code y bytes maxL ret :: hm_W) rm g As wc wc' r) (hp : ws.Perm (wc ++ wr)) (hp' : ws'.Perm (wc' ++ wr))
    (hR : rm.cells = 0 ∧ rm.slots = 0 ∧ rm.frames + 1 ≤ R.frames ∧ 8 + (maxL + 11) + rm.locals ≤ R.locals) (hn : As.length = n) (hls : ls.size = nL) (hst : st0 = As.reverse ++ rest) (hW : (rest.map fun v => v.category).sum ≤ 8) (hdg : decode cc pc = .ok (.invokestatic index, 3)) (hf : cells ≤ R.cells ∧ slots ≤ R.slots)
    (kk : ∀ (H1 : Heap) (locs1 : List Loc), hm_X g A s H1 locs1 ws' → W p l e R s m args below meth c H1 locs1 cells slots Q (F0 m (pc + 3) ls (.int r :: rest))) : W p l e R s m args below meth c H locs cells slots Q (F0 m pc ls st0) := by
  have hpre := X.pre hp As
  obtain ⟨h1, h2, h3, hC, hd⟩ := M
  have hts := S.2.2.2.2
  subst hC
  refine va_calli (va_runSN S (hM.2 H.size) ⟨va_cnB n hts (hm_gin (fun _ h => h) h1) rfl hR.1 hR.2.1 hl (hts _ h2) hd hR.2.2, hts _ h3, trivial⟩ hpre rfl hn hls hst (lv_room hW) hdg hf) X.2.2.2.1 (fun q _ h => X.cutA hp q h) (X.cutA hp) (fun r' u t H1 locs1 ht hvm hr hB hz hk hS => ?_)
  subst hr
  rw [ht] at hB
  exact kk H1 locs1 (X.join hp hp' hM.1 hB hk hS)
/-- fields -/
def hm_Fl (own : String) (index ci k : Nat) (C : String) (T : u_T) (N : Nat) : Prop := (∀ w ∈ u_ws C T N, w ∈ hm_W) ∧ vwCl[ci]? = some (C, T, N) ∧ k < N ∧ Cond.fieldLink own index C (T k).2.1 (T k).2.2.1 ∈ hm_W ∧ (T k).1 = C
theorem hm_get {a ci k N : Nat} {T : u_T} {fs : List Value} {v : Value} (S : CallFix p m c cc nL s args hm_W own) (X : hm_X g A s H locs ws) (F : hm_Fl own index ci k C T N) (q0 : Nat) (he : ws[q0]? = some (a, .inr (ci, fs))) (hv : fs[k]? = some v) (hdg : decode cc pc = .ok (.getfield index, 3))
    (kk : W p l e R s m args below meth c H locs cells slots Q (F0 m (pc + 3) ls (v :: rest))) : W p l e R s m args below meth c H locs cells slots Q (F0 m pc ls (.ref a :: rest)) := by
  obtain ⟨f1, f2, f3, f4, f5⟩ := F
  obtain ⟨hx, hb, -, hown, hts⟩ := S
  exact va_get (ref := C) hx hb hts f1 hown X.1 X.2.1 q0 he f2 k f3 (hts _ f4) (fun x h => by rw [f5] at h; exact h) hv hdg kk
def hm_Fp (C : String) (T : u_T) (N k : Nat) (ty : FieldType) : Prop := ∃ ty0 : Nat → FieldType, (∀ k, k < N → parseFieldDescriptor (T k).2.2.1 = some (ty0 k)) ∧ (∀ a, a < N → ∀ b, b < N → a ≠ b → (T a).2.1 ≠ (T b).2.1) ∧ (T k).2.2.2 = false ∧ parseFieldDescriptor (T k).2.2.1 = some ty
theorem hm_put {a ci k N : Nat} {T : u_T} {fs : List Value} {v : Value} {ty : FieldType} (S : CallFix p m c cc nL s args hm_W own) (X : hm_X g A s H locs ws) (F : hm_Fl own index ci k C T N) (G : hm_Fp C T N k ty) (q0 : Nat) (he : ws[q0]? = some (a, .inr (ci, fs))) (hn : narrow ty v = v) (hfit : fits ty v = true) (hl : k < fs.length) (hdg : decode cc pc = .ok (.putfield index, 3))
    (kk : ∀ (H1 : Heap) (locs1 : List Loc), hm_X g A s H1 locs1 (ws.set q0 (a, .inr (ci, fs.set k v))) → W p l e R s m args below meth c H1 locs1 cells slots Q (F0 m (pc + 3) ls rest)) : W p l e R s m args below meth c H locs cells slots Q (F0 m pc ls (v :: .ref a :: rest)) := by
  obtain ⟨f1, f2, f3, f4, f5⟩ := F
  obtain ⟨ty0, g1, g2, g3, g4⟩ := G
  obtain ⟨hx, hb, -, hown, hts⟩ := S
  obtain ⟨hK, hP, hD, hS, hA, hE⟩ := X
  exact va_put (ref := C) hx hb hts f1 ty0 g1 g2 hown hK hP hD hS q0 he f2 k f3 (hts _ f4) (fun x h => by rw [f5] at h; exact h) g3 g4 hn hfit hl hdg (fun H1 locs1 hP hD hS => kk H1 locs1 ⟨hK, hP, hD, hS, hA, hE⟩)
end HMC
/-- an index that is in -/
def hm_ix (i : Int32) (n : Nat) : Bool := !(decide (i < 0)) && !(decide (n ≤ i.toNatClampNeg))
theorem hm_ix_in {i : Int32} {n : Nat} (h : hm_ix i n = true) : vp_in i n := by
  simp only [hm_ix, Bool.and_eq_true, Bool.not_eq_true', decide_eq_false_iff_not] at h
  exact fun z => z.elim h.1 h.2
def hm_rd (n : Nat) (f : Nat → Int32) (i : Int32) : Option Int32 := if hm_ix i n = true then some (f i.toNatClampNeg) else none
def hm_rj (n : Nat) (f : Nat → Int64) (i : Int32) : Option Int64 := if hm_ix i n = true then some (f i.toNatClampNeg) else none
def hm_wr (n : Nat) (f : Nat → Int32) (i v : Int32) : Option (Nat → Int32) := if hm_ix i n = true then some (upd f i.toNatClampNeg v) else none
def hm_wz (n : Nat) (f : Nat → Int32) (i v : Int32) : Option (Nat → Int32) := if hm_ix i n = true ∧ (v = 0 ∨ v = 1) then some (upd f i.toNatClampNeg v) else none
def hm_wj (n : Nat) (f : Nat → Int64) (i : Int32) (v : Int64) : Option (Nat → Int64) := if hm_ix i n = true then some (vp_updL f i.toNatClampNeg v) else none
def hm_dv (x y : Int32) : Option Int32 := if y = 0 then none else some (x / y)
def hm_rm (x y : Int32) : Option Int32 := if y = 0 then none else some (x - x / y * y)
def hm_bl (v : Int32) : Option Int32 := if v = 0 ∨ v = 1 then some v else none
def hm_fu : Nat := 1000000
theorem hm_bd {α β : Type} {x : Option α} {f : α → Option β} {o : β} (h : x.bind f = some o) : ∃ q, x = some q ∧ f q = some o := Option.bind_eq_some_iff.mp h
theorem hm_if {α : Type} {c : Prop} [Decidable c] {a b : Option α} {o : α} (h : (if c then a else b) = some o) (hc : c) : a = some o := by rw [if_pos hc] at h; exact h
theorem hm_nf {α : Type} {c : Prop} [Decidable c] {a b : Option α} {o : α} (h : (if c then a else b) = some o) (hc : ¬ c) : b = some o := by rw [if_neg hc] at h; exact h
theorem hm_rd_s {n : Nat} {f : Nat → Int32} {i x : Int32} (h : hm_rd n f i = some x) : vp_in i n ∧ f i.toNatClampNeg = x := by
  unfold hm_rd at h
  split at h
  · exact ⟨hm_ix_in (by assumption), Option.some.inj h⟩
  · cases h
theorem hm_rj_s {n : Nat} {f : Nat → Int64} {i : Int32} {x : Int64} (h : hm_rj n f i = some x) : vp_in i n ∧ f i.toNatClampNeg = x := by
  unfold hm_rj at h
  split at h
  · exact ⟨hm_ix_in (by assumption), Option.some.inj h⟩
  · cases h
theorem hm_wr_s {n : Nat} {f f' : Nat → Int32} {i x : Int32} (h : hm_wr n f i x = some f') : vp_in i n ∧ upd f i.toNatClampNeg x = f' := by
  unfold hm_wr at h
  split at h
  · exact ⟨hm_ix_in (by assumption), Option.some.inj h⟩
  · cases h
theorem hm_wj_s {n : Nat} {f f' : Nat → Int64} {i : Int32} {x : Int64} (h : hm_wj n f i x = some f') : vp_in i n ∧ vp_updL f i.toNatClampNeg x = f' := by
  unfold hm_wj at h
  split at h
  · exact ⟨hm_ix_in (by assumption), Option.some.inj h⟩
  · cases h
theorem hm_nb {v : Int32} (h : v = 0 ∨ v = 1) : narrow .boolean (.int v) = .int v := by rcases h with rfl | rfl <;> decide +kernel
theorem hm_fb {v : Int32} (h : v = 0 ∨ v = 1) : fits .boolean (.int v) = true := by rcases h with rfl | rfl <;> decide +kernel
theorem hm_vb {v : Int32} (h : v = 0 ∨ v = 1) : vp_nar .boolean v = v := by rcases h with rfl | rfl <;> decide +kernel
theorem hm_wz_s {n : Nat} {f f' : Nat → Int32} {i x : Int32} (h : hm_wz n f i x = some f') : vp_in i n ∧ upd f i.toNatClampNeg (vp_nar .boolean x) = f' := by
  unfold hm_wz at h
  split at h
  · rename_i hc
    exact ⟨hm_ix_in hc.1, by rw [hm_vb hc.2]; exact Option.some.inj h⟩
  · cases h
theorem hm_dv_s {x y z : Int32} (h : hm_dv x y = some z) : ¬ y = 0 ∧ x / y = z := by
  unfold hm_dv at h
  split at h
  · cases h
  · exact ⟨by assumption, Option.some.inj h⟩
theorem hm_rm_s {x y z : Int32} (h : hm_rm x y = some z) : ¬ y = 0 ∧ x - x / y * y = z := by
  unfold hm_rm at h
  split at h
  · cases h
  · exact ⟨by assumption, Option.some.inj h⟩
theorem hm_bl_s {v w : Int32} (h : hm_bl v = some w) : v = w ∧ (w = 0 ∨ w = 1) := by
  unfold hm_bl at h
  split at h
  · cases Option.some.inj h
    exact ⟨rfl, by assumption⟩
  · cases h
section HMR
variable {p : Program} {l : Launch} {e : Env} {R : Room} {s : State} {m : MethodId} {args : Array Value} {below : List Frame} {meth : Method} {c : Code} {H : Heap} {locs : List Loc} {cells slots : Nat} {Q : State → Prop}
variable {cc : ByteArray} {nL pc a n : Nat} {own : String} {rest : List Value} {ls : Array Slot} {g : hm_G} {A : Nat → Prop} {ws w' : va_W} {r : Int32}
theorem hm_iald {f : Nat → Int32} {i x : Int32} (S : CallFix p m c cc nL s args hm_W own) (X : hm_X g A s H locs ws) (h : hm_rd n f i = some x) (q0 : Nat) (ha : ws[q0]? = some (a, .inl (g.2.1, n, .inl f))) (hdg : decode cc pc = .ok (.iaload, 1))
    (kk : W p l e R s m args below meth c H locs cells slots Q (F0 m (pc + 1) ls (.int x :: rest))) : W p l e R s m args below meth c H locs cells slots Q (F0 m pc ls (.int i :: .ref a :: rest)) := by
  obtain ⟨h1, h2⟩ := hm_rd_s h
  subst h2
  exact va_iald S.1 S.2.1 X.1 X.2.1 q0 0 ha rfl h1 hdg kk
theorem hm_zald {f : Nat → Int32} {i x : Int32} (S : CallFix p m c cc nL s args hm_W own) (X : hm_X g A s H locs ws) (h : hm_rd n f i = some x) (q0 : Nat) (ha : ws[q0]? = some (a, .inl (g.2.2.2, n, .inl f))) (hdg : decode cc pc = .ok (.baload, 1))
    (kk : W p l e R s m args below meth c H locs cells slots Q (F0 m (pc + 1) ls (.int x :: rest))) : W p l e R s m args below meth c H locs cells slots Q (F0 m pc ls (.int i :: .ref a :: rest)) := by
  obtain ⟨h1, h2⟩ := hm_rd_s h
  subst h2
  exact va_zald S.1 S.2.1 X.1 X.2.1 q0 2 ha rfl h1 hdg kk
theorem hm_lald {f : Nat → Int64} {i : Int32} {x : Int64} (S : CallFix p m c cc nL s args hm_W own) (X : hm_X g A s H locs ws) (h : hm_rj n f i = some x) (q0 : Nat) (ha : ws[q0]? = some (a, .inl (g.2.2.1, n, .inr (.inl f)))) (hdg : decode cc pc = .ok (.laload, 1))
    (kk : W p l e R s m args below meth c H locs cells slots Q (F0 m (pc + 1) ls (.long x :: rest))) : W p l e R s m args below meth c H locs cells slots Q (F0 m pc ls (.int i :: .ref a :: rest)) := by
  obtain ⟨h1, h2⟩ := hm_rj_s h
  subst h2
  exact va_lald S.1 S.2.1 X.1 X.2.1 q0 1 ha rfl h1 hdg kk
theorem hm_iast {f f' : Nat → Int32} {i x : Int32} (S : CallFix p m c cc nL s args hm_W own) (X : hm_X g A s H locs ws) (h : hm_wr n f i x = some f') (q0 : Nat) (ha : ws[q0]? = some (a, .inl (g.2.1, n, .inl f))) (hdg : decode cc pc = .ok (.iastore, 1))
    (kk : ∀ (H1 : Heap) (locs1 : List Loc), hm_X g A s H1 locs1 (ws.set q0 (a, .inl (g.2.1, n, .inl f'))) → W p l e R s m args below meth c H1 locs1 cells slots Q (F0 m (pc + 1) ls rest)) : W p l e R s m args below meth c H locs cells slots Q (F0 m pc ls (.int x :: .int i :: .ref a :: rest)) := by
  obtain ⟨h1, h2⟩ := hm_wr_s h
  subst h2
  obtain ⟨hK, hP, hD, hS, hA, hE⟩ := X
  exact va_iast S.1 S.2.1 hK hP hD hS q0 0 ha rfl h1 hdg (fun H1 locs1 hP hD hS => kk H1 locs1 ⟨hK, hP, hD, hS, hA, hE⟩)
theorem hm_zast {f f' : Nat → Int32} {i x : Int32} (S : CallFix p m c cc nL s args hm_W own) (X : hm_X g A s H locs ws) (h : hm_wz n f i x = some f') (q0 : Nat) (ha : ws[q0]? = some (a, .inl (g.2.2.2, n, .inl f))) (hdg : decode cc pc = .ok (.bastore, 1))
    (kk : ∀ (H1 : Heap) (locs1 : List Loc), hm_X g A s H1 locs1 (ws.set q0 (a, .inl (g.2.2.2, n, .inl f'))) → W p l e R s m args below meth c H1 locs1 cells slots Q (F0 m (pc + 1) ls rest)) : W p l e R s m args below meth c H locs cells slots Q (F0 m pc ls (.int x :: .int i :: .ref a :: rest)) := by
  obtain ⟨h1, h2⟩ := hm_wz_s h
  subst h2
  obtain ⟨hK, hP, hD, hS, hA, hE⟩ := X
  exact va_zast S.1 S.2.1 hK hP hD hS q0 2 ha rfl h1 hdg (fun H1 locs1 hP hD hS => kk H1 locs1 ⟨hK, hP, hD, hS, hA, hE⟩)
theorem hm_last {f f' : Nat → Int64} {i : Int32} {x : Int64} (S : CallFix p m c cc nL s args hm_W own) (X : hm_X g A s H locs ws) (h : hm_wj n f i x = some f') (q0 : Nat) (ha : ws[q0]? = some (a, .inl (g.2.2.1, n, .inr (.inl f)))) (hdg : decode cc pc = .ok (.lastore, 1))
    (kk : ∀ (H1 : Heap) (locs1 : List Loc), hm_X g A s H1 locs1 (ws.set q0 (a, .inl (g.2.2.1, n, .inr (.inl f')))) → W p l e R s m args below meth c H1 locs1 cells slots Q (F0 m (pc + 1) ls rest)) : W p l e R s m args below meth c H locs cells slots Q (F0 m pc ls (.long x :: .int i :: .ref a :: rest)) := by
  obtain ⟨h1, h2⟩ := hm_wj_s h
  subst h2
  obtain ⟨hK, hP, hD, hS, hA, hE⟩ := X
  exact va_last S.1 S.2.1 hK hP hD hS q0 1 ha rfl h1 hdg (fun H1 locs1 hP hD hS => kk H1 locs1 ⟨hK, hP, hD, hS, hA, hE⟩)
theorem hm_alen {x : vp_A} {cA : ClassId} {ty : FieldType} {v : Int32} (S : CallFix p m c cc nL s args hm_W own) (X : hm_X g A s H locs ws) (q0 t0 : Nat) (ha : ws[q0]? = some (a, .inl (cA, x))) (ht : (hm_ty g)[t0]? = some (cA, ty)) (hv : Int32.ofNat x.1 = v) (hdg : decode cc pc = .ok (.arraylength, 1))
    (kk : W p l e R s m args below meth c H locs cells slots Q (F0 m (pc + 1) ls (.int v :: rest))) : W p l e R s m args below meth c H locs cells slots Q (F0 m pc ls (.ref a :: rest)) := va_alen S.1 S.2.1 X.1 X.2.1 q0 t0 ha ht hv hdg kk
/-- the ends -/
theorem hm_ri {v : Int32} (S : CallFix p m c cc nL s args hm_W own) (hr : meth.sig.returnType = some .int) (hlk : meth.locks = false) (X : hm_X g A s H locs ws) (ew : ws = w') (er : v = r) (hdg : decode cc pc = .ok (.ireturn, 1)) : W p l e R s m args below meth c H locs cells slots (MQ below (hm_Qi g A w' r) args s cells slots A) (F0 m pc ls [.int v]) := by
  subst ew; subst er
  exact W.iret S.1 S.2.1 hr (fun t ht hW => ⟨⟨v, (), rfl, rfl, by dsimp only; rw [ht]; exact X.2.1⟩, X.2.2.2.1.F ht⟩) X.2.2.2.1.2.2 hdg
theorem hm_rz {v : Int32} (S : CallFix p m c cc nL s args hm_W own) (hr : meth.sig.returnType = some .boolean) (hlk : meth.locks = false) (X : hm_X g A s H locs ws) (ew : ws = w') (er : v = r) (h01 : v = 0 ∨ v = 1) (hdg : decode cc pc = .ok (.ireturn, 1)) : W p l e R s m args below meth c H locs cells slots (MQ below (hm_Qi g A w' r) args s cells slots A) (F0 m pc ls [.int v]) := by
  subst ew; subst er
  exact W.zret S.1 S.2.1 hr (hm_nb h01) (fun t ht hW => ⟨⟨v, (), rfl, rfl, by dsimp only; rw [ht]; exact X.2.1⟩, X.2.2.2.1.F ht⟩) X.2.2.2.1.2.2 hdg
theorem hm_rv (S : CallFix p m c cc nL s args hm_W own) (hr : meth.sig.returnType = none) (hlk : meth.locks = false) (X : hm_X g A s H locs ws) (ew : ws = w') (hdg : decode cc pc = .ok (.return_, 1)) : W p l e R s m args below meth c H locs cells slots (MQ below (hm_Qv g A w') args s cells slots A) (F0 m pc ls []) := by
  subst ew
  exact W.vret S.1 S.2.1 hr (fun t ht hW => ⟨⟨(), rfl, trivial, by dsimp only; rw [ht]; exact X.2.1⟩, X.2.2.2.1.F ht⟩) X.2.2.2.1.2.2 hdg
end HMR
section HMO
variable {l : Launch} {y : MethodName} {rm : Room} {g : hm_G} {av : List Value} {w w' : va_W} {r : Int32} {cc : ByteArray} {maxL : Nat} {rt : FieldType} {own : String}
theorem hm_X.start {s : State} (hP : va_P g.1 vwCl w s.heap) (hK : va_K g.1 vwCl (hm_ty g) s) (hD : va_D (fun _ => True) w) (hE : hm_E (va_A w s.heap.size) s s.heap) : hm_X g (va_A w s.heap.size) s s.heap [] w := ⟨hK, hP, hD.self, va_S.rf, fun _ h => Or.inr h, hE⟩
theorem hm_ofi (lv : List (Nat × Value)) (hy : plainName y.cls = true) (hown : y.cls = own) (hlen : (lg_sl av).length ≤ maxL) (hlv : lv_args 0 av = lv) (hadr : w'.map Prod.fst = w.map Prod.fst)
    (body : ∀ (p : Program) (e : Env) (s : State) (m : MethodId) (args : Array Value) (below : List Frame) (meth : Method) (c : Code) (A : Nat → Prop), CallFix p m c cc maxL s args hm_W own → meth.sig.returnType = some rt → meth.locks = false → hm_X g A s s.heap [] w → ∀ ls : Array Slot, lv_has ls maxL lv → W p l e rm s m args below meth c s.heap [] 0 0 (MQ below (hm_Qi g A w' r) args s 0 0 A) (F0 m 0 ls [])) : hm_Mi l y (Cond.code y cc maxL (some rt) :: hm_W) rm g av w w' r := by
  refine ⟨hadr, fun sz => ?_⟩
  refine Met.ofW (cc := cc) (maxL := maxL) (ret := some rt) hy rfl ?_
  intro p e s m args below meth c s₁ B hml hv
  obtain ⟨rfl, hsz, hP, hK, hD, hE⟩ := hv
  subst hsz
  have hts := atoms_spec (ws := Cond.code y cc maxL (some rt) :: hm_W) B.pre
  have hl := lv_entry av (n := maxL) hlen
  rw [lg_entry_eq]
  rw [hlv] at hl
  exact body p e s m av.toArray below meth c _ ⟨B.exec, B.bytes, hml, by rw [← hown]; exact findClass_of_methodNamed B.named, fun w hw => hts w (List.mem_cons_of_mem _ hw)⟩ B.returns B.notSynchronized (hm_X.start hP hK hD hE) _ hl
theorem hm_ofv (lv : List (Nat × Value)) (hy : plainName y.cls = true) (hown : y.cls = own) (hlen : (lg_sl av).length ≤ maxL) (hlv : lv_args 0 av = lv) (hadr : w'.map Prod.fst = w.map Prod.fst)
    (body : ∀ (p : Program) (e : Env) (s : State) (m : MethodId) (args : Array Value) (below : List Frame) (meth : Method) (c : Code) (A : Nat → Prop), CallFix p m c cc maxL s args hm_W own → meth.sig.returnType = none → meth.locks = false → hm_X g A s s.heap [] w → ∀ ls : Array Slot, lv_has ls maxL lv → W p l e rm s m args below meth c s.heap [] 0 0 (MQ below (hm_Qv g A w') args s 0 0 A) (F0 m 0 ls [])) : hm_Mv l y (Cond.code y cc maxL none :: hm_W) rm g av w w' := by
  refine ⟨hadr, fun sz => ?_⟩
  refine Met.ofW (cc := cc) (maxL := maxL) (ret := none) hy rfl ?_
  intro p e s m args below meth c s₁ B hml hv
  obtain ⟨rfl, hsz, hP, hK, hD, hE⟩ := hv
  subst hsz
  have hts := atoms_spec (ws := Cond.code y cc maxL none :: hm_W) B.pre
  have hl := lv_entry av (n := maxL) hlen
  rw [lg_entry_eq]
  rw [hlv] at hl
  exact body p e s m av.toArray below meth c _ ⟨B.exec, B.bytes, hml, by rw [← hown]; exact findClass_of_methodNamed B.named, fun w hw => hts w (List.mem_cons_of_mem _ hw)⟩ B.returns B.notSynchronized (hm_X.start hP hK hD hE) _ hl
end HMO
