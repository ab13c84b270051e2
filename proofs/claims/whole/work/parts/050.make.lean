/-! making: a constructor's contract, new cells -/
def hm_Mk (l : Launch) (y : MethodName) (ws : List Cond) (rm : Room) (g : hm_G) (av : List Value) (w : va_W) (P : va_W → Prop) (mc ms : Nat) : Prop := ∀ sz : Nat, Met l y ws rm (va_Pc av (hm_Pr g w sz)) (va_Qv P (fun w' t => va_P g.1 vwCl w' t.heap ∧ va_D (va_A w sz) w') (va_A w sz)) mc ms (va_A w sz)
def hm_R0 : Nat → hm_SR := fun _ => (0, fun _ => 0)
def hm_A0 : Nat → Nat → Int32 := fun _ _ => 0
def hm_Z0 : Nat → Int32 := fun _ => 0
def hm_J0 : Nat → Nat → Int64 := fun _ _ => 0
theorem hm_X.joinN {g : hm_G} {A : Nat → Prop} {s : State} {H H1 : Heap} {locs locs1 : List Loc} {ws wc wc' wr : va_W} (X : hm_X g A s H locs ws) (hp : ws.Perm (wc ++ wr)) (hP1 : va_P g.1 vwCl wc' H1) (hD1 : va_D (va_A wc H.size) wc') (hk : ∀ q : Nat, q < H.size → ¬ va_A wc H.size q → H1[q]? = H[q]?) (hS : va_S A s.heap H1 locs1) : hm_X g A s H1 locs1 (wr ++ wc') := by
  have hnd := X.nd hp
  rw [List.map_append, List.nodup_append] at hnd
  have hD1' := hm_D_iff.mp hD1
  have hlt : ∀ q ∈ wr, q.1 < H.size ∧ ¬ va_A wc H.size q.1 := by
    intro q h
    have hat := hm_P_mem.mp X.2.1 q (hp.mem_iff.mpr (List.mem_append_right _ h))
    refine ⟨hat.lt, fun hA => ?_⟩
    rcases hm_A_mem.mp hA with h1 | h1
    · exact hnd.2.2 q.1 h1 q.1 (List.mem_map.mpr ⟨q, h, rfl⟩) rfl
    · exact absurd hat.lt (by omega)
  refine ⟨X.1, hm_P_mem.mpr fun q hq => ?_, hm_D_iff.mpr ⟨?_, fun q hq => ?_⟩, hS, X.2.2.2.2.1, X.2.2.2.2.2⟩
  · rcases List.mem_append.mp hq with h | h
    · have hat := hm_P_mem.mp X.2.1 q (hp.mem_iff.mpr (List.mem_append_right _ h))
      exact hat.kept (hk q.1 hat.lt (hlt q h).2)
    · exact hm_P_mem.mp hP1 q h
  · rw [List.map_append, List.nodup_append]
    refine ⟨hnd.2.1, hD1'.1, fun x hx y hy e => ?_⟩
    obtain ⟨q, hq, rfl⟩ := List.mem_map.mp hx
    obtain ⟨z, hz, e2⟩ := List.mem_map.mp hy
    exact (hlt q hq).2 (by rw [e, ← e2]; exact hD1'.2 z hz)
  · rcases List.mem_append.mp hq with h | h
    · exact (hm_D_iff.mp X.2.2.1).2 q (hp.mem_iff.mpr (List.mem_append_right _ h))
    · exact X.cutA hp _ (hD1'.2 q h)
/-- the words of a constructor -/
def hm_Mc (y : MethodName) (bytes : ByteArray) (maxL : Nat) (C : String) (n : Nat) : Prop := Cond.code y bytes maxL none ∈ hm_W ∧ Cond.initialized C ∈ hm_W ∧ Cond.instanceMethod y ∈ hm_W ∧ y.name = "<init>" ∧ (y.cls = C ∧ y.cls ≠ "java/lang/invoke/MethodHandle" ∧ y.cls ≠ "java/lang/invoke/VarHandle" ∧ (parseMethodDescriptor y.desc).map (fun d => d.parameters.length) = some n)
section HMK
variable {p : Program} {l : Launch} {e : Env} {R : Room} {s : State} {m : MethodId} {args : Array Value} {below : List Frame} {meth : Method} {c : Code} {H : Heap} {locs : List Loc} {cells slots mc ms : Nat} {Q : State → Prop}
variable {cc bytes : ByteArray} {nL maxL index n pc : Nat} {own C : String} {y : MethodName} {rm : Room} {b : Addr} {As rest st0 : List Value} {ls : Array Slot} {g : hm_G} {A : Nat → Prop} {ws ws' wc wr : va_W} {P : va_W → Prop}
theorem hm_mk (S : CallFix p m c cc nL s args hm_W own) (X : hm_X g A s H locs ws) (M : hm_Mc y bytes maxL C n) (hl : Cond.methodLink own index y ∈ hm_W) (hM : hm_Mk l y (Cond.code y bytes maxL none :: hm_W) rm g (.ref b :: As) wc P mc ms) (hp : ws.Perm (wc ++ wr))
    (hR : rm.cells = mc ∧ rm.slots = ms ∧ rm.frames + 1 ≤ R.frames ∧ 8 + (maxL + 11) + rm.locals ≤ R.locals) (hn : As.length = n) (hls : ls.size = nL) (hst : st0 = As.reverse ++ .ref b :: rest) (hW : (rest.map fun v => v.category).sum ≤ 8) (hdg : decode cc pc = .ok (.invokespecial index, 3)) (hf : cells + mc ≤ R.cells ∧ slots + ms ≤ R.slots)
    (kk : ∀ (w' : va_W) (H1 : Heap) (locs1 : List Loc), P w' → hm_X g A s H1 locs1 (wr ++ w') → W p l e R s m args below meth c H1 locs1 (cells + mc) (slots + ms) Q (F0 m (pc + 3) ls rest)) : W p l e R s m args below meth c H locs cells slots Q (F0 m pc ls st0) := by
  have hpre := X.pre hp (.ref b :: As)
  obtain ⟨h1, h2, h3, h4, hC, hd⟩ := M
  have hts := S.2.2.2.2
  subst hC
  refine va_callv (va_runI S (hM H.size) ⟨callB_of n hts (hm_gin (fun _ h => h) h1) rfl hR.1 hR.2.1 (hts _ h2) (hts _ hl) hd hR.2.2, h4, hts _ h3⟩ hpre rfl hn hls hst (lv_room hW) hdg hf) X.2.2.2.1 (fun q _ h => X.cutA hp q h) (X.cutA hp) (fun u t H1 locs1 ht hvm hr hB hz hk hS => ?_)
  rw [ht] at hB
  exact kk u H1 locs1 hr (X.joinN hp hB.1 hB.2 hk hS)
theorem hm_mkN {host : String} (S : CallFix p m c cc nL s args hm_W own) (X : hm_X g A s H locs ws) (M : hm_Mc y bytes maxL C n) (hl : va_Nw (.methodLinkNest own index y host) s) (hM : hm_Mk l y (Cond.code y bytes maxL none :: hm_W) rm g (.ref b :: As) wc P mc ms) (hp : ws.Perm (wc ++ wr))
    (hR : rm.cells = mc ∧ rm.slots = ms ∧ rm.frames + 1 ≤ R.frames ∧ 8 + (maxL + 11) + rm.locals ≤ R.locals) (hn : As.length = n) (hls : ls.size = nL) (hst : st0 = As.reverse ++ .ref b :: rest) (hW : (rest.map fun v => v.category).sum ≤ 8) (hdg : decode cc pc = .ok (.invokespecial index, 3)) (hf : cells + mc ≤ R.cells ∧ slots + ms ≤ R.slots)
    (kk : ∀ (w' : va_W) (H1 : Heap) (locs1 : List Loc), P w' → hm_X g A s H1 locs1 (wr ++ w') → W p l e R s m args below meth c H1 locs1 (cells + mc) (slots + ms) Q (F0 m (pc + 3) ls rest)) : W p l e R s m args below meth c H locs cells slots Q (F0 m pc ls st0) := by
  have hpre := X.pre hp (.ref b :: As)
  obtain ⟨h1, h2, h3, h4, hC, hd⟩ := M
  have hts := S.2.2.2.2
  subst hC
  refine va_callv (va_runIN S (hM H.size) ⟨va_cnB n hts (hm_gin (fun _ h => h) h1) rfl hR.1 hR.2.1 hl (hts _ h2) hd hR.2.2, h4, hts _ h3⟩ hpre rfl hn hls hst (lv_room hW) hdg hf) X.2.2.2.1 (fun q _ h => X.cutA hp q h) (X.cutA hp) (fun u t H1 locs1 ht hvm hr hB hz hk hS => ?_)
  rw [ht] at hB
  exact kk u H1 locs1 hr (X.joinN hp hB.1 hB.2 hk hS)
theorem hm_obj {index : Nat} {a : Addr} (S : CallFix p m c cc nL s args hm_W own) (hls : ls.size = nL) (hl : Cond.methodLink own index objectInit ∈ hm_W) (hf : 1 ≤ R.frames) (hlo : (rest.map fun v => v.category).sum + 12 ≤ R.locals) (hdg : decode cc pc = .ok (.invokespecial index, 3)) (kk : W p l e R s m args below meth c H locs cells slots Q (F0 m (pc + 3) ls rest)) : W p l e R s m args below meth c H locs cells slots Q (F0 m pc ls (.ref a :: rest)) := by
  obtain ⟨hx, hb, hml, hown, hts⟩ := S
  refine W.objInit hx hb hown (hts _ hl) (hts _ hw_1_18) (hts _ hw_1_19) rfl (by rw [hml]; exact hls) rfl hdg hf ?_ kk
  exact Nat.le_trans (Nat.le_of_eq (by simp [JFrame.monitorRoom])) hlo
theorem hm_cAI {cA' : ClassId} (X : hm_X g A s H locs ws) {cA : ClassId} {k : Nat} {ty : FieldType} (h : va_K g.1 vwCl (hm_ty g ++ [(cA, ty)]) s) (hk : (hm_ty g)[k]? = some (cA', ty)) (hty : ∀ C, ty ≠ .object C) : cA = cA' := by
  have h1 := (h.2 3 (cA, ty) rfl).2
  have h2 := (X.1.2 k (cA', ty) hk).2
  cases ty with
  | object C => exact absurd rfl (hty C)
  | _ => exact Option.some.inj ((show s.vm.findClass _ = some cA from h1).symm.trans h2)
theorem hm_newI {n0 : Int32} {N : Nat} (S : CallFix p m c cc nL s args hm_W own) (X : hm_X g A s H locs ws) (hn : ¬ n0 < 0) (hN : n0.toNatClampNeg = N) (hby : N * componentBytes .int ≤ 536870912) (hc : cells + 1 ≤ R.cells) (hs : slots + N ≤ R.slots) (hdg : decode cc pc = .ok (.newarray .int, 2))
    (kk : ∀ (q : Nat) (H1 : Heap), hm_X g A s H1 locs (ws ++ [hm_ci g q N (fun _ => 0)]) → W p l e R s m args below meth c H1 locs (cells + 1) (slots + N) Q (F0 m (pc + 2) ls (.ref q :: rest))) : W p l e R s m args below meth c H locs cells slots Q (F0 m pc ls (.int n0 :: rest)) := by
  have X0 := X
  obtain ⟨hK, hP, hD, hS, hA, hE⟩ := X
  obtain ⟨hx, hb, hml, hown, hts⟩ := S
  refine va_newa (atype := .int) (a0 := (N, .inl (fun _ => 0))) hx hb (hts _ hw_1_36) rfl hK hP hD hS hA (fun _ => rfl) hn hN hby hc hs hdg (fun q cA H1 hK1 hP1 hD1 hS1 => ?_)
  obtain rfl := hm_cAI (k := 0) X0 hK1 rfl (fun C h => by cases h)
  exact kk q H1 ⟨hK, hP1, hD1, hS1, hA, hE⟩
theorem hm_newZ {n0 : Int32} {N : Nat} (S : CallFix p m c cc nL s args hm_W own) (X : hm_X g A s H locs ws) (hn : ¬ n0 < 0) (hN : n0.toNatClampNeg = N) (hby : N * componentBytes .boolean ≤ 536870912) (hc : cells + 1 ≤ R.cells) (hs : slots + N ≤ R.slots) (hdg : decode cc pc = .ok (.newarray .boolean, 2))
    (kk : ∀ (q : Nat) (H1 : Heap), hm_X g A s H1 locs (ws ++ [hm_cz g q N (fun _ => 0)]) → W p l e R s m args below meth c H1 locs (cells + 1) (slots + N) Q (F0 m (pc + 2) ls (.ref q :: rest))) : W p l e R s m args below meth c H locs cells slots Q (F0 m pc ls (.int n0 :: rest)) := by
  have X0 := X
  obtain ⟨hK, hP, hD, hS, hA, hE⟩ := X
  obtain ⟨hx, hb, hml, hown, hts⟩ := S
  refine va_newa (atype := .boolean) (a0 := (N, .inl (fun _ => 0))) hx hb (hts _ hw_1_118) rfl hK hP hD hS hA (fun _ => rfl) hn hN hby hc hs hdg (fun q cA H1 hK1 hP1 hD1 hS1 => ?_)
  obtain rfl := hm_cAI (k := 2) X0 hK1 rfl (fun C h => by cases h)
  exact kk q H1 ⟨hK, hP1, hD1, hS1, hA, hE⟩
theorem hm_newJ {n0 : Int32} {N : Nat} (S : CallFix p m c cc nL s args hm_W own) (X : hm_X g A s H locs ws) (hn : ¬ n0 < 0) (hN : n0.toNatClampNeg = N) (hby : N * componentBytes .long ≤ 536870912) (hc : cells + 1 ≤ R.cells) (hs : slots + N ≤ R.slots) (hdg : decode cc pc = .ok (.newarray .long, 2))
    (kk : ∀ (q : Nat) (H1 : Heap), hm_X g A s H1 locs (ws ++ [hm_cj g q N (fun _ => 0)]) → W p l e R s m args below meth c H1 locs (cells + 1) (slots + N) Q (F0 m (pc + 2) ls (.ref q :: rest))) : W p l e R s m args below meth c H locs cells slots Q (F0 m pc ls (.int n0 :: rest)) := by
  have X0 := X
  obtain ⟨hK, hP, hD, hS, hA, hE⟩ := X
  obtain ⟨hx, hb, hml, hown, hts⟩ := S
  refine va_newa (atype := .long) (a0 := (N, .inr (.inl (fun _ => 0)))) hx hb (hts _ hw_1_220) rfl hK hP hD hS hA (fun _ => rfl) hn hN hby hc hs hdg (fun q cA H1 hK1 hP1 hD1 hS1 => ?_)
  obtain rfl := hm_cAI (k := 1) X0 hK1 rfl (fun C h => by cases h)
  exact kk q H1 ⟨hK, hP1, hD1, hS1, hA, hE⟩
theorem hm_new {T : u_T} {N ci : Nat} {ty : Nat → FieldType} {fs : List Value} (S : CallFix p m c cc nL s args hm_W own) (X : hm_X g A s H locs ws) (hin : ∀ w ∈ u_ws C T N, w ∈ hm_W) (hty : ∀ k, k < N → parseFieldDescriptor (T k).2.2.1 = some (ty k)) (h1 : Cond.classLink own index C ∈ hm_W) (h2 : Cond.instantiable C N ∈ hm_W) (h3 : Cond.initialized C ∈ hm_W) (hcl : vwCl[ci]? = some (C, T, N)) (hfs : ∀ j, j < N → defaultValue (ty j) = vp_V fs j) (hc : cells + 1 ≤ R.cells) (hs : slots + N ≤ R.slots) (hdg : decode cc pc = .ok (.new index, 3))
    (kk : ∀ (q : Nat) (H1 : Heap), hm_X g A s H1 locs (ws ++ [(q, .inr (ci, fs))]) → W p l e R s m args below meth c H1 locs (cells + 1) (slots + N) Q (F0 m (pc + 3) ls (.ref q :: rest))) : W p l e R s m args below meth c H locs cells slots Q (F0 m pc ls rest) := by
  obtain ⟨hK, hP, hD, hS, hA, hE⟩ := X
  obtain ⟨hx, hb, hml, hown, hts⟩ := S
  exact va_new hx hb hts hin ty hty hown (hts _ h1) (hts _ h2) (hts _ h3) hK hP hD hS hA hcl hfs hc hs hdg (fun q H1 hP1 hD1 hS1 => kk q H1 ⟨hK, hP1, hD1, hS1, hA, hE⟩)
def hm_Fq (C : String) (T : u_T) (N k : Nat) (ty : FieldType) : Prop := ∃ ty0 : Nat → FieldType, (∀ k, k < N → parseFieldDescriptor (T k).2.2.1 = some (ty0 k)) ∧ (∀ a, a < N → ∀ b, b < N → a ≠ b → (T a).2.1 ≠ (T b).2.1) ∧ (T k).2.2.2 = true ∧ parseFieldDescriptor (T k).2.2.1 = some ty
theorem hm_putF {a ci k N : Nat} {T : u_T} {fs : List Value} {v : Value} {ty : FieldType} (S : CallFix p m c cc nL s args hm_W own) (hin : meth.name = "<init>") (X : hm_X g A s H locs ws) (F : hm_Fl own index ci k C T N) (G : hm_Fq C T N k ty) (hoc : C = own) (he : ws[0]? = some (a, .inr (ci, fs))) (hn : narrow ty v = v) (hfit : fits ty v = true) (hl : k < fs.length) (hdg : decode cc pc = .ok (.putfield index, 3))
    (kk : ∀ (H1 : Heap) (locs1 : List Loc), hm_X g A s H1 locs1 (ws.set 0 (a, .inr (ci, fs.set k v))) → W p l e R s m args below meth c H1 locs1 cells slots Q (F0 m (pc + 3) ls rest)) : W p l e R s m args below meth c H locs cells slots Q (F0 m pc ls (v :: .ref a :: rest)) := by
  obtain ⟨f1, f2, f3, f4, f5⟩ := F
  obtain ⟨ty0, g1, g2, g3, g4⟩ := G
  obtain ⟨hx, hb, -, hown, hts⟩ := S
  obtain ⟨hK, hP, hD, hS, hA, hE⟩ := X
  exact va_putF (ref := C) hx hb hts f1 ty0 g1 g2 hown hK hP hD hS 0 he f2 k f3 (hts _ f4) (fun x h => by rw [f5] at h; exact h) g3 hin (f5.trans hoc) g4 hn hfit hl hdg (fun H1 locs1 hP hD hS => kk H1 locs1 ⟨hK, hP, hD, hS, hA, hE⟩)
theorem hm_rk (S : CallFix p m c cc nL s args hm_W own) (hr : meth.sig.returnType = none) (hlk : meth.locks = false) (X : hm_X g A s H locs ws) (hP : P ws) (hdg : decode cc pc = .ok (.return_, 1)) : W p l e R s m args below meth c H locs cells slots (MQ below (va_Qv P (fun w' t => va_P g.1 vwCl w' t.heap ∧ va_D A w') A) args s cells slots A) (F0 m pc ls []) := W.vret S.1 S.2.1 hr (fun t ht hW => ⟨⟨ws, rfl, hP, by rw [ht]; exact X.2.1, X.2.2.1⟩, X.2.2.2.1.F ht⟩) X.2.2.2.1.2.2 hdg
end HMK
theorem hm_ofk {l : Launch} {y : MethodName} {rm : Room} {g : hm_G} {av : List Value} {w : va_W} {P : va_W → Prop} {cc : ByteArray} {maxL mc ms : Nat} {own : String} (lv : List (Nat × Value)) (hy : plainName y.cls = true) (hown : y.cls = own) (hname : y.name = "<init>") (hlen : (lg_sl av).length ≤ maxL) (hlv : lv_args 0 av = lv)
    (body : ∀ (p : Program) (e : Env) (s : State) (m : MethodId) (args : Array Value) (below : List Frame) (meth : Method) (c : Code) (A : Nat → Prop), CallFix p m c cc maxL s args hm_W own → meth.sig.returnType = none → meth.locks = false → meth.name = "<init>" → hm_X g A s s.heap [] w → ∀ ls : Array Slot, lv_has ls maxL lv → W p l e rm s m args below meth c s.heap [] 0 0 (MQ below (va_Qv P (fun w' t => va_P g.1 vwCl w' t.heap ∧ va_D A w') A) args s mc ms A) (F0 m 0 ls [])) : hm_Mk l y (Cond.code y cc maxL none :: hm_W) rm g av w P mc ms := by
  intro sz
  refine Met.ofW (cc := cc) (maxL := maxL) (ret := none) hy rfl ?_
  intro p e s m args below meth c s₁ B hml hv
  obtain ⟨rfl, hsz, hP, hK, hD, hE⟩ := hv
  subst hsz
  have hts := atoms_spec (ws := Cond.code y cc maxL none :: hm_W) B.pre
  have hl := lv_entry av (n := maxL) hlen
  rw [lg_entry_eq]
  rw [hlv] at hl
  exact body p e s m av.toArray below meth c _ ⟨B.exec, B.bytes, hml, by rw [← hown]; exact findClass_of_methodNamed B.named, fun w hw => hts w (List.mem_cons_of_mem _ hw)⟩ B.returns B.notSynchronized (((name_of_methodNamed B.named B.method).1).trans hname) (hm_X.start hP hK hD hE) _ hl
