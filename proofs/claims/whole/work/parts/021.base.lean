theorem hm_bl_z {v w : Int32} (h : hm_bl v = some w) : v = 0 ∨ v = 1 := by
  obtain ⟨e, h1⟩ := hm_bl_s h
  rw [e]
  exact h1
theorem hm_same {w : va_W} : w.Perm (w ++ []) := by rw [List.append_nil]
def hm_cy (n0 : Nat) (f : Nat → Int32) (sp : Int32) (n1 : Nat) (h : Nat → Int32) (dp n : Int32) : Option (Nat → Int32) := if ¬ sp < 0 ∧ ¬ dp < 0 ∧ ¬ n < 0 ∧ sp.toNatClampNeg + n.toNatClampNeg ≤ n0 ∧ dp.toNatClampNeg + n.toNatClampNeg ≤ n1 then some (va_cpy f h sp.toNatClampNeg dp.toNatClampNeg n.toNatClampNeg) else none
theorem hm_cy_s {n0 : Nat} {f : Nat → Int32} {sp : Int32} {n1 : Nat} {h h' : Nat → Int32} {dp n : Int32} (e : hm_cy n0 f sp n1 h dp n = some h') : (¬ sp < 0 ∧ ¬ dp < 0 ∧ ¬ n < 0 ∧ sp.toNatClampNeg + n.toNatClampNeg ≤ n0 ∧ dp.toNatClampNeg + n.toNatClampNeg ≤ n1) ∧ va_cpy f h sp.toNatClampNeg dp.toNatClampNeg n.toNatClampNeg = h' := by
  unfold hm_cy at e
  split at e
  · exact ⟨by assumption, Option.some.inj e⟩
  · cases e
theorem hm_out {x : Int32} (lo hi : Int) (vs : List Int32) (hc : (List.range (hi - lo + 1).toNat).all (fun k => vs.any (fun v => v.toInt == lo + (k : Int))) = true) (h : ∀ v ∈ vs, ¬ x = v) : x.toInt < lo ∨ hi < x.toInt := by
  by_cases h1 : x.toInt < lo
  · exact Or.inl h1
  · by_cases h2 : hi < x.toInt
    · exact Or.inr h2
    · exfalso
      have hk : (x.toInt - lo).toNat < (hi - lo + 1).toNat := by omega
      have h3 := List.all_eq_true.mp hc _ (List.mem_range.mpr hk)
      obtain ⟨v, hv, he⟩ := List.any_eq_true.mp h3
      have he : v.toInt = lo + (((x.toInt - lo).toNat : Nat) : Int) := by simpa using he
      have he : v.toInt = x.toInt := by omega
      exact h v hv (Int32.toInt_inj.mp he.symm)
section HMT
variable {p : Program} {l : Launch} {e : Env} {R : Room} {s : State} {m : MethodId} {args : Array Value} {below : List Frame} {meth : Method} {c : Code} {H : Heap} {locs : List Loc} {cells slots : Nat} {Q : State → Prop}
variable {cc : ByteArray} {nL pc : Nat} {own : String} {rest : List Value} {ls : Array Slot} {g : hm_G} {A : Nat → Prop} {ws : va_W}
theorem hm_idiv {x y z : Int32} (hx : p.tables.exec = Jvm.exec) (hb : c.code = cc) (h : hm_dv x y = some z) (hdg : decode cc pc = .ok (.idiv, 1)) (kk : W p l e R s m args below meth c H locs cells slots Q (F0 m (pc + 1) ls (.int z :: rest))) : W p l e R s m args below meth c H locs cells slots Q (F0 m pc ls (.int y :: .int x :: rest)) := by
  obtain ⟨h1, h2⟩ := hm_dv_s h
  subst h2
  exact lv_idiv hx hb hdg h1 kk
theorem hm_irem {x y z : Int32} (hx : p.tables.exec = Jvm.exec) (hb : c.code = cc) (h : hm_rm x y = some z) (hdg : decode cc pc = .ok (.irem, 1)) (kk : W p l e R s m args below meth c H locs cells slots Q (F0 m (pc + 1) ls (.int z :: rest))) : W p l e R s m args below meth c H locs cells slots Q (F0 m pc ls (.int y :: .int x :: rest)) := by
  obtain ⟨h1, h2⟩ := hm_rm_s h
  subst h2
  exact lv_irem hx hb hdg h1 kk
theorem hm_tabIn {dflt lo hi off k : Int} {offs : Array Int} {len tgt : Nat} {x v : Int32} (hx : p.tables.exec = Jvm.exec) (hb : c.code = cc) (hdg : decode cc pc = .ok (.tableswitch dflt lo hi offs, len)) (hc : x = v) (hv : v.toInt = k) (h1 : ¬ k < lo) (h2 : ¬ hi < k) (ho : offs[(k - lo).toNat]? = some off) (ht : (pc : Int) + off = (tgt : Int)) (kk : W p l e R s m args below meth c H locs cells slots Q (F0 m tgt ls rest)) : W p l e R s m args below meth c H locs cells slots Q (F0 m pc ls (.int x :: rest)) := by
  subst hc
  subst hv
  exact lv_tableIn hx hb hdg h1 h2 ho ht kk
theorem hm_sld {n : String} {xs : Nat → Int32} {t : Nat} {i x : Int32} (hx : p.tables.exec = Jvm.exec) (hb : c.code = cc) (z : hm_Z n xs t A s s.heap) (hS : va_S A s.heap H locs) (h : hm_rd 4 xs i = some x) (hdg : decode cc pc = .ok (.iaload, 1)) (kk : W p l e R s m args below meth c H locs cells slots Q (F0 m (pc + 1) ls (.int x :: rest))) : W p l e R s m args below meth c H locs cells slots Q (F0 m pc ls (.int i :: .ref t :: rest)) := by
  obtain ⟨h1, h2⟩ := hm_rd_s h
  subst h2
  exact va_ti hx hb z.2 hS h1 rfl hdg kk
theorem hm_slen {n : String} {xs : Nat → Int32} {t : Nat} (hx : p.tables.exec = Jvm.exec) (hb : c.code = cc) (z : hm_Z n xs t A s s.heap) (hS : va_S A s.heap H locs) (hdg : decode cc pc = .ok (.arraylength, 1)) (kk : W p l e R s m args below meth c H locs cells slots Q (F0 m (pc + 1) ls (.int 4 :: rest))) : W p l e R s m args below meth c H locs cells slots Q (F0 m pc ls (.ref t :: rest)) := va_tlen hx hb z.2 hS rfl hdg kk
theorem hm_mmax {index : Nat} {x y : Int32} (S : CallFix p m c cc nL s args hm_W own) (hls : ls.size = nL) (hl : Cond.methodLink own index Lib.Math.max.name ∈ hm_W) (hf : 1 ≤ R.frames) (hlo : (rest.map fun v => v.category).sum + 13 ≤ R.locals) (hc : cells ≤ R.cells) (hs : slots ≤ R.slots) (hdg : decode cc pc = .ok (.invokestatic index, 3)) (kk : W p l e R s m args below meth c H locs cells slots Q (F0 m (pc + 3) ls (.int (if x < y then y else x) :: rest))) : W p l e R s m args below meth c H locs cells slots Q (F0 m pc ls (.int y :: .int x :: rest)) := by
  obtain ⟨hx, hb, hml, hown, hts⟩ := S
  exact va_mmax hx hb (hml.trans hls.symm) hown (hts _ hl) (hts _ hw_1_27) (hts _ hw_1_3) (hts _ hw_1_28) hf hlo hc hs hdg kk
theorem hm_mmin {index : Nat} {x y : Int32} (S : CallFix p m c cc nL s args hm_W own) (hls : ls.size = nL) (hl : Cond.methodLink own index Lib.Math.min.name ∈ hm_W) (hf : 1 ≤ R.frames) (hlo : (rest.map fun v => v.category).sum + 13 ≤ R.locals) (hc : cells ≤ R.cells) (hs : slots ≤ R.slots) (hdg : decode cc pc = .ok (.invokestatic index, 3)) (kk : W p l e R s m args below meth c H locs cells slots Q (F0 m (pc + 3) ls (.int (if y < x then y else x) :: rest))) : W p l e R s m args below meth c H locs cells slots Q (F0 m pc ls (.int y :: .int x :: rest)) := by
  obtain ⟨hx, hb, hml, hown, hts⟩ := S
  exact va_mmin hx hb (hml.trans hls.symm) hown (hts _ hl) (hts _ hw_3_22) (hts _ hw_1_3) (hts _ hw_3_23) hf hlo hc hs hdg kk
theorem hm_copy {index n0 n1 a0 a : Nat} {f h h' : Nat → Int32} {sp dp n : Int32} (S : CallFix p m c cc nL s args hm_W own) (X : hm_X g A s H locs ws) (hc : hm_cy n0 f sp n1 h dp n = some h') (q0 q1 : Nat) (ha0 : ws[q0]? = some (a0, .inl (g.2.1, n0, .inl f))) (ha1 : ws[q1]? = some (a, .inl (g.2.1, n1, .inl h))) (hls : ls.size = nL) (hl : Cond.methodLink own index arraycopyName ∈ hm_W) (hf : 1 ≤ R.frames) (hlo : (rest.map fun v => v.category).sum + (nativeFrameWords "java/lang/System" "arraycopy" 5 + 11) ≤ R.locals) (hdg : decode cc pc = .ok (.invokestatic index, 3))
    (kk : ∀ (H1 : Heap) (locs1 : List Loc), hm_X g A s H1 locs1 (ws.set q1 (a, .inl (g.2.1, n1, .inl h'))) → W p l e R s m args below meth c H1 locs1 cells slots Q (F0 m (pc + 3) ls rest)) : W p l e R s m args below meth c H locs cells slots Q (F0 m pc ls (.int n :: .int dp :: .ref a :: .int sp :: .ref a0 :: rest)) := by
  obtain ⟨hx, hb, hml, hown, hts⟩ := S
  obtain ⟨⟨h1, h2, h3, h4, h5⟩, h6⟩ := hm_cy_s hc
  subst h6
  obtain ⟨hK, hP, hD, hS, hA, hE⟩ := X
  exact va_copyi hx hb (hml.trans hls.symm) hown (hts _ hl) (hts _ hw_4_49) (hts _ hw_4_48) (hts _ hw_1_11) hK hP hD hS q0 q1 0 0 ha0 ha1 rfl rfl rfl h1 h2 h3 h4 h5 (fun _ _ => rfl) hf hlo hdg (fun H1 locs1 hP hD hS => kk H1 locs1 ⟨hK, hP, hD, hS, hA, hE⟩)
end HMT
theorem hm_mid (pre post : List va_W) {b : va_W} : (pre ++ b :: post).flatten.Perm ([b].flatten ++ (pre ++ post).flatten) := by
  rw [List.flatten_append, List.flatten_cons, List.flatten_append, List.flatten_singleton, ← List.append_assoc, ← List.append_assoc]
  exact List.Perm.append_right _ List.perm_append_comm
theorem hm_non {w : va_W} : w.Perm (([] : va_W) ++ w) := List.Perm.refl _
theorem hm_all {w : va_W} : w.Perm (w ++ []) := by rw [List.append_nil]
theorem hm_cq {bs : List va_W} {wc wr : va_W} {n : Nat} (is rs : List Nat) (hn : bs.length = n) (h : (is ++ rs).isPerm (List.range n) = true) (hc : wc = (is.map (fun i => bs.getD i [])).flatten) (hr : wr = (rs.map (fun i => bs.getD i [])).flatten) : bs.flatten.Perm (wc ++ wr) := by
  subst hn
  exact hm_cp is rs h hc hr
