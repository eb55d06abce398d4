/-! CONSTRUCTORS: a straight row of instructions that makes cells -/
def nw_C (D : va_G) (TY : List (ClassId × FieldType)) (own : String) (cc : ByteArray) (maxL fr lo mc ms : Nat) (p : Program) (R : Room) (s : State) (m : MethodId) (args : Array Value) (meth : Method) (c : Code) (A : Nat → Prop) : Prop :=
  p.tables.exec = Jvm.exec ∧ c.code = cc ∧ c.maxLocals = maxL ∧ s.vm.findClass own = some m.cls ∧ (∀ w ∈ vm_WS, w.before args s = true) ∧ (∀ w ∈ vm_WN, va_Nw w s) ∧ (fr ≤ R.frames ∧ lo ≤ R.locals ∧ mc ≤ R.cells ∧ ms ≤ R.slots) ∧ va_K D vwCl TY s ∧ (∀ q, s.heap.size ≤ q → A q) ∧ (own ≠ RL → meth.name = "<init>")
def nw_H (D : va_G) (w : va_W) (A : Nat → Prop) (s : State) (H : Heap) (locs : List Loc) : Prop := va_P D vwCl w H ∧ va_D A w ∧ va_S A s.heap H locs
/-- from this point (place, locals, stack, cells) the row comes to its end pcE, with Sh of the cells and the locals -/
def nw_ex (l : Launch) (D : va_G) (TY : List (ClassId × FieldType)) (own : String) (cc : ByteArray) (maxL fr lo mc ms pcE : Nat) (Sh : va_W → List (Nat × Value) → Prop) (pc : Nat) (lc : List (Nat × Value)) (st : List Value) (w : va_W) (kc ks : Nat) : Prop :=
  ∀ (p : Program) (e : Env) (R : Room) (s : State) (m : MethodId) (args : Array Value) (below : List Frame) (meth : Method) (c : Code) (A : Nat → Prop) (Z : State → Prop), nw_C D TY own cc maxL fr lo mc ms p R s m args meth c A →
    ∀ (H : Heap) (locs : List Loc) (ls : Array Slot), nw_H D w A s H locs → lv_has ls maxL lc →
    (∀ (H' : Heap) (locs' : List Loc) (ls' : Array Slot) (w' : va_W) (lc' : List (Nat × Value)), Sh w' lc' → nw_H D w' A s H' locs' → lv_has ls' maxL lc' → W p l e R s m args below meth c H' locs' mc ms Z (F0 m pcE ls' [])) →
    W p l e R s m args below meth c H locs kc ks Z (F0 m pc ls st)
def nw_Pre (D : va_G) (TY : List (ClassId × FieldType)) (w0 : va_W) (sz : Nat) : State → Prop := fun U => U.heap.size = sz ∧ va_P D vwCl w0 U.heap ∧ va_K D vwCl TY U ∧ va_D (fun _ => True) w0 ∧ ∀ w ∈ vm_WN, va_Nw w U
def nw_Q (D : va_G) (TY : List (ClassId × FieldType)) (w0 : va_W) (sz : Nat) (Sh : va_W → Prop) : Array Value → State → Outcome → State → Prop := va_Qv Sh (fun (w1 : va_W) t => va_P D vwCl w1 t.heap ∧ va_K D vwCl TY t ∧ va_D (va_A w0 sz) w1) (va_A w0 sz)
/-- A CONSTRUCTOR: from the new object and its arguments it comes back, with Sh of the cells -/
def nw_ct (l : Launch) (D : va_G) (TY : List (ClassId × FieldType)) (y : MethodName) (bytes : ByteArray) (maxL fr lo mc ms : Nat) (w0 : va_W) (av : List Value) (Sh : va_W → Prop) : Prop :=
  ∀ sz : Nat, Met l y (.code y bytes maxL none :: vm_WS) ({ frames := fr, cells := mc, slots := ms, locals := lo }) (va_Pc av (nw_Pre D TY w0 sz)) (nw_Q D TY w0 sz Sh) mc ms (va_A w0 sz)
theorem nw_blind (D : va_G) (TY : List (ClassId × FieldType)) (w0 : va_W) (sz : Nat) (av : List Value) : FrameBlind (va_Pc av (nw_Pre D TY w0 sz)) := by
  intro a U g mk q
  obtain ⟨q0, q1, q2, q3, q4, q5⟩ := q
  exact ⟨q0, q1, q2, va_K.moved (u := U) (U := U.calling g mk a) (Vm.Alike.refl U.vm) q3, q4, fun w hw => va_tabs (by have := (List.mem_filter.mp hw).2; cases w <;> first | rfl | (simp [vm_isN] at this; done)) (rfl : U.vm = (U.calling g mk a).vm) (q5 w hw)⟩
/-- two classes of arrays of one type are one -/
theorem va_K.one {D : va_G} {cl : List vw_C} {TY : List (ClassId × FieldType)} {s : State} {cA cT : ClassId} {ty : FieldType} (h : va_K D cl (TY ++ [(cA, ty)]) s) (t0 : Nat) (ht : TY[t0]? = some (cT, ty)) (hp : ty = .int ∨ ty = .char ∨ ty = .boolean) : cA = cT := by
  have h1 := (h.2 TY.length (cA, ty) (by simp)).2
  have h2 := (h.2 t0 (cT, ty) (by
    have hl : t0 < TY.length := (List.getElem?_eq_some_iff.mp ht).1
    rw [List.getElem?_append_left hl]; exact ht)).2
  rcases hp with rfl | rfl | rfl
  · exact Option.some.inj (Eq.trans (Eq.symm (show s.vm.findClass _ = some cA from h1)) (show s.vm.findClass _ = some cT from h2))
  · exact Option.some.inj (Eq.trans (Eq.symm (show s.vm.findClass _ = some cA from h1)) (show s.vm.findClass _ = some cT from h2))
  · exact Option.some.inj (Eq.trans (Eq.symm (show s.vm.findClass _ = some cA from h1)) (show s.vm.findClass _ = some cT from h2))
section NWK
variable {l : Launch} {D : va_G} {TY : List (ClassId × FieldType)} {own : String} {cc : ByteArray} {maxL fr lo mc ms pcE : Nat} {Sh : va_W → List (Nat × Value) → Prop} {pc : Nat} {lc : List (Nat × Value)} {st : List Value} {w : va_W} {kc ks : Nat}
theorem nw_end (h : Sh w lc) (hk : kc ≤ mc) (hs : ks ≤ ms) : nw_ex l D TY own cc maxL fr lo mc ms pcE Sh pcE lc [] w kc ks := by
  intro p e R s m args below meth c A Z Cx H locs ls hH hl hret
  exact W.widen hk hs (hret H locs ls w lc h hH hl)
theorem nw_eq {w' : va_W} (e : w = w') (h : nw_ex l D TY own cc maxL fr lo mc ms pcE Sh pc lc st w' kc ks) : nw_ex l D TY own cc maxL fr lo mc ms pcE Sh pc lc st w kc ks := by
  subst e; exact h
theorem nw_aload {k : Fin 4} {a : Nat} (hd : decode cc pc = .ok (.aload_n k, 1)) (j : Nat) (hj : lc[j]? = some (k.val, .ref a)) (h : nw_ex l D TY own cc maxL fr lo mc ms pcE Sh (pc + 1) lc (.ref a :: st) w kc ks) : nw_ex l D TY own cc maxL fr lo mc ms pcE Sh pc lc st w kc ks := by
  intro p e R s m args below meth c A Z Cx H locs ls hH hl hret
  obtain ⟨hx, hb, hml, hown, hts, hnn, hR, hK, hA, hin⟩ := id Cx
  exact lv_aload_n hx hb hd rfl (lv_at hl j hj) (h p e R s m args below meth c A Z Cx H locs ls hH hl hret)
theorem nw_iload {k : Fin 4} {a : Int32} (hd : decode cc pc = .ok (.iload_n k, 1)) (j : Nat) (hj : lc[j]? = some (k.val, .int a)) (h : nw_ex l D TY own cc maxL fr lo mc ms pcE Sh (pc + 1) lc (.int a :: st) w kc ks) : nw_ex l D TY own cc maxL fr lo mc ms pcE Sh pc lc st w kc ks := by
  intro p e R s m args below meth c A Z Cx H locs ls hH hl hret
  obtain ⟨hx, hb, hml, hown, hts, hnn, hR, hK, hA, hin⟩ := id Cx
  exact lv_iload_n hx hb hd rfl (lv_at hl j hj) (h p e R s m args below meth c A Z Cx H locs ls hH hl hret)
theorem nw_iconst {n : Int} {v : Int32} (hd : decode cc pc = .ok (.iconst n, 1)) (hv : Int32.ofInt n = v) (h : nw_ex l D TY own cc maxL fr lo mc ms pcE Sh (pc + 1) lc (.int v :: st) w kc ks) : nw_ex l D TY own cc maxL fr lo mc ms pcE Sh pc lc st w kc ks := by
  intro p e R s m args below meth c A Z Cx H locs ls hH hl hret
  obtain ⟨hx, hb, hml, hown, hts, hnn, hR, hK, hA, hin⟩ := id Cx
  exact lv_iconst hx hb hd hv (h p e R s m args below meth c A Z Cx H locs ls hH hl hret)
theorem nw_bipush {n : Int} {v : Int32} (hd : decode cc pc = .ok (.bipush n, 2)) (hv : (Int8.ofInt n).toInt32 = v) (h : nw_ex l D TY own cc maxL fr lo mc ms pcE Sh (pc + 2) lc (.int v :: st) w kc ks) : nw_ex l D TY own cc maxL fr lo mc ms pcE Sh pc lc st w kc ks := by
  intro p e R s m args below meth c A Z Cx H locs ls hH hl hret
  obtain ⟨hx, hb, hml, hown, hts, hnn, hR, hK, hA, hin⟩ := id Cx
  exact lv_bipush hx hb hd hv (h p e R s m args below meth c A Z Cx H locs ls hH hl hret)
theorem nw_sipush {n : Int} {v : Int32} (hd : decode cc pc = .ok (.sipush n, 3)) (hv : (Int16.ofInt n).toInt32 = v) (h : nw_ex l D TY own cc maxL fr lo mc ms pcE Sh (pc + 3) lc (.int v :: st) w kc ks) : nw_ex l D TY own cc maxL fr lo mc ms pcE Sh pc lc st w kc ks := by
  intro p e R s m args below meth c A Z Cx H locs ls hH hl hret
  obtain ⟨hx, hb, hml, hown, hts, hnn, hR, hK, hA, hin⟩ := id Cx
  exact lv_sipush hx hb hd hv (h p e R s m args below meth c A Z Cx H locs ls hH hl hret)
theorem nw_imul {x y v : Int32} (hd : decode cc pc = .ok (.imul, 1)) (hv : x * y = v) (h : nw_ex l D TY own cc maxL fr lo mc ms pcE Sh (pc + 1) lc (.int v :: st) w kc ks) : nw_ex l D TY own cc maxL fr lo mc ms pcE Sh pc lc (.int y :: .int x :: st) w kc ks := by
  intro p e R s m args below meth c A Z Cx H locs ls hH hl hret
  obtain ⟨hx, hb, hml, hown, hts, hnn, hR, hK, hA, hin⟩ := id Cx
  subst hv
  exact lv_imul hx hb hd (h p e R s m args below meth c A Z Cx H locs ls hH hl hret)
theorem nw_dup {a : Nat} (hd : decode cc pc = .ok (.dup, 1)) (h : nw_ex l D TY own cc maxL fr lo mc ms pcE Sh (pc + 1) lc (.ref a :: .ref a :: st) w kc ks) : nw_ex l D TY own cc maxL fr lo mc ms pcE Sh pc lc (.ref a :: st) w kc ks := by
  intro p e R s m args below meth c A Z Cx H locs ls hH hl hret
  obtain ⟨hx, hb, hml, hown, hts, hnn, hR, hK, hA, hin⟩ := id Cx
  exact lv_dup hx hb hd rfl (h p e R s m args below meth c A Z Cx H locs ls hH hl hret)
theorem nw_astore {k : Fin 4} {a : Nat} {lc' : List (Nat × Value)} (hd : decode cc pc = .ok (.astore_n k, 1)) (hn : k.val < maxL) (hl' : (k.val, Value.ref a) :: lc.filter (fun q => !(q.1 == k.val) && !(q.1 + 1 == k.val && q.2.category == 2)) = lc') (h : nw_ex l D TY own cc maxL fr lo mc ms pcE Sh (pc + 1) lc' st w kc ks) : nw_ex l D TY own cc maxL fr lo mc ms pcE Sh pc lc (.ref a :: st) w kc ks := by
  intro p e R s m args below meth c A Z Cx H locs ls hH hl hret
  obtain ⟨hx, hb, hml, hown, hts, hnn, hR, hK, hA, hin⟩ := id Cx
  exact lv_astore_n hx hb hd rfl hl hn hl' (fun ls' h' => h p e R s m args below meth c A Z Cx H locs ls' hH h' hret)
theorem nw_istore {k : Fin 4} {a : Int32} {lc' : List (Nat × Value)} (hd : decode cc pc = .ok (.istore_n k, 1)) (hn : k.val < maxL) (hl' : (k.val, Value.int a) :: lc.filter (fun q => !(q.1 == k.val) && !(q.1 + 1 == k.val && q.2.category == 2)) = lc') (h : nw_ex l D TY own cc maxL fr lo mc ms pcE Sh (pc + 1) lc' st w kc ks) : nw_ex l D TY own cc maxL fr lo mc ms pcE Sh pc lc (.int a :: st) w kc ks := by
  intro p e R s m args below meth c A Z Cx H locs ls hH hl hret
  obtain ⟨hx, hb, hml, hown, hts, hnn, hR, hK, hA, hin⟩ := id Cx
  exact lv_istore_n hx hb hd rfl hl hn hl' (fun ls' h' => h p e R s m args below meth c A Z Cx H locs ls' hH h' hret)
theorem nw_obj {idx a : Nat} (hd : decode cc pc = .ok (.invokespecial idx, 3)) (hl1 : Cond.methodLink own idx objectInit ∈ vm_WS) (hl2 : Cond.instanceMethod objectInit ∈ vm_WS) (hl3 : Cond.code objectInit ⟨#[0xb1]⟩ 1 none ∈ vm_WS) (hf : 1 ≤ fr) (ho : 12 ≤ lo) (h : nw_ex l D TY own cc maxL fr lo mc ms pcE Sh (pc + 3) lc [] w kc ks) : nw_ex l D TY own cc maxL fr lo mc ms pcE Sh pc lc [.ref a] w kc ks := by
  intro p e R s m args below meth c A Z Cx H locs ls hH hl hret
  obtain ⟨hx, hb, hml, hown, hts, hnn, hR, hK, hA, hin⟩ := id Cx
  refine W.objInit hx hb hown (hts _ hl1) (hts _ hl2) (hts _ hl3) rfl (by rw [hml]; exact hl.1) rfl hd (Nat.le_trans hf hR.1) (Nat.le_trans ho hR.2.1) ?_
  refine W.eq (g2 := F0 m (pc + 3) ls []) rfl ?_
  exact h p e R s m args below meth c A Z Cx H locs ls hH hl hret
theorem nw_new {idx ci N : Nat} {C : String} {T : u_T} {ty : Nat → FieldType} {fs : List Value} (hd : decode cc pc = .ok (.new idx, 3)) (hcl : vm_clk ci C T N ty) (h1 : Cond.classLink own idx C ∈ vm_WS) (h2 : Cond.instantiable C N ∈ vm_WS) (h3 : Cond.initialized C ∈ vm_WS) (hfs : ∀ j, j < N → defaultValue (ty j) = vp_V fs j) (hk : kc + 1 ≤ mc) (hs : ks + N ≤ ms)
    (h : ∀ q : Nat, nw_ex l D TY own cc maxL fr lo mc ms pcE Sh (pc + 3) lc (.ref q :: st) (w ++ [(q, .inr (ci, fs))]) (kc + 1) (ks + N)) : nw_ex l D TY own cc maxL fr lo mc ms pcE Sh pc lc st w kc ks := by
  intro p e R s m args below meth c A Z Cx H locs ls hH hl hret
  obtain ⟨hx, hb, hml, hown, hts, hnn, hR, hK, hA, hin⟩ := id Cx
  obtain ⟨hP, hD, hS⟩ := hH
  obtain ⟨c1, c2, c3, c4, c5⟩ := hcl
  exact va_new (fs := fs) hx hb hts c2 ty c3 hown (hts _ h1) (hts _ h2) (hts _ h3) hK hP hD hS hA c1 hfs (Nat.le_trans hk hR.2.2.1) (Nat.le_trans hs hR.2.2.2) hd (fun q H1 hP1 hD1 hS1 => h q p e R s m args below meth c A Z Cx H1 locs ls ⟨hP1, hD1, hS1⟩ hl hret)
theorem nw_newarr {atype : ArrayType} {ty : FieldType} {n : Int32} {N' : Nat} {cT : ClassId} (t0 : Nat) (hd : decode cc pc = .ok (.newarray atype, 2)) (ht : TY[t0]? = some (cT, ty)) (hty : newarray.typeOf atype = ty) (hp : ty = .int ∨ ty = .char ∨ ty = .boolean) (h1 : Cond.arrayClass ty ∈ vm_WS) (hn : ¬ n < 0) (hN : n.toNatClampNeg = N') (hbytes : N' * componentBytes ty ≤ 536870912) (hk : kc + 1 ≤ mc) (hs : ks + N' ≤ ms)
    (h : ∀ q : Nat, nw_ex l D TY own cc maxL fr lo mc ms pcE Sh (pc + 2) lc (.ref q :: st) (w ++ [(q, .inl (cT, N', .inl (fun _ => 0)))]) (kc + 1) (ks + N')) : nw_ex l D TY own cc maxL fr lo mc ms pcE Sh pc lc (.int n :: st) w kc ks := by
  intro p e R s m args below meth c A Z Cx H locs ls hH hl hret
  obtain ⟨hx, hb, hml, hown, hts, hnn, hR, hK, hA, hin⟩ := id Cx
  obtain ⟨hP, hD, hS⟩ := hH
  refine va_newa (a0 := (N', .inl (fun _ => 0))) hx hb (by rw [hty]; exact hts _ h1) hty hK hP hD hS hA (fun cA => by
    rcases hp with rfl | rfl | rfl <;> rfl) hn hN hbytes (Nat.le_trans hk hR.2.2.1) (Nat.le_trans hs hR.2.2.2) hd (fun q cA H1 hK1 hP1 hD1 hS1 => ?_)
  have e := hK1.one t0 ht hp
  subst e
  exact h q p e R s m args below meth c A Z Cx H1 locs ls ⟨hP1, hD1, hS1⟩ hl hret
theorem nw_putF {idx ci N a k : Nat} {C : String} {T : u_T} {ty0 : Nat → FieldType} {fs : List Value} {v : Value} {ty : FieldType} (q0 : Nat) (hd : decode cc pc = .ok (.putfield idx, 3)) (hcl : vm_clk ci C T N ty0) (he : w[q0]? = some (a, .inr (ci, fs))) (hk : k < N) (h1 : Cond.fieldLink own idx (T k).1 (T k).2.1 (T k).2.2.1 ∈ vm_WS) (hfin : (T k).2.2.2 = true) (hdecl : (T k).1 = own) (hown2 : own ≠ RL) (hpd : parseFieldDescriptor (T k).2.2.1 = some ty) (hn : narrow ty v = v) (hfit : fits ty v = true) (hl2 : k < fs.length)
    (h : nw_ex l D TY own cc maxL fr lo mc ms pcE Sh (pc + 3) lc st (w.set q0 (a, .inr (ci, fs.set k v))) kc ks) : nw_ex l D TY own cc maxL fr lo mc ms pcE Sh pc lc (v :: .ref a :: st) w kc ks := by
  intro p e R s m args below meth c A Z Cx H locs ls hH hl hret
  obtain ⟨hx, hb, hml, hown, hts, hnn, hR, hK, hA, hin⟩ := id Cx
  obtain ⟨hP, hD, hS⟩ := hH
  obtain ⟨c1, c2, c3, c4, c5⟩ := hcl
  exact va_putF hx hb hts c2 ty0 c3 c4 hown hK hP hD hS q0 he c1 k hk (hts _ h1) (fun _ h9 => h9) hfin (hin hown2) hdecl hpd hn hfit hl2 hd (fun H1 locs1 hP1 hD1 hS1 => h p e R s m args below meth c A Z Cx H1 locs1 ls ⟨hP1, hD1, hS1⟩ hl hret)
theorem nw_put {idx ci N a k : Nat} {C : String} {T : u_T} {ty0 : Nat → FieldType} {fs : List Value} {v : Value} {ty : FieldType} (q0 : Nat) (hd : decode cc pc = .ok (.putfield idx, 3)) (hcl : vm_clk ci C T N ty0) (he : w[q0]? = some (a, .inr (ci, fs))) (hk : k < N) (h1 : Cond.fieldLink own idx (T k).1 (T k).2.1 (T k).2.2.1 ∈ vm_WS) (hfin : (T k).2.2.2 = false) (hpd : parseFieldDescriptor (T k).2.2.1 = some ty) (hn : narrow ty v = v) (hfit : fits ty v = true) (hl2 : k < fs.length)
    (h : nw_ex l D TY own cc maxL fr lo mc ms pcE Sh (pc + 3) lc st (w.set q0 (a, .inr (ci, fs.set k v))) kc ks) : nw_ex l D TY own cc maxL fr lo mc ms pcE Sh pc lc (v :: .ref a :: st) w kc ks := by
  intro p e R s m args below meth c A Z Cx H locs ls hH hl hret
  obtain ⟨hx, hb, hml, hown, hts, hnn, hR, hK, hA, hin⟩ := id Cx
  obtain ⟨hP, hD, hS⟩ := hH
  obtain ⟨c1, c2, c3, c4, c5⟩ := hcl
  exact va_put hx hb hts c2 ty0 c3 c4 hown hK hP hD hS q0 he c1 k hk (hts _ h1) (fun _ h9 => h9) hfin hpd hn hfit hl2 hd (fun H1 locs1 hP1 hD1 hS1 => h p e R s m args below meth c A Z Cx H1 locs1 ls ⟨hP1, hD1, hS1⟩ hl hret)
theorem nw_get {idx ci N a k : Nat} {C : String} {T : u_T} {ty0 : Nat → FieldType} {fs : List Value} {v : Value} (q0 : Nat) (hd : decode cc pc = .ok (.getfield idx, 3)) (hcl : vm_clk ci C T N ty0) (he : w[q0]? = some (a, .inr (ci, fs))) (hk : k < N) (h1 : Cond.fieldLink own idx (T k).1 (T k).2.1 (T k).2.2.1 ∈ vm_WS) (hv : fs[k]? = some v)
    (h : nw_ex l D TY own cc maxL fr lo mc ms pcE Sh (pc + 3) lc (v :: st) w kc ks) : nw_ex l D TY own cc maxL fr lo mc ms pcE Sh pc lc (.ref a :: st) w kc ks := by
  intro p e R s m args below meth c A Z Cx H locs ls hH hl hret
  obtain ⟨hx, hb, hml, hown, hts, hnn, hR, hK, hA, hin⟩ := id Cx
  obtain ⟨c1, c2, c3, c4, c5⟩ := hcl
  exact va_get hx hb hts c2 hown hK hH.1 q0 he c1 k hk (hts _ h1) (fun _ h9 => h9) hv hd (h p e R s m args below meth c A Z Cx H locs ls hH hl hret)
theorem nw_iast {a n : Nat} {cT : ClassId} {f : Nat → Int32} {i x : Int32} (q0 t0 : Nat) (hd : decode cc pc = .ok (.iastore, 1)) (he : w[q0]? = some (a, .inl (cT, n, .inl f))) (ht : TY[t0]? = some (cT, .int)) (hi : vp_in i n)
    (h : nw_ex l D TY own cc maxL fr lo mc ms pcE Sh (pc + 1) lc st (w.set q0 (a, .inl (cT, n, .inl (upd f i.toNatClampNeg x)))) kc ks) : nw_ex l D TY own cc maxL fr lo mc ms pcE Sh pc lc (.int x :: .int i :: .ref a :: st) w kc ks := by
  intro p e R s m args below meth c A Z Cx H locs ls hH hl hret
  obtain ⟨hx, hb, hml, hown, hts, hnn, hR, hK, hA, hin⟩ := id Cx
  obtain ⟨hP, hD, hS⟩ := hH
  exact va_iast hx hb hK hP hD hS q0 t0 he ht hi hd (fun H1 locs1 hP1 hD1 hS1 => h p e R s m args below meth c A Z Cx H1 locs1 ls ⟨hP1, hD1, hS1⟩ hl hret)
/-- a constructor is called, on the object that was made last -/
theorem nw_call {idx n maxL' fr' lo' mc' ms' a : Nat} {y : MethodName} {bytes : ByteArray} {As : List Value} {x : va_E} {wr : va_W} {Sh' : va_W → Prop} (isR : List Nat) (hd : decode cc pc = .ok (.invokespecial idx, 3)) (hct : nw_ct l D TY y bytes maxL' fr' lo' mc' ms' [(a, x)] (.ref a :: As) Sh') (hlk : vm_link own idx y) (hcode : Cond.code y bytes maxL' none ∈ vm_WS) (hi1 : Cond.instanceMethod y ∈ vm_WS) (hini : Cond.initialized y.cls ∈ vm_WS) (hy : y.name = "<init>")
    (hdd : y.cls ≠ "java/lang/invoke/MethodHandle" ∧ y.cls ≠ "java/lang/invoke/VarHandle" ∧ (parseMethodDescriptor y.desc).map (fun d => d.parameters.length) = some n) (hn : As.length = n) (hfr : fr' + 1 ≤ fr) (hlo : 8 + (maxL' + 11) + lo' ≤ lo) (hst : Nat.ble ((st.map fun v => v.category).sum) 8 = true) (hk : kc + mc' ≤ mc) (hs : ks + ms' ≤ ms)
    (hC : [wr.length].map (fun i => (wr ++ [(a, x)])[i]?) = [(a, x)].map some) (hRr : isR.map (fun i => (wr ++ [(a, x)])[i]?) = wr.map some) (hnd : va_nd isR = true) (hdis : ∀ i ∈ isR, i ∉ [wr.length])
    (h : ∀ w1 : va_W, Sh' w1 → nw_ex l D TY own cc maxL fr lo mc ms pcE Sh (pc + 3) lc st (wr ++ w1) (kc + mc') (ks + ms')) : nw_ex l D TY own cc maxL fr lo mc ms pcE Sh pc lc (As.reverse ++ .ref a :: st) (wr ++ [(a, x)]) kc ks := by
  intro p e R s m args below meth c A Z Cx H locs ls hH hl hret
  obtain ⟨hx, hb, hml, hown, hts, hnn, hR, hK, hA, hin⟩ := id Cx
  obtain ⟨hP, hD, hS⟩ := hH
  have hPc := hP.sub (ws' := [(a, x)]) [wr.length] (by simpa using hC)
  have hDc := hD.sub (ws' := [(a, x)]) [wr.length] rfl hC
  have hFc := va_free (wc := [(a, x)]) hD hS hA [wr.length] hC
  have hG : GoodIn vm_WS (.code y bytes maxL' none :: vm_WS) := fun w hw => by
    rcases List.mem_cons.mp hw with rfl | hw
    · exact vm_WS_good _ hcode
    · exact vm_WS_good _ hw
  have hroom : fr' + 1 ≤ R.frames ∧ 8 + (maxL' + 11) + lo' ≤ R.locals := ⟨Nat.le_trans hfr hR.1, Nat.le_trans hlo hR.2.1⟩
  have hp : PreS s H (va_Pc (.ref a :: As) (nw_Pre D TY [(a, x)] H.size)) (.ref a :: As) := ⟨nw_blind D TY _ _ _, fun U hU hW => ⟨rfl, by rw [hU], by rw [hU]; exact hPc, va_K.moved hW.alike hK, hDc.weaken (fun _ _ _ _ => trivial), vm_WN_warm hW hnn⟩⟩
  have hrun : va_Run p l e R s m args below meth c H locs kc ks mc' ms' (F0 m pc ls (As.reverse ++ .ref a :: st)) st (nw_Q D TY [(a, x)] H.size Sh' (Value.ref a :: As).toArray) (va_A [(a, x)] H.size) := by
    rcases hlk with hlk | ⟨host, hlk⟩
    · exact va_runI ⟨hx, hb, hml, hown, hts⟩ (hct H.size) ⟨callB_of n hts hG rfl rfl rfl (hts _ hini) (hts _ hlk) hdd hroom, hy, hts _ hi1⟩ hp rfl hn hl.1 rfl (lv_room (pc := pc) (ls := ls) (rest := []) (m := m) (Nat.le_of_ble_eq_true hst)) hd ⟨Nat.le_trans hk hR.2.2.1, Nat.le_trans hs hR.2.2.2⟩
    · exact va_runIN ⟨hx, hb, hml, hown, hts⟩ (hct H.size) ⟨va_cnB n hts hG rfl rfl rfl (hnn _ hlk) (hts _ hini) hdd hroom, hy, hts _ hi1⟩ hp rfl hn hl.1 rfl (lv_room (pc := pc) (ls := ls) (rest := []) (m := m) (Nat.le_of_ble_eq_true hst)) hd ⟨Nat.le_trans hk hR.2.2.1, Nat.le_trans hs hR.2.2.2⟩
  refine va_callv hrun hS (fun q _ h => hFc q h) hFc (fun w1 t H1 locs1 ht hvm hw hB hz1 hk1 hS1 => ?_)
  obtain ⟨hP1, hK1, hD1⟩ := hB
  rw [ht] at hP1
  obtain ⟨hP2, hD2⟩ := va_join (wr := wr) (w1 := w1) hP hD [wr.length] isR hC hRr hnd hdis hk1 hFc hP1 hD1
  exact h w1 hw p e R s m args below meth c A Z Cx H1 locs1 ls ⟨hP2, hD2, hS1⟩ hl hret
end NWK
/-- from the entry of a constructor to its contract -/
theorem nw_enter {l : Launch} {D : va_G} {TY : List (ClassId × FieldType)} {y : MethodName} {bytes : ByteArray} {maxL fr lo mc ms pcE : Nat} {w0 : va_W} {av : List Value} {Sh : va_W → Prop} {lc : List (Nat × Value)} (hp : plainName y.cls = true) (hn : (lg_sl av).length ≤ maxL) (hlc : lc = lv_args 0 av) (hy : y.name = "<init>") (hret : decode bytes pcE = .ok (.return_, 1))
    (h : nw_ex l D TY y.cls bytes maxL fr lo mc ms pcE (fun w _ => Sh w) 0 lc [] w0 0 0) : nw_ct l D TY y bytes maxL fr lo mc ms w0 av Sh := by
  intro sz
  refine Met.ofW (cc := bytes) (maxL := maxL) (ret := none) hp rfl ?_
  intro p e s m args below meth c s₁ B hml hv
  obtain ⟨rfl, hsz, hP, hK, hD0, hN⟩ := hv
  have hx := B.exec
  have hb := B.bytes
  have hr := B.returns
  have hts := atoms_spec (ws := .code y bytes maxL none :: vm_WS) B.pre
  have hown : s.vm.findClass y.cls = some m.cls := findClass_of_methodNamed B.named
  have hlocks := B.notSynchronized
  have hin : meth.name = "<init>" := by rw [(name_of_methodNamed B.named B.method).1]; exact hy
  subst hsz
  have hl := lv_entry av (n := maxL) hn
  rw [lg_entry_eq]
  generalize (lg_sl av ++ List.replicate (maxL - (lg_sl av).length) Slot.unset).toArray = ls at hl ⊢
  rw [← hlc] at hl
  have hA : ∀ q, s.heap.size ≤ q → va_A w0 s.heap.size q := fun q h => Or.inr h
  have hD : va_D (va_A w0 s.heap.size) w0 := hD0.self
  refine h p e _ s m _ below meth c _ _ ⟨hx, hb, hml, hown, fun w hw => hts w (List.mem_cons_of_mem _ hw), hN, ⟨Nat.le_refl _, Nat.le_refl _, Nat.le_refl _, Nat.le_refl _⟩, hK, hA, fun _ => hin⟩ s.heap [] ls ⟨hP, hD, va_S.rf⟩ hl ?_
  intro H' locs' ls' w' lc' hq hH' hl'
  obtain ⟨hP', hD', hS'⟩ := hH'
  exact W.vret hx hb hr (fun t ht hW => ⟨⟨w', rfl, hq, by rw [ht]; exact hP', va_K.moved hW.alike hK, hD'⟩, hS'.F ht⟩) hS'.2.2 hret
