/-! WHAT THE TABLES KNOW -/
def vm_link (own : String) (idx : Nat) (y : MethodName) : Prop := Cond.methodLink own idx y ∈ vm_WS ∨ ∃ host, Cond.methodLinkNest own idx y host ∈ vm_WN
def vm_flink (own : String) (idx : Nat) (C n d : String) : Prop := Cond.fieldLink own idx C n d ∈ vm_WS ∨ ∃ host, Cond.fieldLinkNest own idx C n d host ∈ vm_WN
def vm_calI (M : vm_Me) (n : Nat) : Prop := (Cond.instanceMethod M.y ∈ vm_WS ∧ Cond.selects M.y.cls M.y M.y ∈ vm_WS) ∧ Cond.code M.y M.bytes M.maxL M.ret ∈ vm_WS ∧ Cond.initialized M.y.cls ∈ vm_WS ∧ (M.y.cls ≠ "java/lang/invoke/MethodHandle" ∧ M.y.cls ≠ "java/lang/invoke/VarHandle" ∧ (parseMethodDescriptor M.y.desc).map (fun d => d.parameters.length) = some n) ∧ M.maxL ≤ 30
def vm_calS (M : vm_Me) (n : Nat) : Prop := Cond.static M.y ∈ vm_WS ∧ Cond.code M.y M.bytes M.maxL M.ret ∈ vm_WS ∧ Cond.initialized M.y.cls ∈ vm_WS ∧ (M.y.cls ≠ "java/lang/invoke/MethodHandle" ∧ M.y.cls ≠ "java/lang/invoke/VarHandle" ∧ (parseMethodDescriptor M.y.desc).map (fun d => d.parameters.length) = some n) ∧ M.maxL ≤ 30
def vm_clk (ci : Nat) (C : String) (T : u_T) (N : Nat) (ty : Nat → FieldType) : Prop := vwCl[ci]? = some (C, T, N) ∧ (∀ w ∈ u_ws C T N, w ∈ vm_WS) ∧ (∀ k, k < N → parseFieldDescriptor (T k).2.2.1 = some (ty k)) ∧ (∀ a, a < N → ∀ b, b < N → a ≠ b → (T a).2.1 ≠ (T b).2.1) ∧ vm_nth vm_nf ci = some N
def vm_okM (M : vm_Me) : Prop := ∀ e ∈ M.code, decode M.bytes e.1 = .ok (e.2.1, e.2.2.1)
theorem vm_dec {M : vm_Me} (h : vm_okM M) {i pc len : Nat} {ins : Instr} {x : List Nat} (hc : vm_nth M.code i = some (pc, ins, len, x)) : decode M.bytes pc = .ok (ins, len) := h (pc, ins, len, x) (vm_nth_mem hc)
/-- what lies outside: the table and the script, which nobody writes -/
def vm_RO (G : vm_G) (A : Nat → Prop) (U : State) (H : Heap) : Prop := va_Z "BagCounts$Logic" "OPPOSITES" "[I" (.ref (G.adr 38)) A U H ∧ ∀ c, c = 38 ∨ c = 39 → va_T .int (G.adr c) (G.len c) (fun j => .int (Int32.ofInt (G.rom c (j : Int)))) A U H ∧ G.adr c < H.size ∧ ¬ A (G.adr c) ∧ G.len c ≤ 1000000
/-- the machine at a method's frame -/
def vm_C (G : vm_G) (d : Nat) (M : vm_Me) (p : Program) (R : Room) (s : State) (m : MethodId) (args : Array Value) (c : Code) (A : Nat → Prop) (cells slots : Nat) : Prop :=
  p.tables.exec = Jvm.exec ∧ c.code = M.bytes ∧ c.maxLocals = M.maxL ∧ s.vm.findClass M.y.cls = some m.cls ∧ (∀ w ∈ vm_WS, w.before args s = true) ∧ (∀ w ∈ vm_WN, va_Nw w s) ∧ (d ≤ R.frames ∧ 60 * d ≤ R.locals ∧ cells ≤ R.cells ∧ slots ≤ R.slots) ∧ va_K G.D vwCl (vm_tys G) s ∧ (∀ q, s.heap.size ≤ q → A q) ∧ vm_RO G A s s.heap
def vm_H (G : vm_G) (mem : vm_M) (A : Nat → Prop) (s : State) (H : Heap) (locs : List Loc) : Prop := va_P G.D vwCl (vm_ws G mem) H ∧ va_D A (vm_ws G mem) ∧ va_S A s.heap H locs
/-- a method's end -/
def vm_end (M : vm_Me) (pc : Nat) (r : Option vm_V) : Prop := (r = none ∧ M.ret = none ∧ decode M.bytes pc = .ok (.return_, 1)) ∨ ∃ v : Int, r = some (.inl v) ∧ (M.ret = some .int ∨ (M.ret = some .boolean ∧ (v = 0 ∨ v = 1))) ∧ decode M.bytes pc = .ok (.ireturn, 1)
/-- FROM THIS POINT of the method (place, locals, stack, memory) it comes to its end, with Q of the memory and the answer -/
def vm_ex (G : vm_G) (d : Nat) (M : vm_Me) (pc : Nat) (al : List (Option vm_V)) (st : List vm_V) (mem : vm_M) (Q : vm_M → Option vm_V → Prop) : Prop :=
  vm_okM M → ∀ (p : Program) (e : Env) (R : Room) (s : State) (m : MethodId) (args : Array Value) (below : List Frame) (meth : Method) (c : Code) (A : Nat → Prop) (cells slots : Nat) (Z : State → Prop), vm_C G d M p R s m args c A cells slots →
    ∀ (H : Heap) (locs : List Loc) (ls : Array Slot), vm_H G mem A s H locs → lv_has ls M.maxL (vm_lk G al) →
    (∀ (H' : Heap) (locs' : List Loc) (ls' : Array Slot) (pc' : Nat) (mem' : vm_M) (r : Option vm_V), Q mem' r → vm_H G mem' A s H' locs' → vm_end M pc' r → W p G.l e R s m args below meth c H' locs' cells slots Z (F0 m pc' ls' (r.toList.map (vm_cv G)))) →
    W p G.l e R s m args below meth c H locs cells slots Z (F0 m pc ls (st.map (vm_cv G)))
theorem vm_ex.mono {G : vm_G} {d : Nat} {M : vm_Me} {pc : Nat} {al : List (Option vm_V)} {st : List vm_V} {mem : vm_M} {Q Q' : vm_M → Option vm_V → Prop} (h : vm_ex G d M pc al st mem Q) (hQ : ∀ m r, Q m r → Q' m r) : vm_ex G d M pc al st mem Q' := by
  intro ok p e R s m args below meth c A cells slots Z C H locs ls hH hl hret
  exact h ok p e R s m args below meth c A cells slots Z C H locs ls hH hl (fun H' locs' ls' pc' mem' r hq => hret H' locs' ls' pc' mem' r (hQ _ _ hq))
/-- the head of a method's words -/
def vm_wsM (M : vm_Me) : List Cond := Cond.code M.y M.bytes M.maxL M.ret :: vm_WS
def vm_rm (d : Nat) : Room := { frames := d, cells := 0, slots := 0, locals := 60 * d }
def vm_Pc (G : vm_G) (mem : vm_M) (sz : Nat) : State → Prop := fun U => U.heap.size = sz ∧ va_P G.D vwCl (vm_ws G mem) U.heap ∧ va_K G.D vwCl (vm_tys G) U ∧ va_D (fun _ => True) (vm_ws G mem) ∧ (∀ w ∈ vm_WN, va_Nw w U) ∧ vm_RO G (va_A (vm_ws G mem) sz) U U.heap
def vm_Qc (G : vm_G) (mem : vm_M) (sz : Nat) (Q : vm_M → Option vm_V → Prop) : Array Value → State → Outcome → State → Prop := fun _ st oc t => ∃ (r : Option vm_V) (mem' : vm_M), oc = .returned (r.map (vm_cv G)) ∧ Q mem' r ∧ va_P G.D vwCl (vm_ws G mem') t.heap ∧ va_D (va_A (vm_ws G mem) sz) (vm_ws G mem') ∧ va_F (va_A (vm_ws G mem) sz) st t
/-- A CALL of this method on these values comes back, with Q of the memory and the answer -/
def vm_call (G : vm_G) (d : Nat) (M : vm_Me) (As : List vm_V) (mem : vm_M) (Q : vm_M → Option vm_V → Prop) : Prop :=
  ∀ sz : Nat, Met G.l M.y (vm_wsM M) (vm_rm d) (va_Pc (As.map (vm_cv G)) (vm_Pc G mem sz)) (vm_Qc G mem sz Q) 0 0 (va_A (vm_ws G mem) sz)
theorem vm_ws_len (G : vm_G) (mem : vm_M) : (vm_ws G mem).length = 38 := by simp [vm_ws]
theorem vm_ws_adr {G : vm_G} {mem mem' : vm_M} {k q : Nat} {e : va_E} (h : (vm_ws G mem)[k]? = some (q, e)) : (vm_ws G mem')[k]? = some (q, vm_cell G mem' k) := by
  have hk : k < 38 := by
    rcases Nat.lt_or_ge k 38 with z | z
    · exact z
    · rw [List.getElem?_eq_none (by rw [vm_ws_len]; exact z)] at h; cases h
  rw [vm_ws_at G mem hk] at h
  rw [vm_ws_at G mem' hk]
  cases h
  rfl
theorem vm_A_eq (G : vm_G) (mem mem' : vm_M) (sz q : Nat) : va_A (vm_ws G mem) sz q ↔ va_A (vm_ws G mem') sz q := by
  constructor
  · rintro (⟨k, e, h⟩ | h)
    · exact Or.inl ⟨k, _, vm_ws_adr h⟩
    · exact Or.inr h
  · rintro (⟨k, e, h⟩ | h)
    · exact Or.inl ⟨k, _, vm_ws_adr h⟩
    · exact Or.inr h
theorem vm_D_mem {G : vm_G} {mem mem' : vm_M} {A B : Nat → Prop} (h : va_D A (vm_ws G mem)) (hB : va_D B (vm_ws G mem')) : va_D B (vm_ws G mem) := by
  refine ⟨h.1, fun k q hk => ?_⟩
  obtain ⟨a, e⟩ := q
  exact hB.2 k (a, vm_cell G mem' k) (vm_ws_adr hk)
theorem vm_RO.moved {G : vm_G} {A : Nat → Prop} {u U : State} {H : Heap} (hvm : u.vm.Alike U.vm) (h : vm_RO G A u H) : vm_RO G A U H :=
  ⟨va_Z.moved hvm h.1, fun c hc => ⟨va_T.moved hvm (h.2 c hc).1, (h.2 c hc).2⟩⟩
theorem vm_RO.at {G : vm_G} {A B : Nat → Prop} {U : State} {H0 H : Heap} {locs : List Loc} (h : vm_RO G A U H0) (hS : va_S A H0 H locs) (hAB : ∀ q, B q → A q) : vm_RO G B U H :=
  ⟨(h.1.kept hS.2.1).narrow hAB, fun c hc => ⟨((h.2 c hc).1.kept hS.2.1).narrow hAB, Nat.lt_of_lt_of_le (h.2 c hc).2.1 hS.1, fun z => (h.2 c hc).2.2.1 (hAB _ z), (h.2 c hc).2.2.2⟩⟩
theorem vm_blind (G : vm_G) (mem : vm_M) (sz : Nat) (av : List Value) : FrameBlind (va_Pc av (vm_Pc G mem sz)) := by
  intro a U g mk q
  obtain ⟨q0, q1, q2, q3, q4, q5, q6⟩ := q
  exact ⟨q0, q1, q2, va_K.moved (u := U) (U := U.calling g mk a) (Vm.Alike.refl U.vm) q3, q4, fun w hw => va_tabs (by have := (List.mem_filter.mp hw).2; cases w <;> first | rfl | (simp [vm_isN] at this; done)) (rfl : U.vm = (U.calling g mk a).vm) (q5 w hw), vm_RO.moved (u := U) (U := U.calling g mk a) (Vm.Alike.refl U.vm) q6⟩
/-- what a callee asks, at the caller's point -/
theorem vm_pre {G : vm_G} {d : Nat} {M : vm_Me} {p : Program} {R : Room} {s : State} {m : MethodId} {args : Array Value} {c : Code} {A : Nat → Prop} {cells slots : Nat} {mem : vm_M} {H : Heap} {locs : List Loc} (C : vm_C G d M p R s m args c A cells slots) (hH : vm_H G mem A s H locs) {av : List Value} (U : State) (hU : U.heap = H) (hW : s.WarmedH U.vm) : va_Pc av (vm_Pc G mem H.size) av.toArray U := by
  obtain ⟨hx, hb, hml, hown, hts, hn, hR, hK, hA, hO⟩ := C
  obtain ⟨hP, hD, hS⟩ := hH
  refine ⟨rfl, by rw [hU], by rw [hU]; exact hP, va_K.moved hW.alike hK, hD.weaken (fun _ _ _ _ => trivial), vm_WN_warm hW hn, ?_⟩
  rw [hU]
  refine vm_RO.moved hW.alike (hO.at hS ?_)
  rintro q (⟨k, e, h⟩ | h)
  · exact hD.2 k _ h
  · exact hA q (Nat.le_trans hS.1 h)
/-- behind a call -/
theorem vm_back {G : vm_G} {d : Nat} {M : vm_Me} {p : Program} {e : Env} {R : Room} {s : State} {m : MethodId} {args : Array Value} {below : List Frame} {meth : Method} {c : Code} {A : Nat → Prop} {cells slots : Nat} {Z : State → Prop} {mem : vm_M} {H : Heap} {locs : List Loc} {pc : Nat} {ls : Array Slot} {st0 rest : List Value} {a : Array Value} {Q : vm_M → Option vm_V → Prop}
    (C : vm_C G d M p R s m args c A cells slots) (hH : vm_H G mem A s H locs)
    (hr : va_Run p G.l e R s m args below meth c H locs cells slots 0 0 (F0 m pc ls st0) rest (vm_Qc G mem H.size Q a) (va_A (vm_ws G mem) H.size))
    (kk : ∀ (r : Option vm_V) (mem' : vm_M) (H1 : Heap) (locs1 : List Loc), Q mem' r → vm_H G mem' A s H1 locs1 → W p G.l e R s m args below meth c H1 locs1 cells slots Z (F0 m (pc + 3) ls ((r.map (vm_cv G)).toList ++ rest))) : W p G.l e R s m args below meth c H locs cells slots Z (F0 m pc ls st0) := by
  obtain ⟨hx, hb, hml, hown, hts, hn, hR, hK, hA, hO⟩ := C
  obtain ⟨hP, hD, hS⟩ := hH
  have hAA : ∀ q, va_A (vm_ws G mem) H.size q → A q := by
    rintro q (⟨k, e, h⟩ | h)
    · exact hD.2 k _ h
    · exact hA q (Nat.le_trans hS.1 h)
  intro T hT X
  obtain ⟨v, st₀, t, T', L, h0, X', hL, e1, e2, ⟨r, mem', hv, hq, hP', hD', hz, hk⟩, st⟩ := hr T hT X
  cases hv
  rw [h0] at hz hk
  obtain ⟨t2, a1, b1⟩ := kk r mem' T'.heap (locs ++ L) hq ⟨by rw [e1]; exact hP', hD'.weaken (fun _ _ _ h => hAA _ h), Nat.le_trans hS.1 (by rw [e1]; exact hz), fun q h1 h2 => by rw [e1, hk q (Nat.lt_of_lt_of_le h1 hS.1) (fun z => h2 (hAA q z))]; exact hS.2.1 q h1 h2, fun q hq => by
      rcases List.mem_append.mp hq with h | h
      · exact hS.2.2 q h
      · exact hAA _ (hL q h)⟩ T' rfl X'
  exact ⟨t2, st t2 a1, b1⟩
theorem vm_map_nil (G : vm_G) (r : Option vm_V) (st : List vm_V) : (r.map (vm_cv G)).toList ++ st.map (vm_cv G) = (r.toList ++ st).map (vm_cv G) := by
  cases r <;> simp
/-- how many words lie on a stack -/
def vm_sw : List vm_V → Nat
  | [] => 0
  | .inr (.inl _) :: st => 2 + vm_sw st
  | _ :: st => 1 + vm_sw st
theorem vm_sw_eq (G : vm_G) : ∀ st : List vm_V, ((st.map (vm_cv G)).map fun v => v.category).sum = vm_sw st
  | [] => rfl
  | .inl x :: st => by simp [vm_sw, vm_cv, Value.category, ← vm_sw_eq G st]
  | .inr (.inl x) :: st => by simp [vm_sw, vm_cv, Value.category, ← vm_sw_eq G st]
  | .inr (.inr x) :: st => by simp [vm_sw, vm_cv, Value.category, ← vm_sw_eq G st]
section VMC
variable {G : vm_G} {d : Nat} {M : vm_Me} {pc : Nat} {al : List (Option vm_V)} {st : List vm_V} {mem : vm_M} {Q : vm_M → Option vm_V → Prop}
theorem ex_invV {M' : vm_Me} {idx n b ci N : Nat} {As : List vm_V} {C : String} {T : u_T} {ty : Nat → FieldType} {x : List Nat} (i : Nat) (hc : vm_nth M.code i = some (pc, .invokevirtual idx, 3, x)) (hcl : vm_clk ci C T N ty) (hkd : vm_nth vm_kinds b = some (0, ci)) (hC : M'.y.cls = C) (hM : vm_calI M' n) (hlk : vm_link M.y.cls idx M'.y) (hn : As.length = n) (hst : Nat.ble (vm_sw st) 8 = true)
    (h : vm_call G d M' (.inr (.inr b) :: As) mem (fun mem' r => vm_ex G (d + 1) M (pc + 3) al (r.toList ++ st) mem' Q)) : vm_ex G (d + 1) M pc al (As.reverse ++ .inr (.inr b) :: st) mem Q := by
  intro ok p e R s m args below meth c A cells slots Z Cx H locs ls hH hl hret
  have hdg := vm_dec ok hc
  obtain ⟨hx, hb, hml, hown, hts, hnn, hR, hK, hA, hO⟩ := id Cx
  obtain ⟨hcl1, hin, hty, hnm, hnf⟩ := hcl
  obtain ⟨⟨hi1, hi2⟩, hcode, hini, hdd, hmx⟩ := hM
  have hb38 : b < 38 := by
    rw [vm_nth_eq] at hkd
    exact (List.getElem?_eq_some_iff.mp hkd).1
  have hcell := vm_ws_at G mem hb38
  rw [vm_cell_obj hkd] at hcell
  have hrecv := va_recv hK hH.1 hcl1 hcell
  have hG : GoodIn vm_WS (vm_wsM M') := fun w hw => by
    rcases List.mem_cons.mp hw with rfl | hw
    · exact vm_WS_good _ hcode
    · exact vm_WS_good _ hw
  have hroom : (vm_rm d).frames + 1 ≤ R.frames ∧ 8 + (M'.maxL + 11) + (vm_rm d).locals ≤ R.locals := ⟨hR.1, by show 8 + (M'.maxL + 11) + 60 * d ≤ R.locals; omega⟩
  have hst8 : ((st.map (vm_cv G)).map fun v => v.category).sum ≤ 8 := by
    rw [vm_sw_eq]; exact Nat.le_of_ble_eq_true hst
  have hstk : (As.reverse ++ .inr (.inr b) :: st).map (vm_cv G) = (As.map (vm_cv G)).reverse ++ .ref (G.adr b) :: st.map (vm_cv G) := by simp [vm_cv]
  have hp : PreV s H C (G.adr b) (va_Pc ((.inr (.inr b) :: As).map (vm_cv G)) (vm_Pc G mem H.size)) (As.map (vm_cv G)) :=
    ⟨vm_blind G mem H.size _, hrecv, fun U hU hW => vm_pre Cx hH U hU hW⟩
  have hrun : va_Run p G.l e R s m args below meth c H locs cells slots 0 0 (F0 m pc ls ((As.map (vm_cv G)).reverse ++ .ref (G.adr b) :: st.map (vm_cv G))) (st.map (vm_cv G)) (vm_Qc G mem H.size (fun mem' r => vm_ex G (d + 1) M (pc + 3) al (r.toList ++ st) mem' Q) (Value.ref (G.adr b) :: As.map (vm_cv G)).toArray) (va_A (vm_ws G mem) H.size) := by
    rcases hlk with hlk | ⟨host, hlk⟩
    · exact va_runV (C := C) ⟨hx, hb, hml, hown, hts⟩ (h H.size) ⟨callB_of n hts hG rfl rfl rfl (hts _ hini) (hts _ hlk) hdd hroom, hts _ hi1, by rw [← hC]; exact hts _ hi2⟩ hp rfl (by rw [List.length_map]; exact hn) hl.1 rfl (lv_room (pc := pc) (ls := ls) (rest := []) (m := m) hst8) hdg ⟨hR.2.2.1, hR.2.2.2⟩
    · exact va_runVN (C := C) ⟨hx, hb, hml, hown, hts⟩ (h H.size) ⟨va_cnB n hts hG rfl rfl rfl (hnn _ hlk) (hts _ hini) hdd hroom, hts _ hi1, by rw [← hC]; exact hts _ hi2⟩ hp rfl (by rw [List.length_map]; exact hn) hl.1 rfl (lv_room (pc := pc) (ls := ls) (rest := []) (m := m) hst8) hdg ⟨hR.2.2.1, hR.2.2.2⟩
  rw [hstk]
  refine vm_back Cx hH hrun (fun r mem' H1 locs1 hq hH1 => ?_)
  rw [vm_map_nil]
  exact hq ok p e R s m args below meth c A cells slots Z Cx H1 locs1 ls hH1 hl hret
theorem ex_invS {M' : vm_Me} {idx n : Nat} {As : List vm_V} {x : List Nat} (i : Nat) (hc : vm_nth M.code i = some (pc, .invokestatic idx, 3, x)) (hM : vm_calS M' n) (hlk : vm_link M.y.cls idx M'.y) (hn : As.length = n) (hst : Nat.ble (vm_sw st) 8 = true)
    (h : vm_call G d M' As mem (fun mem' r => vm_ex G (d + 1) M (pc + 3) al (r.toList ++ st) mem' Q)) : vm_ex G (d + 1) M pc al (As.reverse ++ st) mem Q := by
  intro ok p e R s m args below meth c A cells slots Z Cx H locs ls hH hl hret
  have hdg := vm_dec ok hc
  obtain ⟨hx, hb, hml, hown, hts, hnn, hR, hK, hA, hO⟩ := id Cx
  obtain ⟨hi1, hcode, hini, hdd, hmx⟩ := hM
  have hG : GoodIn vm_WS (vm_wsM M') := fun w hw => by
    rcases List.mem_cons.mp hw with rfl | hw
    · exact vm_WS_good _ hcode
    · exact vm_WS_good _ hw
  have hroom : (vm_rm d).frames + 1 ≤ R.frames ∧ 8 + (M'.maxL + 11) + (vm_rm d).locals ≤ R.locals := ⟨hR.1, by show 8 + (M'.maxL + 11) + 60 * d ≤ R.locals; omega⟩
  have hst8 : ((st.map (vm_cv G)).map fun v => v.category).sum ≤ 8 := by
    rw [vm_sw_eq]; exact Nat.le_of_ble_eq_true hst
  have hstk : (As.reverse ++ st).map (vm_cv G) = (As.map (vm_cv G)).reverse ++ st.map (vm_cv G) := by simp
  have hp : PreS s H (va_Pc (As.map (vm_cv G)) (vm_Pc G mem H.size)) (As.map (vm_cv G)) :=
    ⟨vm_blind G mem H.size _, fun U hU hW => vm_pre Cx hH U hU hW⟩
  have hrun : va_Run p G.l e R s m args below meth c H locs cells slots 0 0 (F0 m pc ls ((As.map (vm_cv G)).reverse ++ st.map (vm_cv G))) (st.map (vm_cv G)) (vm_Qc G mem H.size (fun mem' r => vm_ex G (d + 1) M (pc + 3) al (r.toList ++ st) mem' Q) (As.map (vm_cv G)).toArray) (va_A (vm_ws G mem) H.size) := by
    rcases hlk with hlk | ⟨host, hlk⟩
    · exact va_runS ⟨hx, hb, hml, hown, hts⟩ (h H.size) ⟨callB_of n hts hG rfl rfl rfl (hts _ hini) (hts _ hlk) hdd hroom, hts _ hi1⟩ hp rfl (by rw [List.length_map]; exact hn) hl.1 rfl (lv_room (pc := pc) (ls := ls) (rest := []) (m := m) hst8) hdg ⟨hR.2.2.1, hR.2.2.2⟩
    · exact va_runSN ⟨hx, hb, hml, hown, hts⟩ (h H.size) ⟨va_cnB n hts hG rfl rfl rfl (hnn _ hlk) (hts _ hini) hdd hroom, hts _ hi1, trivial⟩ hp rfl (by rw [List.length_map]; exact hn) hl.1 rfl (lv_room (pc := pc) (ls := ls) (rest := []) (m := m) hst8) hdg ⟨hR.2.2.1, hR.2.2.2⟩
  rw [hstk]
  refine vm_back Cx hH hrun (fun r mem' H1 locs1 hq hH1 => ?_)
  rw [vm_map_nil]
  exact hq ok p e R s m args below meth c A cells slots Z Cx H1 locs1 ls hH1 hl hret
end VMC
