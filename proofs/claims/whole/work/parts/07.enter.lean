/-! FROM A METHOD'S ENTRY TO ITS CONTRACT -/
def vm_ents : List vm_V → List (Option vm_V)
  | [] => []
  | .inr (.inl x) :: l => some (.inr (.inl x)) :: none :: vm_ents l
  | .inl x :: l => some (.inl x) :: vm_ents l
  | .inr (.inr x) :: l => some (.inr (.inr x)) :: vm_ents l
theorem vm_ents_sl (G : vm_G) : ∀ l : List vm_V, (lg_sl (l.map (vm_cv G))).length = (vm_ents l).length
  | [] => rfl
  | .inr (.inl x) :: l => by
    have ih := vm_ents_sl G l
    simp only [lg_sl, List.map_cons, List.flatMap_cons, List.length_append, vm_ents, List.length_cons] at ih ⊢
    rw [ih]
    simp [vm_cv, Value.category]
    omega
  | .inl x :: l => by
    have ih := vm_ents_sl G l
    simp only [lg_sl, List.map_cons, List.flatMap_cons, List.length_append, vm_ents, List.length_cons] at ih ⊢
    rw [ih]
    simp [vm_cv, Value.category]
    omega
  | .inr (.inr x) :: l => by
    have ih := vm_ents_sl G l
    simp only [lg_sl, List.map_cons, List.flatMap_cons, List.length_append, vm_ents, List.length_cons] at ih ⊢
    rw [ih]
    simp [vm_cv, Value.category]
    omega
theorem vm_ents_at (G : vm_G) : ∀ (l : List vm_V) (i j : Nat) (v : vm_V), (vm_ents l)[j]? = some (some v) → (i + j, vm_cv G v) ∈ lv_args i (l.map (vm_cv G))
  | [], i, j, v, h => by simp [vm_ents] at h
  | .inr (.inl x) :: l, i, 0, v, h => by
    simp [vm_ents] at h; subst h
    exact List.mem_cons_self
  | .inr (.inl x) :: l, i, 1, v, h => by simp [vm_ents] at h
  | .inr (.inl x) :: l, i, j + 2, v, h => by
    have ih := vm_ents_at G l (i + 2) j v (by simpa [vm_ents] using h)
    have e : i + 2 + j = i + (j + 2) := by omega
    rw [e] at ih
    exact List.mem_cons_of_mem _ (by simpa [vm_cv, Value.category] using ih)
  | .inl x :: l, i, 0, v, h => by
    simp [vm_ents] at h; subst h
    exact List.mem_cons_self
  | .inl x :: l, i, j + 1, v, h => by
    have ih := vm_ents_at G l (i + 1) j v (by simpa [vm_ents] using h)
    have e : i + 1 + j = i + (j + 1) := by omega
    rw [e] at ih
    exact List.mem_cons_of_mem _ (by simpa [vm_cv, Value.category] using ih)
  | .inr (.inr x) :: l, i, 0, v, h => by
    simp [vm_ents] at h; subst h
    exact List.mem_cons_self
  | .inr (.inr x) :: l, i, j + 1, v, h => by
    have ih := vm_ents_at G l (i + 1) j v (by simpa [vm_ents] using h)
    have e : i + 1 + j = i + (j + 1) := by omega
    rw [e] at ih
    exact List.mem_cons_of_mem _ (by simpa [vm_cv, Value.category] using ih)
theorem vm_enter {G : vm_G} {d : Nat} {M : vm_Me} {al : List (Option vm_V)} {As : List vm_V} {mem : vm_M} {Q : vm_M → Option vm_V → Prop} (n : Nat) (ok : vm_okM M) (hp : plainName M.y.cls = true) (hal : al = vm_ents As ++ List.replicate n none) (hn : M.maxL = (vm_ents As).length + n) (h : vm_ex G d M 0 al [] mem Q) : vm_call G d M As mem Q := by
  intro sz
  refine Met.ofW (cc := M.bytes) (maxL := M.maxL) (ret := M.ret) hp rfl ?_
  intro p e s m args below meth c s₁ B hml hv
  obtain ⟨rfl, hsz, hP, hK, hD0, hN, hO⟩ := hv
  have hx := B.exec
  have hb := B.bytes
  have hr := B.returns
  have hts := atoms_spec (ws := vm_wsM M) B.pre
  have hown : s.vm.findClass M.y.cls = some m.cls := findClass_of_methodNamed B.named
  have hlocks := B.notSynchronized
  subst hsz
  have hlen := vm_ents_sl G As
  have hl := lv_entry (As.map (vm_cv G)) (n := M.maxL) (by omega)
  rw [lg_entry_eq]
  generalize (lg_sl (As.map (vm_cv G)) ++ List.replicate (M.maxL - (lg_sl (As.map (vm_cv G))).length) Slot.unset).toArray = ls at hl ⊢
  have hl2 : lv_has ls M.maxL (vm_lk G al) := by
    refine ⟨hl.1, hl.2.1, fun q hq => hl.2.2 q ?_⟩
    obtain ⟨j, x⟩ := q
    obtain ⟨w, h1, rfl⟩ := vm_lk_mem.mp hq
    rw [hal] at h1
    have h2 : (vm_ents As)[j]? = some (some w) := by
      rw [List.getElem?_append] at h1
      split at h1
      · exact h1
      · rw [List.getElem?_replicate] at h1
        split at h1 <;> cases h1
    have h3 := vm_ents_at G As 0 j w h2
    rwa [Nat.zero_add] at h3
  have hA : ∀ q, s.heap.size ≤ q → va_A (vm_ws G mem) s.heap.size q := fun q h => Or.inr h
  have hD : va_D (va_A (vm_ws G mem) s.heap.size) (vm_ws G mem) := hD0.self
  have Cx : vm_C G d M p (headSpec (vm_wsM M) (vm_rm d)).room s m (As.map (vm_cv G)).toArray c (va_A (vm_ws G mem) s.heap.size) 0 0 :=
    ⟨hx, hb, hml, hown, fun w hw => hts w (List.mem_cons_of_mem _ hw), hN, ⟨Nat.le_refl _, Nat.le_refl _, Nat.zero_le _, Nat.zero_le _⟩, hK, hA, hO⟩
  refine h ok p e _ s m _ below meth c _ 0 0 _ Cx s.heap [] ls ⟨hP, hD, va_S.rf⟩ hl2 ?_
  intro H' locs' ls' pc' mem' r hq hH' hend
  have hf : ∀ q ∈ locs', va_A (vm_ws G mem) s.heap.size q.base := hH'.2.2.2.2
  have fin : ∀ t : State, t.heap = H' → vm_Qc G mem s.heap.size Q (As.map (vm_cv G)).toArray s (.returned (r.map (vm_cv G))) t := fun t ht => ⟨r, mem', rfl, hq, by rw [ht]; exact hH'.1, hH'.2.1, hH'.2.2.F ht⟩
  rcases hend with ⟨rfl, hnone, hdg⟩ | ⟨v, rfl, hz, hdg⟩
  · exact W.vret hx hb (hr.trans hnone) (fun t ht _ => fin t ht) hf hdg
  · rcases hz with hz | ⟨hz, hv⟩
    · exact W.iret hx hb (hr.trans hz) (fun t ht _ => fin t ht) hf hdg
    · exact W.zret hx hb (hr.trans hz) (by rcases hv with rfl | rfl <;> decide) (fun t ht _ => fin t ht) hf hdg
theorem vm_call.mono {G : vm_G} {d : Nat} {M : vm_Me} {As : List vm_V} {mem : vm_M} {Q Q' : vm_M → Option vm_V → Prop} (h : vm_call G d M As mem Q) (hQ : ∀ m r, Q m r → Q' m r) : vm_call G d M As mem Q' := by
  intro sz p e ha hc hk s m args below hf happ hP hK
  obtain ⟨n, o, h1, h2, h3, h4⟩ := h sz p e ha hc hk s m args below hf happ hP hK
  obtain ⟨⟨r, mem', hv, hq, hrest⟩, hL⟩ := h4
  exact ⟨n, o, h1, h2, h3, ⟨r, mem', hv, hQ _ _ hq, hrest⟩, hL⟩
/-! answers by their kinds -/
def vm_b2i (b : Bool) : Int := if b then 1 else 0
theorem vm_b2i_R (b : Bool) : vm_R (vm_b2i b) := by cases b <;> exact ⟨by decide, by decide⟩
theorem vm_b2i_01 (b : Bool) : vm_b2i b = 0 ∨ vm_b2i b = 1 := by cases b <;> simp [vm_b2i]
theorem vm_b2i_0 {b : Bool} : vm_b2i b = 0 ↔ b = false := by cases b <;> simp [vm_b2i]
theorem vm_b2i_n {b : Bool} : ¬ vm_b2i b = 0 ↔ b = true := by cases b <;> simp [vm_b2i]
def vm_qi (Q : vm_M → Int → Prop) : vm_M → Option vm_V → Prop := fun m r => ∃ v, r = some (.inl v) ∧ Q m v
def vm_qn (Q : vm_M → Prop) : vm_M → Option vm_V → Prop := fun m r => r = none ∧ Q m
def vm_qb (Q : vm_M → Bool → Prop) : vm_M → Option vm_V → Prop := fun m r => ∃ b, r = some (.inl (vm_b2i b)) ∧ Q m b
/-- the answer is a number -/
def vm_ci (G : vm_G) (d : Nat) (M : vm_Me) (As : List vm_V) (mem : vm_M) (Q : vm_M → Int → Prop) : Prop := vm_call G d M As mem (vm_qi Q)
/-- there is no answer -/
def vm_cn (G : vm_G) (d : Nat) (M : vm_Me) (As : List vm_V) (mem : vm_M) (Q : vm_M → Prop) : Prop := vm_call G d M As mem (vm_qn Q)
theorem vm_ci.mono {G : vm_G} {d : Nat} {M : vm_Me} {As : List vm_V} {mem : vm_M} {Q Q' : vm_M → Int → Prop} (h : vm_ci G d M As mem Q) (hQ : ∀ m r, Q m r → Q' m r) : vm_ci G d M As mem Q' := vm_call.mono h (fun m _ ⟨v, e, q⟩ => ⟨v, e, hQ m v q⟩)
theorem vm_cn.mono {G : vm_G} {d : Nat} {M : vm_Me} {As : List vm_V} {mem : vm_M} {Q Q' : vm_M → Prop} (h : vm_cn G d M As mem Q) (hQ : ∀ m, Q m → Q' m) : vm_cn G d M As mem Q' := vm_call.mono h (fun m _ ⟨e, q⟩ => ⟨e, hQ m q⟩)
def vm_cb (G : vm_G) (d : Nat) (M : vm_Me) (As : List vm_V) (mem : vm_M) (Q : vm_M → Bool → Prop) : Prop := vm_call G d M As mem (vm_qb Q)
theorem vm_cb.mono {G : vm_G} {d : Nat} {M : vm_Me} {As : List vm_V} {mem : vm_M} {Q Q' : vm_M → Bool → Prop} (h : vm_cb G d M As mem Q) (hQ : ∀ m r, Q m r → Q' m r) : vm_cb G d M As mem Q' := vm_call.mono h (fun m _ ⟨v, e, q⟩ => ⟨v, e, hQ m v q⟩)
/-- fewer locals known -/
def vm_le : List (Option vm_V) → List (Option vm_V) → Prop
  | [], _ => True
  | none :: a, _ :: b => vm_le a b
  | some v :: a, some w :: b => v = w ∧ vm_le a b
  | _, _ => False
theorem vm_le_at : ∀ {a b : List (Option vm_V)} {j : Nat} {v : vm_V}, vm_le a b → a[j]? = some (some v) → b[j]? = some (some v)
  | [], _, j, v, _, h => by simp at h
  | none :: a, [], j, v, h, _ => by simp [vm_le] at h
  | none :: a, _ :: b, 0, v, _, h => by simp at h
  | none :: a, _ :: b, j + 1, v, hl, h => by
    simp only [List.getElem?_cons_succ] at h ⊢
    exact vm_le_at (by simpa [vm_le] using hl) h
  | some v :: a, [], j, w, h, _ => by simp [vm_le] at h
  | some v :: a, none :: b, j, w, h, _ => by simp [vm_le] at h
  | some v :: a, some w :: b, 0, u, hl, h => by
    simp only [vm_le] at hl
    simp at h ⊢
    rw [← hl.1, h]
  | some v :: a, some w :: b, j + 1, u, hl, h => by
    simp only [vm_le] at hl
    simp only [List.getElem?_cons_succ] at h ⊢
    exact vm_le_at hl.2 h
theorem ex_less {G : vm_G} {d : Nat} {M : vm_Me} {pc : Nat} {al : List (Option vm_V)} {st : List vm_V} {mem : vm_M} {Q : vm_M → Option vm_V → Prop} (al' : List (Option vm_V)) (hle : vm_le al' al) (h : vm_ex G d M pc al' st mem Q) : vm_ex G d M pc al st mem Q := by
  intro ok p e R s m args below meth c A cells slots Z Cx H locs ls hH hl hret
  refine h ok p e R s m args below meth c A cells slots Z Cx H locs ls hH ⟨hl.1, hl.2.1, fun q hq => hl.2.2 q ?_⟩ hret
  obtain ⟨j, x⟩ := q
  obtain ⟨w, h1, rfl⟩ := vm_lk_mem.mp hq
  exact vm_lk_mem.mpr ⟨w, vm_le_at hle h1, rfl⟩
