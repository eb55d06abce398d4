/-! THE ABSTRACT MACHINE: values are whole numbers (a representative of the machine's int or long) and numbers of cells; a memory maps a cell and a place to a whole number. -/
abbrev vm_V : Type := Int ⊕ (Int ⊕ Nat)
abbrev vm_M : Type := Nat → Int → Int
/-- a row of a method: its place, the instruction, how long it is, what the tables know of it -/
abbrev vm_En : Type := Nat × Instr × Nat × List Nat
/-- a method: name, bytes, how many locals, what it returns, its rows -/
abbrev vm_Me : Type := MethodName × ByteArray × Nat × Option FieldType × List vm_En
abbrev vm_Nm : Type := MethodName × ByteArray × Nat × Option FieldType
def vm_nth {α : Type} : List α → Nat → Option α
  | [], _ => none
  | a :: _, 0 => some a
  | _ :: l, n + 1 => vm_nth l n
theorem vm_nth_eq {α : Type} : ∀ (l : List α) (n : Nat), vm_nth l n = l[n]?
  | [], _ => by simp [vm_nth]
  | a :: l, 0 => by simp [vm_nth]
  | a :: l, n + 1 => by simp [vm_nth, vm_nth_eq l n]
theorem vm_nth_mem {α : Type} {l : List α} {n : Nat} {a : α} (h : vm_nth l n = some a) : a ∈ l := by
  rw [vm_nth_eq] at h
  exact List.mem_of_getElem? h
def vm_R (x : Int) : Prop := -2147483648 ≤ x ∧ x ≤ 2147483647
def vm_up (mem : vm_M) (c : Nat) (i v : Int) : vm_M := fun c' i' => if c' = c ∧ i' = i then v else mem c' i'
def vm_and (a b : Int) : Int := (Int32.ofInt a &&& Int32.ofInt b).toInt
def vm_or (a b : Int) : Int := (Int32.ofInt a ||| Int32.ofInt b).toInt
def vm_xor (a b : Int) : Int := (Int32.ofInt a ^^^ Int32.ofInt b).toInt
def vm_shl (a b : Int) : Int := (Int32.ofInt a <<< (Int32.ofInt b &&& 31)).toInt
def vm_shr (a b : Int) : Int := (Int32.ofInt a >>> (Int32.ofInt b &&& 31)).toInt
def vm_div (a b : Int) : Int := (Int32.ofInt a / Int32.ofInt b).toInt
def vm_rem (a b : Int) : Int := (Int32.ofInt a - Int32.ofInt a / Int32.ofInt b * Int32.ofInt b).toInt
def vm_land (a b : Int) : Int := (Int64.ofInt a &&& Int64.ofInt b).toInt
def vm_lor (a b : Int) : Int := (Int64.ofInt a ||| Int64.ofInt b).toInt
def vm_lushr (a b : Int) : Int := (((Int64.ofInt a).toUInt64 >>> ((Int32.ofInt b).toInt64.toUInt64 &&& Int64.toUInt64 63)).toInt64).toInt
def vm_lshl (a b : Int) : Int := (Int64.ofInt a <<< ((Int32.ofInt b).toInt64 &&& 63)).toInt
def vm_lshr (a b : Int) : Int := (Int64.ofInt a >>> ((Int32.ofInt b).toInt64 &&& 63)).toInt
def vm_l2i (a : Int) : Int := ((Int64.ofInt a).toInt32).toInt
def vm_lcmp (a b : Int) : Int := (lg_cmp (Int64.ofInt a) (Int64.ofInt b)).toInt
def vm_i2c (a : Int) : Int := (((Int32.ofInt a).toUInt32 % 65536).toInt32).toInt
def vm_chr (a : Int) : Int := (vp_nar .char (Int32.ofInt a)).toInt
def vm_bool (a : Int) : Int := (vp_nar .boolean (Int32.ofInt a)).toInt
/-- the copy of n cells -/
def vm_cpy (mem : vm_M) (a b : Nat) (sp dp n : Int) : vm_M := fun c i => if c = b ∧ dp ≤ i ∧ i < dp + n then mem a (sp + (i - dp)) else mem c i
theorem vm_ofTo (x : Int32) : Int32.ofInt x.toInt = x := Int32.ofInt_toInt x
theorem vm_ofTo64 (x : Int64) : Int64.ofInt x.toInt = x := Int64.ofInt_toInt x
theorem vm_toOf {x : Int} (h : vm_R x) : (Int32.ofInt x).toInt = x := by
  rw [Int32.toInt_ofInt]
  unfold vm_R at h
  have hs : (Int32.size : Int) = 4294967296 := rfl
  rw [Int.bmod_def, hs]
  split <;> omega
theorem vm_ltI {x y : Int} (hx : vm_R x) (hy : vm_R y) : Int32.ofInt x < Int32.ofInt y ↔ x < y := by
  rw [Int32.lt_iff_toInt_lt, vm_toOf hx, vm_toOf hy]
theorem vm_leI {x y : Int} (hx : vm_R x) (hy : vm_R y) : Int32.ofInt x ≤ Int32.ofInt y ↔ x ≤ y := by
  rw [Int32.le_iff_toInt_le, vm_toOf hx, vm_toOf hy]
theorem vm_eqI {x y : Int} (hx : vm_R x) (hy : vm_R y) : Int32.ofInt x = Int32.ofInt y ↔ x = y := by
  constructor
  · intro h
    have := congrArg Int32.toInt h
    rwa [vm_toOf hx, vm_toOf hy] at this
  · intro h; rw [h]
theorem vm_R0 : vm_R 0 := ⟨by decide, by decide⟩
theorem vm_zero : (0 : Int32) = Int32.ofInt 0 := by decide
theorem vm_nat {x : Int} (h0 : 0 ≤ x) (h1 : x ≤ 2147483647) : (Int32.ofInt x).toNatClampNeg = x.toNat := by
  rw [Int32.toNatClampNeg, vm_toOf ⟨by omega, h1⟩]
theorem vm_in {x : Int} {n : Nat} (h0 : 0 ≤ x) (h1 : x < (n : Int)) (hn : n ≤ 1000000) : vp_in (Int32.ofInt x) n := by
  have h2 : x ≤ 2147483647 := by omega
  unfold vp_in
  rw [vm_nat h0 h2, vm_zero, vm_ltI ⟨by omega, h2⟩ vm_R0]
  omega
/-! the layout -/
/-- the kind of a cell: (0, class) an object, (1, n) ints, (2, n) chars, (3, n) booleans -/
def vm_kinds : List (Nat × Nat) := [(0, 7), (0, 0), (0, 2), (0, 3), (0, 6), (0, 6), (0, 5), (0, 1), (0, 4), (1, 66), (2, 80), (1, 372), (1, 124), (1, 272), (1, 272), (1, 128), (1, 128), (1, 128), (1, 128), (1, 128), (1, 512), (1, 512), (1, 16), (1, 48), (0, 8), (1, 62), (1, 372), (1, 124), (3, 2), (1, 12), (1, 12), (1, 12), (1, 156), (1, 156), (1, 13), (1, 12), (1, 80), (1, 132)]
def vm_nf : List Nat := [3, 3, 2, 9, 9, 5, 2, 7, 23]
def vm_rfs : List (List (Option Nat)) := [[some 1, some 2, some 3, some 4, some 5, none, none], [some 9, none, none], [some 6, some 7], [some 10, none, none, none, none, none, none, none, none], [none, some 11], [none, some 12], [some 8, some 13, some 14, none, none], [some 23, none, none], [some 15, some 16, some 17, some 18, some 19, some 20, some 21, some 22, none], [], [], [], [], [], [], [], [], [], [], [], [], [], [], [], [some 25, some 26, none, none, some 27, some 28, some 29, some 30, some 31, none, none, none, none, some 32, some 33, some 34, some 35, some 36, none, none, none, none, some 37]]
def vm_rf (c j : Nat) : Option Nat := ((vm_nth vm_rfs c).bind fun l => vm_nth l j).join
abbrev vm_G : Type := Launch × va_G × (Nat → Nat) × (Nat → ClassId) × (Nat → Nat) × (Nat → Int → Int)
abbrev vm_G.l (G : vm_G) : Launch := G.1
abbrev vm_G.D (G : vm_G) : va_G := G.2.1
abbrev vm_G.adr (G : vm_G) : Nat → Nat := G.2.2.1
abbrev vm_G.cA (G : vm_G) : Nat → ClassId := G.2.2.2.1
abbrev vm_G.len (G : vm_G) : Nat → Nat := G.2.2.2.2.1
abbrev vm_G.rom (G : vm_G) : Nat → Int → Int := G.2.2.2.2.2
abbrev vm_Me.y (M : vm_Me) : MethodName := M.1
abbrev vm_Me.bytes (M : vm_Me) : ByteArray := M.2.1
abbrev vm_Me.maxL (M : vm_Me) : Nat := M.2.2.1
abbrev vm_Me.ret (M : vm_Me) : Option FieldType := M.2.2.2.1
abbrev vm_Me.code (M : vm_Me) : List vm_En := M.2.2.2.2
def vm_tys (G : vm_G) : List (ClassId × FieldType) := [(G.cA 1, .int), (G.cA 2, .char), (G.cA 3, .boolean)]
def vm_cv (G : vm_G) : vm_V → Value
  | .inl n => .int (Int32.ofInt n)
  | .inr (.inl n) => .long (Int64.ofInt n)
  | .inr (.inr a) => .ref (G.adr a)
def vm_fv (G : vm_G) (mem : vm_M) (c j : Nat) : Value := match vm_rf c j with
  | some t => .ref (G.adr t)
  | none => .int (Int32.ofInt (mem c (j : Int)))
def vm_cell (G : vm_G) (mem : vm_M) (c : Nat) : va_E := match vm_nth vm_kinds c with
  | some (0, ci) => .inr (ci, (List.range ((vm_nth vm_nf ci).getD 0)).map (vm_fv G mem c))
  | some (k + 1, n) => .inl (G.cA (k + 1), n, .inl (fun i => Int32.ofInt (mem c (i : Int))))
  | none => .inr (0, [])
def vm_ws (G : vm_G) (mem : vm_M) : va_W := (List.range 38).map fun c => (G.adr c, vm_cell G mem c)
theorem vm_ws_at (G : vm_G) (mem : vm_M) {c : Nat} (h : c < 38) : (vm_ws G mem)[c]? = some (G.adr c, vm_cell G mem c) := by
  simp [vm_ws, List.getElem?_range, h]
theorem vm_cell_arr {G : vm_G} {mem : vm_M} {c k n : Nat} (h : vm_nth vm_kinds c = some (k + 1, n)) : vm_cell G mem c = .inl (G.cA (k + 1), n, .inl (fun i => Int32.ofInt (mem c (i : Int)))) := by
  simp only [vm_cell, h]
theorem vm_cell_obj {G : vm_G} {mem : vm_M} {c ci : Nat} (h : vm_nth vm_kinds c = some (0, ci)) : vm_cell G mem c = .inr (ci, (List.range ((vm_nth vm_nf ci).getD 0)).map (vm_fv G mem c)) := by
  simp only [vm_cell, h]
theorem vm_cell_eq {G : vm_G} {mem mem' : vm_M} {c : Nat} (h : mem c = mem' c) : vm_cell G mem c = vm_cell G mem' c := by
  have hf : vm_fv G mem c = vm_fv G mem' c := by
    funext j
    simp only [vm_fv, h]
  unfold vm_cell
  rw [hf, h]
theorem vm_ws_set {G : vm_G} {mem mem' : vm_M} {c : Nat} {x : va_E} (h : c < 38) (hx : vm_cell G mem' c = x) (ho : ∀ k, k ≠ c → mem k = mem' k) : (vm_ws G mem).set c (G.adr c, x) = vm_ws G mem' := by
  apply List.ext_getElem?
  intro k
  rw [List.getElem?_set]
  by_cases hk : c = k
  · subst hk
    have hl : c < (vm_ws G mem).length := by simp [vm_ws]; exact h
    rw [if_pos rfl, if_pos hl, vm_ws_at G mem' h, hx]
  · rw [if_neg hk]
    by_cases hk2 : k < 38
    · rw [vm_ws_at G mem hk2, vm_ws_at G mem' hk2, vm_cell_eq (ho k (Ne.symm hk))]
    · rw [List.getElem?_eq_none (by simp [vm_ws]; omega), List.getElem?_eq_none (by simp [vm_ws]; omega)]
/-- the words that the tables hold in every state, and those of nest mates -/
def vm_isN : Cond → Bool
  | .fieldLinkNest _ _ _ _ _ _ => true
  | .methodLinkNest _ _ _ _ => true
  | _ => false
def vm_WS : List Cond := lw_tbl.filter goodWord
def vm_WN : List Cond := lw_tbl.filter vm_isN
theorem vm_ws_in {p : Nat} {w : Cond} (h : lw_tbl[p]? = some w) (hg : goodWord w = true) : w ∈ vm_WS := List.mem_filter.mpr ⟨List.mem_of_getElem? h, hg⟩
theorem vm_wn_in {p : Nat} {w : Cond} (h : lw_tbl[p]? = some w) (hg : vm_isN w = true) : w ∈ vm_WN := List.mem_filter.mpr ⟨List.mem_of_getElem? h, hg⟩
theorem vm_WS_good : GoodIn vm_WS vm_WS := fun w h => ⟨h, good_of_word (List.mem_filter.mp h).2⟩
theorem vm_WN_warm {s U : State} (hW : s.WarmedH U.vm) (h : ∀ w ∈ vm_WN, va_Nw w s) : ∀ w ∈ vm_WN, va_Nw w U := by
  intro w hw
  have h1 := h w hw
  have h2 := (List.mem_filter.mp hw).2
  cases w <;> first | exact va_Nw.warmF hW h1 | exact va_Nw.warmM hW h1 | (simp [vm_isN] at h2; done)
/-- the locals as the kit tells them -/
def vm_lk (G : vm_G) (al : List (Option vm_V)) : List (Nat × Value) := al.zipIdx.filterMap fun q => q.1.map fun v => (q.2, vm_cv G v)
theorem vm_lk_mem {G : vm_G} {al : List (Option vm_V)} {j : Nat} {x : Value} : (j, x) ∈ vm_lk G al ↔ ∃ v, al[j]? = some (some v) ∧ x = vm_cv G v := by
  unfold vm_lk
  rw [List.mem_filterMap]
  constructor
  · rintro ⟨⟨o, i⟩, h1, h2⟩
    rw [List.mem_zipIdx_iff_getElem?] at h1
    cases o with
    | none => simp at h2
    | some v =>
      simp at h2
      obtain ⟨rfl, rfl⟩ := h2
      exact ⟨v, h1, rfl⟩
  · rintro ⟨v, h1, rfl⟩
    exact ⟨(some v, j), List.mem_zipIdx_iff_getElem?.mpr h1, rfl⟩
theorem vm_lk_at {G : vm_G} {al : List (Option vm_V)} {ls : Array Slot} {n j : Nat} {v : vm_V} (h : lv_has ls n (vm_lk G al)) (hj : vm_nth al j = some (some v)) : ls[j]? = some (.val (vm_cv G v)) :=
  h.2.2 (j, vm_cv G v) (vm_lk_mem.mpr ⟨v, by rw [← vm_nth_eq]; exact hj, rfl⟩)
/-- a local may be written: the one before isn't a long -/
def vm_okst (al : List (Option vm_V)) : Nat → Bool
  | 0 => true
  | i + 1 => match vm_nth al i with
    | some (some (.inr (.inl _))) => false
    | _ => true
def vm_set {α : Type} : List α → Nat → α → List α
  | [], _, _ => []
  | _ :: l, 0, x => x :: l
  | a :: l, n + 1, x => a :: vm_set l n x
theorem vm_set_at {α : Type} : ∀ (l : List α) (i : Nat) (x : α) (j : Nat), (vm_set l i x)[j]? = if i = j ∧ j < l.length then some x else l[j]?
  | [], i, x, j => by simp [vm_set]
  | a :: l, 0, x, 0 => by simp [vm_set]
  | a :: l, 0, x, j + 1 => by simp [vm_set]
  | a :: l, i + 1, x, 0 => by simp [vm_set]
  | a :: l, i + 1, x, j + 1 => by simp [vm_set, vm_set_at l i x j]
theorem vm_lk_set {G : vm_G} {al : List (Option vm_V)} {ls : Array Slot} {n i : Nat} {v : vm_V} (hok : vm_okst al i = true)
    (h : lv_has ls n ((i, vm_cv G v) :: (vm_lk G al).filter (fun q => !(q.1 == i) && !(q.1 + 1 == i && q.2.category == 2)))) : lv_has ls n (vm_lk G (vm_set al i (some v))) := by
  refine ⟨h.1, h.2.1, fun q hq => h.2.2 q ?_⟩
  obtain ⟨j, x⟩ := q
  obtain ⟨w, h1, rfl⟩ := vm_lk_mem.mp hq
  rw [vm_set_at] at h1
  split at h1
  · rename_i hij
    cases h1
    rw [← hij.1]
    exact List.mem_cons_self
  · rename_i hij
    have hjl : j < al.length := by
      rcases Nat.lt_or_ge j al.length with q | q
      · exact q
      · rw [List.getElem?_eq_none q] at h1; cases h1
    have hne : ¬ j = i := fun e => hij ⟨e.symm, hjl⟩
    refine List.mem_cons_of_mem _ (List.mem_filter.mpr ⟨vm_lk_mem.mpr ⟨w, h1, rfl⟩, ?_⟩)
    simp only [beq_eq_false_iff_ne.mpr hne, Bool.not_false, Bool.true_and, Bool.not_eq_true', Bool.and_eq_false_imp, beq_iff_eq]
    intro e
    cases i with
    | zero => omega
    | succ i =>
      have e2 : j = i := by omega
      subst e2
      rw [← vm_nth_eq] at h1
      simp only [vm_okst, h1] at hok
      cases w with
      | inl _ => rfl
      | inr w => cases w with
        | inl _ => simp at hok
        | inr _ => rfl
theorem vm_lk_set2 {G : vm_G} {al : List (Option vm_V)} {ls : Array Slot} {n i : Nat} {x : Int} (hok : vm_okst al i = true)
    (h : lv_has ls n ((i, Value.long (Int64.ofInt x)) :: (vm_lk G al).filter (fun q => !(q.1 == i) && (!(q.1 == i + 1) && !(q.1 + 1 == i && q.2.category == 2))))) : lv_has ls n (vm_lk G (vm_set (vm_set al i (some (.inr (.inl x)))) (i + 1) none)) := by
  refine ⟨h.1, h.2.1, fun q hq => h.2.2 q ?_⟩
  obtain ⟨j, y⟩ := q
  obtain ⟨w, h1, rfl⟩ := vm_lk_mem.mp hq
  rw [vm_set_at] at h1
  split at h1
  · cases h1
  · rename_i hij2
    rw [vm_set_at] at h1
    have hlen : (vm_set al i (some (.inr (.inl x)) : Option vm_V)).length = al.length := by
      have : ∀ (l : List (Option vm_V)) (i : Nat) (x : Option vm_V), (vm_set l i x).length = l.length := by
        intro l
        induction l with
        | nil => intro i x; rfl
        | cons a l ih => intro i x; cases i <;> simp [vm_set, ih]
      exact this _ _ _
    rw [hlen] at hij2
    split at h1
    · rename_i hij
      cases h1
      rw [← hij.1]
      exact List.mem_cons_self
    · rename_i hij
      have hjl : j < al.length := by
        rcases Nat.lt_or_ge j al.length with q | q
        · exact q
        · rw [List.getElem?_eq_none q] at h1; cases h1
      have hne : ¬ j = i := fun e => hij ⟨e.symm, hjl⟩
      have hne2 : ¬ j = i + 1 := fun e => hij2 ⟨e.symm, hjl⟩
      refine List.mem_cons_of_mem _ (List.mem_filter.mpr ⟨vm_lk_mem.mpr ⟨w, h1, rfl⟩, ?_⟩)
      simp only [beq_eq_false_iff_ne.mpr hne, beq_eq_false_iff_ne.mpr hne2, Bool.not_false, Bool.true_and, Bool.not_eq_true', Bool.and_eq_false_imp, beq_iff_eq]
      intro e
      cases i with
      | zero => omega
      | succ i =>
        have e2 : j = i := by omega
        subst e2
        rw [← vm_nth_eq] at h1
        simp only [vm_okst, h1] at hok
        cases w with
        | inl _ => rfl
        | inr w => cases w with
          | inl _ => simp at hok
          | inr _ => rfl
