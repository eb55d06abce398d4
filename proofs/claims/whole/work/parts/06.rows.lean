theorem vm_i2lE {a : Int} (h : vm_R a) : (Int32.ofInt a).toInt64 = Int64.ofInt a := by
  rw [← Int64.toInt_inj, Int32.toInt_toInt64, vm_toOf h, Int64.toInt_ofInt]
  unfold vm_R at h
  have hs : (Int64.size : Int) = 18446744073709551616 := rfl
  rw [Int.bmod_def, hs]
  split <;> omega
section VMR
variable {G : vm_G} {d : Nat} {M : vm_Me} {pc : Nat} {al : List (Option vm_V)} {st : List vm_V} {mem : vm_M} {Q : vm_M → Option vm_V → Prop}
theorem ex_iadd {x_ : List Nat} {a b : Int} (i_ : Nat) (hc : vm_nth M.code i_ = some (pc, .iadd, 1, x_)) (h : vm_ex G d M (pc + 1) al (.inl (a + b) :: st) mem Q) : vm_ex G d M pc al (.inl b :: .inl a :: st) mem Q := by
  intro ok p e R s m args below meth c A cells slots Z Cx H locs ls hH hl hret
  obtain ⟨hx, hb, hml, hown, hts, hnn, hR, hK, hA, hO⟩ := id Cx
  have hdg := vm_dec ok hc
  have hk := h ok p e R s m args below meth c A cells slots Z Cx H locs ls hH hl hret
  simp only [List.map_cons, vm_cv, Int32.ofInt_add, Int32.ofInt_sub, Int32.ofInt_mul, Int32.ofInt_neg, vm_ofTo, vm_ofTo64] at hk ⊢
  exact lv_iadd hx hb hdg hk
theorem ex_isub {x_ : List Nat} {a b : Int} (i_ : Nat) (hc : vm_nth M.code i_ = some (pc, .isub, 1, x_)) (h : vm_ex G d M (pc + 1) al (.inl (a - b) :: st) mem Q) : vm_ex G d M pc al (.inl b :: .inl a :: st) mem Q := by
  intro ok p e R s m args below meth c A cells slots Z Cx H locs ls hH hl hret
  obtain ⟨hx, hb, hml, hown, hts, hnn, hR, hK, hA, hO⟩ := id Cx
  have hdg := vm_dec ok hc
  have hk := h ok p e R s m args below meth c A cells slots Z Cx H locs ls hH hl hret
  simp only [List.map_cons, vm_cv, Int32.ofInt_add, Int32.ofInt_sub, Int32.ofInt_mul, Int32.ofInt_neg, vm_ofTo, vm_ofTo64] at hk ⊢
  exact lv_isub hx hb hdg hk
theorem ex_imul {x_ : List Nat} {a b : Int} (i_ : Nat) (hc : vm_nth M.code i_ = some (pc, .imul, 1, x_)) (h : vm_ex G d M (pc + 1) al (.inl (a * b) :: st) mem Q) : vm_ex G d M pc al (.inl b :: .inl a :: st) mem Q := by
  intro ok p e R s m args below meth c A cells slots Z Cx H locs ls hH hl hret
  obtain ⟨hx, hb, hml, hown, hts, hnn, hR, hK, hA, hO⟩ := id Cx
  have hdg := vm_dec ok hc
  have hk := h ok p e R s m args below meth c A cells slots Z Cx H locs ls hH hl hret
  simp only [List.map_cons, vm_cv, Int32.ofInt_add, Int32.ofInt_sub, Int32.ofInt_mul, Int32.ofInt_neg, vm_ofTo, vm_ofTo64] at hk ⊢
  exact lv_imul hx hb hdg hk
theorem ex_iand {x_ : List Nat} {a b : Int} (i_ : Nat) (hc : vm_nth M.code i_ = some (pc, .iand, 1, x_)) (h : vm_ex G d M (pc + 1) al (.inl (vm_and a b) :: st) mem Q) : vm_ex G d M pc al (.inl b :: .inl a :: st) mem Q := by
  intro ok p e R s m args below meth c A cells slots Z Cx H locs ls hH hl hret
  obtain ⟨hx, hb, hml, hown, hts, hnn, hR, hK, hA, hO⟩ := id Cx
  have hdg := vm_dec ok hc
  have hk := h ok p e R s m args below meth c A cells slots Z Cx H locs ls hH hl hret
  simp only [vm_and] at hk
  simp only [List.map_cons, vm_cv, Int32.ofInt_add, Int32.ofInt_sub, Int32.ofInt_mul, Int32.ofInt_neg, vm_ofTo, vm_ofTo64] at hk ⊢
  exact lv_iand hx hb hdg hk
theorem ex_ior {x_ : List Nat} {a b : Int} (i_ : Nat) (hc : vm_nth M.code i_ = some (pc, .ior, 1, x_)) (h : vm_ex G d M (pc + 1) al (.inl (vm_or a b) :: st) mem Q) : vm_ex G d M pc al (.inl b :: .inl a :: st) mem Q := by
  intro ok p e R s m args below meth c A cells slots Z Cx H locs ls hH hl hret
  obtain ⟨hx, hb, hml, hown, hts, hnn, hR, hK, hA, hO⟩ := id Cx
  have hdg := vm_dec ok hc
  have hk := h ok p e R s m args below meth c A cells slots Z Cx H locs ls hH hl hret
  simp only [vm_or] at hk
  simp only [List.map_cons, vm_cv, Int32.ofInt_add, Int32.ofInt_sub, Int32.ofInt_mul, Int32.ofInt_neg, vm_ofTo, vm_ofTo64] at hk ⊢
  exact lv_ior hx hb hdg hk
theorem ex_ixor {x_ : List Nat} {a b : Int} (i_ : Nat) (hc : vm_nth M.code i_ = some (pc, .ixor, 1, x_)) (h : vm_ex G d M (pc + 1) al (.inl (vm_xor a b) :: st) mem Q) : vm_ex G d M pc al (.inl b :: .inl a :: st) mem Q := by
  intro ok p e R s m args below meth c A cells slots Z Cx H locs ls hH hl hret
  obtain ⟨hx, hb, hml, hown, hts, hnn, hR, hK, hA, hO⟩ := id Cx
  have hdg := vm_dec ok hc
  have hk := h ok p e R s m args below meth c A cells slots Z Cx H locs ls hH hl hret
  simp only [vm_xor] at hk
  simp only [List.map_cons, vm_cv, Int32.ofInt_add, Int32.ofInt_sub, Int32.ofInt_mul, Int32.ofInt_neg, vm_ofTo, vm_ofTo64] at hk ⊢
  exact lv_ixor hx hb hdg hk
theorem ex_ishl {x_ : List Nat} {a b : Int} (i_ : Nat) (hc : vm_nth M.code i_ = some (pc, .ishl, 1, x_)) (h : vm_ex G d M (pc + 1) al (.inl (vm_shl a b) :: st) mem Q) : vm_ex G d M pc al (.inl b :: .inl a :: st) mem Q := by
  intro ok p e R s m args below meth c A cells slots Z Cx H locs ls hH hl hret
  obtain ⟨hx, hb, hml, hown, hts, hnn, hR, hK, hA, hO⟩ := id Cx
  have hdg := vm_dec ok hc
  have hk := h ok p e R s m args below meth c A cells slots Z Cx H locs ls hH hl hret
  simp only [vm_shl] at hk
  simp only [List.map_cons, vm_cv, Int32.ofInt_add, Int32.ofInt_sub, Int32.ofInt_mul, Int32.ofInt_neg, vm_ofTo, vm_ofTo64] at hk ⊢
  exact lv_ishl hx hb hdg hk
theorem ex_ishr {x_ : List Nat} {a b : Int} (i_ : Nat) (hc : vm_nth M.code i_ = some (pc, .ishr, 1, x_)) (h : vm_ex G d M (pc + 1) al (.inl (vm_shr a b) :: st) mem Q) : vm_ex G d M pc al (.inl b :: .inl a :: st) mem Q := by
  intro ok p e R s m args below meth c A cells slots Z Cx H locs ls hH hl hret
  obtain ⟨hx, hb, hml, hown, hts, hnn, hR, hK, hA, hO⟩ := id Cx
  have hdg := vm_dec ok hc
  have hk := h ok p e R s m args below meth c A cells slots Z Cx H locs ls hH hl hret
  simp only [vm_shr] at hk
  simp only [List.map_cons, vm_cv, Int32.ofInt_add, Int32.ofInt_sub, Int32.ofInt_mul, Int32.ofInt_neg, vm_ofTo, vm_ofTo64] at hk ⊢
  exact lv_ishr hx hb hdg hk
theorem ex_ineg {x_ : List Nat} {a : Int} (i_ : Nat) (hc : vm_nth M.code i_ = some (pc, .ineg, 1, x_)) (h : vm_ex G d M (pc + 1) al (.inl (-a) :: st) mem Q) : vm_ex G d M pc al (.inl a :: st) mem Q := by
  intro ok p e R s m args below meth c A cells slots Z Cx H locs ls hH hl hret
  obtain ⟨hx, hb, hml, hown, hts, hnn, hR, hK, hA, hO⟩ := id Cx
  have hdg := vm_dec ok hc
  have hk := h ok p e R s m args below meth c A cells slots Z Cx H locs ls hH hl hret
  simp only [List.map_cons, vm_cv, Int32.ofInt_add, Int32.ofInt_sub, Int32.ofInt_mul, Int32.ofInt_neg, vm_ofTo, vm_ofTo64] at hk ⊢
  exact lv_ineg hx hb hdg hk
theorem ex_idiv {x_ : List Nat} {a b : Int} (i_ : Nat) (hc : vm_nth M.code i_ = some (pc, .idiv, 1, x_)) (hb0 : vm_R b ∧ ¬ b = 0) (h : vm_ex G d M (pc + 1) al (.inl (vm_div a b) :: st) mem Q) : vm_ex G d M pc al (.inl b :: .inl a :: st) mem Q := by
  intro ok p e R s m args below meth c A cells slots Z Cx H locs ls hH hl hret
  obtain ⟨hx, hb, hml, hown, hts, hnn, hR, hK, hA, hO⟩ := id Cx
  have hdg := vm_dec ok hc
  have hk := h ok p e R s m args below meth c A cells slots Z Cx H locs ls hH hl hret
  simp only [vm_div] at hk
  simp only [List.map_cons, vm_cv, Int32.ofInt_add, Int32.ofInt_sub, Int32.ofInt_mul, Int32.ofInt_neg, vm_ofTo, vm_ofTo64] at hk ⊢
  exact lv_idiv hx hb hdg (fun e0 => hb0.2 ((vm_eqI hb0.1 vm_R0).mp (e0.trans vm_zero))) hk
theorem ex_irem {x_ : List Nat} {a b : Int} (i_ : Nat) (hc : vm_nth M.code i_ = some (pc, .irem, 1, x_)) (hb0 : vm_R b ∧ ¬ b = 0) (h : vm_ex G d M (pc + 1) al (.inl (vm_rem a b) :: st) mem Q) : vm_ex G d M pc al (.inl b :: .inl a :: st) mem Q := by
  intro ok p e R s m args below meth c A cells slots Z Cx H locs ls hH hl hret
  obtain ⟨hx, hb, hml, hown, hts, hnn, hR, hK, hA, hO⟩ := id Cx
  have hdg := vm_dec ok hc
  have hk := h ok p e R s m args below meth c A cells slots Z Cx H locs ls hH hl hret
  simp only [vm_rem] at hk
  simp only [List.map_cons, vm_cv, Int32.ofInt_add, Int32.ofInt_sub, Int32.ofInt_mul, Int32.ofInt_neg, vm_ofTo, vm_ofTo64] at hk ⊢
  exact lv_irem hx hb hdg (fun e0 => hb0.2 ((vm_eqI hb0.1 vm_R0).mp (e0.trans vm_zero))) hk
theorem ex_land {x_ : List Nat} {a b : Int} (i_ : Nat) (hc : vm_nth M.code i_ = some (pc, .land, 1, x_)) (h : vm_ex G d M (pc + 1) al (.inr (.inl (vm_land a b)) :: st) mem Q) : vm_ex G d M pc al (.inr (.inl b) :: .inr (.inl a) :: st) mem Q := by
  intro ok p e R s m args below meth c A cells slots Z Cx H locs ls hH hl hret
  obtain ⟨hx, hb, hml, hown, hts, hnn, hR, hK, hA, hO⟩ := id Cx
  have hdg := vm_dec ok hc
  have hk := h ok p e R s m args below meth c A cells slots Z Cx H locs ls hH hl hret
  simp only [vm_land] at hk
  simp only [List.map_cons, vm_cv, Int32.ofInt_add, Int32.ofInt_sub, Int32.ofInt_mul, Int32.ofInt_neg, vm_ofTo, vm_ofTo64] at hk ⊢
  exact lv_land hx hb hdg hk
theorem ex_lor {x_ : List Nat} {a b : Int} (i_ : Nat) (hc : vm_nth M.code i_ = some (pc, .lor, 1, x_)) (h : vm_ex G d M (pc + 1) al (.inr (.inl (vm_lor a b)) :: st) mem Q) : vm_ex G d M pc al (.inr (.inl b) :: .inr (.inl a) :: st) mem Q := by
  intro ok p e R s m args below meth c A cells slots Z Cx H locs ls hH hl hret
  obtain ⟨hx, hb, hml, hown, hts, hnn, hR, hK, hA, hO⟩ := id Cx
  have hdg := vm_dec ok hc
  have hk := h ok p e R s m args below meth c A cells slots Z Cx H locs ls hH hl hret
  simp only [vm_lor] at hk
  simp only [List.map_cons, vm_cv, Int32.ofInt_add, Int32.ofInt_sub, Int32.ofInt_mul, Int32.ofInt_neg, vm_ofTo, vm_ofTo64] at hk ⊢
  exact lv_lor hx hb hdg hk
theorem ex_lushr {x_ : List Nat} {a b : Int} (i_ : Nat) (hc : vm_nth M.code i_ = some (pc, .lushr, 1, x_)) (h : vm_ex G d M (pc + 1) al (.inr (.inl (vm_lushr a b)) :: st) mem Q) : vm_ex G d M pc al (.inl b :: .inr (.inl a) :: st) mem Q := by
  intro ok p e R s m args below meth c A cells slots Z Cx H locs ls hH hl hret
  obtain ⟨hx, hb, hml, hown, hts, hnn, hR, hK, hA, hO⟩ := id Cx
  have hdg := vm_dec ok hc
  have hk := h ok p e R s m args below meth c A cells slots Z Cx H locs ls hH hl hret
  simp only [vm_lushr] at hk
  simp only [List.map_cons, vm_cv, Int32.ofInt_add, Int32.ofInt_sub, Int32.ofInt_mul, Int32.ofInt_neg, vm_ofTo, vm_ofTo64] at hk ⊢
  exact lv_lushr hx hb hdg rfl hk
theorem ex_lshl {x_ : List Nat} {a b : Int} (i_ : Nat) (hc : vm_nth M.code i_ = some (pc, .lshl, 1, x_)) (h : vm_ex G d M (pc + 1) al (.inr (.inl (vm_lshl a b)) :: st) mem Q) : vm_ex G d M pc al (.inl b :: .inr (.inl a) :: st) mem Q := by
  intro ok p e R s m args below meth c A cells slots Z Cx H locs ls hH hl hret
  obtain ⟨hx, hb, hml, hown, hts, hnn, hR, hK, hA, hO⟩ := id Cx
  have hdg := vm_dec ok hc
  have hk := h ok p e R s m args below meth c A cells slots Z Cx H locs ls hH hl hret
  simp only [vm_lshl] at hk
  simp only [List.map_cons, vm_cv, Int32.ofInt_add, Int32.ofInt_sub, Int32.ofInt_mul, Int32.ofInt_neg, vm_ofTo, vm_ofTo64] at hk ⊢
  exact lv_lshl hx hb hdg rfl hk
theorem ex_lshr {x_ : List Nat} {a b : Int} (i_ : Nat) (hc : vm_nth M.code i_ = some (pc, .lshr, 1, x_)) (h : vm_ex G d M (pc + 1) al (.inr (.inl (vm_lshr a b)) :: st) mem Q) : vm_ex G d M pc al (.inl b :: .inr (.inl a) :: st) mem Q := by
  intro ok p e R s m args below meth c A cells slots Z Cx H locs ls hH hl hret
  obtain ⟨hx, hb, hml, hown, hts, hnn, hR, hK, hA, hO⟩ := id Cx
  have hdg := vm_dec ok hc
  have hk := h ok p e R s m args below meth c A cells slots Z Cx H locs ls hH hl hret
  simp only [vm_lshr] at hk
  simp only [List.map_cons, vm_cv, Int32.ofInt_add, Int32.ofInt_sub, Int32.ofInt_mul, Int32.ofInt_neg, vm_ofTo, vm_ofTo64] at hk ⊢
  exact lv_lshr hx hb hdg rfl hk
theorem ex_lcmp {x_ : List Nat} {a b : Int} (i_ : Nat) (hc : vm_nth M.code i_ = some (pc, .lcmp, 1, x_)) (h : vm_ex G d M (pc + 1) al (.inl (vm_lcmp a b) :: st) mem Q) : vm_ex G d M pc al (.inr (.inl b) :: .inr (.inl a) :: st) mem Q := by
  intro ok p e R s m args below meth c A cells slots Z Cx H locs ls hH hl hret
  obtain ⟨hx, hb, hml, hown, hts, hnn, hR, hK, hA, hO⟩ := id Cx
  have hdg := vm_dec ok hc
  have hk := h ok p e R s m args below meth c A cells slots Z Cx H locs ls hH hl hret
  simp only [vm_lcmp] at hk
  simp only [List.map_cons, vm_cv, Int32.ofInt_add, Int32.ofInt_sub, Int32.ofInt_mul, Int32.ofInt_neg, vm_ofTo, vm_ofTo64] at hk ⊢
  exact W.lcmp hx hb hdg hk
theorem ex_i2l {x_ : List Nat} {a : Int} (i_ : Nat) (hc : vm_nth M.code i_ = some (pc, .i2l, 1, x_)) (hr : vm_R a) (h : vm_ex G d M (pc + 1) al (.inr (.inl a) :: st) mem Q) : vm_ex G d M pc al (.inl a :: st) mem Q := by
  intro ok p e R s m args below meth c A cells slots Z Cx H locs ls hH hl hret
  obtain ⟨hx, hb, hml, hown, hts, hnn, hR, hK, hA, hO⟩ := id Cx
  have hdg := vm_dec ok hc
  have hk := h ok p e R s m args below meth c A cells slots Z Cx H locs ls hH hl hret
  simp only [List.map_cons, vm_cv, Int32.ofInt_add, Int32.ofInt_sub, Int32.ofInt_mul, Int32.ofInt_neg, vm_ofTo, vm_ofTo64] at hk ⊢
  exact lv_i2l hx hb hdg (vm_i2lE hr) hk
theorem ex_l2i {x_ : List Nat} {a : Int} (i_ : Nat) (hc : vm_nth M.code i_ = some (pc, .l2i, 1, x_)) (h : vm_ex G d M (pc + 1) al (.inl (vm_l2i a) :: st) mem Q) : vm_ex G d M pc al (.inr (.inl a) :: st) mem Q := by
  intro ok p e R s m args below meth c A cells slots Z Cx H locs ls hH hl hret
  obtain ⟨hx, hb, hml, hown, hts, hnn, hR, hK, hA, hO⟩ := id Cx
  have hdg := vm_dec ok hc
  have hk := h ok p e R s m args below meth c A cells slots Z Cx H locs ls hH hl hret
  simp only [vm_l2i] at hk
  simp only [List.map_cons, vm_cv, Int32.ofInt_add, Int32.ofInt_sub, Int32.ofInt_mul, Int32.ofInt_neg, vm_ofTo, vm_ofTo64] at hk ⊢
  exact lv_l2i hx hb hdg rfl hk
theorem ex_i2c {x_ : List Nat} {a : Int} (i_ : Nat) (hc : vm_nth M.code i_ = some (pc, .i2c, 1, x_)) (h : vm_ex G d M (pc + 1) al (.inl (vm_i2c a) :: st) mem Q) : vm_ex G d M pc al (.inl a :: st) mem Q := by
  intro ok p e R s m args below meth c A cells slots Z Cx H locs ls hH hl hret
  obtain ⟨hx, hb, hml, hown, hts, hnn, hR, hK, hA, hO⟩ := id Cx
  have hdg := vm_dec ok hc
  have hk := h ok p e R s m args below meth c A cells slots Z Cx H locs ls hH hl hret
  simp only [vm_i2c] at hk
  simp only [List.map_cons, vm_cv, Int32.ofInt_add, Int32.ofInt_sub, Int32.ofInt_mul, Int32.ofInt_neg, vm_ofTo, vm_ofTo64] at hk ⊢
  exact lv_i2c hx hb hdg rfl hk
theorem ex_iconst {x_ : List Nat} {n : Int} (i_ : Nat) (hc : vm_nth M.code i_ = some (pc, .iconst n, 1, x_)) (h : vm_ex G d M (pc + 1) al (.inl n :: st) mem Q) : vm_ex G d M pc al (st) mem Q := by
  intro ok p e R s m args below meth c A cells slots Z Cx H locs ls hH hl hret
  obtain ⟨hx, hb, hml, hown, hts, hnn, hR, hK, hA, hO⟩ := id Cx
  have hdg := vm_dec ok hc
  have hk := h ok p e R s m args below meth c A cells slots Z Cx H locs ls hH hl hret
  simp only [List.map_cons, vm_cv, Int32.ofInt_add, Int32.ofInt_sub, Int32.ofInt_mul, Int32.ofInt_neg, vm_ofTo, vm_ofTo64] at hk ⊢
  exact lv_iconst hx hb hdg rfl hk
theorem ex_bipush {x_ : List Nat} {n : Int} (i_ : Nat) (hc : vm_nth M.code i_ = some (pc, .bipush n, 2, x_)) (hv : (Int8.ofInt n).toInt32 = Int32.ofInt n) (h : vm_ex G d M (pc + 2) al (.inl n :: st) mem Q) : vm_ex G d M pc al (st) mem Q := by
  intro ok p e R s m args below meth c A cells slots Z Cx H locs ls hH hl hret
  obtain ⟨hx, hb, hml, hown, hts, hnn, hR, hK, hA, hO⟩ := id Cx
  have hdg := vm_dec ok hc
  have hk := h ok p e R s m args below meth c A cells slots Z Cx H locs ls hH hl hret
  simp only [List.map_cons, vm_cv, Int32.ofInt_add, Int32.ofInt_sub, Int32.ofInt_mul, Int32.ofInt_neg, vm_ofTo, vm_ofTo64] at hk ⊢
  exact lv_bipush hx hb hdg hv hk
theorem ex_sipush {x_ : List Nat} {n : Int} (i_ : Nat) (hc : vm_nth M.code i_ = some (pc, .sipush n, 3, x_)) (hv : (Int16.ofInt n).toInt32 = Int32.ofInt n) (h : vm_ex G d M (pc + 3) al (.inl n :: st) mem Q) : vm_ex G d M pc al (st) mem Q := by
  intro ok p e R s m args below meth c A cells slots Z Cx H locs ls hH hl hret
  obtain ⟨hx, hb, hml, hown, hts, hnn, hR, hK, hA, hO⟩ := id Cx
  have hdg := vm_dec ok hc
  have hk := h ok p e R s m args below meth c A cells slots Z Cx H locs ls hH hl hret
  simp only [List.map_cons, vm_cv, Int32.ofInt_add, Int32.ofInt_sub, Int32.ofInt_mul, Int32.ofInt_neg, vm_ofTo, vm_ofTo64] at hk ⊢
  exact lv_sipush hx hb hdg hv hk
theorem ex_lconst {x_ : List Nat} {k : Fin 2} {n : Int} (i_ : Nat) (hc : vm_nth M.code i_ = some (pc, .lconst k, 1, x_)) (hv : Int64.ofNat (k : Nat) = Int64.ofInt n) (h : vm_ex G d M (pc + 1) al (.inr (.inl n) :: st) mem Q) : vm_ex G d M pc al (st) mem Q := by
  intro ok p e R s m args below meth c A cells slots Z Cx H locs ls hH hl hret
  obtain ⟨hx, hb, hml, hown, hts, hnn, hR, hK, hA, hO⟩ := id Cx
  have hdg := vm_dec ok hc
  have hk := h ok p e R s m args below meth c A cells slots Z Cx H locs ls hH hl hret
  simp only [List.map_cons, vm_cv, Int32.ofInt_add, Int32.ofInt_sub, Int32.ofInt_mul, Int32.ofInt_neg, vm_ofTo, vm_ofTo64] at hk ⊢
  exact lv_lconst hx hb hdg hv hk
theorem ex_ldc {x_ : List Nat} {idx : Nat} {v : Int32} {n : Int} (i_ : Nat) (hc : vm_nth M.code i_ = some (pc, .ldc idx, 2, x_)) (hw : Cond.constant M.y.cls idx v ∈ vm_WS) (hv : v = Int32.ofInt n) (h : vm_ex G d M (pc + 2) al (.inl n :: st) mem Q) : vm_ex G d M pc al (st) mem Q := by
  intro ok p e R s m args below meth c A cells slots Z Cx H locs ls hH hl hret
  obtain ⟨hx, hb, hml, hown, hts, hnn, hR, hK, hA, hO⟩ := id Cx
  have hdg := vm_dec ok hc
  have hk := h ok p e R s m args below meth c A cells slots Z Cx H locs ls hH hl hret
  simp only [List.map_cons, vm_cv, Int32.ofInt_add, Int32.ofInt_sub, Int32.ofInt_mul, Int32.ofInt_neg, vm_ofTo, vm_ofTo64] at hk ⊢
  exact lv_ldc hx hb hown (hts _ hw) hdg (hv ▸ hk)
theorem ex_ldc2 {x_ : List Nat} {idx : Nat} {v : Int64} {n : Int} (i_ : Nat) (hc : vm_nth M.code i_ = some (pc, .ldc2_w idx, 3, x_)) (hw : Cond.constantLong M.y.cls idx v ∈ vm_WS) (hv : v = Int64.ofInt n) (h : vm_ex G d M (pc + 3) al (.inr (.inl n) :: st) mem Q) : vm_ex G d M pc al (st) mem Q := by
  intro ok p e R s m args below meth c A cells slots Z Cx H locs ls hH hl hret
  obtain ⟨hx, hb, hml, hown, hts, hnn, hR, hK, hA, hO⟩ := id Cx
  have hdg := vm_dec ok hc
  have hk := h ok p e R s m args below meth c A cells slots Z Cx H locs ls hH hl hret
  simp only [List.map_cons, vm_cv, Int32.ofInt_add, Int32.ofInt_sub, Int32.ofInt_mul, Int32.ofInt_neg, vm_ofTo, vm_ofTo64] at hk ⊢
  exact lv_ldc2 hx hb hown (hts _ hw) hdg (hv ▸ hk)
theorem ex_iload_n {x_ : List Nat} {k : Fin 4} {v : Int} (i_ : Nat) (hc : vm_nth M.code i_ = some (pc, .iload_n k, 1, x_)) (hv : vm_nth al k = some (some (.inl v))) (h : vm_ex G d M (pc + 1) al (.inl v :: st) mem Q) : vm_ex G d M pc al (st) mem Q := by
  intro ok p e R s m args below meth c A cells slots Z Cx H locs ls hH hl hret
  obtain ⟨hx, hb, hml, hown, hts, hnn, hR, hK, hA, hO⟩ := id Cx
  have hdg := vm_dec ok hc
  have hk := h ok p e R s m args below meth c A cells slots Z Cx H locs ls hH hl hret
  have hv := vm_lk_at hl hv
  simp only [List.map_cons, vm_cv, Int32.ofInt_add, Int32.ofInt_sub, Int32.ofInt_mul, Int32.ofInt_neg, vm_ofTo, vm_ofTo64] at hk hv ⊢
  exact lv_iload_n hx hb hdg rfl hv hk
theorem ex_iload {x_ : List Nat} {k : Nat} {v : Int} (i_ : Nat) (hc : vm_nth M.code i_ = some (pc, .iload k, 2, x_)) (hv : vm_nth al k = some (some (.inl v))) (h : vm_ex G d M (pc + 2) al (.inl v :: st) mem Q) : vm_ex G d M pc al (st) mem Q := by
  intro ok p e R s m args below meth c A cells slots Z Cx H locs ls hH hl hret
  obtain ⟨hx, hb, hml, hown, hts, hnn, hR, hK, hA, hO⟩ := id Cx
  have hdg := vm_dec ok hc
  have hk := h ok p e R s m args below meth c A cells slots Z Cx H locs ls hH hl hret
  have hv := vm_lk_at hl hv
  simp only [List.map_cons, vm_cv, Int32.ofInt_add, Int32.ofInt_sub, Int32.ofInt_mul, Int32.ofInt_neg, vm_ofTo, vm_ofTo64] at hk hv ⊢
  exact lv_iload hx hb hdg hv hk
theorem ex_lload_n {x_ : List Nat} {k : Fin 4} {v : Int} (i_ : Nat) (hc : vm_nth M.code i_ = some (pc, .lload_n k, 1, x_)) (hv : vm_nth al k = some (some (.inr (.inl v)))) (h : vm_ex G d M (pc + 1) al (.inr (.inl v) :: st) mem Q) : vm_ex G d M pc al (st) mem Q := by
  intro ok p e R s m args below meth c A cells slots Z Cx H locs ls hH hl hret
  obtain ⟨hx, hb, hml, hown, hts, hnn, hR, hK, hA, hO⟩ := id Cx
  have hdg := vm_dec ok hc
  have hk := h ok p e R s m args below meth c A cells slots Z Cx H locs ls hH hl hret
  have hv := vm_lk_at hl hv
  simp only [List.map_cons, vm_cv, Int32.ofInt_add, Int32.ofInt_sub, Int32.ofInt_mul, Int32.ofInt_neg, vm_ofTo, vm_ofTo64] at hk hv ⊢
  exact lv_lload_n hx hb hdg rfl hv hk
theorem ex_lload {x_ : List Nat} {k : Nat} {v : Int} (i_ : Nat) (hc : vm_nth M.code i_ = some (pc, .lload k, 2, x_)) (hv : vm_nth al k = some (some (.inr (.inl v)))) (h : vm_ex G d M (pc + 2) al (.inr (.inl v) :: st) mem Q) : vm_ex G d M pc al (st) mem Q := by
  intro ok p e R s m args below meth c A cells slots Z Cx H locs ls hH hl hret
  obtain ⟨hx, hb, hml, hown, hts, hnn, hR, hK, hA, hO⟩ := id Cx
  have hdg := vm_dec ok hc
  have hk := h ok p e R s m args below meth c A cells slots Z Cx H locs ls hH hl hret
  have hv := vm_lk_at hl hv
  simp only [List.map_cons, vm_cv, Int32.ofInt_add, Int32.ofInt_sub, Int32.ofInt_mul, Int32.ofInt_neg, vm_ofTo, vm_ofTo64] at hk hv ⊢
  exact lv_lload hx hb hdg hv hk
theorem ex_aload_n {x_ : List Nat} {k : Fin 4} {v : Nat} (i_ : Nat) (hc : vm_nth M.code i_ = some (pc, .aload_n k, 1, x_)) (hv : vm_nth al k = some (some (.inr (.inr v)))) (h : vm_ex G d M (pc + 1) al (.inr (.inr v) :: st) mem Q) : vm_ex G d M pc al (st) mem Q := by
  intro ok p e R s m args below meth c A cells slots Z Cx H locs ls hH hl hret
  obtain ⟨hx, hb, hml, hown, hts, hnn, hR, hK, hA, hO⟩ := id Cx
  have hdg := vm_dec ok hc
  have hk := h ok p e R s m args below meth c A cells slots Z Cx H locs ls hH hl hret
  have hv := vm_lk_at hl hv
  simp only [List.map_cons, vm_cv, Int32.ofInt_add, Int32.ofInt_sub, Int32.ofInt_mul, Int32.ofInt_neg, vm_ofTo, vm_ofTo64] at hk hv ⊢
  exact lv_aload_n hx hb hdg rfl hv hk
theorem ex_aload {x_ : List Nat} {k : Nat} {v : Nat} (i_ : Nat) (hc : vm_nth M.code i_ = some (pc, .aload k, 2, x_)) (hv : vm_nth al k = some (some (.inr (.inr v)))) (h : vm_ex G d M (pc + 2) al (.inr (.inr v) :: st) mem Q) : vm_ex G d M pc al (st) mem Q := by
  intro ok p e R s m args below meth c A cells slots Z Cx H locs ls hH hl hret
  obtain ⟨hx, hb, hml, hown, hts, hnn, hR, hK, hA, hO⟩ := id Cx
  have hdg := vm_dec ok hc
  have hk := h ok p e R s m args below meth c A cells slots Z Cx H locs ls hH hl hret
  have hv := vm_lk_at hl hv
  simp only [List.map_cons, vm_cv, Int32.ofInt_add, Int32.ofInt_sub, Int32.ofInt_mul, Int32.ofInt_neg, vm_ofTo, vm_ofTo64] at hk hv ⊢
  exact lv_aload hx hb hdg hv hk
theorem ex_istore_n {x_ : List Nat} {k : Fin 4} {v : Int} (i_ : Nat) (hc : vm_nth M.code i_ = some (pc, .istore_n k, 1, x_)) (hn : Nat.ble ((k : Nat) + 1) M.maxL = true) (hok : vm_okst al (k : Nat) = true) (h : vm_ex G d M (pc + 1) (vm_set al k (some (.inl v))) (st) mem Q) : vm_ex G d M pc al (.inl v :: st) mem Q := by
  intro ok p e R s m args below meth c A cells slots Z Cx H locs ls hH hl hret
  obtain ⟨hx, hb, hml, hown, hts, hnn, hR, hK, hA, hO⟩ := id Cx
  have hdg := vm_dec ok hc
  have hn := Nat.le_of_ble_eq_true hn
  simp only [List.map_cons, vm_cv]
  exact lv_istore_n hx hb hdg rfl hl hn rfl (fun ls1 hl1 => h ok p e R s m args below meth c A cells slots Z Cx H locs ls1 hH (vm_lk_set hok hl1) hret)
theorem ex_istore {x_ : List Nat} {k : Nat} {v : Int} (i_ : Nat) (hc : vm_nth M.code i_ = some (pc, .istore k, 2, x_)) (hn : Nat.ble (k + 1) M.maxL = true) (hok : vm_okst al k = true) (h : vm_ex G d M (pc + 2) (vm_set al k (some (.inl v))) (st) mem Q) : vm_ex G d M pc al (.inl v :: st) mem Q := by
  intro ok p e R s m args below meth c A cells slots Z Cx H locs ls hH hl hret
  obtain ⟨hx, hb, hml, hown, hts, hnn, hR, hK, hA, hO⟩ := id Cx
  have hdg := vm_dec ok hc
  have hn := Nat.le_of_ble_eq_true hn
  simp only [List.map_cons, vm_cv]
  exact lv_istore hx hb hdg hl hn rfl (fun ls1 hl1 => h ok p e R s m args below meth c A cells slots Z Cx H locs ls1 hH (vm_lk_set hok hl1) hret)
theorem ex_astore_n {x_ : List Nat} {k : Fin 4} {v : Nat} (i_ : Nat) (hc : vm_nth M.code i_ = some (pc, .astore_n k, 1, x_)) (hn : Nat.ble ((k : Nat) + 1) M.maxL = true) (hok : vm_okst al (k : Nat) = true) (h : vm_ex G d M (pc + 1) (vm_set al k (some (.inr (.inr v)))) (st) mem Q) : vm_ex G d M pc al (.inr (.inr v) :: st) mem Q := by
  intro ok p e R s m args below meth c A cells slots Z Cx H locs ls hH hl hret
  obtain ⟨hx, hb, hml, hown, hts, hnn, hR, hK, hA, hO⟩ := id Cx
  have hdg := vm_dec ok hc
  have hn := Nat.le_of_ble_eq_true hn
  simp only [List.map_cons, vm_cv]
  exact lv_astore_n hx hb hdg rfl hl hn rfl (fun ls1 hl1 => h ok p e R s m args below meth c A cells slots Z Cx H locs ls1 hH (vm_lk_set hok hl1) hret)
theorem ex_astore {x_ : List Nat} {k : Nat} {v : Nat} (i_ : Nat) (hc : vm_nth M.code i_ = some (pc, .astore k, 2, x_)) (hn : Nat.ble (k + 1) M.maxL = true) (hok : vm_okst al k = true) (h : vm_ex G d M (pc + 2) (vm_set al k (some (.inr (.inr v)))) (st) mem Q) : vm_ex G d M pc al (.inr (.inr v) :: st) mem Q := by
  intro ok p e R s m args below meth c A cells slots Z Cx H locs ls hH hl hret
  obtain ⟨hx, hb, hml, hown, hts, hnn, hR, hK, hA, hO⟩ := id Cx
  have hdg := vm_dec ok hc
  have hn := Nat.le_of_ble_eq_true hn
  simp only [List.map_cons, vm_cv]
  exact lv_astore hx hb hdg hl hn rfl (fun ls1 hl1 => h ok p e R s m args below meth c A cells slots Z Cx H locs ls1 hH (vm_lk_set hok hl1) hret)
theorem ex_lstore_n {x_ : List Nat} {k : Fin 4} {v : Int} (i_ : Nat) (hc : vm_nth M.code i_ = some (pc, .lstore_n k, 1, x_)) (hn : Nat.ble ((k : Nat) + 2) M.maxL = true) (hok : vm_okst al (k : Nat) = true) (h : vm_ex G d M (pc + 1) (vm_set (vm_set al k (some (.inr (.inl v)))) ((k : Nat) + 1) none) (st) mem Q) : vm_ex G d M pc al (.inr (.inl v) :: st) mem Q := by
  intro ok p e R s m args below meth c A cells slots Z Cx H locs ls hH hl hret
  obtain ⟨hx, hb, hml, hown, hts, hnn, hR, hK, hA, hO⟩ := id Cx
  have hdg := vm_dec ok hc
  have hn := Nat.le_of_ble_eq_true hn
  simp only [List.map_cons, vm_cv]
  exact lv_lstore_n hx hb hdg rfl hl hn rfl (fun ls1 hl1 => h ok p e R s m args below meth c A cells slots Z Cx H locs ls1 hH (vm_lk_set2 hok hl1) hret)
theorem ex_lstore {x_ : List Nat} {k : Nat} {v : Int} (i_ : Nat) (hc : vm_nth M.code i_ = some (pc, .lstore k, 2, x_)) (hn : Nat.ble ((k : Nat) + 2) M.maxL = true) (hok : vm_okst al (k : Nat) = true) (h : vm_ex G d M (pc + 2) (vm_set (vm_set al k (some (.inr (.inl v)))) ((k : Nat) + 1) none) (st) mem Q) : vm_ex G d M pc al (.inr (.inl v) :: st) mem Q := by
  intro ok p e R s m args below meth c A cells slots Z Cx H locs ls hH hl hret
  obtain ⟨hx, hb, hml, hown, hts, hnn, hR, hK, hA, hO⟩ := id Cx
  have hdg := vm_dec ok hc
  have hn := Nat.le_of_ble_eq_true hn
  simp only [List.map_cons, vm_cv]
  exact lv_lstore hx hb hdg hl hn rfl (fun ls1 hl1 => h ok p e R s m args below meth c A cells slots Z Cx H locs ls1 hH (vm_lk_set2 hok hl1) hret)
theorem ex_iinc {x_ : List Nat} {k : Nat} {n v : Int} (i_ : Nat) (hc : vm_nth M.code i_ = some (pc, .iinc k n, 3, x_)) (hv : vm_nth al k = some (some (.inl v))) (hn : Nat.ble (k + 1) M.maxL = true) (hok : vm_okst al k = true) (h : vm_ex G d M (pc + 3) (vm_set al k (some (.inl (v + n)))) (st) mem Q) : vm_ex G d M pc al (st) mem Q := by
  intro ok p e R s m args below meth c A cells slots Z Cx H locs ls hH hl hret
  obtain ⟨hx, hb, hml, hown, hts, hnn, hR, hK, hA, hO⟩ := id Cx
  have hdg := vm_dec ok hc
  have hn := Nat.le_of_ble_eq_true hn
  have hv1 : (k, vm_cv G (.inl v)) ∈ vm_lk G al := vm_lk_mem.mpr ⟨_, by rw [← vm_nth_eq]; exact hv, rfl⟩
  obtain ⟨j, hj⟩ := List.getElem?_of_mem hv1
  exact lv_iinc (k := j) hx hb hdg hl hj (v := Int32.ofInt (v + n)) (by rw [Int32.ofInt_add]) hn rfl (fun ls1 hl1 => h ok p e R s m args below meth c A cells slots Z Cx H locs ls1 hH (vm_lk_set hok hl1) hret)
theorem ex_dupi {x_ : List Nat} {a : Int} (i_ : Nat) (hc : vm_nth M.code i_ = some (pc, .dup, 1, x_)) (h : vm_ex G d M (pc + 1) al (.inl a :: .inl a :: st) mem Q) : vm_ex G d M pc al (.inl a :: st) mem Q := by
  intro ok p e R s m args below meth c A cells slots Z Cx H locs ls hH hl hret
  obtain ⟨hx, hb, hml, hown, hts, hnn, hR, hK, hA, hO⟩ := id Cx
  have hdg := vm_dec ok hc
  have hk := h ok p e R s m args below meth c A cells slots Z Cx H locs ls hH hl hret
  simp only [List.map_cons, vm_cv, Int32.ofInt_add, Int32.ofInt_sub, Int32.ofInt_mul, Int32.ofInt_neg, vm_ofTo, vm_ofTo64] at hk ⊢
  exact lv_dup hx hb hdg rfl hk
theorem ex_dupa {x_ : List Nat} {a : Nat} (i_ : Nat) (hc : vm_nth M.code i_ = some (pc, .dup, 1, x_)) (h : vm_ex G d M (pc + 1) al (.inr (.inr a) :: .inr (.inr a) :: st) mem Q) : vm_ex G d M pc al (.inr (.inr a) :: st) mem Q := by
  intro ok p e R s m args below meth c A cells slots Z Cx H locs ls hH hl hret
  obtain ⟨hx, hb, hml, hown, hts, hnn, hR, hK, hA, hO⟩ := id Cx
  have hdg := vm_dec ok hc
  have hk := h ok p e R s m args below meth c A cells slots Z Cx H locs ls hH hl hret
  simp only [List.map_cons, vm_cv, Int32.ofInt_add, Int32.ofInt_sub, Int32.ofInt_mul, Int32.ofInt_neg, vm_ofTo, vm_ofTo64] at hk ⊢
  exact lv_dup hx hb hdg rfl hk
theorem ex_dup2 {x_ : List Nat} {a : Int} {b : Nat} (i_ : Nat) (hc : vm_nth M.code i_ = some (pc, .dup2, 1, x_)) (h : vm_ex G d M (pc + 1) al (.inl a :: .inr (.inr b) :: .inl a :: .inr (.inr b) :: st) mem Q) : vm_ex G d M pc al (.inl a :: .inr (.inr b) :: st) mem Q := by
  intro ok p e R s m args below meth c A cells slots Z Cx H locs ls hH hl hret
  obtain ⟨hx, hb, hml, hown, hts, hnn, hR, hK, hA, hO⟩ := id Cx
  have hdg := vm_dec ok hc
  have hk := h ok p e R s m args below meth c A cells slots Z Cx H locs ls hH hl hret
  simp only [List.map_cons, vm_cv, Int32.ofInt_add, Int32.ofInt_sub, Int32.ofInt_mul, Int32.ofInt_neg, vm_ofTo, vm_ofTo64] at hk ⊢
  exact lv_dup2_11 hx hb hdg rfl rfl hk
theorem ex_popi {x_ : List Nat} {a : Int} (i_ : Nat) (hc : vm_nth M.code i_ = some (pc, .pop, 1, x_)) (h : vm_ex G d M (pc + 1) al (st) mem Q) : vm_ex G d M pc al (.inl a :: st) mem Q := by
  intro ok p e R s m args below meth c A cells slots Z Cx H locs ls hH hl hret
  obtain ⟨hx, hb, hml, hown, hts, hnn, hR, hK, hA, hO⟩ := id Cx
  have hdg := vm_dec ok hc
  have hk := h ok p e R s m args below meth c A cells slots Z Cx H locs ls hH hl hret
  simp only [List.map_cons, vm_cv, Int32.ofInt_add, Int32.ofInt_sub, Int32.ofInt_mul, Int32.ofInt_neg, vm_ofTo, vm_ofTo64] at hk ⊢
  exact lv_pop hx hb hdg rfl hk
theorem ex_icmp_eq {x_ : List Nat} {off : Int} {a b : Int} (tgt : Nat) (i_ : Nat) (hc : vm_nth M.code i_ = some (pc, .if_icmp .eq off, 3, x_)) (ht : (pc : Int) + off = (tgt : Int)) (ha : vm_R a) (hb0 : vm_R b) (kt : a = b → vm_ex G d M tgt al st mem Q) (kf : ¬ a = b → vm_ex G d M (pc + 3) al st mem Q) : vm_ex G d M pc al (.inl b :: .inl a :: st) mem Q := by
  intro ok p e R s m args below meth c A cells slots Z Cx H locs ls hH hl hret
  obtain ⟨hx, hb, hml, hown, hts, hnn, hR, hK, hA, hO⟩ := id Cx
  have hdg := vm_dec ok hc
  simp only [List.map_cons, vm_cv]
  refine lv_icmp_eq hx hb hdg ht (fun h1 => ?_) (fun h1 => ?_)
  · exact kt ((vm_eqI ha hb0).mp h1) ok p e R s m args below meth c A cells slots Z Cx H locs ls hH hl hret
  · exact kf (fun h2 => h1 ((vm_eqI ha hb0).mpr h2)) ok p e R s m args below meth c A cells slots Z Cx H locs ls hH hl hret
theorem ex_icmp_ne {x_ : List Nat} {off : Int} {a b : Int} (tgt : Nat) (i_ : Nat) (hc : vm_nth M.code i_ = some (pc, .if_icmp .ne off, 3, x_)) (ht : (pc : Int) + off = (tgt : Int)) (ha : vm_R a) (hb0 : vm_R b) (kt : ¬ a = b → vm_ex G d M tgt al st mem Q) (kf : a = b → vm_ex G d M (pc + 3) al st mem Q) : vm_ex G d M pc al (.inl b :: .inl a :: st) mem Q := by
  intro ok p e R s m args below meth c A cells slots Z Cx H locs ls hH hl hret
  obtain ⟨hx, hb, hml, hown, hts, hnn, hR, hK, hA, hO⟩ := id Cx
  have hdg := vm_dec ok hc
  simp only [List.map_cons, vm_cv]
  refine lv_icmp_ne hx hb hdg ht (fun h1 => ?_) (fun h1 => ?_)
  · exact kt ((not_congr (vm_eqI ha hb0)).mp h1) ok p e R s m args below meth c A cells slots Z Cx H locs ls hH hl hret
  · exact kf ((vm_eqI ha hb0).mp h1) ok p e R s m args below meth c A cells slots Z Cx H locs ls hH hl hret
theorem ex_icmp_lt {x_ : List Nat} {off : Int} {a b : Int} (tgt : Nat) (i_ : Nat) (hc : vm_nth M.code i_ = some (pc, .if_icmp .lt off, 3, x_)) (ht : (pc : Int) + off = (tgt : Int)) (ha : vm_R a) (hb0 : vm_R b) (kt : a < b → vm_ex G d M tgt al st mem Q) (kf : ¬ a < b → vm_ex G d M (pc + 3) al st mem Q) : vm_ex G d M pc al (.inl b :: .inl a :: st) mem Q := by
  intro ok p e R s m args below meth c A cells slots Z Cx H locs ls hH hl hret
  obtain ⟨hx, hb, hml, hown, hts, hnn, hR, hK, hA, hO⟩ := id Cx
  have hdg := vm_dec ok hc
  simp only [List.map_cons, vm_cv]
  refine lv_icmp_lt hx hb hdg ht (fun h1 => ?_) (fun h1 => ?_)
  · exact kt ((vm_ltI ha hb0).mp h1) ok p e R s m args below meth c A cells slots Z Cx H locs ls hH hl hret
  · exact kf (fun h2 => h1 ((vm_ltI ha hb0).mpr h2)) ok p e R s m args below meth c A cells slots Z Cx H locs ls hH hl hret
theorem ex_icmp_ge {x_ : List Nat} {off : Int} {a b : Int} (tgt : Nat) (i_ : Nat) (hc : vm_nth M.code i_ = some (pc, .if_icmp .ge off, 3, x_)) (ht : (pc : Int) + off = (tgt : Int)) (ha : vm_R a) (hb0 : vm_R b) (kt : b ≤ a → vm_ex G d M tgt al st mem Q) (kf : ¬ b ≤ a → vm_ex G d M (pc + 3) al st mem Q) : vm_ex G d M pc al (.inl b :: .inl a :: st) mem Q := by
  intro ok p e R s m args below meth c A cells slots Z Cx H locs ls hH hl hret
  obtain ⟨hx, hb, hml, hown, hts, hnn, hR, hK, hA, hO⟩ := id Cx
  have hdg := vm_dec ok hc
  simp only [List.map_cons, vm_cv]
  refine lv_icmp_ge hx hb hdg ht (fun h1 => ?_) (fun h1 => ?_)
  · exact kt ((vm_leI hb0 ha).mp h1) ok p e R s m args below meth c A cells slots Z Cx H locs ls hH hl hret
  · exact kf (fun h2 => h1 ((vm_leI hb0 ha).mpr h2)) ok p e R s m args below meth c A cells slots Z Cx H locs ls hH hl hret
theorem ex_icmp_gt {x_ : List Nat} {off : Int} {a b : Int} (tgt : Nat) (i_ : Nat) (hc : vm_nth M.code i_ = some (pc, .if_icmp .gt off, 3, x_)) (ht : (pc : Int) + off = (tgt : Int)) (ha : vm_R a) (hb0 : vm_R b) (kt : b < a → vm_ex G d M tgt al st mem Q) (kf : ¬ b < a → vm_ex G d M (pc + 3) al st mem Q) : vm_ex G d M pc al (.inl b :: .inl a :: st) mem Q := by
  intro ok p e R s m args below meth c A cells slots Z Cx H locs ls hH hl hret
  obtain ⟨hx, hb, hml, hown, hts, hnn, hR, hK, hA, hO⟩ := id Cx
  have hdg := vm_dec ok hc
  simp only [List.map_cons, vm_cv]
  refine lv_icmp_gt hx hb hdg ht (fun h1 => ?_) (fun h1 => ?_)
  · exact kt ((vm_ltI hb0 ha).mp h1) ok p e R s m args below meth c A cells slots Z Cx H locs ls hH hl hret
  · exact kf (fun h2 => h1 ((vm_ltI hb0 ha).mpr h2)) ok p e R s m args below meth c A cells slots Z Cx H locs ls hH hl hret
theorem ex_icmp_le {x_ : List Nat} {off : Int} {a b : Int} (tgt : Nat) (i_ : Nat) (hc : vm_nth M.code i_ = some (pc, .if_icmp .le off, 3, x_)) (ht : (pc : Int) + off = (tgt : Int)) (ha : vm_R a) (hb0 : vm_R b) (kt : a ≤ b → vm_ex G d M tgt al st mem Q) (kf : ¬ a ≤ b → vm_ex G d M (pc + 3) al st mem Q) : vm_ex G d M pc al (.inl b :: .inl a :: st) mem Q := by
  intro ok p e R s m args below meth c A cells slots Z Cx H locs ls hH hl hret
  obtain ⟨hx, hb, hml, hown, hts, hnn, hR, hK, hA, hO⟩ := id Cx
  have hdg := vm_dec ok hc
  simp only [List.map_cons, vm_cv]
  refine lv_icmp_le hx hb hdg ht (fun h1 => ?_) (fun h1 => ?_)
  · exact kt ((vm_leI ha hb0).mp h1) ok p e R s m args below meth c A cells slots Z Cx H locs ls hH hl hret
  · exact kf (fun h2 => h1 ((vm_leI ha hb0).mpr h2)) ok p e R s m args below meth c A cells slots Z Cx H locs ls hH hl hret

theorem ex_if_eq {x_ : List Nat} {off : Int} {a : Int} (tgt : Nat) (i_ : Nat) (hc : vm_nth M.code i_ = some (pc, .ifCond .eq off, 3, x_)) (ht : (pc : Int) + off = (tgt : Int)) (ha : vm_R a) (kt : a = 0 → vm_ex G d M tgt al st mem Q) (kf : ¬ a = 0 → vm_ex G d M (pc + 3) al st mem Q) : vm_ex G d M pc al (.inl a :: st) mem Q := by
  intro ok p e R s m args below meth c A cells slots Z Cx H locs ls hH hl hret
  obtain ⟨hx, hb, hml, hown, hts, hnn, hR, hK, hA, hO⟩ := id Cx
  have hdg := vm_dec ok hc
  simp only [List.map_cons, vm_cv]
  refine lv_if_eq hx hb hdg ht (fun h1 => ?_) (fun h1 => ?_)
  · exact kt ((vm_eqI ha vm_R0).mp h1) ok p e R s m args below meth c A cells slots Z Cx H locs ls hH hl hret
  · exact kf (fun h2 => h1 ((vm_eqI ha vm_R0).mpr h2)) ok p e R s m args below meth c A cells slots Z Cx H locs ls hH hl hret

theorem ex_if_ne {x_ : List Nat} {off : Int} {a : Int} (tgt : Nat) (i_ : Nat) (hc : vm_nth M.code i_ = some (pc, .ifCond .ne off, 3, x_)) (ht : (pc : Int) + off = (tgt : Int)) (ha : vm_R a) (kt : ¬ a = 0 → vm_ex G d M tgt al st mem Q) (kf : a = 0 → vm_ex G d M (pc + 3) al st mem Q) : vm_ex G d M pc al (.inl a :: st) mem Q := by
  intro ok p e R s m args below meth c A cells slots Z Cx H locs ls hH hl hret
  obtain ⟨hx, hb, hml, hown, hts, hnn, hR, hK, hA, hO⟩ := id Cx
  have hdg := vm_dec ok hc
  simp only [List.map_cons, vm_cv]
  refine lv_if_ne hx hb hdg ht (fun h1 => ?_) (fun h1 => ?_)
  · exact kt ((not_congr (vm_eqI ha vm_R0)).mp h1) ok p e R s m args below meth c A cells slots Z Cx H locs ls hH hl hret
  · exact kf ((vm_eqI ha vm_R0).mp h1) ok p e R s m args below meth c A cells slots Z Cx H locs ls hH hl hret

theorem ex_if_lt {x_ : List Nat} {off : Int} {a : Int} (tgt : Nat) (i_ : Nat) (hc : vm_nth M.code i_ = some (pc, .ifCond .lt off, 3, x_)) (ht : (pc : Int) + off = (tgt : Int)) (ha : vm_R a) (kt : a < 0 → vm_ex G d M tgt al st mem Q) (kf : ¬ a < 0 → vm_ex G d M (pc + 3) al st mem Q) : vm_ex G d M pc al (.inl a :: st) mem Q := by
  intro ok p e R s m args below meth c A cells slots Z Cx H locs ls hH hl hret
  obtain ⟨hx, hb, hml, hown, hts, hnn, hR, hK, hA, hO⟩ := id Cx
  have hdg := vm_dec ok hc
  simp only [List.map_cons, vm_cv]
  refine lv_if_lt hx hb hdg ht (fun h1 => ?_) (fun h1 => ?_)
  · exact kt ((vm_ltI ha vm_R0).mp h1) ok p e R s m args below meth c A cells slots Z Cx H locs ls hH hl hret
  · exact kf (fun h2 => h1 ((vm_ltI ha vm_R0).mpr h2)) ok p e R s m args below meth c A cells slots Z Cx H locs ls hH hl hret

theorem ex_if_ge {x_ : List Nat} {off : Int} {a : Int} (tgt : Nat) (i_ : Nat) (hc : vm_nth M.code i_ = some (pc, .ifCond .ge off, 3, x_)) (ht : (pc : Int) + off = (tgt : Int)) (ha : vm_R a) (kt : 0 ≤ a → vm_ex G d M tgt al st mem Q) (kf : ¬ 0 ≤ a → vm_ex G d M (pc + 3) al st mem Q) : vm_ex G d M pc al (.inl a :: st) mem Q := by
  intro ok p e R s m args below meth c A cells slots Z Cx H locs ls hH hl hret
  obtain ⟨hx, hb, hml, hown, hts, hnn, hR, hK, hA, hO⟩ := id Cx
  have hdg := vm_dec ok hc
  simp only [List.map_cons, vm_cv]
  refine lv_if_ge hx hb hdg ht (fun h1 => ?_) (fun h1 => ?_)
  · exact kt ((vm_leI vm_R0 ha).mp h1) ok p e R s m args below meth c A cells slots Z Cx H locs ls hH hl hret
  · exact kf (fun h2 => h1 ((vm_leI vm_R0 ha).mpr h2)) ok p e R s m args below meth c A cells slots Z Cx H locs ls hH hl hret

theorem ex_if_gt {x_ : List Nat} {off : Int} {a : Int} (tgt : Nat) (i_ : Nat) (hc : vm_nth M.code i_ = some (pc, .ifCond .gt off, 3, x_)) (ht : (pc : Int) + off = (tgt : Int)) (ha : vm_R a) (kt : 0 < a → vm_ex G d M tgt al st mem Q) (kf : ¬ 0 < a → vm_ex G d M (pc + 3) al st mem Q) : vm_ex G d M pc al (.inl a :: st) mem Q := by
  intro ok p e R s m args below meth c A cells slots Z Cx H locs ls hH hl hret
  obtain ⟨hx, hb, hml, hown, hts, hnn, hR, hK, hA, hO⟩ := id Cx
  have hdg := vm_dec ok hc
  simp only [List.map_cons, vm_cv]
  refine lv_if_gt hx hb hdg ht (fun h1 => ?_) (fun h1 => ?_)
  · exact kt ((vm_ltI vm_R0 ha).mp h1) ok p e R s m args below meth c A cells slots Z Cx H locs ls hH hl hret
  · exact kf (fun h2 => h1 ((vm_ltI vm_R0 ha).mpr h2)) ok p e R s m args below meth c A cells slots Z Cx H locs ls hH hl hret

theorem ex_if_le {x_ : List Nat} {off : Int} {a : Int} (tgt : Nat) (i_ : Nat) (hc : vm_nth M.code i_ = some (pc, .ifCond .le off, 3, x_)) (ht : (pc : Int) + off = (tgt : Int)) (ha : vm_R a) (kt : a ≤ 0 → vm_ex G d M tgt al st mem Q) (kf : ¬ a ≤ 0 → vm_ex G d M (pc + 3) al st mem Q) : vm_ex G d M pc al (.inl a :: st) mem Q := by
  intro ok p e R s m args below meth c A cells slots Z Cx H locs ls hH hl hret
  obtain ⟨hx, hb, hml, hown, hts, hnn, hR, hK, hA, hO⟩ := id Cx
  have hdg := vm_dec ok hc
  simp only [List.map_cons, vm_cv]
  refine lv_if_le hx hb hdg ht (fun h1 => ?_) (fun h1 => ?_)
  · exact kt ((vm_leI ha vm_R0).mp h1) ok p e R s m args below meth c A cells slots Z Cx H locs ls hH hl hret
  · exact kf (fun h2 => h1 ((vm_leI ha vm_R0).mpr h2)) ok p e R s m args below meth c A cells slots Z Cx H locs ls hH hl hret
theorem ex_goto {x_ : List Nat} {off : Int} (tgt : Nat) (i_ : Nat) (hc : vm_nth M.code i_ = some (pc, .goto off, 3, x_)) (ht : (pc : Int) + off = (tgt : Int)) (h : vm_ex G d M tgt al st mem Q) : vm_ex G d M pc al st mem Q := by
  intro ok p e R s m args below meth c A cells slots Z Cx H locs ls hH hl hret
  obtain ⟨hx, hb, hml, hown, hts, hnn, hR, hK, hA, hO⟩ := id Cx
  have hdg := vm_dec ok hc
  have hk := h ok p e R s m args below meth c A cells slots Z Cx H locs ls hH hl hret
  exact lv_goto hx hb hdg ht hk
def vm_tsw (pc : Nat) (x : Int) (P : Nat → Prop) : Int → List Int → Prop
  | _, [] => True
  | lo, off :: l => (x = lo → P ((pc : Int) + off).toNat ∧ 0 ≤ (pc : Int) + off) ∧ vm_tsw pc x P (lo + 1) l
theorem vm_tsw_at {pc : Nat} {x : Int} {P : Nat → Prop} : ∀ {l : List Int} {lo : Int} {k : Nat} {off : Int}, vm_tsw pc x P lo l → l[k]? = some off → x = lo + k → P ((pc : Int) + off).toNat ∧ 0 ≤ (pc : Int) + off
  | [], lo, k, off, _, hk, _ => by simp at hk
  | a :: l, lo, 0, off, h, hk, hx => by
    simp at hk
    subst hk
    exact h.1 (by omega)
  | a :: l, lo, k + 1, off, h, hk, hx => vm_tsw_at (l := l) (lo := lo + 1) (k := k) h.2 (by simpa using hk) (by omega)
theorem ex_tsw {x_ : List Nat} {dflt lo hi : Int} {offs : Array Int} {len : Nat} {a : Int} (i_ : Nat) (hc : vm_nth M.code i_ = some (pc, .tableswitch dflt lo hi offs, len, x_)) (ha : vm_R a) (hlen : hi = lo + offs.size - 1) (h : vm_tsw pc a (fun t => vm_ex G d M t al st mem Q) lo offs.toList) (h2 : (a < lo ∨ hi < a) → vm_ex G d M ((pc : Int) + dflt).toNat al st mem Q) (h3 : 0 ≤ (pc : Int) + dflt) : vm_ex G d M pc al (.inl a :: st) mem Q := by
  intro ok p e R s m args below meth c A cells slots Z Cx H locs ls hH hl hret
  obtain ⟨hx, hb, hml, hown, hts, hnn, hR, hK, hA, hO⟩ := id Cx
  have hdg := vm_dec ok hc
  simp only [List.map_cons, vm_cv]
  have hv := vm_toOf ha
  by_cases h4 : a < lo ∨ hi < a
  · exact lv_tableOut (tgt := ((pc : Int) + dflt).toNat) hx hb hdg (by rw [hv]; exact h4) (by omega) (h2 h4 ok p e R s m args below meth c A cells slots Z Cx H locs ls hH hl hret)
  · have hlt : (a - lo).toNat < offs.size := by omega
    have hoff : offs[(a - lo).toNat]? = some offs[(a - lo).toNat] := Array.getElem?_eq_getElem hlt
    have hl2 : offs.toList[(a - lo).toNat]? = some offs[(a - lo).toNat] := by rw [Array.getElem?_toList]; exact hoff
    obtain ⟨hP, hge⟩ := vm_tsw_at h hl2 (by omega)
    exact lv_tableIn (tgt := ((pc : Int) + offs[(a - lo).toNat]).toNat) hx hb hdg (by rw [hv]; omega) (by rw [hv]; omega) (by rw [hv]; exact hoff) (by omega) (hP ok p e R s m args below meth c A cells slots Z Cx H locs ls hH hl hret)
theorem ex_lsw {x_ : List Nat} {dflt off : Int} {ps : Array (Int × Int)} {len : Nat} {a : Int} (tgt : Nat) (i_ : Nat) (hc : vm_nth M.code i_ = some (pc, .lookupswitch dflt ps, len, x_)) (ha : vm_R a) (hp : (ps.toList.zip (ps.toList.drop 1)).all (fun (a, next) => a.1 < next.1) = true) (ho : Op.lookupswitch.offset ps.toList dflt a = off) (ht : (pc : Int) + off = (tgt : Int)) (h : vm_ex G d M tgt al st mem Q) : vm_ex G d M pc al (.inl a :: st) mem Q := by
  intro ok p e R s m args below meth c A cells slots Z Cx H locs ls hH hl hret
  obtain ⟨hx, hb, hml, hown, hts, hnn, hR, hK, hA, hO⟩ := id Cx
  have hdg := vm_dec ok hc
  simp only [List.map_cons, vm_cv]
  exact lv_lookup hx hb hdg hp (by rw [vm_toOf ha]; exact ho) ht (h ok p e R s m args below meth c A cells slots Z Cx H locs ls hH hl hret)
theorem ex_geti {x_ : List Nat} {idx b ci N : Nat} {C : String} {T : u_T} {ty : Nat → FieldType} (j : Nat) (i_ : Nat) (hc : vm_nth M.code i_ = some (pc, .getfield idx, 3, x_)) (hcl : vm_clk ci C T N ty) (hkd : vm_nth vm_kinds b = some (0, ci)) (hj : Nat.ble (j + 1) N = true) (hf : vm_flink M.y.cls idx (T j).1 (T j).2.1 (T j).2.2.1) (hr : vm_rf b j = none) (h : vm_ex G d M (pc + 3) al (.inl (mem b (j : Int)) :: st) mem Q) : vm_ex G d M pc al (.inr (.inr b) :: st) mem Q := by
  intro ok p e R s m args below meth c A cells slots Z Cx H locs ls hH hl hret
  obtain ⟨hx, hb, hml, hown, hts, hnn, hR, hK, hA, hO⟩ := id Cx
  have hdg := vm_dec ok hc
  obtain ⟨hcl1, hin, hty, hnm, hnf⟩ := hcl
  have hb38 : b < 38 := by
    rw [vm_nth_eq] at hkd
    exact (List.getElem?_eq_some_iff.mp hkd).1
  have hcell := vm_ws_at G mem hb38
  rw [vm_cell_obj hkd, hnf] at hcell
  have hj : j < N := Nat.le_of_ble_eq_true hj
  have hk := h ok p e R s m args below meth c A cells slots Z Cx H locs ls hH hl hret
  simp only [List.map_cons, vm_cv] at hk ⊢
  have hv : ((List.range ((some N).getD 0)).map (vm_fv G mem b))[j]? = some (Value.int (Int32.ofInt (mem b (j : Int)))) := by
    simp [List.getElem?_map, List.getElem?_range, hj, vm_fv, hr]
  rcases hf with hf | ⟨host, hf⟩
  · exact va_get (D := G.D) hx hb hts hin hown hK hH.1 b hcell hcl1 j hj (hts _ hf) (fun _ h9 => h9) hv hdg hk
  · exact va_getN (D := G.D) hx hb hts hin hown hK hH.1 b hcell hcl1 j hj (va_Nw.use rfl (hnn _ hf)) (fun _ h9 => h9) hv hdg hk
theorem ex_geta {x_ : List Nat} {idx b ci N t : Nat} {C : String} {T : u_T} {ty : Nat → FieldType} (j : Nat) (i_ : Nat) (hc : vm_nth M.code i_ = some (pc, .getfield idx, 3, x_)) (hcl : vm_clk ci C T N ty) (hkd : vm_nth vm_kinds b = some (0, ci)) (hj : Nat.ble (j + 1) N = true) (hf : vm_flink M.y.cls idx (T j).1 (T j).2.1 (T j).2.2.1) (hr : vm_rf b j = some t) (h : vm_ex G d M (pc + 3) al (.inr (.inr t) :: st) mem Q) : vm_ex G d M pc al (.inr (.inr b) :: st) mem Q := by
  intro ok p e R s m args below meth c A cells slots Z Cx H locs ls hH hl hret
  obtain ⟨hx, hb, hml, hown, hts, hnn, hR, hK, hA, hO⟩ := id Cx
  have hdg := vm_dec ok hc
  obtain ⟨hcl1, hin, hty, hnm, hnf⟩ := hcl
  have hb38 : b < 38 := by
    rw [vm_nth_eq] at hkd
    exact (List.getElem?_eq_some_iff.mp hkd).1
  have hcell := vm_ws_at G mem hb38
  rw [vm_cell_obj hkd, hnf] at hcell
  have hj : j < N := Nat.le_of_ble_eq_true hj
  have hk := h ok p e R s m args below meth c A cells slots Z Cx H locs ls hH hl hret
  simp only [List.map_cons, vm_cv] at hk ⊢
  have hv : ((List.range ((some N).getD 0)).map (vm_fv G mem b))[j]? = some (Value.ref (G.adr t)) := by
    simp [List.getElem?_map, List.getElem?_range, hj, vm_fv, hr]
  rcases hf with hf | ⟨host, hf⟩
  · exact va_get (D := G.D) hx hb hts hin hown hK hH.1 b hcell hcl1 j hj (hts _ hf) (fun _ h9 => h9) hv hdg hk
  · exact va_getN (D := G.D) hx hb hts hin hown hK hH.1 b hcell hcl1 j hj (va_Nw.use rfl (hnn _ hf)) (fun _ h9 => h9) hv hdg hk
theorem vm_put_cell {G : vm_G} {mem : vm_M} {b ci N j : Nat} {v : Int} (hkd : vm_nth vm_kinds b = some (0, ci)) (hnf : vm_nth vm_nf ci = some N) (hj : j < N) (hr : vm_rf b j = none) : vm_cell G (vm_up mem b (j : Int) v) b = .inr (ci, ((List.range ((some N).getD 0)).map (vm_fv G mem b)).set j (.int (Int32.ofInt v))) := by
  rw [vm_cell_obj hkd, hnf]
  congr 2
  apply List.ext_getElem?
  intro k
  rw [List.getElem?_set]
  by_cases hk : j = k
  · subst hk
    simp [List.getElem?_map, List.getElem?_range, hj, vm_fv, hr, vm_up]
  · rw [if_neg hk]
    by_cases hkN : k < N
    · have hne : ¬ ((k : Int) = (j : Int)) := by omega
      simp [List.getElem?_map, List.getElem?_range, hkN, vm_fv, vm_up, hne]
    · simp [List.getElem?_map, List.getElem?_range, hkN]
theorem vm_up_ne {mem : vm_M} {c k : Nat} {i v : Int} (h : k ≠ c) : mem k = vm_up mem c i v k := by
  funext i'
  simp [vm_up, h]
theorem ex_puti {x_ : List Nat} {idx b ci N : Nat} {v : Int} {C : String} {T : u_T} {ty : Nat → FieldType} (j : Nat) (i_ : Nat) (hc : vm_nth M.code i_ = some (pc, .putfield idx, 3, x_)) (hcl : vm_clk ci C T N ty) (hkd : vm_nth vm_kinds b = some (0, ci)) (hj : Nat.ble (j + 1) N = true) (hf : vm_flink M.y.cls idx (T j).1 (T j).2.1 (T j).2.2.1) (hr : vm_rf b j = none) (hfin : (T j).2.2.2 = false) (ht : ty j = .int) (h : vm_ex G d M (pc + 3) al st (vm_up mem b (j : Int) v) Q) : vm_ex G d M pc al (.inl v :: .inr (.inr b) :: st) mem Q := by
  intro ok p e R s m args below meth c A cells slots Z Cx H locs ls hH hl hret
  obtain ⟨hx, hb, hml, hown, hts, hnn, hR, hK, hA, hO⟩ := id Cx
  have hdg := vm_dec ok hc
  obtain ⟨hcl1, hin, hty, hnm, hnf⟩ := hcl
  have hb38 : b < 38 := by
    rw [vm_nth_eq] at hkd
    exact (List.getElem?_eq_some_iff.mp hkd).1
  have hcell := vm_ws_at G mem hb38
  rw [vm_cell_obj hkd, hnf] at hcell
  have hj : j < N := Nat.le_of_ble_eq_true hj
  have hd : parseFieldDescriptor (T j).2.2.1 = some .int := by rw [← ht]; exact hty j hj
  simp only [List.map_cons, vm_cv]
  have hlen : j < ((List.range ((some N).getD 0)).map (vm_fv G mem b)).length := by simp [hj]
  have go : ∀ (H1 : Heap) (locs1 : List Loc), va_P G.D vwCl ((vm_ws G mem).set b (G.adr b, .inr (ci, ((List.range ((some N).getD 0)).map (vm_fv G mem b)).set j (.int (Int32.ofInt v))))) H1 → va_D A ((vm_ws G mem).set b (G.adr b, .inr (ci, ((List.range ((some N).getD 0)).map (vm_fv G mem b)).set j (.int (Int32.ofInt v))))) → va_S A s.heap H1 locs1 → W p G.l e R s m args below meth c H1 locs1 cells slots Z (F0 m (pc + 3) ls (st.map (vm_cv G))) := by
    intro H1 locs1 hP1 hD1 hS1
    rw [vm_ws_set hb38 (vm_put_cell hkd hnf hj hr) (fun k hk => vm_up_ne hk)] at hP1 hD1
    exact h ok p e R s m args below meth c A cells slots Z Cx H1 locs1 ls ⟨hP1, hD1, hS1⟩ hl hret
  rcases hf with hf | ⟨host, hf⟩
  · exact va_put (D := G.D) hx hb hts hin ty hty hnm hown hK hH.1 hH.2.1 hH.2.2 b hcell hcl1 j hj (hts _ hf) (fun _ h9 => h9) hfin hd rfl rfl hlen hdg go
  · exact va_putN (D := G.D) hx hb hts hin ty hty hnm hown hK hH.1 hH.2.1 hH.2.2 b hcell hcl1 j hj (va_Nw.use rfl (hnn _ hf)) (fun _ h9 => h9) hfin hd rfl rfl hlen hdg go
theorem ex_putz {x_ : List Nat} {idx b ci N : Nat} {v : Int} {C : String} {T : u_T} {ty : Nat → FieldType} (j : Nat) (i_ : Nat) (hc : vm_nth M.code i_ = some (pc, .putfield idx, 3, x_)) (hcl : vm_clk ci C T N ty) (hkd : vm_nth vm_kinds b = some (0, ci)) (hj : Nat.ble (j + 1) N = true) (hf : vm_flink M.y.cls idx (T j).1 (T j).2.1 (T j).2.2.1) (hr : vm_rf b j = none) (hfin : (T j).2.2.2 = false) (ht : ty j = .boolean) (hz : v = 0 ∨ v = 1) (h : vm_ex G d M (pc + 3) al st (vm_up mem b (j : Int) v) Q) : vm_ex G d M pc al (.inl v :: .inr (.inr b) :: st) mem Q := by
  intro ok p e R s m args below meth c A cells slots Z Cx H locs ls hH hl hret
  obtain ⟨hx, hb, hml, hown, hts, hnn, hR, hK, hA, hO⟩ := id Cx
  have hdg := vm_dec ok hc
  obtain ⟨hcl1, hin, hty, hnm, hnf⟩ := hcl
  have hb38 : b < 38 := by
    rw [vm_nth_eq] at hkd
    exact (List.getElem?_eq_some_iff.mp hkd).1
  have hcell := vm_ws_at G mem hb38
  rw [vm_cell_obj hkd, hnf] at hcell
  have hj : j < N := Nat.le_of_ble_eq_true hj
  have hd : parseFieldDescriptor (T j).2.2.1 = some .boolean := by rw [← ht]; exact hty j hj
  simp only [List.map_cons, vm_cv]
  have hlen : j < ((List.range ((some N).getD 0)).map (vm_fv G mem b)).length := by simp [hj]
  have go : ∀ (H1 : Heap) (locs1 : List Loc), va_P G.D vwCl ((vm_ws G mem).set b (G.adr b, .inr (ci, ((List.range ((some N).getD 0)).map (vm_fv G mem b)).set j (.int (Int32.ofInt v))))) H1 → va_D A ((vm_ws G mem).set b (G.adr b, .inr (ci, ((List.range ((some N).getD 0)).map (vm_fv G mem b)).set j (.int (Int32.ofInt v))))) → va_S A s.heap H1 locs1 → W p G.l e R s m args below meth c H1 locs1 cells slots Z (F0 m (pc + 3) ls (st.map (vm_cv G))) := by
    intro H1 locs1 hP1 hD1 hS1
    rw [vm_ws_set hb38 (vm_put_cell hkd hnf hj hr) (fun k hk => vm_up_ne hk)] at hP1 hD1
    exact h ok p e R s m args below meth c A cells slots Z Cx H1 locs1 ls ⟨hP1, hD1, hS1⟩ hl hret
  rcases hf with hf | ⟨host, hf⟩
  · exact va_put (D := G.D) hx hb hts hin ty hty hnm hown hK hH.1 hH.2.1 hH.2.2 b hcell hcl1 j hj (hts _ hf) (fun _ h9 => h9) hfin hd (by rcases hz with rfl | rfl <;> decide) (by rcases hz with rfl | rfl <;> decide) hlen hdg go
  · exact va_putN (D := G.D) hx hb hts hin ty hty hnm hown hK hH.1 hH.2.1 hH.2.2 b hcell hcl1 j hj (va_Nw.use rfl (hnn _ hf)) (fun _ h9 => h9) hfin hd (by rcases hz with rfl | rfl <;> decide) (by rcases hz with rfl | rfl <;> decide) hlen hdg go
theorem ex_gets {x_ : List Nat} {idx : Nat} (i_ : Nat) (hc : vm_nth M.code i_ = some (pc, .getstatic idx, 3, x_)) (hf : Cond.fieldLink M.y.cls idx "BagCounts$Logic" "OPPOSITES" "[I" ∈ vm_WS) (h : vm_ex G d M (pc + 3) al (.inr (.inr 38) :: st) mem Q) : vm_ex G d M pc al st mem Q := by
  intro ok p e R s m args below meth c A cells slots Z Cx H locs ls hH hl hret
  obtain ⟨hx, hb, hml, hown, hts, hnn, hR, hK, hA, hO⟩ := id Cx
  have hdg := vm_dec ok hc
  have hk := h ok p e R s m args below meth c A cells slots Z Cx H locs ls hH hl hret
  simp only [List.map_cons, vm_cv] at hk ⊢
  exact va_gets hx hb hO.1 hH.2.2 hown (hts _ hf) (fun _ h9 => h9) hdg hk
theorem ex_iaload {x_ : List Nat} {b n : Nat} {a : Int} (i_ : Nat) (hc : vm_nth M.code i_ = some (pc, .iaload, 1, x_)) (hkd : vm_nth vm_kinds b = some (1, n)) (hn6 : Nat.ble n 1000000 = true) (ha : 0 ≤ a ∧ a < (n : Int)) (h : vm_ex G d M (pc + 1) al (.inl (mem b a) :: st) mem Q) : vm_ex G d M pc al (.inl a :: .inr (.inr b) :: st) mem Q := by
  intro ok p e R s m args below meth c A cells slots Z Cx H locs ls hH hl hret
  obtain ⟨hx, hb, hml, hown, hts, hnn, hR, hK, hA, hO⟩ := id Cx
  have hdg := vm_dec ok hc
  have hb38 : b < 38 := by
    rw [vm_nth_eq] at hkd
    exact (List.getElem?_eq_some_iff.mp hkd).1
  have hcell := vm_ws_at G mem hb38
  rw [vm_cell_arr hkd] at hcell
  have hnn6 : n ≤ 1000000 := Nat.le_of_ble_eq_true hn6
  have hk := h ok p e R s m args below meth c A cells slots Z Cx H locs ls hH hl hret
  simp only [List.map_cons, vm_cv] at hk ⊢
  refine va_iald (D := G.D) hx hb hK hH.1 b 0 hcell rfl (vm_in ha.1 ha.2 hnn6) hdg ?_
  rw [vm_nat ha.1 (by omega), Int.toNat_of_nonneg ha.1]
  exact hk
theorem ex_caload {x_ : List Nat} {b n : Nat} {a : Int} (i_ : Nat) (hc : vm_nth M.code i_ = some (pc, .caload, 1, x_)) (hkd : vm_nth vm_kinds b = some (2, n)) (hn6 : Nat.ble n 1000000 = true) (ha : 0 ≤ a ∧ a < (n : Int)) (h : vm_ex G d M (pc + 1) al (.inl (mem b a) :: st) mem Q) : vm_ex G d M pc al (.inl a :: .inr (.inr b) :: st) mem Q := by
  intro ok p e R s m args below meth c A cells slots Z Cx H locs ls hH hl hret
  obtain ⟨hx, hb, hml, hown, hts, hnn, hR, hK, hA, hO⟩ := id Cx
  have hdg := vm_dec ok hc
  have hb38 : b < 38 := by
    rw [vm_nth_eq] at hkd
    exact (List.getElem?_eq_some_iff.mp hkd).1
  have hcell := vm_ws_at G mem hb38
  rw [vm_cell_arr hkd] at hcell
  have hnn6 : n ≤ 1000000 := Nat.le_of_ble_eq_true hn6
  have hk := h ok p e R s m args below meth c A cells slots Z Cx H locs ls hH hl hret
  simp only [List.map_cons, vm_cv] at hk ⊢
  refine va_cald (D := G.D) hx hb hK hH.1 b 1 hcell rfl (vm_in ha.1 ha.2 hnn6) hdg ?_
  rw [vm_nat ha.1 (by omega), Int.toNat_of_nonneg ha.1]
  exact hk
theorem ex_baload {x_ : List Nat} {b n : Nat} {a : Int} (i_ : Nat) (hc : vm_nth M.code i_ = some (pc, .baload, 1, x_)) (hkd : vm_nth vm_kinds b = some (3, n)) (hn6 : Nat.ble n 1000000 = true) (ha : 0 ≤ a ∧ a < (n : Int)) (h : vm_ex G d M (pc + 1) al (.inl (mem b a) :: st) mem Q) : vm_ex G d M pc al (.inl a :: .inr (.inr b) :: st) mem Q := by
  intro ok p e R s m args below meth c A cells slots Z Cx H locs ls hH hl hret
  obtain ⟨hx, hb, hml, hown, hts, hnn, hR, hK, hA, hO⟩ := id Cx
  have hdg := vm_dec ok hc
  have hb38 : b < 38 := by
    rw [vm_nth_eq] at hkd
    exact (List.getElem?_eq_some_iff.mp hkd).1
  have hcell := vm_ws_at G mem hb38
  rw [vm_cell_arr hkd] at hcell
  have hnn6 : n ≤ 1000000 := Nat.le_of_ble_eq_true hn6
  have hk := h ok p e R s m args below meth c A cells slots Z Cx H locs ls hH hl hret
  simp only [List.map_cons, vm_cv] at hk ⊢
  refine va_zald (D := G.D) hx hb hK hH.1 b 2 hcell rfl (vm_in ha.1 ha.2 hnn6) hdg ?_
  rw [vm_nat ha.1 (by omega), Int.toNat_of_nonneg ha.1]
  exact hk
theorem ex_iastore {x_ : List Nat} {b n : Nat} {a v : Int} (i_ : Nat) (hc : vm_nth M.code i_ = some (pc, .iastore, 1, x_)) (hkd : vm_nth vm_kinds b = some (1, n)) (hn6 : Nat.ble n 1000000 = true) (ha : 0 ≤ a ∧ a < (n : Int)) (h : vm_ex G d M (pc + 1) al st (vm_up mem b a v) Q) : vm_ex G d M pc al (.inl v :: .inl a :: .inr (.inr b) :: st) mem Q := by
  intro ok p e R s m args below meth c A cells slots Z Cx H locs ls hH hl hret
  obtain ⟨hx, hb, hml, hown, hts, hnn, hR, hK, hA, hO⟩ := id Cx
  have hdg := vm_dec ok hc
  have hb38 : b < 38 := by
    rw [vm_nth_eq] at hkd
    exact (List.getElem?_eq_some_iff.mp hkd).1
  have hcell := vm_ws_at G mem hb38
  rw [vm_cell_arr hkd] at hcell
  have hnn6 : n ≤ 1000000 := Nat.le_of_ble_eq_true hn6
  simp only [List.map_cons, vm_cv]
  refine va_iast (D := G.D) hx hb hK hH.1 hH.2.1 hH.2.2 b 0 hcell rfl (vm_in ha.1 ha.2 hnn6) hdg (fun H1 locs1 hP1 hD1 hS1 => ?_)
  rw [vm_nat ha.1 (by omega)] at hP1 hD1
  have hset := vm_ws_set (G := G) (mem := mem) (mem' := vm_up mem b a v) hb38 (vm_cell_arr hkd) (fun k hk => vm_up_ne hk)
  have hfun : (fun i : Nat => Int32.ofInt (vm_up mem b a v b (i : Int))) = upd (fun i : Nat => Int32.ofInt (mem b (i : Int))) a.toNat (Int32.ofInt v) := by
    funext i
    unfold upd vm_up
    by_cases hi : i = a.toNat
    · have hi2 : (i : Int) = a := by omega
      rw [if_pos hi, if_pos ⟨rfl, hi2⟩]
    · have hi2 : ¬ (i : Int) = a := by omega
      rw [if_neg hi, if_neg (fun z => hi2 z.2)]
  rw [hfun] at hset
  rw [hset] at hP1 hD1
  exact h ok p e R s m args below meth c A cells slots Z Cx H1 locs1 ls ⟨hP1, hD1, hS1⟩ hl hret
theorem ex_castore {x_ : List Nat} {b n : Nat} {a v : Int} (i_ : Nat) (hc : vm_nth M.code i_ = some (pc, .castore, 1, x_)) (hkd : vm_nth vm_kinds b = some (2, n)) (hn6 : Nat.ble n 1000000 = true) (ha : 0 ≤ a ∧ a < (n : Int)) (h : vm_ex G d M (pc + 1) al st (vm_up mem b a (vm_chr v)) Q) : vm_ex G d M pc al (.inl v :: .inl a :: .inr (.inr b) :: st) mem Q := by
  intro ok p e R s m args below meth c A cells slots Z Cx H locs ls hH hl hret
  obtain ⟨hx, hb, hml, hown, hts, hnn, hR, hK, hA, hO⟩ := id Cx
  have hdg := vm_dec ok hc
  have hb38 : b < 38 := by
    rw [vm_nth_eq] at hkd
    exact (List.getElem?_eq_some_iff.mp hkd).1
  have hcell := vm_ws_at G mem hb38
  rw [vm_cell_arr hkd] at hcell
  have hnn6 : n ≤ 1000000 := Nat.le_of_ble_eq_true hn6
  simp only [List.map_cons, vm_cv]
  refine va_cast (D := G.D) hx hb hK hH.1 hH.2.1 hH.2.2 b 1 hcell rfl (vm_in ha.1 ha.2 hnn6) hdg (fun H1 locs1 hP1 hD1 hS1 => ?_)
  rw [vm_nat ha.1 (by omega)] at hP1 hD1
  have hset := vm_ws_set (G := G) (mem := mem) (mem' := vm_up mem b a (vm_chr v)) hb38 (vm_cell_arr hkd) (fun k hk => vm_up_ne hk)
  have hfun : (fun i : Nat => Int32.ofInt (vm_up mem b a (vm_chr v) b (i : Int))) = upd (fun i : Nat => Int32.ofInt (mem b (i : Int))) a.toNat (vp_nar .char (Int32.ofInt v)) := by
    funext i
    unfold upd vm_up
    by_cases hi : i = a.toNat
    · have hi2 : (i : Int) = a := by omega
      rw [if_pos hi, if_pos ⟨rfl, hi2⟩]
      simp only [vm_chr, vm_ofTo]
    · have hi2 : ¬ (i : Int) = a := by omega
      rw [if_neg hi, if_neg (fun z => hi2 z.2)]
  rw [hfun] at hset
  rw [hset] at hP1 hD1
  exact h ok p e R s m args below meth c A cells slots Z Cx H1 locs1 ls ⟨hP1, hD1, hS1⟩ hl hret
theorem ex_bastore {x_ : List Nat} {b n : Nat} {a v : Int} (i_ : Nat) (hc : vm_nth M.code i_ = some (pc, .bastore, 1, x_)) (hkd : vm_nth vm_kinds b = some (3, n)) (hn6 : Nat.ble n 1000000 = true) (ha : 0 ≤ a ∧ a < (n : Int)) (h : vm_ex G d M (pc + 1) al st (vm_up mem b a (vm_bool v)) Q) : vm_ex G d M pc al (.inl v :: .inl a :: .inr (.inr b) :: st) mem Q := by
  intro ok p e R s m args below meth c A cells slots Z Cx H locs ls hH hl hret
  obtain ⟨hx, hb, hml, hown, hts, hnn, hR, hK, hA, hO⟩ := id Cx
  have hdg := vm_dec ok hc
  have hb38 : b < 38 := by
    rw [vm_nth_eq] at hkd
    exact (List.getElem?_eq_some_iff.mp hkd).1
  have hcell := vm_ws_at G mem hb38
  rw [vm_cell_arr hkd] at hcell
  have hnn6 : n ≤ 1000000 := Nat.le_of_ble_eq_true hn6
  simp only [List.map_cons, vm_cv]
  refine va_zast (D := G.D) hx hb hK hH.1 hH.2.1 hH.2.2 b 2 hcell rfl (vm_in ha.1 ha.2 hnn6) hdg (fun H1 locs1 hP1 hD1 hS1 => ?_)
  rw [vm_nat ha.1 (by omega)] at hP1 hD1
  have hset := vm_ws_set (G := G) (mem := mem) (mem' := vm_up mem b a (vm_bool v)) hb38 (vm_cell_arr hkd) (fun k hk => vm_up_ne hk)
  have hfun : (fun i : Nat => Int32.ofInt (vm_up mem b a (vm_bool v) b (i : Int))) = upd (fun i : Nat => Int32.ofInt (mem b (i : Int))) a.toNat (vp_nar .boolean (Int32.ofInt v)) := by
    funext i
    unfold upd vm_up
    by_cases hi : i = a.toNat
    · have hi2 : (i : Int) = a := by omega
      rw [if_pos hi, if_pos ⟨rfl, hi2⟩]
      simp only [vm_bool, vm_ofTo]
    · have hi2 : ¬ (i : Int) = a := by omega
      rw [if_neg hi, if_neg (fun z => hi2 z.2)]
  rw [hfun] at hset
  rw [hset] at hP1 hD1
  exact h ok p e R s m args below meth c A cells slots Z Cx H1 locs1 ls ⟨hP1, hD1, hS1⟩ hl hret
theorem ex_roload {x_ : List Nat} {b : Nat} {a : Int} (i_ : Nat) (hc : vm_nth M.code i_ = some (pc, .iaload, 1, x_)) (hb0 : b = 38 ∨ b = 39) (ha : 0 ≤ a ∧ a < (G.len b : Int)) (h : vm_ex G d M (pc + 1) al (.inl (G.rom b a) :: st) mem Q) : vm_ex G d M pc al (.inl a :: .inr (.inr b) :: st) mem Q := by
  intro ok p e R s m args below meth c A cells slots Z Cx H locs ls hH hl hret
  obtain ⟨hx, hb, hml, hown, hts, hnn, hR, hK, hA, hO⟩ := id Cx
  have hdg := vm_dec ok hc
  have hk := h ok p e R s m args below meth c A cells slots Z Cx H locs ls hH hl hret
  simp only [List.map_cons, vm_cv] at hk ⊢
  obtain ⟨hX, hbl, hbA, hlen⟩ := hO.2 b hb0
  exact va_ti (v := .int (Int32.ofInt (G.rom b a))) hx hb hX hH.2.2 (vm_in ha.1 ha.2 hlen) (by rw [vm_nat ha.1 (by omega), Int.toNat_of_nonneg ha.1]) hdg hk
theorem ex_rolen {x_ : List Nat} {b : Nat} (i_ : Nat) (hc : vm_nth M.code i_ = some (pc, .arraylength, 1, x_)) (hb0 : b = 38 ∨ b = 39) (h : vm_ex G d M (pc + 1) al (.inl (G.len b : Int) :: st) mem Q) : vm_ex G d M pc al (.inr (.inr b) :: st) mem Q := by
  intro ok p e R s m args below meth c A cells slots Z Cx H locs ls hH hl hret
  obtain ⟨hx, hb, hml, hown, hts, hnn, hR, hK, hA, hO⟩ := id Cx
  have hdg := vm_dec ok hc
  have hk := h ok p e R s m args below meth c A cells slots Z Cx H locs ls hH hl hret
  simp only [List.map_cons, vm_cv] at hk ⊢
  obtain ⟨hX, hbl, hbA, hlen⟩ := hO.2 b hb0
  exact va_tlen (v := Int32.ofInt (G.len b : Int)) hx hb hX hH.2.2 rfl hdg hk
theorem ex_ret (i_ : Nat) {x_ : List Nat} (hc : vm_nth M.code i_ = some (pc, .return_, 1, x_)) (hz : M.ret = none) (h : Q mem none) : vm_ex G d M pc al [] mem Q := by
  intro ok p e R s m args below meth c A cells slots Z Cx H locs ls hH hl hret
  obtain ⟨hx, hb, hml, hown, hts, hnn, hR, hK, hA, hO⟩ := id Cx
  have hdg := vm_dec ok hc
  exact hret H locs ls pc mem none h hH (Or.inl ⟨rfl, hz, hdg⟩)
theorem ex_iret {v : Int} (i_ : Nat) {x_ : List Nat} (hc : vm_nth M.code i_ = some (pc, .ireturn, 1, x_)) (hz : M.ret = some .int ∨ (M.ret = some .boolean ∧ (v = 0 ∨ v = 1))) (h : Q mem (some (.inl v))) : vm_ex G d M pc al [.inl v] mem Q := by
  intro ok p e R s m args below meth c A cells slots Z Cx H locs ls hH hl hret
  obtain ⟨hx, hb, hml, hown, hts, hnn, hR, hK, hA, hO⟩ := id Cx
  have hdg := vm_dec ok hc
  exact hret H locs ls pc mem (some (.inl v)) h hH (Or.inr ⟨v, rfl, hz, hdg⟩)
theorem ex_mmax {x_ : List Nat} {idx : Nat} {a b : Int} (i_ : Nat) (hc : vm_nth M.code i_ = some (pc, .invokestatic idx, 3, x_)) (hlk : Cond.methodLink M.y.cls idx Lib.Math.max.name ∈ vm_WS) (hw1 : Cond.static Lib.Math.max.name ∈ vm_WS) (hw2 : Cond.initialized "java/lang/Math" ∈ vm_WS) (hw3 : Cond.code Lib.Math.max.name Lib.Math.max.code 2 (some .int) ∈ vm_WS) (ha : vm_R a) (hb0 : vm_R b) (hst : Nat.ble (vm_sw st) 8 = true) (h : vm_ex G (d + 1) M (pc + 3) al (.inl (if a < b then b else a) :: st) mem Q) : vm_ex G (d + 1) M pc al (.inl b :: .inl a :: st) mem Q := by
  intro ok p e R s m args below meth c A cells slots Z Cx H locs ls hH hl hret
  obtain ⟨hx, hb, hml, hown, hts, hnn, hR, hK, hA, hO⟩ := id Cx
  have hdg := vm_dec ok hc
  have hk := h ok p e R s m args below meth c A cells slots Z Cx H locs ls hH hl hret
  simp only [List.map_cons, vm_cv] at hk ⊢
  have hst8 : ((st.map (vm_cv G)).map fun v => v.category).sum ≤ 8 := by
    rw [vm_sw_eq]; exact Nat.le_of_ble_eq_true hst
  refine va_mmax hx hb (hml.trans hl.1.symm) hown (hts _ hlk) (hts _ hw1) (hts _ hw2) (hts _ hw3) (by omega) (by omega) hR.2.2.1 hR.2.2.2 hdg ?_
  have he : Int32.ofInt (if a < b then b else a) = if Int32.ofInt a < Int32.ofInt b then Int32.ofInt b else Int32.ofInt a := by
    simp only [vm_ltI ha hb0]
    split <;> rfl
  rw [← he]
  exact hk
theorem ex_mmin {x_ : List Nat} {idx : Nat} {a b : Int} (i_ : Nat) (hc : vm_nth M.code i_ = some (pc, .invokestatic idx, 3, x_)) (hlk : Cond.methodLink M.y.cls idx Lib.Math.min.name ∈ vm_WS) (hw1 : Cond.static Lib.Math.min.name ∈ vm_WS) (hw2 : Cond.initialized "java/lang/Math" ∈ vm_WS) (hw3 : Cond.code Lib.Math.min.name Lib.Math.min.code 2 (some .int) ∈ vm_WS) (ha : vm_R a) (hb0 : vm_R b) (hst : Nat.ble (vm_sw st) 8 = true) (h : vm_ex G (d + 1) M (pc + 3) al (.inl (if b < a then b else a) :: st) mem Q) : vm_ex G (d + 1) M pc al (.inl b :: .inl a :: st) mem Q := by
  intro ok p e R s m args below meth c A cells slots Z Cx H locs ls hH hl hret
  obtain ⟨hx, hb, hml, hown, hts, hnn, hR, hK, hA, hO⟩ := id Cx
  have hdg := vm_dec ok hc
  have hk := h ok p e R s m args below meth c A cells slots Z Cx H locs ls hH hl hret
  simp only [List.map_cons, vm_cv] at hk ⊢
  have hst8 : ((st.map (vm_cv G)).map fun v => v.category).sum ≤ 8 := by
    rw [vm_sw_eq]; exact Nat.le_of_ble_eq_true hst
  refine va_mmin hx hb (hml.trans hl.1.symm) hown (hts _ hlk) (hts _ hw1) (hts _ hw2) (hts _ hw3) (by omega) (by omega) hR.2.2.1 hR.2.2.2 hdg ?_
  have he : Int32.ofInt (if b < a then b else a) = if Int32.ofInt b < Int32.ofInt a then Int32.ofInt b else Int32.ofInt a := by
    simp only [vm_ltI hb0 ha]
    split <;> rfl
  rw [← he]
  exact hk
theorem ex_alen {x_ : List Nat} {b n : Nat} {v : Int} (i_ : Nat) (hc : vm_nth M.code i_ = some (pc, .arraylength, 1, x_)) (hkd : vm_nth vm_kinds b = some (1, n)) (hn6 : Nat.ble n 1000000 = true) (hv : (n : Int) = v) (h : vm_ex G d M (pc + 1) al (.inl v :: st) mem Q) : vm_ex G d M pc al (.inr (.inr b) :: st) mem Q := by
  intro ok p e R s m args below meth c A cells slots Z Cx H locs ls hH hl hret
  obtain ⟨hx, hb, hml, hown, hts, hnn, hR, hK, hA, hO⟩ := id Cx
  have hdg := vm_dec ok hc
  have hb38 : b < 38 := by
    rw [vm_nth_eq] at hkd
    exact (List.getElem?_eq_some_iff.mp hkd).1
  have hcell := vm_ws_at G mem hb38
  rw [vm_cell_arr hkd] at hcell
  have hnn6 : n ≤ 1000000 := Nat.le_of_ble_eq_true hn6
  have hk := h ok p e R s m args below meth c A cells slots Z Cx H locs ls hH hl hret
  simp only [List.map_cons, vm_cv] at hk ⊢
  exact va_alen (D := G.D) hx hb hK hH.1 b 0 hcell (ty := .int) rfl (by rw [← hv]; rfl) hdg hk
theorem vm_cpy_cell {G : vm_G} {mem : vm_M} {b0 b1 n1 : Nat} {sp dp n : Int} (hkd : vm_nth vm_kinds b1 = some (1, n1)) (h1 : 0 ≤ sp) (h2 : 0 ≤ dp) (h3 : 0 ≤ n) : vm_cell G (vm_cpy mem b0 b1 sp dp n) b1 = .inl (G.cA 1, n1, .inl (va_cpy (fun i : Nat => Int32.ofInt (mem b0 (i : Int))) (fun i : Nat => Int32.ofInt (mem b1 (i : Int))) sp.toNat dp.toNat n.toNat)) := by
  rw [vm_cell_arr hkd]
  congr 3
  congr 1
  funext i
  unfold va_cpy vm_cpy
  by_cases hi : dp.toNat ≤ i ∧ i < dp.toNat + n.toNat
  · rw [if_pos hi, if_pos ⟨rfl, by omega, by omega⟩]
    have : sp + ((i : Int) - dp) = ((sp.toNat + (i - dp.toNat) : Nat) : Int) := by omega
    rw [this]
  · rw [if_neg hi, if_neg (fun z => hi (by omega))]
theorem ex_copy {x_ : List Nat} {idx b0 b1 n0 n1 : Nat} {sp dp n : Int} (i_ : Nat) (hc : vm_nth M.code i_ = some (pc, .invokestatic idx, 3, x_)) (hlk : Cond.methodLink M.y.cls idx arraycopyName ∈ vm_WS) (hw1 : Cond.native arraycopyName ∈ vm_WS) (hw2 : Cond.static arraycopyName ∈ vm_WS) (hw3 : Cond.initialized "java/lang/System" ∈ vm_WS) (hkd0 : vm_nth vm_kinds b0 = some (1, n0)) (hkd1 : vm_nth vm_kinds b1 = some (1, n1)) (hn6 : Nat.ble (n0 + n1) 1000000 = true) (hs : 0 ≤ sp ∧ 0 ≤ dp ∧ 0 ≤ n ∧ sp + n ≤ (n0 : Int) ∧ dp + n ≤ (n1 : Int)) (hst : Nat.ble (vm_sw st) 8 = true) (h : vm_ex G (d + 1) M (pc + 3) al st (vm_cpy mem b0 b1 sp dp n) Q) : vm_ex G (d + 1) M pc al (.inl n :: .inl dp :: .inr (.inr b1) :: .inl sp :: .inr (.inr b0) :: st) mem Q := by
  intro ok p e R s m args below meth c A cells slots Z Cx H locs ls hH hl hret
  obtain ⟨hx, hb, hml, hown, hts, hnn, hR, hK, hA, hO⟩ := id Cx
  have hdg := vm_dec ok hc
  obtain ⟨h1, h2, h3, h4, h5⟩ := hs
  have hn6 := Nat.le_of_ble_eq_true hn6
  have hb0 : b0 < 38 := by
    rw [vm_nth_eq] at hkd0
    exact (List.getElem?_eq_some_iff.mp hkd0).1
  have hb1 : b1 < 38 := by
    rw [vm_nth_eq] at hkd1
    exact (List.getElem?_eq_some_iff.mp hkd1).1
  have hc0 := vm_ws_at G mem hb0
  rw [vm_cell_arr hkd0] at hc0
  have hc1 := vm_ws_at G mem hb1
  rw [vm_cell_arr hkd1] at hc1
  have hst8 : ((st.map (vm_cv G)).map fun v => v.category).sum ≤ 8 := by
    rw [vm_sw_eq]; exact Nat.le_of_ble_eq_true hst
  have e1 := vm_nat h1 (show sp ≤ 2147483647 by omega)
  have e2 := vm_nat h2 (show dp ≤ 2147483647 by omega)
  have e3 := vm_nat h3 (show n ≤ 2147483647 by omega)
  have neg : ∀ z : Int, 0 ≤ z → z ≤ 2147483647 → ¬ Int32.ofInt z < 0 := fun z z0 z1 => by
    rw [vm_zero, vm_ltI ⟨by omega, z1⟩ vm_R0]; omega
  simp only [List.map_cons, vm_cv]
  refine va_copyi (D := G.D) hx hb (hml.trans hl.1.symm) hown (hts _ hlk) (hts _ hw1) (hts _ hw2) (hts _ hw3) hK hH.1 hH.2.1 hH.2.2 b0 b1 0 0 (ty := .int) hc0 hc1 rfl rfl rfl (neg _ h1 (by omega)) (neg _ h2 (by omega)) (neg _ h3 (by omega)) (by rw [e1, e3]; omega) (by rw [e2, e3]; omega) (fun _ _ => rfl) (by omega) (by
    have hw : nativeFrameWords "java/lang/System" "arraycopy" 5 = 7 := by decide +kernel
    rw [hw]; omega) hdg (fun H1 locs1 hP1 hD1 hS1 => ?_)
  rw [e1, e2, e3] at hP1 hD1
  have hset := vm_ws_set (G := G) (mem := mem) (mem' := vm_cpy mem b0 b1 sp dp n) hb1 (vm_cpy_cell hkd1 h1 h2 h3) (fun k hk => by funext i'; simp [vm_cpy, hk])
  rw [hset] at hP1 hD1
  exact h ok p e R s m args below meth c A cells slots Z Cx H1 locs1 ls ⟨hP1, hD1, hS1⟩ hl hret
end VMR
