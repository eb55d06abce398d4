/-! THE CLASS: solutions of a part at a level -/
section WY0
variable {m : vm_M} {L n : Int}
def bc (O : Nat) : Nat → Prop := fun u => O.testBit u = true
def TS (L n : Int) (m : vm_M) (O : Nat) (h : fc_G) : Prop :=
  box L m h ∧ (∀ v : Int, ¬ (0 ≤ v ∧ v < 16) → h v = 0) ∧ (∀ u : Nat, u < 16 → O.testBit u = false → h (u : Int) = m 13 (L * 16 + (u : Int))) ∧ ∀ i : Int, 0 ≤ i → i < n → tch m i (bc O) → ru_holds m i h
theorem cnt_add {α : Type} {S S' S'' : α → Prop} {a r r' : Nat} (h : cnt S a r) (hr : r < a) (h' : cnt S' (a - r) r') (hd : ∀ u, S u → ¬ S' u) (he : ∀ u, S'' u ↔ S u ∨ S' u) : cnt S'' a (r + r') := by
  obtain ⟨l, n1, s1, e1, le1, c1⟩ := h
  obtain ⟨l', n2, s2, e2, le2, c2⟩ := h'
  refine ⟨l ++ l', List.nodup_append.mpr ⟨n1, n2, fun x hx y hy e => ?_⟩, fun u hu => ?_, by rw [List.length_append, e1, e2], by omega, fun hlt u hu => ?_⟩
  · subst e; exact hd x (s1 x hx) (s2 x hy)
  · rw [he]
    exact (List.mem_append.mp hu).elim (fun z => Or.inl (s1 u z)) (fun z => Or.inr (s2 u z))
  · rw [List.mem_append]
    exact ((he u).mp hu).elim (fun z => Or.inl (c1 hr u z)) (fun z => Or.inr (c2 (by omega) u z))
theorem cnt_iff {α : Type} {S S' : α → Prop} {a r : Nat} (h : cnt S a r) (he : ∀ u, S' u ↔ S u) : cnt S' a r := by
  obtain ⟨l, n1, s1, e1, le1, c1⟩ := h
  exact ⟨l, n1, fun u hu => (he u).mpr (s1 u hu), e1, le1, fun z u hu => c1 z u ((he u).mp hu)⟩
theorem cnt_none {α : Type} {S : α → Prop} {a : Nat} (h : ∀ u, ¬ S u) : cnt S a 0 := ⟨[], List.nodup_nil, fun u hu => by simp at hu, rfl, Nat.zero_le _, fun _ u hu => absurd hu (h u)⟩
theorem cnt_zero {α : Type} {S : α → Prop} {a : Nat} (h : cnt S a 0) (ha : 0 < a) (u : α) : ¬ S u := fun hu => by
  obtain ⟨l, n1, s1, e1, le1, c1⟩ := h
  have := c1 ha u hu
  have : l = [] := List.length_eq_zero_iff.mp e1
  subst this
  simp at *
theorem cnt_some {α : Type} {S : α → Prop} {a r : Nat} (h : cnt S a r) (hr : 0 < r) : ∃ u, S u := by
  obtain ⟨l, n1, s1, e1, le1, c1⟩ := h
  cases l with
  | nil => simp at e1; omega
  | cons x l => exact ⟨x, s1 x List.mem_cons_self⟩
/-- a full count stays full -/
theorem cnt_full {α β γ : Type} {S : α → Prop} {S' : β → Prop} {R : γ → Prop} (f : α → β → γ) {lim : Nat} (h : cnt S lim lim) (b : β) (hb : S' b) (hR : ∀ a b, S a → S' b → R (f a b)) (hi : ∀ a b a2 b2, S a → S' b → S a2 → S' b2 → f a b = f a2 b2 → a = a2 ∧ b = b2) : cnt R lim lim := by
  obtain ⟨l, n1, s1, e1, le1, c1⟩ := h
  refine ⟨l.map fun a => f a b, nodup_map n1 (fun x hx y hy e => (hi x b y b (s1 x hx) hb (s1 y hy) hb e).1), fun u hu => ?_, by rw [List.length_map, e1], Nat.le_refl _, fun z => absurd z (Nat.lt_irrefl _)⟩
  obtain ⟨a, ha, e⟩ := List.mem_map.mp hu
  rw [← e]
  exact hR a b (s1 a ha) hb
/-- a rule looks at its own variables only -/
theorem ru_loc {i : Int} {h h' : fc_G} (hw : ru_wf m i) (he : ∀ u : Nat, u < 16 → (m 18 i).toNat.testBit u = true → h (u : Int) = h' (u : Int)) : ru_holds m i h ↔ ru_holds m i h' := by
  obtain ⟨_, _, ⟨k1, k2, k3, k4⟩, _, _, _, w3⟩ := id hw
  have ht : ∀ t : Int, 0 ≤ t → t < m 19 i → h (m 20 (i * 4 + t)) = h' (m 20 (i * 4 + t)) := fun t t0 t1 => by
    have w := (k2 t t0 t1).1
    have := he (m 20 (i * 4 + t)).toNat (by omega) ((k4 _).mpr ⟨t, t0, t1, by omega⟩)
    rwa [Int.toNat_of_nonneg w.1] at this
  unfold ru_holds
  by_cases h0 : m 15 i = 0
  · rw [if_pos h0, if_pos h0]
    have : ru_lin m i h (m 19 i).toNat = ru_lin m i h' (m 19 i).toNat := zz_sm_congr fun t t0 t1 => by rw [ht t t0 (by omega)]
    rw [this]
  · have w3 := w3 h0
    have a := ht 0 (by decide) (by omega)
    rw [Int.add_zero] at a
    rw [if_neg h0, if_neg h0, a, ht 1 (by decide) (by omega), ht 2 (by decide) (by omega)]
def ins (L : Int) (m : vm_M) (P : Nat) (h : fc_G) : fc_G := fun v => if 0 ≤ v ∧ v < 16 then (if P.testBit v.toNat = true then h v else m 13 (L * 16 + v)) else 0
theorem ins_in {P u : Nat} {h : fc_G} (hu : u < 16) (hb : P.testBit u = true) : ins L m P h (u : Int) = h (u : Int) := by
  unfold ins; rw [if_pos (by omega), Int.toNat_natCast, if_pos hb]
theorem ins_out {P u : Nat} {h : fc_G} (hu : u < 16) (hb : P.testBit u = false) : ins L m P h (u : Int) = m 13 (L * 16 + (u : Int)) := by
  unfold ins; rw [if_pos (by omega), Int.toNat_natCast, hb, if_neg (by decide)]
theorem ins_far {P : Nat} {h : fc_G} {v : Int} (hv : ¬ (0 ≤ v ∧ v < 16)) : ins L m P h v = 0 := by
  unfold ins; rw [if_neg hv]
theorem box_ins {P : Nat} {h : fc_G} (hN : NE L m) (hb : box L m h) : box L m (ins L m P h) := fun v v0 v1 => by
  have := hN.1 v v0 v1
  have := hb v v0 v1
  unfold ins
  rw [if_pos ⟨v0, v1⟩]
  split <;> omega
/-- a solution is cut down to a part -/
theorem TS_cut {P : Nat} {h : fc_G} (hN : NE L m) (hR : RW m n) (hC : CL L m n (bc P)) (hb : box L m h) (hh : ∀ i : Int, 0 ≤ i → i < n → tch m i (bc P) → ru_holds m i h) : TS L n m P (ins L m P h) := by
  refine ⟨box_ins hN hb, fun v hv => ins_far hv, fun u hu hb => ins_out hu hb, fun i i0 i1 ht => ?_⟩
  rcases hC i i0 i1 ht with q | q
  · exact q _ (box_ins hN hb)
  · refine (ru_loc (hR.2.2 i i0 i1) (fun u u1 hu => ?_)).mp (hh i i0 i1 ht)
    cases hp : P.testBit u
    · rw [ins_out u1 hp]
      have : m 13 (L * 16 + (u : Int)) = m 14 (L * 16 + (u : Int)) := Classical.byContradiction fun z => by
        have := q u u1 hu z
        unfold bc at this
        rw [hp] at this
        simp at this
      have := hb (u : Int) (by omega) (by omega)
      omega
    · rw [ins_in u1 hp]
def joi (P : Nat) (a b : fc_G) : fc_G := fun v => if 0 ≤ v ∧ v < 16 ∧ P.testBit v.toNat = true then b v else a v
theorem joi_in {P u : Nat} {a b : fc_G} (hu : u < 16) (hb : P.testBit u = true) : joi P a b (u : Int) = b (u : Int) := by
  unfold joi; rw [if_pos ⟨by omega, by omega, by rw [Int.toNat_natCast]; exact hb⟩]
theorem joi_out {P u : Nat} {a b : fc_G} (hb : P.testBit u = false) : joi P a b (u : Int) = a (u : Int) := by
  unfold joi; rw [if_neg (by rw [Int.toNat_natCast, hb]; simp)]
theorem joi_far {P : Nat} {a b : fc_G} {v : Int} (hv : ¬ (0 ≤ v ∧ v < 16)) : joi P a b v = a v := by
  unfold joi; rw [if_neg (fun z => hv ⟨z.1, z.2.1⟩)]
theorem ext16 {a b : fc_G} (h1 : ∀ u : Nat, u < 16 → a (u : Int) = b (u : Int)) (h2 : ∀ v : Int, ¬ (0 ≤ v ∧ v < 16) → a v = b v) : a = b := by
  funext v
  by_cases hv : 0 ≤ v ∧ v < 16
  · have := h1 v.toNat (by omega)
    rwa [Int.toNat_of_nonneg hv.1] at this
  · exact h2 v hv
def isopen (L : Int) (m : vm_M) (O : Nat) : Prop := ∀ u : Nat, u < 16 → O.testBit u = true → m 13 (L * 16 + (u : Int)) ≠ m 14 (L * 16 + (u : Int))
theorem TS_joi {D P : Nat} {a b : fc_G} (hR : RW m n) (hD : CL L m n (bc D)) (hP : CL L m n (bc P)) (oD : isopen L m D) (oP : isopen L m P) (hdis : ∀ u, D.testBit u = true → P.testBit u = false) (ha : TS L n m D a) (hb : TS L n m P b) : TS L n m (D ||| P) (joi P a b) := by
  obtain ⟨a1, a2, a3, a4⟩ := ha
  obtain ⟨b1, b2, b3, b4⟩ := hb
  have hbox : box L m (joi P a b) := fun v v0 v1 => by
    unfold joi
    split
    · exact b1 v v0 v1
    · exact a1 v v0 v1
  refine ⟨hbox, fun v hv => by rw [joi_far hv]; exact a2 v hv, fun u hu hbit => ?_, fun i i0 i1 ht => ?_⟩
  · rw [Nat.testBit_or, Bool.or_eq_false_iff] at hbit
    rw [joi_out hbit.2]
    exact a3 u hu hbit.1
  · obtain ⟨u, u1, hu, hbit⟩ := ht
    have hbit : (D ||| P).testBit u = true := hbit
    rw [Nat.testBit_or, Bool.or_eq_true] at hbit
    rcases hbit with hbit | hbit
    · have ht : tch m i (bc D) := ⟨u, u1, hu, hbit⟩
      rcases hD i i0 i1 ht with q | q
      · exact q _ hbox
      · refine (ru_loc (hR.2.2 i i0 i1) (fun w w1 hw => ?_)).mp (a4 i i0 i1 ht)
        rw [joi_out]
        cases hp : P.testBit w
        · rfl
        · have := hdis w (q w w1 hw (oP w w1 hp))
          rw [hp] at this
          simp at this
    · have ht : tch m i (bc P) := ⟨u, u1, hu, hbit⟩
      rcases hP i i0 i1 ht with q | q
      · exact q _ hbox
      · refine (ru_loc (hR.2.2 i i0 i1) (fun w w1 hw => ?_)).mp (b4 i i0 i1 ht)
        cases hp : P.testBit w
        · rw [joi_out hp, b3 w w1 hp]
          have e : m 13 (L * 16 + (w : Int)) = m 14 (L * 16 + (w : Int)) := Classical.byContradiction fun z => by
            have := q w w1 hw z
            unfold bc at this
            rw [hp] at this
            simp at this
          have := a1 (w : Int) (by omega) (by omega)
          omega
        · rw [joi_in w1 hp]
theorem joi_inj {D P : Nat} {a b a2 b2 : fc_G} (hdis : ∀ u, D.testBit u = true → P.testBit u = false) (ha : TS L n m D a) (hb : TS L n m P b) (ha2 : TS L n m D a2) (hb2 : TS L n m P b2) (e : joi P a b = joi P a2 b2) : a = a2 ∧ b = b2 := by
  constructor
  · refine ext16 (fun u u1 => ?_) (fun v hv => by rw [ha.2.1 v hv, ha2.2.1 v hv])
    cases hp : P.testBit u
    · have := congrFun e (u : Int)
      rwa [joi_out hp, joi_out hp] at this
    · have hd : D.testBit u = false := by
        cases h : D.testBit u
        · rfl
        · have := hdis u h; rw [hp] at this; simp at this
      rw [ha.2.2.1 u u1 hd, ha2.2.2.1 u u1 hd]
  · refine ext16 (fun u u1 => ?_) (fun v hv => by rw [hb.2.1 v hv, hb2.2.1 v hv])
    cases hp : P.testBit u
    · rw [hb.2.2.1 u u1 hp, hb2.2.2.1 u u1 hp]
    · have := congrFun e (u : Int)
      rwa [joi_in u1 hp, joi_in u1 hp] at this
theorem CL_or {D P : Nat} (hD : CL L m n (bc D)) (hP : CL L m n (bc P)) : CL L m n (bc (D ||| P)) := fun i i0 i1 ht => by
  obtain ⟨u, u1, hu, hbit⟩ := ht
  have hbit : (D ||| P).testBit u = true := hbit
  rw [Nat.testBit_or, Bool.or_eq_true] at hbit
  rcases hbit with hbit | hbit
  · rcases hD i i0 i1 ⟨u, u1, hu, hbit⟩ with q | q
    · exact Or.inl q
    · exact Or.inr fun w w1 hw z => by
        have := q w w1 hw z
        unfold bc at this ⊢
        rw [Nat.testBit_or, this]; rfl
  · rcases hP i i0 i1 ⟨u, u1, hu, hbit⟩ with q | q
    · exact Or.inl q
    · exact Or.inr fun w w1 hw z => by
        have := q w w1 hw z
        unfold bc at this ⊢
        rw [Nat.testBit_or, this, Bool.or_true]
theorem TS_surj {D P : Nat} {c : fc_G} (hN : NE L m) (hR : RW m n) (hD : CL L m n (bc D)) (hP : CL L m n (bc P)) (hc : TS L n m (D ||| P) c) : ∃ a b, TS L n m D a ∧ TS L n m P b ∧ joi P a b = c := by
  obtain ⟨c1, c2, c3, c4⟩ := hc
  refine ⟨ins L m D c, ins L m P c, TS_cut hN hR hD c1 (fun i i0 i1 ⟨u, u1, hu, hb⟩ => c4 i i0 i1 ⟨u, u1, hu, ?_⟩), TS_cut hN hR hP c1 (fun i i0 i1 ⟨u, u1, hu, hb⟩ => c4 i i0 i1 ⟨u, u1, hu, ?_⟩), ext16 (fun u u1 => ?_) (fun v hv => ?_)⟩
  · unfold bc at hb ⊢; rw [Nat.testBit_or, hb]; rfl
  · unfold bc at hb ⊢; rw [Nat.testBit_or, hb, Bool.or_true]
  · cases hp : P.testBit u
    · rw [joi_out hp]
      cases hd : D.testBit u
      · rw [ins_out u1 hd, c3 u u1 (by rw [Nat.testBit_or, hp, hd]; rfl)]
      · rw [ins_in u1 hd]
    · rw [joi_in u1 hp, ins_in u1 hp]
  · rw [joi_far hv, ins_far hv, c2 v hv]
/-- two parts together -/
theorem TS_prod {D P : Nat} {lim r r' : Nat} (hN : NE L m) (hR : RW m n) (hD : CL L m n (bc D)) (hP : CL L m n (bc P)) (oD : isopen L m D) (oP : isopen L m P) (hdis : ∀ u, D.testBit u = true → P.testBit u = false) (h : cnt (TS L n m D) lim r) (h' : cnt (TS L n m P) (if r < lim then lim else 1) r') (p : 1 ≤ r) (p' : 1 ≤ r') : cnt (TS L n m (D ||| P)) lim (min lim (r * r')) := by
  by_cases hlt : r < lim
  · rw [if_pos hlt] at h'
    exact cnt_prod (joi P) h h' p p' (fun a b ha hb => TS_joi hR hD hP oD oP hdis ha hb) (fun a b a2 b2 ha hb ha2 hb2 e => joi_inj hdis ha hb ha2 hb2 e) (fun c hc => TS_surj hN hR hD hP hc)
  · have hr : r = lim := by
      obtain ⟨l, _, _, _, le, _⟩ := h
      omega
    subst hr
    obtain ⟨b, hb⟩ := cnt_some h' p'
    have : min r (r * r') = r := Nat.min_eq_left (Nat.le_mul_of_pos_right r p')
    rw [this]
    exact cnt_full (joi P) h b hb (fun a b ha hb => TS_joi hR hD hP oD oP hdis ha hb) (fun a b a2 b2 ha hb ha2 hb2 e => joi_inj hdis ha hb ha2 hb2 e)
end WY0
