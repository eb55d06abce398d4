/-! THE CLASS: a row is narrowed by all rules of the changed variables, and so on -/
section SET
variable {G : vm_G} {d : Nat} {m : vm_M} {Q : vm_M → Bool → Prop}
def tch (m : vm_M) (i : Int) (C : Nat → Prop) : Prop := ∃ u : Nat, u < 16 ∧ (m 18 i).toNat.testBit u = true ∧ C u
def SR (L : Int) (m : vm_M) (i : Int) : Prop := ∀ h, box L m h → ru_holds m i h
/-- a rule that joins a set with what is open outside of it holds anyway -/
def CL (L : Int) (m : vm_M) (n : Int) (C : Nat → Prop) : Prop := ∀ i : Int, 0 ≤ i → i < n → tch m i C → SR L m i ∨ ∀ u : Nat, u < 16 → (m 18 i).toNat.testBit u = true → m 13 (L * 16 + (u : Int)) ≠ m 14 (L * 16 + (u : Int)) → C u
/-- if all its variables have one value, the rule holds -/
def OKR (L : Int) (m : vm_M) (i : Int) : Prop := (∀ u : Nat, u < 16 → (m 18 i).toNat.testBit u = true → m 13 (L * 16 + (u : Int)) = m 14 (L * 16 + (u : Int))) → ∀ h, box L m h → ru_holds m i h
def SW (L : Int) (m m' : vm_M) : Prop :=
  (∀ (c : Nat) (i : Int), ¬ ((c = 13 ∨ c = 14) ∧ L * 16 ≤ i ∧ i < L * 16 + 16) → ¬ (c = 6 ∧ i = 4) → m' c i = m c i) ∧
  (∀ v : Int, 0 ≤ v → v < 16 → m 13 (L * 16 + v) ≤ m' 13 (L * 16 + v) ∧ m' 13 (L * 16 + v) ≤ m' 14 (L * 16 + v) ∧ m' 14 (L * 16 + v) ≤ m 14 (L * 16 + v)) ∧ (0 ≤ m' 6 4 ∧ m' 6 4 < 65536)
theorem SH.sw {L : Int} {m m' : vm_M} (s : SH L m m') : SW L m m' := ⟨s.1, s.2.1, s.2.2.1⟩
theorem SW.trans {L : Int} {a b c : vm_M} (s : SW L a b) (t : SW L b c) : SW L a c :=
  ⟨fun x i p q => (t.1 x i p q).trans (s.1 x i p q), fun v v0 v1 => by have := s.2.1 v v0 v1; have := t.2.1 v v0 v1; omega, t.2.2⟩
theorem SW.refl {L : Int} {m : vm_M} (h : NE L m) : SW L m m := (SH.refl h).sw
theorem SW.ne {L : Int} {m m' : vm_M} (s : SW L m m') (h : NE L m) : NE L m' :=
  ⟨fun v v0 v1 => by have := h.1 v v0 v1; have := s.2.1 v v0 v1; omega, s.2.2⟩
theorem SW.cell {L : Int} {m m' : vm_M} (s : SW L m m') {c : Nat} (h : c ≠ 13 ∧ c ≠ 14 ∧ c ≠ 6) (i : Int) : m' c i = m c i := s.1 c i (by omega) (by omega)
theorem SW.same {L : Int} {m m' : vm_M} (s : SW L m m') (n : Int) : ru_same m m' n := fun i _ _ => ⟨s.cell (by decide) i, s.cell (by decide) i, s.cell (by decide) i, s.cell (by decide) i, s.cell (by decide) i, fun t _ _ => ⟨s.cell (by decide) _, s.cell (by decide) _⟩⟩
theorem SW.box {L : Int} {m m' : vm_M} (s : SW L m m') {h : fc_G} (hb : box L m' h) : box L m h := fun v v0 v1 => by have := hb v v0 v1; have := s.2.1 v v0 v1; omega
/-- there are n rules, in order -/
def RW (m : vm_M) (n : Int) : Prop := m 8 8 = n ∧ (0 ≤ n ∧ n ≤ 128) ∧ ∀ i : Int, 0 ≤ i → i < n → ru_wf m i
theorem SW.rw' {L n : Int} {m m' : vm_M} (s : SW L m m') (h : RW m n) : RW m' n :=
  ⟨by rw [s.cell (by decide)]; exact h.1, h.2.1, fun i i0 i1 => (ru_wf_same (s.same n) i0 i1 (h.2.2 i i0 i1)).1⟩
theorem SW.holds {L n : Int} {m m' : vm_M} (s : SW L m m') (hR : RW m n) {i : Int} (i0 : 0 ≤ i) (i1 : i < n) (h : fc_G) : ru_holds m' i h ↔ ru_holds m i h := (ru_wf_same (s.same n) i0 i1 (hR.2.2 i i0 i1)).2 h
theorem SW.cl {L n : Int} {m m' : vm_M} {C : Nat → Prop} (s : SW L m m') (hR : RW m n) (h : CL L m n C) : CL L m' n C := fun i i0 i1 ht => by
  have hm : m' 18 i = m 18 i := s.cell (by decide) i
  unfold tch at ht
  rw [hm] at ht
  rcases h i i0 i1 ht with h | h
  · exact Or.inl fun x hx => (s.holds hR i0 i1 x).mpr (h x (s.box hx))
  · refine Or.inr fun u u1 hu hn => h u u1 (by rw [← hm]; exact hu) (fun e => ?_)
    have := s.2.1 (u : Int) (by omega) (by omega)
    omega
/-- what settling a row comes to -/
def ST (L n : Int) (C : Nat → Prop) (m m' : vm_M) (r : Bool) : Prop :=
  SW L m m' ∧ (r = false → ∀ h, box L m h → ¬ ∀ i : Int, 0 ≤ i → i < n → tch m i C → ru_holds m i h) ∧
  (r = true → (∀ h, box L m h → (∀ i : Int, 0 ≤ i → i < n → tch m i C → ru_holds m i h) → box L m' h) ∧
    (∀ u : Nat, u < 16 → ¬ C u → m' 13 (L * 16 + (u : Int)) = m 13 (L * 16 + (u : Int)) ∧ m' 14 (L * 16 + (u : Int)) = m 14 (L * 16 + (u : Int))) ∧
    (∀ i : Int, 0 ≤ i → i < n → OKR L m' i))
def wid (L : Int) (m : vm_M) : Int := zz_sm (fun v => m 14 (L * 16 + v) - m 13 (L * 16 + v)) 16
theorem wid_bd {L : Int} (hN : NE L m) : 0 ≤ wid L m ∧ wid L m ≤ 288 := by
  have := zz_sm_bd (f := fun v => m 14 (L * 16 + v) - m 13 (L * 16 + v)) (a := 0) (b := 18) (n := 16) (fun v v0 v1 => by have := hN.1 v v0 (by omega); omega)
  unfold wid
  omega
theorem and_zero {a b : Nat} (ha : a < 2147483648) (hb : b < 2147483648) : vm_and (a : Int) (b : Int) = 0 ↔ ∀ u, ¬ (a.testBit u = true ∧ b.testBit u = true) := by
  rw [zz_and a b ha hb]
  constructor
  · intro h u ⟨p, q⟩
    have e : a &&& b = 0 := by omega
    have : (a &&& b).testBit u = true := by rw [Nat.testBit_and, p, q]; rfl
    rw [e, Nat.zero_testBit] at this
    simp at this
  · intro h
    have : a &&& b = 0 := Nat.eq_of_testBit_eq fun u => by
      rw [Nat.testBit_and, Nat.zero_testBit]
      have := h u
      cases p : a.testBit u <;> cases q : b.testBit u <;> simp_all
    rw [this]; rfl
theorem bit_lt16 {a u : Nat} (ha : a < 65536) (h : a.testBit u = true) : u < 16 := by
  rcases Nat.lt_or_ge u 16 with h1 | h1
  · exact h1
  · have : a < 2 ^ u := Nat.lt_of_lt_of_le (show a < 2 ^ 16 by omega) (Nat.pow_le_pow_right (by decide) h1)
    rw [Nat.testBit_lt_two_pow this] at h
    simp at h
theorem and_R {a b : Nat} (ha : a < 65536) (hb : b < 2147483648) : vm_R (vm_and (a : Int) (b : Int)) := by
  rw [zz_and a b (by omega) hb]
  have : a &&& b ≤ a := Nat.and_le_left
  exact ⟨by omega, by omega⟩
theorem OKR_keep {L i n : Int} {m' : vm_M} (s : SW L m m') (hR : RW m n) (i0 : 0 ≤ i) (i1 : i < n) (h : OKR L m i) (hu : ∀ u : Nat, u < 16 → (m 18 i).toNat.testBit u = true → m' 13 (L * 16 + (u : Int)) = m 13 (L * 16 + (u : Int)) ∧ m' 14 (L * 16 + (u : Int)) = m 14 (L * 16 + (u : Int))) : OKR L m' i := fun hs x hx => by
  have hm : m' 18 i = m 18 i := s.cell (by decide) i
  refine (s.holds hR i0 i1 x).mpr (h (fun u u1 hb => ?_) x (s.box hx))
  have := hs u u1 (by rw [hm]; exact hb)
  have := hu u u1 hb
  omega
section PASS
variable {L n X : Int} {C : Nat → Prop}
/-- within a pass -/
def PI (L n : Int) (C : Nat → Prop) (X : Nat) (m0 m1 : vm_M) (k : Int) : Prop :=
  SH L m0 m1 ∧ (∀ h, box L m0 h → (∀ i : Int, 0 ≤ i → i < n → tch m0 i C → ru_holds m0 i h) → box L m1 h) ∧
  (∀ u : Nat, u < 16 → ¬ C u → m1 13 (L * 16 + (u : Int)) = m0 13 (L * 16 + (u : Int)) ∧ m1 14 (L * 16 + (u : Int)) = m0 14 (L * 16 + (u : Int))) ∧
  (∀ i : Int, 0 ≤ i → i < n → OKR L m1 i ∨ tch m0 i (fun u => (m1 6 4).toNat.testBit u = true) ∨ (k ≤ i ∧ tch m0 i (fun u => X.testBit u = true)))
theorem PI_step {X : Nat} {m0 m1 m2 : vm_M} {k : Int} {r : Bool} (hN : NE L m0) (hR : RW m0 n) (hC : CL L m0 n C) (hX : ∀ u, X.testBit u = true → C u) (p : PI L n C X m0 m1 k) (k0 : 0 ≤ k) (k1 : k < n) (ht : tch m0 k (fun u => X.testBit u = true)) (t : TG L k m1 m2 r) :
    (r = false → ∀ h, box L m0 h → ¬ ∀ i : Int, 0 ≤ i → i < n → tch m0 i C → ru_holds m0 i h) ∧ (r = true → PI L n C X m0 m2 (k + 1)) := by
  obtain ⟨p1, p2, p3, p4⟩ := p
  obtain ⟨t1, t2, t3⟩ := t
  have tc : tch m0 k C := by
    obtain ⟨u, a, b, c⟩ := ht
    exact ⟨u, a, b, hX u c⟩
  have hR1 := p1.sw.rw' hR
  have N1 := p1.ne hN
  have hm : ∀ i, m1 18 i = m0 18 i := fun i => p1.cell (by decide) i
  refine ⟨fun e h hb hh => t2 e h (p2 h hb hh) ((p1.sw.holds hR k0 k1 h).mpr (hh k k0 k1 tc)), fun e => ?_⟩
  obtain ⟨t4, t5, t6⟩ := t3 e
  have same : ∀ u : Nat, u < 16 → ¬ C u → m2 13 (L * 16 + (u : Int)) = m1 13 (L * 16 + (u : Int)) ∧ m2 14 (L * 16 + (u : Int)) = m1 14 (L * 16 + (u : Int)) := fun u u1 hu => by
    have sr := t1.2.1 (u : Int) (by omega) (by omega)
    by_cases hb : (m1 18 k).toNat.testBit u = true
    · rcases (p1.sw.cl hR hC) k k0 k1 (by unfold tch; rw [hm]; exact tc) with c | c
      · have a := t4 (fun v => m1 13 (L * 16 + v)) (fun v v0 v1 => ⟨Int.le_refl _, (N1.1 v v0 v1).2.1⟩) (c _ (fun v v0 v1 => ⟨Int.le_refl _, (N1.1 v v0 v1).2.1⟩)) (u : Int) (by omega) (by omega)
        have b := t4 (fun v => m1 14 (L * 16 + v)) (fun v v0 v1 => ⟨(N1.1 v v0 v1).2.1, Int.le_refl _⟩) (c _ (fun v v0 v1 => ⟨(N1.1 v v0 v1).2.1, Int.le_refl _⟩)) (u : Int) (by omega) (by omega)
        dsimp only at a b
        omega
      · have := fun z => hu (c u u1 hb z)
        have e : m1 13 (L * 16 + (u : Int)) = m1 14 (L * 16 + (u : Int)) := Classical.not_not.mp this
        omega
    · exact t5 u u1 (by simpa using hb)
  refine ⟨p1.trans t1, fun h hb hh => t4 h (p2 h hb hh) ((p1.sw.holds hR k0 k1 h).mpr (hh k k0 k1 tc)), fun u u1 hu => ?_, fun i i0 i1 => ?_⟩
  · have := p3 u u1 hu
    have := same u u1 hu
    omega
  · by_cases ek : i = k
    · subst ek
      refine Or.inl fun hs x hx => (t1.sw.holds hR1 i0 i1 x).mpr (t6 x hx fun u u1 hb => hs u u1 (by rw [t1.cell (by decide)]; exact hb))
    · rcases p4 i i0 i1 with q | ⟨u, a, b, c⟩ | ⟨q1, q2⟩
      · by_cases hch : ∀ u : Nat, u < 16 → (m1 18 i).toNat.testBit u = true → m2 13 (L * 16 + (u : Int)) = m1 13 (L * 16 + (u : Int)) ∧ m2 14 (L * 16 + (u : Int)) = m1 14 (L * 16 + (u : Int))
        · exact Or.inl (OKR_keep t1.sw hR1 i0 i1 q hch)
        · obtain ⟨u, hu⟩ := Classical.not_forall.mp hch
          obtain ⟨u1, hu⟩ := Classical.not_imp.mp hu
          obtain ⟨hb, hu⟩ := Classical.not_imp.mp hu
          exact Or.inr (Or.inl ⟨u, u1, by rw [← hm]; exact hb, (t1.2.2.2 u u1).mpr (Or.inr hu)⟩)
      · exact Or.inr (Or.inl ⟨u, a, b, (t1.2.2.2 u a).mpr (Or.inl c)⟩)
      · exact Or.inr (Or.inr ⟨by omega, q2⟩)
/-- between passes -/
def PO (L n : Int) (C : Nat → Prop) (m m1 : vm_M) (X : Nat) : Prop :=
  SW L m m1 ∧ (∀ h, box L m h → (∀ i : Int, 0 ≤ i → i < n → tch m i C → ru_holds m i h) → box L m1 h) ∧
  (∀ u : Nat, u < 16 → ¬ C u → m1 13 (L * 16 + (u : Int)) = m 13 (L * 16 + (u : Int)) ∧ m1 14 (L * 16 + (u : Int)) = m 14 (L * 16 + (u : Int))) ∧
  X < 65536 ∧ (∀ u, X.testBit u = true → C u) ∧ (∀ i : Int, 0 ≤ i → i < n → OKR L m1 i ∨ tch m i (fun u => X.testBit u = true))
theorem tch_iff {m1 : vm_M} {i : Int} {C : Nat → Prop} (e : m1 18 i = m 18 i) : tch m1 i C ↔ tch m i C := by unfold tch; rw [e]
/-- a pass at its end -/
theorem PO_next {X : Nat} {m1 m0 m2 : vm_M} (hN : NE L m) (hR : RW m n) (o : PO L n C m m1 X) (e0 : m0 = vm_up m1 6 4 0) (p : PI L n C X m0 m2 n) : PO L n C m m2 (m2 6 4).toNat ∧ ((m2 6 4).toNat = 0 ∨ wid L m2 < wid L m1) := by
  obtain ⟨o1, o2, o3, o4, o5, o6⟩ := o
  obtain ⟨p1, p2, p3, p4⟩ := p
  have z : ∀ (c : Nat) (i : Int), ¬ (c = 6 ∧ i = 4) → m0 c i = m1 c i := fun c i h => by rw [e0, zz_other h]
  have z0 : m0 6 4 = 0 := by rw [e0, zz_same]
  have N1 := o1.ne hN
  have s10 : SW L m1 m0 := ⟨fun c i _ q => z c i q, fun v v0 v1 => by rw [z 13 _ (by simp), z 14 _ (by simp)]; have := N1.1 v v0 v1; omega, by omega⟩
  have s0 : SW L m m0 := o1.trans s10
  have s2 : SW L m m2 := s0.trans p1.sw
  have b0 : ∀ h, box L m1 h → box L m0 h := fun h hb v v0 v1 => by rw [z 13 _ (by simp), z 14 _ (by simp)]; exact hb v v0 v1
  have t0 : ∀ i D, tch m0 i D ↔ tch m i D := fun i D => tch_iff (s0.cell (by decide) i)
  have nar : ∀ u : Nat, u < 16 → ((m2 6 4).toNat.testBit u = true ↔ ¬ (m2 13 (L * 16 + (u : Int)) = m1 13 (L * 16 + (u : Int)) ∧ m2 14 (L * 16 + (u : Int)) = m1 14 (L * 16 + (u : Int)))) := fun u u1 => by
    rw [p1.2.2.2 u u1, z0, z 13 _ (by simp), z 14 _ (by simp)]
    simp
  have hlt : (m2 6 4).toNat < 65536 := by have := s2.2.2; omega
  refine ⟨⟨s2, fun h hb hh => p2 h (b0 h (o2 h hb hh)) (fun i i0 i1 ht => (s0.holds hR i0 i1 h).mpr (hh i i0 i1 ((t0 i C).mp ht))), fun u u1 hu => ?_, hlt, fun u hu => ?_, fun i i0 i1 => ?_⟩, ?_⟩
  · have a := p3 u u1 hu
    have b := o3 u u1 hu
    rw [z 13 _ (by simp), z 14 _ (by simp)] at a
    omega
  · have u1 := bit_lt16 hlt hu
    refine Classical.byContradiction fun hc => ?_
    have a := p3 u u1 hc
    rw [z 13 _ (by simp), z 14 _ (by simp)] at a
    exact (nar u u1).mp hu a
  · rcases p4 i i0 i1 with q | q | ⟨q, _⟩
    · exact Or.inl q
    · exact Or.inr ((t0 i _).mp q)
    · omega
  · by_cases hz : (m2 6 4).toNat = 0
    · exact Or.inl hz
    · right
      obtain ⟨u, hu⟩ := Nat.exists_testBit_of_ne_zero hz
      have u1 := bit_lt16 hlt hu
      have hn := (nar u u1).mp hu
      refine zz_sm_lt (fun v v0 v1 => ?_) ⟨(u : Int), by omega, by omega, ?_⟩
      · have := p1.2.1 v v0 (by omega)
        rw [z 13 _ (by simp), z 14 _ (by simp)] at this
        omega
      · have := p1.2.1 (u : Int) (by omega) (by omega)
        rw [z 13 _ (by simp), z 14 _ (by simp)] at this
        omega
end PASS
end SET
