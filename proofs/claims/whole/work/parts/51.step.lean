/-! THE CLASS: one level further -/
section STP
variable {m mf m2 : vm_M} {L n x : Int} {v : Nat}
theorem FX.cell (f : FX L v x m mf) {c : Nat} (h : c ≠ 13 ∧ c ≠ 14) (i : Int) : mf c i = m c i := f.1 c i (by omega)
theorem FX.same (f : FX L v x m mf) (n : Int) : ru_same m mf n := fun i _ _ => ⟨f.cell (by decide) i, f.cell (by decide) i, f.cell (by decide) i, f.cell (by decide) i, f.cell (by decide) i, fun t _ _ => ⟨f.cell (by decide) _, f.cell (by decide) _⟩⟩
theorem FX.rw' (f : FX L v x m mf) (h : RW m n) : RW mf n := ⟨by rw [f.cell (by decide)]; exact h.1, h.2.1, fun i i0 i1 => (ru_wf_same (f.same n) i0 i1 (h.2.2 i i0 i1)).1⟩
theorem FX.holds (f : FX L v x m mf) (hR : RW m n) {i : Int} (i0 : 0 ≤ i) (i1 : i < n) (h : fc_G) : ru_holds mf i h ↔ ru_holds m i h := (ru_wf_same (f.same n) i0 i1 (hR.2.2 i i0 i1)).2 h
theorem FX.ne (f : FX L v x m mf) (hN : NE L m) (hv : v < 16) (hx : m 13 (L * 16 + (v : Int)) ≤ x ∧ x ≤ m 14 (L * 16 + (v : Int))) : NE (L + 1) mf := by
  refine ⟨fun u u0 u1 => ?_, by rw [f.cell (by decide)]; exact hN.2⟩
  have := f.2 u u0 u1
  have := hN.1 u u0 u1
  have := hN.1 (v : Int) (by omega) (by omega)
  by_cases e : u = (v : Int)
  · rw [if_pos e, if_pos e] at *; omega
  · rw [if_neg e, if_neg e] at *; omega
theorem FX.box (f : FX L v x m mf) (hv : v < 16) (hx : m 13 (L * 16 + (v : Int)) ≤ x ∧ x ≤ m 14 (L * 16 + (v : Int))) (h : fc_G) : box (L + 1) mf h ↔ box L m h ∧ h (v : Int) = x := by
  constructor
  · intro hb
    have hvx : h (v : Int) = x := by
      have a := hb (v : Int) (by omega) (by omega)
      have b := f.2 (v : Int) (by omega) (by omega)
      rw [if_pos rfl, if_pos rfl] at b
      omega
    refine ⟨fun u u0 u1 => ?_, hvx⟩
    have a := hb u u0 u1
    have b := f.2 u u0 u1
    by_cases e : u = (v : Int)
    · subst e; omega
    · rw [if_neg e, if_neg e] at b; omega
  · rintro ⟨hb, hvx⟩ u u0 u1
    have a := hb u u0 u1
    have b := f.2 u u0 u1
    by_cases e : u = (v : Int)
    · rw [if_pos e, if_pos e] at b; subst e; omega
    · rw [if_neg e, if_neg e] at b; omega
theorem FX.cl (f : FX L v x m mf) (hR : RW m n) (hv : v < 16) (hx : m 13 (L * 16 + (v : Int)) ≤ x ∧ x ≤ m 14 (L * 16 + (v : Int))) {C : Nat → Prop} (h : CL L m n C) : CL (L + 1) mf n C := fun i i0 i1 ht => by
  have hm : mf 18 i = m 18 i := f.cell (by decide) i
  rw [tch_iff hm] at ht
  rcases h i i0 i1 ht with q | q
  · exact Or.inl fun y hy => (f.holds hR i0 i1 y).mpr (q y ((f.box hv hx y).mp hy).1)
  · refine Or.inr fun u u1 hu hn => q u u1 (by rw [← hm]; exact hu) (fun e => hn ?_)
    have b := f.2 (u : Int) (by omega) (by omega)
    by_cases e2 : (u : Int) = (v : Int)
    · rw [if_pos e2, if_pos e2] at b; omega
    · rw [if_neg e2, if_neg e2] at b; omega
theorem FX.okr (f : FX L v x m mf) (hR : RW m n) (hv : v < 16) (hx : m 13 (L * 16 + (v : Int)) ≤ x ∧ x ≤ m 14 (L * 16 + (v : Int))) {i : Int} (i0 : 0 ≤ i) (i1 : i < n) (h : OKR L m i) : OKR (L + 1) mf i ∨ tch mf i (fun u => (2 ^ v : Nat).testBit u = true) := by
  have hm : mf 18 i = m 18 i := f.cell (by decide) i
  by_cases hb : (m 18 i).toNat.testBit v = true
  · exact Or.inr ⟨v, hv, by rw [hm]; exact hb, Nat.testBit_two_pow_self⟩
  · refine Or.inl fun hs y hy => (f.holds hR i0 i1 y).mpr (h (fun u u1 hu => ?_) y ((f.box hv hx y).mp hy).1)
    have a := hs u u1 (by rw [hm]; exact hu)
    have b := f.2 (u : Int) (by omega) (by omega)
    have : ¬ (u : Int) = (v : Int) := fun e => hb (by have : u = v := by omega
                                                      rw [← this]; exact hu)
    rw [if_neg this, if_neg this] at b
    omega
/-- how many are open -/
def ufx (L : Int) (m : vm_M) : Int := zz_sm (fun v => if m 13 (L * 16 + v) = m 14 (L * 16 + v) then 0 else 1) 16
theorem ufx_bd (L : Int) (m : vm_M) : 0 ≤ ufx L m ∧ ufx L m ≤ 16 := by
  have := zz_sm_bd (f := fun v => if m 13 (L * 16 + v) = m 14 (L * 16 + v) then 0 else 1) (a := 0) (b := 1) (n := 16) (fun v _ _ => by split <;> omega)
  unfold ufx
  omega
theorem ufx_pos {A O : Nat} (h : opn L m A O) (h0 : O ≠ 0) : 1 ≤ ufx L m := by
  obtain ⟨u, hu⟩ := Nat.exists_testBit_of_ne_zero h0
  have := (h.2 u).mp hu
  have : zz_sm (fun _ => 0) 16 < ufx L m := zz_sm_lt (fun i _ _ => by split <;> omega) ⟨(u : Int), by omega, by omega, by rw [if_neg this.2.1]; decide⟩
  have h0 : zz_sm (fun _ => 0) 16 = 0 := by decide
  omega
theorem ufx_next (f : FX L v x m mf) (s : SW (L + 1) mf m2) (hv : v < 16) (ho : m 13 (L * 16 + (v : Int)) ≠ m 14 (L * 16 + (v : Int))) : ufx (L + 1) m2 < ufx L m := by
  refine zz_sm_lt (fun i i0 i1 => ?_) ⟨(v : Int), by omega, by omega, ?_⟩
  · have a := f.2 i i0 (by omega)
    have b := s.2.1 i i0 (by omega)
    by_cases e : i = (v : Int)
    · rw [if_pos e, if_pos e] at a
      rw [if_pos (by omega)]
      split <;> omega
    · rw [if_neg e, if_neg e] at a
      by_cases z : m 13 (L * 16 + i) = m 14 (L * 16 + i)
      · rw [if_pos z, if_pos (by omega)]; exact Int.le_refl _
      · rw [if_neg z]; split <;> omega
  · have a := f.2 (v : Int) (by omega) (by omega)
    have b := s.2.1 (v : Int) (by omega) (by omega)
    rw [if_pos rfl, if_pos rfl] at a
    rw [if_pos (by omega), if_neg ho]
    decide
section PART
variable {P O' : Nat}
theorem step_no (hR : RW m n) (f : FX L v x m mf) (hv : v < 16) (hx : m 13 (L * 16 + (v : Int)) ≤ x ∧ x ≤ m 14 (L * 16 + (v : Int))) (s : ST (L + 1) n (bc P) mf m2 false) (h : fc_G) : ¬ (TS L n m P h ∧ h (v : Int) = x) := fun ⟨⟨h1, h2, h3, h4⟩, he⟩ =>
  s.2.1 rfl h ((f.box hv hx h).mpr ⟨h1, he⟩) (fun i i0 i1 ht => (f.holds hR i0 i1 h).mpr (h4 i i0 i1 ((tch_iff (f.cell (by decide) i)).mp ht)))
theorem step_yes (hR : RW m n) (hC : CL L m n (bc P)) (f : FX L v x m mf) (hv : v < 16) (hPv : P.testBit v = true) (hx : m 13 (L * 16 + (v : Int)) ≤ x ∧ x ≤ m 14 (L * 16 + (v : Int))) (s : ST (L + 1) n (bc P) mf m2 true) (hO : opn (L + 1) m2 (clr P v) O') (h : fc_G) : TS (L + 1) n m2 O' h ↔ TS L n m P h ∧ h (v : Int) = x := by
  obtain ⟨s1, _, s3⟩ := s
  obtain ⟨s4, s5, s6⟩ := s3 rfl
  have hRf := f.rw' hR
  have hR2 := s1.rw' hRf
  have hCf := f.cl hR hv hx hC
  have hC2 := s1.cl hRf hCf
  have m2f : ∀ i, m2 18 i = mf 18 i := fun i => s1.cell (by decide) i
  have mfm : ∀ i, mf 18 i = m 18 i := fun i => f.cell (by decide) i
  have out : ∀ u : Nat, u < 16 → P.testBit u = false → m2 13 ((L + 1) * 16 + (u : Int)) = m 13 (L * 16 + (u : Int)) := fun u u1 hu => by
    have a := s5 u u1 (by unfold bc; rw [hu]; simp)
    have b := f.2 (u : Int) (by omega) (by omega)
    have : ¬ (u : Int) = (v : Int) := fun e => by
      have : u = v := by omega
      rw [this, hPv] at hu
      simp at hu
    rw [if_neg this, if_neg this] at b
    omega
  have vfix : m2 13 ((L + 1) * 16 + (v : Int)) = x ∧ m2 14 ((L + 1) * 16 + (v : Int)) = x := by
    have a := s1.2.1 (v : Int) (by omega) (by omega)
    have b := f.2 (v : Int) (by omega) (by omega)
    rw [if_pos rfl, if_pos rfl] at b
    omega
  have hoff : ∀ u : Nat, u < 16 → O'.testBit u = false → P.testBit u = true → m2 13 ((L + 1) * 16 + (u : Int)) = m2 14 ((L + 1) * 16 + (u : Int)) := fun u u1 hu hp => by
    by_cases e : u = v
    · subst e; omega
    · refine Classical.byContradiction fun z => ?_
      have := (hO.2 u).mpr ⟨u1, z, by rw [clr_bit, hp]; simp; omega⟩
      rw [hu] at this
      simp at this
  constructor
  · rintro ⟨h1, h2, h3, h4⟩
    have hbf := s1.box h1
    have hbm := (f.box hv hx h).mp hbf
    refine ⟨⟨hbm.1, h2, fun u u1 hu => ?_, fun i i0 i1 ht => ?_⟩, hbm.2⟩
    · rw [h3 u u1 (by
        cases z : O'.testBit u
        · rfl
        · have := ((hO.2 u).mp z).2.2
          rw [clr_bit, hu] at this
          simp at this), out u u1 hu]
    · have ht2 : tch m2 i (bc P) := (tch_iff ((m2f i).trans (mfm i))).mpr ht
      refine (f.holds hR i0 i1 h).mp ((s1.holds hRf i0 i1 h).mp ?_)
      by_cases hto : tch m2 i (bc O')
      · exact h4 i i0 i1 hto
      · rcases hC2 i i0 i1 ht2 with q | q
        · exact q h h1
        · refine s6 i i0 i1 (fun u u1 hu => Classical.byContradiction fun z => ?_) h h1
          have hp : P.testBit u = true := q u u1 hu z
          cases ho : O'.testBit u
          · exact z (hoff u u1 ho hp)
          · exact hto ⟨u, u1, hu, ho⟩
  · rintro ⟨⟨h1, h2, h3, h4⟩, he⟩
    have hbf := (f.box hv hx h).mpr ⟨h1, he⟩
    have hb2 := s4 h hbf (fun i i0 i1 ht => (f.holds hR i0 i1 h).mpr (h4 i i0 i1 ((tch_iff (mfm i)).mp ht)))
    refine ⟨hb2, h2, fun u u1 hu => ?_, fun i i0 i1 ht => ?_⟩
    · cases hp : P.testBit u
      · rw [out u u1 hp]; exact h3 u u1 hp
      · have a := hoff u u1 hu hp
        have b := hb2 (u : Int) (by omega) (by omega)
        omega
    · obtain ⟨u, u1, hu, hbit⟩ := ht
      have hp : P.testBit u = true := by
        have := ((hO.2 u).mp hbit).2.2
        rw [clr_bit, Bool.and_eq_true] at this
        exact this.1
      refine (s1.holds hRf i0 i1 h).mpr ((f.holds hR i0 i1 h).mpr (h4 i i0 i1 ⟨u, u1, ?_, hp⟩))
      rw [← mfm i, ← m2f i]; exact hu
/-- the rest of a part stays closed -/
theorem step_cl (hR : RW m n) (hC : CL L m n (bc P)) (f : FX L v x m mf) (hv : v < 16) (hx : m 13 (L * 16 + (v : Int)) ≤ x ∧ x ≤ m 14 (L * 16 + (v : Int))) (s : SW (L + 1) mf m2) : CL (L + 1) m2 n (bc (clr P v)) := fun i i0 i1 ht => by
  have hC2 := s.cl (f.rw' hR) (f.cl hR hv hx hC)
  obtain ⟨u, u1, hu, hb⟩ := ht
  have hp : P.testBit u = true := by
    have : (clr P v).testBit u = true := hb
    rw [clr_bit, Bool.and_eq_true] at this
    exact this.1
  rcases hC2 i i0 i1 ⟨u, u1, hu, hp⟩ with q | q
  · exact Or.inl q
  · refine Or.inr fun w w1 hw z => ?_
    have := q w w1 hw z
    unfold bc at this ⊢
    rw [clr_bit, this]
    have : ¬ v = w := fun e => by
      subst e
      have a := s.2.1 (v : Int) (by omega) (by omega)
      have b := f.2 (v : Int) (by omega) (by omega)
      rw [if_pos rfl, if_pos rfl] at b
      omega
    simp [this]
/-- a part, and what is left, are closed -/
theorem part_cl {R : Nat} (hC : CL L m n (bc R)) (hPR : ∀ u, P.testBit u = true → R.testBit u = true) (hg : ∀ i : Int, 0 ≤ i → i < n → gd L m R P i) : CL L m n (bc P) := fun i i0 i1 ⟨u, u1, hu, hb⟩ => by
  have hb : P.testBit u = true := hb
  rcases hC i i0 i1 ⟨u, u1, hu, hPR u hb⟩ with q | q
  · exact Or.inl q
  · rcases hg i i0 i1 with g | g | g
    · exact absurd ⟨hu, hPR u hb, hb⟩ (g u)
    · exact Or.inr fun w w1 hw z => g w hw (q w w1 hw z)
    · exact Or.inl g
theorem rest_cl {R R' : Nat} (hC : CL L m n (bc R)) (hR' : ∀ u, R'.testBit u = true ↔ R.testBit u = true ∧ P.testBit u = false) (hg : ∀ i : Int, 0 ≤ i → i < n → gd L m R P i) : CL L m n (bc R') := fun i i0 i1 ⟨u, u1, hu, hb⟩ => by
  have hb := (hR' u).mp hb
  rcases hC i i0 i1 ⟨u, u1, hu, hb.1⟩ with q | q
  · exact Or.inl q
  · rcases hg i i0 i1 with g | g | g
    · refine Or.inr fun w w1 hw z => (hR' w).mpr ⟨q w w1 hw z, ?_⟩
      cases h : P.testBit w
      · rfl
      · exact absurd ⟨hw, q w w1 hw z, h⟩ (g w)
    · have := g u hu hb.1
      rw [hb.2] at this
      simp at this
    · exact Or.inl g
end PART
end STP
