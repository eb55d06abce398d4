/-! THE CLASS READS THE PAD -/
section CRD
variable {G : vm_G} {d : Nat} {m m1 m2 m3 : vm_M} {L : Int} {T : Int → Int} {p : Int}
/-- the reading stands at p -/
def PSr (L : Int) (T : Int → Int) (m : vm_M) (p : Int) : Prop := (m 3 1 = L ∧ (0 ≤ L ∧ L ≤ 80)) ∧ (∀ i : Int, 0 ≤ i → i < L → m 10 i = T i ∧ 33 ≤ T i ∧ T i ≤ 126) ∧ m 3 2 = p ∧ 0 ≤ p ∧ p ≤ L
/-- the place alone has changed -/
def F2 (m m' : vm_M) : Prop := ∀ (c : Nat) (i : Int), ¬ (c = 3 ∧ i = 2) → m' c i = m c i
/-- the reading's fields alone have changed -/
def PF (m m' : vm_M) : Prop := ∀ (c : Nat) (i : Int), ¬ (c = 3 ∧ 2 ≤ i ∧ i ≤ 8) → m' c i = m c i
theorem F2.refl (m : vm_M) : F2 m m := fun _ _ _ => rfl
theorem F2.trans (a : F2 m m1) (b : F2 m1 m2) : F2 m m2 := fun c i h => (b c i h).trans (a c i h)
theorem F2.pf (a : F2 m m1) : PF m m1 := fun c i h => a c i (by omega)
theorem PF.refl (m : vm_M) : PF m m := fun _ _ _ => rfl
theorem PF.trans (a : PF m m1) (b : PF m1 m2) : PF m m2 := fun c i h => (b c i h).trans (a c i h)
theorem PF.up {j v : Int} (hj : 3 ≤ j ∧ j ≤ 8) (e : m1 = vm_up m 3 j v) : PF m m1 := fun c i h => by rw [e, zz_other (by omega)]
theorem PSr.up {j v : Int} (h : PSr L T m p) (hj : 3 ≤ j ∧ j ≤ 8) (e : m1 = vm_up m 3 j v) : PSr L T m1 p := by
  have f : ∀ (c : Nat) (i : Int), ¬ (c = 3 ∧ i = j) → m1 c i = m c i := fun c i q => by rw [e, zz_other q]
  exact ⟨⟨by rw [f 3 1 (by omega)]; exact h.1.1, h.1.2⟩, fun i i0 i1 => by rw [f 10 i (by simp)]; exact h.2.1 i i0 i1, by rw [f 3 2 (by omega)]; exact h.2.2.1, h.2.2.2⟩
theorem cs_take {a b : Int} {Q : vm_M → Int → Prop} (h : PSr L T m p) (ha : 0 ≤ a ∧ a ≤ 200) (hb : 0 ≤ b ∧ b ≤ 200) (hF : ¬ okc L T a b p → Q m (-1)) (hT : okc L T a b p → ∀ m', F2 m m' → PSr L T m' (p + 1) → Q m' (T p - a)) : vm_ci G d mX3_take [.inr (.inr 3), .inl a, .inl b] m Q := by
  obtain ⟨⟨h1, h2⟩, h3, h4, h5⟩ := id h
  refine qX3_take ⟨⟨by omega, by omega⟩, fun z => by omega, fun _ => ⟨⟨by omega, by omega⟩, fun z => hF (fun w => by omega), fun z => ⟨fun z8 => ?_, fun z8 => by omega⟩⟩⟩
  have ht := h3 p h5.1 (by omega)
  rw [h4, ht.1]
  refine ⟨by omega, ⟨by omega, by omega⟩, ⟨by omega, by omega⟩, fun w => hF (fun q => by omega), fun w => ⟨⟨by omega, by omega⟩, fun w2 m7 e7 => ?_, fun w2 => hF (fun q => by omega)⟩⟩
  have f : ∀ (c : Nat) (i : Int), ¬ (c = 3 ∧ i = 2) → m7 c i = m c i := fun c i q => by rw [e7, zz_other q]
  exact hT ⟨by omega, by omega, w2⟩ m7 f ⟨⟨by rw [f 3 1 (by simp)]; exact h1, h2⟩, fun i i0 i1 => by rw [f 10 i (by simp)]; exact h3 i i0 i1, by rw [e7, zz_same], by omega, by omega⟩
theorem cs_skip {a : Int} {Q : vm_M → Bool → Prop} (h : PSr L T m p) (ha : 0 ≤ a ∧ a ≤ 200) (hF : ¬ okc L T a a p → Q m false) (hT : okc L T a a p → ∀ m', F2 m m' → PSr L T m' (p + 1) → Q m' true) : vm_cb G (d + 1) mX3_skip [.inr (.inr 3), .inl a] m Q :=
  qX3_skip (cs_take h ha ha (fun n => ⟨⟨by decide, by decide⟩, fun _ => hF n, fun z => absurd z (by decide)⟩) (fun q m' f s => ⟨⟨by omega, by omega⟩, fun z => absurd (by omega) z, fun _ => hT q m' f s⟩))
theorem cs_takeNumber {Q : vm_M → Int → Prop} (h : PSr L T m p) (hQ : ∀ m', F2 m m' → PSr L T m' (rNum L T p).2 → Q m' (rNum L T p).1) : vm_ci G (d + 1) mX3_takeNumber [.inr (.inr 3)] m Q := by
  refine qX3_takeNumber (cs_take h (by decide) (by decide) (fun n => ⟨⟨by decide, by decide⟩, fun z => absurd z (by decide), fun _ => ?_⟩) (fun q m' f s => ⟨⟨by omega, by omega⟩, fun z => cs_take s (by decide) (by decide) (fun n => ⟨⟨by decide, by decide⟩, fun z => absurd z (by decide), fun _ => ?_⟩) (fun q2 m2 f2 s2 => ⟨⟨by omega, by omega⟩, fun _ => ?_, fun z => absurd (by omega) z⟩), fun z => ?_⟩))
  · have e : rNum L T p = (-1, p) := by unfold rNum; rw [if_neg n]
    have := hQ m (F2.refl m) (by rw [e]; exact h)
    rw [e] at this
    exact this
  · have e : rNum L T p = (1, p + 1) := by unfold rNum; rw [if_pos q, if_pos (by omega), if_neg n]
    have := hQ m' f (by rw [e]; exact s)
    rw [e] at this
    exact this
  · have e : rNum L T p = (10 + (T (p + 1) - 48), p + 2) := by unfold rNum; rw [if_pos q, if_pos (by omega), if_pos q2]
    have := hQ m2 (f.trans f2) (by rw [e]; have := s2; rwa [show p + 1 + 1 = p + 2 by omega] at this)
    rw [e] at this
    exact this
  · have e : rNum L T p = (T p - 48, p + 1) := by unfold rNum; rw [if_pos q, if_neg (by omega)]
    have := hQ m' f (by rw [e]; exact s)
    rw [e] at this
    exact this
theorem cs_takeRangeEnd {v : Int} {Q : vm_M → Int → Prop} (h : PSr L T m p) (hv : -1 ≤ v ∧ v ≤ 18) (hQ : ∀ m', F2 m m' → PSr L T m' (rEnd L T v p).2 → Q m' (rEnd L T v p).1) : vm_ci G (d + 2) mX3_takeRangeEnd [.inr (.inr 3), .inl v] m Q := by
  refine qX3_takeRangeEnd ⟨⟨by omega, by omega⟩, fun z => cs_skip h (by decide) (fun n => ⟨fun _ => ?_, fun z => Bool.noConfusion z⟩) (fun q m' f s => ⟨fun z => Bool.noConfusion z, fun _ => cs_takeNumber s (fun m2 f2 s2 => ?_)⟩), fun z => ?_⟩
  · have e : rEnd L T v p = (v, p) := by unfold rEnd; rw [if_pos z, if_neg n]
    have := hQ m (F2.refl m) (by rw [e]; exact h)
    rw [e] at this
    exact this
  · have e : rEnd L T v p = rNum L T (p + 1) := by unfold rEnd; rw [if_pos z, if_pos q]
    have := hQ m2 (f.trans f2) (by rw [e]; exact s2)
    rw [e] at this
    exact this
  · have e : rEnd L T v p = (-1, p) := by unfold rEnd; rw [if_neg z]
    have := hQ m (F2.refl m) (by rw [e]; exact h)
    rw [e] at this
    exact this
/-- what has been read -/
def RD (L : Int) (T : Int → Int) (m m' : vm_M) (R : rR) (ok : Bool) : Prop := PF m m' ∧ PSr L T m' R.2.1 ∧ ok = R.1 ∧ (ok = true → rf_tup (m' 3) 3 = R.2.2)
theorem tup3 {f : Int → Int} {a b c x e g : Int} (h3 : f 3 = a) (h4 : f 4 = b) (h5 : f 5 = c) (h6 : f 6 = x) (h7 : f 7 = e) (h8 : f 8 = g) : rf_tup f 3 = (a, b, c, x, e, g) := by
  unfold rf_tup
  rw [show (3 : Int) + 0 = 3 from rfl, show (3 : Int) + 1 = 4 from rfl, show (3 : Int) + 2 = 5 from rfl, show (3 : Int) + 3 = 6 from rfl, show (3 : Int) + 4 = 7 from rfl, show (3 : Int) + 5 = 8 from rfl, h3, h4, h5, h6, h7, h8]
theorem cs_readSize {Q : vm_M → Bool → Prop} (h : PSr L T m p) (h7 : m 3 7 = 0) (h8 : m 3 8 = 0) (hQ : ∀ m' ok, RD L T m m' (rSize L T p) ok → Q m' ok) : vm_cb G (d + 3) mX3_readSize [.inr (.inr 3)] m Q := by
  refine qX3_readSize (fun m1 e1 => cs_take (h.up (by decide) e1) (by decide) (by decide) (fun n m4 e4 => ⟨by rw [e4, zz_same]; exact ⟨by decide, by decide⟩, fun _ => ?_, fun z => absurd (by rw [e4, zz_same]; decide) z⟩) (fun q m2 f2 s2 m4 e4 => ⟨by rw [e4, zz_same]; exact ⟨by omega, by omega⟩, fun z => absurd z (by rw [e4, zz_same]; omega), fun _ => cs_skip (d := d + 1) (s2.up (by decide) e4) (by decide) (fun n => ⟨fun z => Bool.noConfusion z, fun _ => ?_⟩) (fun q2 m6 f6 s6 => ⟨fun _ => cs_takeNumber (d := d + 1) s6 (fun m8 f8 s8 m10 e10 => ?_), fun z => Bool.noConfusion z⟩)⟩))
  · have e : rSize L T p = (false, p, z6) := by unfold rSize; rw [if_neg n]
    exact hQ m4 false ⟨(PF.up (by decide) e1).trans (PF.up (by decide) e4), by rw [e]; exact (h.up (by decide) e1).up (by decide) e4, by rw [e], fun z => Bool.noConfusion z⟩
  · have e : rSize L T p = (false, p + 1, z6) := by unfold rSize; rw [if_pos q, if_neg n]
    exact hQ m4 false ⟨((PF.up (by decide) e1).trans f2.pf).trans (PF.up (by decide) e4), by rw [e]; exact s2.up (by decide) e4, by rw [e], fun z => Bool.noConfusion z⟩
  · rw [show p + 1 + 1 = p + 2 by omega] at s8 s6 e10
    have b1 := rNum_b L T (p + 2)
    have e105 : m10 3 5 = (rNum L T (p + 2)).1 := by rw [e10, zz_same]
    rw [e105]
    refine cs_takeRangeEnd (d := d) (s8.up (by decide) e10) b1.1 (fun m11 f11 s11 m13 e13 => ?_)
    have b2 := rEnd_b (L := L) (T := T) (p := (rNum L T (p + 2)).2) b1.1.2
    have e136 : m13 3 6 = (rEnd L T (rNum L T (p + 2)).1 (rNum L T (p + 2)).2).1 := by rw [e13, zz_same]
    have hp : PF m m13 := ((((((PF.up (by decide) e1).trans f2.pf).trans (PF.up (by decide) e4)).trans f6.pf).trans f8.pf).trans (PF.up (by decide) e10)).trans (f11.pf.trans (PF.up (by decide) e13))
    have fin : Q m13 (decide (0 ≤ (rEnd L T (rNum L T (p + 2)).1 (rNum L T (p + 2)).2).1)) := by
      have e : rSize L T p = (decide (0 ≤ (rEnd L T (rNum L T (p + 2)).1 (rNum L T (p + 2)).2).1), (rEnd L T (rNum L T (p + 2)).1 (rNum L T (p + 2)).2).2, (1, T p - 65, (rNum L T (p + 2)).1, (rEnd L T (rNum L T (p + 2)).1 (rNum L T (p + 2)).2).1, 0, 0)) := by unfold rSize; rw [if_pos q, if_pos q2]
      refine hQ m13 _ ⟨hp, by rw [e]; exact s11.up (by decide) e13, by rw [e], fun _ => ?_⟩
      rw [e]
      have g : ∀ j : Int, 3 ≤ j → j ≤ 8 → j ≠ 5 → j ≠ 6 → m13 3 j = m4 3 j := fun j j0 j1 j5 j6 => by rw [e13, zz_other (by omega), f11 3 j (by omega), e10, zz_other (by omega), f8 3 j (by omega), f6 3 j (by omega)]
      refine tup3 ?_ ?_ ?_ e136 ?_ ?_
      · rw [g 3 (by decide) (by decide) (by decide) (by decide), e4, zz_other (by simp), f2 3 3 (by simp), e1, zz_same]
      · rw [g 4 (by decide) (by decide) (by decide) (by decide), e4, zz_same]
      · rw [e13, zz_other (by simp), f11 3 5 (by simp), e105]
      · rw [g 7 (by decide) (by decide) (by decide) (by decide), e4, zz_other (by simp), f2 3 7 (by simp), e1, zz_other (by simp)]; exact h7
      · rw [g 8 (by decide) (by decide) (by decide) (by decide), e4, zz_other (by simp), f2 3 8 (by simp), e1, zz_other (by simp)]; exact h8
    rw [e136]
    exact ⟨⟨by omega, by omega⟩, fun z => by rw [show decide (0 ≤ (rEnd L T (rNum L T (p + 2)).1 (rNum L T (p + 2)).2).1) = false from decide_eq_false (by omega)] at fin; exact fin, fun z => by rw [show decide (0 ≤ (rEnd L T (rNum L T (p + 2)).1 (rNum L T (p + 2)).2).1) = true from decide_eq_true (by omega)] at fin; exact fin⟩
theorem cs_takeSign {Q : vm_M → Int → Prop} (h : PSr L T m p) (hQ : ∀ m', F2 m m' → PSr L T m' (if 0 ≤ rSign L T p then p + 1 else p) → Q m' (rSign L T p)) : vm_ci G (d + 2) mX3_takeSign [.inr (.inr 3)] m Q := by
  refine qX3_takeSign (cs_skip h (by decide) (fun n1 => ⟨fun _ => cs_skip h (by decide) (fun n2 => ⟨fun _ => cs_skip h (by decide) (fun n3 => ⟨fun _ => ?_, fun z => Bool.noConfusion z⟩) (fun q m' f s => ⟨fun z => Bool.noConfusion z, fun _ => ?_⟩), fun z => Bool.noConfusion z⟩) (fun q m' f s => ⟨fun z => Bool.noConfusion z, fun _ => ?_⟩), fun z => Bool.noConfusion z⟩) (fun q m' f s => ⟨fun z => Bool.noConfusion z, fun _ => ?_⟩))
  · have e : rSign L T p = -1 := by unfold rSign; rw [if_neg n1, if_neg n2, if_neg n3]
    have := hQ m (F2.refl m) (by rw [e, if_neg (by decide)]; exact h)
    rwa [e] at this
  · have e : rSign L T p = 4 := by unfold rSign; rw [if_neg n1, if_neg n2, if_pos q]
    have := hQ m' f (by rw [e, if_pos (by decide)]; exact s)
    rwa [e] at this
  · have e : rSign L T p = 3 := by unfold rSign; rw [if_neg n1, if_pos q]
    have := hQ m' f (by rw [e, if_pos (by decide)]; exact s)
    rwa [e] at this
  · have e : rSign L T p = 2 := by unfold rSign; rw [if_pos q]
    have := hQ m' f (by rw [e, if_pos (by decide)]; exact s)
    rwa [e] at this
theorem cs_readOfThreeBags {a : Int} {Q : vm_M → Bool → Prop} (h : PSr L T m p) (h4 : m 3 4 = a) (h7 : m 3 7 = 0) (h8 : m 3 8 = 0) (hQ : ∀ m' ok, RD L T m m' (rThree L T a p) ok → Q m' ok) : vm_cb G (d + 3) mX3_readOfThreeBags [.inr (.inr 3)] m Q := by
  have bs := rSign_b L T p
  refine qX3_readOfThreeBags (cs_takeSign (d := d) h (fun m1 f1 s1 m3 e3 => ?_))
  have e33 : m3 3 3 = rSign L T p := by rw [e3, zz_same]
  have s3 := s1.up (by decide) e3
  have p3 : PF m m3 := f1.pf.trans (PF.up (by decide) e3)
  rw [e33]
  refine ⟨⟨by omega, by omega⟩, fun hs m5 e5 => ?_, fun hs => ?_⟩
  · rw [if_pos hs] at s3
    have s5 := s3.up (by decide) e5
    have p5 := p3.trans (PF.up (by decide) e5)
    refine cs_take s5 (by decide) (by decide) (fun n m8 e8 => ⟨by rw [e8, zz_same]; exact ⟨by decide, by decide⟩, fun _ => ?_, fun z => absurd (by rw [e8, zz_same]; decide) z⟩) (fun q m6 f6 s6 m8 e8 => ⟨by rw [e8, zz_same]; exact ⟨by omega, by omega⟩, fun z => absurd z (by rw [e8, zz_same]; omega), fun _ => ?_⟩)
    · have e : rThree L T a p = (false, p + 1, z6) := by unfold rThree; rw [if_pos hs, if_neg n]
      exact hQ m8 false ⟨p5.trans (PF.up (by decide) e8), by rw [e]; exact s5.up (by decide) e8, by rw [e], fun z => Bool.noConfusion z⟩
    · have s8 := s6.up (by decide) e8
      rw [show p + 1 + 1 = p + 2 by omega] at s8
      have p8 := (p5.trans f6.pf).trans (PF.up (by decide) e8)
      refine cs_skip (d := d + 1) s8 (by decide) (fun n => ⟨fun z => Bool.noConfusion z, fun _ => ?_⟩) (fun q2 m10 f10 s10 => ⟨fun _ => ?_, fun z => Bool.noConfusion z⟩)
      · have e : rThree L T a p = (false, p + 2, z6) := by unfold rThree; rw [if_pos hs, if_pos q, if_neg n]
        exact hQ m8 false ⟨p8, by rw [e]; exact s8, by rw [e], fun z => Bool.noConfusion z⟩
      · rw [show p + 2 + 1 = p + 3 by omega] at s10
        have p10 := p8.trans f10.pf
        refine cs_take s10 (by decide) (by decide) (fun n m14 e14 => ⟨by rw [e14, zz_same]; exact ⟨by decide, by decide⟩, fun _ => ?_, fun z => absurd (by rw [e14, zz_same]; decide) z⟩) (fun q3 m12 f12 s12 m14 e14 => ⟨by rw [e14, zz_same]; exact ⟨by omega, by omega⟩, fun z => absurd z (by rw [e14, zz_same]; omega), fun _ => ?_⟩)
        · have e : rThree L T a p = (false, p + 3, z6) := by unfold rThree; rw [if_pos hs, if_pos q, if_pos q2, if_neg n]
          exact hQ m14 false ⟨p10.trans (PF.up (by decide) e14), by rw [e]; exact s10.up (by decide) e14, by rw [e], fun z => Bool.noConfusion z⟩
        · have e : rThree L T a p = (true, p + 4, (rSign L T p, T (p + 3) - 65, a, T (p + 1) - 65, 0, 0)) := by unfold rThree; rw [if_pos hs, if_pos q, if_pos q2, if_pos q3]
          rw [show p + 3 + 1 = p + 4 by omega] at s12
          refine hQ m14 true ⟨(p10.trans f12.pf).trans (PF.up (by decide) e14), by rw [e]; exact s12.up (by decide) e14, by rw [e], fun _ => ?_⟩
          rw [e]
          have g : ∀ j : Int, 3 ≤ j → j ≤ 8 → j ≠ 4 → j ≠ 6 → m14 3 j = m5 3 j := fun j j0 j1 j4 j6 => by rw [e14, zz_other (by omega), f12 3 j (by omega), f10 3 j (by omega), e8, zz_other (by omega), f6 3 j (by omega)]
          refine tup3 ?_ ?_ ?_ ?_ ?_ ?_
          · rw [g 3 (by decide) (by decide) (by decide) (by decide), e5, zz_other (by simp)]; exact e33
          · rw [e14, zz_same]
          · rw [g 5 (by decide) (by decide) (by decide) (by decide), e5, zz_same, e3, zz_other (by simp), f1 3 4 (by simp)]; exact h4
          · rw [e14, zz_other (by simp), f12 3 6 (by simp), f10 3 6 (by simp), e8, zz_same]
          · rw [g 7 (by decide) (by decide) (by decide) (by decide), e5, zz_other (by simp), e3, zz_other (by simp), f1 3 7 (by simp)]; exact h7
          · rw [g 8 (by decide) (by decide) (by decide) (by decide), e5, zz_other (by simp), e3, zz_other (by simp), f1 3 8 (by simp)]; exact h8
  · rw [if_neg hs] at s3
    have e : rThree L T a p = (false, p, z6) := by unfold rThree; rw [if_neg hs]
    exact hQ m3 false ⟨p3, by rw [e]; exact s3, by rw [e], fun z => Bool.noConfusion z⟩
end CRD
