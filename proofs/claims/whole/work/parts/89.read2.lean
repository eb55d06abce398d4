/-! THE CLASS READS THE PAD: facts, the fault, tell -/
section CR2
variable {G : vm_G} {d : Nat} {m m1 m2 m3 : vm_M} {L : Int} {T : Int → Int} {p : Int} {S : aS}
theorem cs_readDifference {Q : vm_M → Bool → Prop} (h : PSr L T m p) (h8 : m 3 8 = 0) (hQ : ∀ m' ok, (∀ (c : Nat) (i : Int), ¬ (c = 3 ∧ (i = 2 ∨ i = 8)) → m' c i = m c i) → PSr L T m' (rDiff L T p).2.1 → ok = (rDiff L T p).1 → (ok = true → m' 3 8 = (rDiff L T p).2.2) → Q m' ok) : vm_cb G (d + 2) mX3_readDifference [.inr (.inr 3)] m Q := by
  refine qX3_readDifference (cs_skip h (by decide) (fun n1 => ⟨fun _ => cs_skip h (by decide) (fun n2 => ⟨fun _ => ?_, fun z => Bool.noConfusion z⟩) (fun q2 m3 f3 s3 => ⟨fun z => Bool.noConfusion z, fun _ => cs_take s3 (by decide) (by decide) (fun n m7 e7 => ⟨⟨by decide, by decide⟩, fun _ => ?_, fun z => absurd (by decide) z⟩) (fun q m5 f5 s5 m7 e7 => ⟨⟨by omega, by omega⟩, fun z => absurd z (by omega), fun _ => ?_⟩)⟩), fun z => Bool.noConfusion z⟩) (fun q1 m1 f1 s1 => ⟨fun z => Bool.noConfusion z, fun _ => cs_take s1 (by decide) (by decide) (fun n m11 e11 => ⟨by rw [e11, zz_same]; exact ⟨by decide, by decide⟩, fun _ => ?_, fun z => absurd (by rw [e11, zz_same]; decide) z⟩) (fun q m9 f9 s9 m11 e11 => ⟨by rw [e11, zz_same]; exact ⟨by omega, by omega⟩, fun z => absurd z (by rw [e11, zz_same]; omega), fun _ => ?_⟩)⟩))
  · have e : rDiff L T p = (true, p, 0) := by unfold rDiff; rw [if_neg n1, if_neg n2]
    exact hQ m true (fun _ _ _ => rfl) (by rw [e]; exact h) (by rw [e]) (fun _ => by rw [e]; exact h8)
  · have e : rDiff L T p = (false, p + 1, 0) := by unfold rDiff; rw [if_neg n1, if_pos q2, if_neg n]
    exact hQ m7 false (fun c i hc => by rw [e7, zz_other (by omega)]; exact f3 c i (by omega)) (by rw [e]; exact s3.up (by decide) e7) (by rw [e]) (fun z => Bool.noConfusion z)
  · have e : rDiff L T p = (true, p + 2, -(T (p + 1) - 48)) := by unfold rDiff; rw [if_neg n1, if_pos q2, if_pos q]
    rw [show p + 1 + 1 = p + 2 by omega] at s5
    exact hQ m7 true (fun c i hc => by rw [e7, zz_other (by omega), f5 c i (by omega)]; exact f3 c i (by omega)) (by rw [e]; exact s5.up (by decide) e7) (by rw [e]) (fun _ => by rw [e, e7, zz_same])
  · have e : rDiff L T p = (false, p + 1, 0) := by unfold rDiff; rw [if_pos q1, if_neg n]
    exact hQ m11 false (fun c i hc => by rw [e11, zz_other (by omega)]; exact f1 c i (by omega)) (by rw [e]; exact s1.up (by decide) e11) (by rw [e]) (fun z => Bool.noConfusion z)
  · have e : rDiff L T p = (true, p + 2, T (p + 1) - 48) := by unfold rDiff; rw [if_pos q1, if_pos q]
    rw [show p + 1 + 1 = p + 2 by omega] at s9
    exact hQ m11 true (fun c i hc => by rw [e11, zz_other (by omega), f9 c i (by omega)]; exact f1 c i (by omega)) (by rw [e]; exact s9.up (by decide) e11) (by rw [e]) (fun _ => by rw [e, e11, zz_same])
theorem cs_readOfKind {a b : Int} {Q : vm_M → Bool → Prop} (h : PSr L T m p) (h4 : m 3 4 = a) (h5 : m 3 5 = b) (h8 : m 3 8 = 0) (hQ : ∀ m' ok, RD L T m m' (rKind L T a b p) ok → Q m' ok) : vm_cb G (d + 3) mX3_readOfKind [.inr (.inr 3)] m Q := by
  refine qX3_readOfKind (cs_skip (d := d + 1) h (by decide) (fun n1 => ⟨fun _ m3 e3 => ?_, fun z => Bool.noConfusion z⟩) (fun q1 m1 f1 s1 => ⟨fun z => Bool.noConfusion z, fun _ m16 e16 => ?_⟩))
  · have s3 := h.up (by decide) e3
    have p3 := PF.up (by decide) e3
    refine cs_skip (d := d + 1) s3 (by decide) (fun n => ⟨fun z => Bool.noConfusion z, fun _ => ?_⟩) (fun q2 m4 f4 s4 => ⟨fun _ => ?_, fun z => Bool.noConfusion z⟩)
    · have e : rKind L T a b p = (false, p, z6) := by unfold rKind; rw [if_neg n1, if_neg n]
      exact hQ m3 false ⟨p3, by rw [e]; exact s3, by rw [e], fun z => Bool.noConfusion z⟩
    · have p4 := p3.trans f4.pf
      refine cs_take s4 (by decide) (by decide) (fun n m8 e8 => ⟨by rw [e8, zz_same]; exact ⟨by decide, by decide⟩, fun z => absurd z (by rw [e8, zz_same]; decide), fun _ => ?_⟩) (fun q3 m6 f6 s6 m8 e8 => ⟨by rw [e8, zz_same]; exact ⟨by omega, by omega⟩, fun _ => ?_, fun z => absurd (by rw [e8, zz_same]; omega) z⟩)
      · have e : rKind L T a b p = (false, p + 1, z6) := by unfold rKind; rw [if_neg n1, if_pos q2, if_neg n]
        exact hQ m8 false ⟨p4.trans (PF.up (by decide) e8), by rw [e]; exact s4.up (by decide) e8, by rw [e], fun z => Bool.noConfusion z⟩
      · have s8 := s6.up (by decide) e8
        rw [show p + 1 + 1 = p + 2 by omega] at s8
        have p8 := (p4.trans f6.pf).trans (PF.up (by decide) e8)
        refine cs_take s8 (by decide) (by decide) (fun n m12 e12 => ⟨by rw [e12, zz_same]; exact ⟨by decide, by decide⟩, fun _ => ?_, fun z => absurd (by rw [e12, zz_same]; decide) z⟩) (fun q4 m10 f10 s10 m12 e12 => ⟨by rw [e12, zz_same]; exact ⟨by omega, by omega⟩, fun z => absurd z (by rw [e12, zz_same]; omega), fun _ => ?_⟩)
        · have e : rKind L T a b p = (false, p + 2, z6) := by unfold rKind; rw [if_neg n1, if_pos q2, if_pos q3, if_neg n]
          exact hQ m12 false ⟨p8.trans (PF.up (by decide) e12), by rw [e]; exact s8.up (by decide) e12, by rw [e], fun z => Bool.noConfusion z⟩
        · have s12 := s10.up (by decide) e12
          rw [show p + 2 + 1 = p + 3 by omega] at s12
          have p12 := (p8.trans f10.pf).trans (PF.up (by decide) e12)
          have g12 : ∀ j : Int, 3 ≤ j → j ≤ 8 → j ≠ 6 → j ≠ 7 → m12 3 j = m3 3 j := fun j j0 j1 j6 j7 => by rw [e12, zz_other (by omega), f10 3 j (by omega), e8, zz_other (by omega), f6 3 j (by omega), f4 3 j (by omega)]
          have e128 : m12 3 8 = 0 := by rw [g12 8 (by decide) (by decide) (by decide) (by decide), e3, zz_other (by simp)]; exact h8
          refine cs_readDifference (d := d) s12 e128 (fun m14 ok f14 s14 eo v14 => ?_)
          have fin : Q m14 ok := by
            have e : rKind L T a b p = ((rDiff L T (p + 3)).1, (rDiff L T (p + 3)).2.1, (6, a, b, T (p + 1) - 65, T (p + 2) - 120, (rDiff L T (p + 3)).2.2)) := by unfold rKind; rw [if_neg n1, if_pos q2, if_pos q3, if_pos q4]
            refine hQ m14 ok ⟨p12.trans (fun c i hc => f14 c i (by omega)), by rw [e]; exact s14, by rw [e]; exact eo, fun z => ?_⟩
            rw [e]
            refine tup3 ?_ ?_ ?_ ?_ ?_ (v14 z)
            · rw [f14 3 3 (by simp), g12 3 (by decide) (by decide) (by decide) (by decide), e3, zz_same]
            · rw [f14 3 4 (by simp), g12 4 (by decide) (by decide) (by decide) (by decide), e3, zz_other (by simp)]; exact h4
            · rw [f14 3 5 (by simp), g12 5 (by decide) (by decide) (by decide) (by decide), e3, zz_other (by simp)]; exact h5
            · rw [f14 3 6 (by simp), e12, zz_other (by simp), f10 3 6 (by simp), e8, zz_same]
            · rw [f14 3 7 (by simp), e12, zz_same]
          exact ⟨fun z => by rw [z] at fin; exact fin, fun z => by rw [z] at fin; exact fin⟩
  · have s16 := s1.up (by decide) e16
    have b1 := rNum_b L T (p + 1)
    have b2 := rEnd_b (L := L) (T := T) (p := (rNum L T (p + 1)).2) b1.1.2
    refine cs_takeNumber (d := d + 1) s16 (fun m17 f17 s17 m19 e19 => ?_)
    have e196 : m19 3 6 = (rNum L T (p + 1)).1 := by rw [e19, zz_same]
    rw [e196]
    refine cs_takeRangeEnd (d := d) (s17.up (by decide) e19) b1.1 (fun m20 f20 s20 m22 e22 => ?_)
    have e227 : m22 3 7 = (rEnd L T (rNum L T (p + 1)).1 (rNum L T (p + 1)).2).1 := by rw [e22, zz_same]
    have fin : Q m22 (decide (0 ≤ (rEnd L T (rNum L T (p + 1)).1 (rNum L T (p + 1)).2).1)) := by
      have e : rKind L T a b p = (decide (0 ≤ (rEnd L T (rNum L T (p + 1)).1 (rNum L T (p + 1)).2).1), (rEnd L T (rNum L T (p + 1)).1 (rNum L T (p + 1)).2).2, (0, a, b, (rNum L T (p + 1)).1, (rEnd L T (rNum L T (p + 1)).1 (rNum L T (p + 1)).2).1, 0)) := by unfold rKind; rw [if_pos q1]
      refine hQ m22 _ ⟨((f1.pf.trans (PF.up (by decide) e16)).trans (f17.pf.trans (PF.up (by decide) e19))).trans (f20.pf.trans (PF.up (by decide) e22)), by rw [e]; exact s20.up (by decide) e22, by rw [e], fun _ => ?_⟩
      rw [e]
      have g : ∀ j : Int, 3 ≤ j → j ≤ 8 → j ≠ 6 → j ≠ 7 → m22 3 j = m16 3 j := fun j j0 j1 j6 j7 => by rw [e22, zz_other (by omega), f20 3 j (by omega), e19, zz_other (by omega), f17 3 j (by omega)]
      refine tup3 ?_ ?_ ?_ ?_ e227 ?_
      · rw [g 3 (by decide) (by decide) (by decide) (by decide), e16, zz_same]
      · rw [g 4 (by decide) (by decide) (by decide) (by decide), e16, zz_other (by simp), f1 3 4 (by simp)]; exact h4
      · rw [g 5 (by decide) (by decide) (by decide) (by decide), e16, zz_other (by simp), f1 3 5 (by simp)]; exact h5
      · rw [e22, zz_other (by simp), f20 3 6 (by simp), e196]
      · rw [g 8 (by decide) (by decide) (by decide) (by decide), e16, zz_other (by simp), f1 3 8 (by simp)]; exact h8
    rw [e227]
    exact ⟨⟨by omega, by omega⟩, fun z => by rw [show decide (0 ≤ (rEnd L T (rNum L T (p + 1)).1 (rNum L T (p + 1)).2).1) = false from decide_eq_false (by omega)] at fin; exact fin, fun z => by rw [show decide (0 ≤ (rEnd L T (rNum L T (p + 1)).1 (rNum L T (p + 1)).2).1) = true from decide_eq_true (by omega)] at fin; exact fin⟩
theorem cs_readFact {Q : vm_M → Bool → Prop} (h : PSr L T m p) (hQ : ∀ m' ok, RD L T m m' (rdF L T p) ok → Q m' ok) : vm_cb G (d + 4) mX3_readFact [.inr (.inr 3)] m Q := by
  refine qX3_readFact (fun m2 e2 m3 e3 m4 e4 => ?_)
  have s4 := ((h.up (by decide) e2).up (by decide) e3).up (by decide) e4
  have p4 : PF m m4 := (PF.up (by decide) e2).trans ((PF.up (by decide) e3).trans (PF.up (by decide) e4))
  have v6 : m4 3 6 = 0 := by rw [e4, zz_other (by simp), e3, zz_other (by simp), e2, zz_same]
  have v7 : m4 3 7 = 0 := by rw [e4, zz_other (by simp), e3, zz_same]
  have v8 : m4 3 8 = 0 := by rw [e4, zz_same]
  have lift : ∀ (mx m' : vm_M) (R : rR) (ok : Bool), PF m mx → rdF L T p = R → RD L T mx m' R ok → Q m' ok := fun mx m' R ok pf e hr => hQ m' ok ⟨pf.trans hr.1, by rw [e]; exact hr.2.1, by rw [e]; exact hr.2.2.1, fun z => by rw [e]; exact hr.2.2.2 z⟩
  refine cs_skip (d := d + 2) s4 (by decide) (fun n1 => ⟨fun _ => ?_, fun z => Bool.noConfusion z⟩) (fun q1 m5 f5 s5 => ⟨fun z => Bool.noConfusion z, fun _ => ?_⟩)
  · refine cs_take s4 (by decide) (by decide) (fun n m9 e9 => ⟨by rw [e9, zz_same]; exact ⟨by decide, by decide⟩, fun z => absurd z (by rw [e9, zz_same]; decide), fun _ => ?_⟩) (fun q2 m7 f7 s7 m9 e9 => ⟨by rw [e9, zz_same]; exact ⟨by omega, by omega⟩, fun _ => ?_, fun z => absurd (by rw [e9, zz_same]; omega) z⟩)
    · have e : rdF L T p = (false, p, z6) := by unfold rdF; rw [if_neg n1, if_neg n]
      exact hQ m9 false ⟨p4.trans (PF.up (by decide) e9), by rw [e]; exact s4.up (by decide) e9, by rw [e], fun z => Bool.noConfusion z⟩
    · have s9 := s7.up (by decide) e9
      have p9 := (p4.trans f7.pf).trans (PF.up (by decide) e9)
      have g9 : ∀ j : Int, 3 ≤ j → j ≠ 4 → m9 3 j = m4 3 j := fun j j0 j4 => by rw [e9, zz_other (by omega), f7 3 j (by omega)]
      have w4 : m9 3 4 = T p - 65 := by rw [e9, zz_same]
      refine cs_take s9 (by decide) (by decide) (fun n m13 e13 => ⟨by rw [e13, zz_same]; exact ⟨by decide, by decide⟩, fun _ => ?_, fun z => absurd (by rw [e13, zz_same]; decide) z⟩) (fun q3 m11 f11 s11 m13 e13 => ⟨by rw [e13, zz_same]; exact ⟨by omega, by omega⟩, fun z => absurd z (by rw [e13, zz_same]; omega), fun _ => ?_⟩)
      · have s13 := s9.up (by decide) e13
        have p13 := p9.trans (PF.up (by decide) e13)
        have g13 : ∀ j : Int, j ≠ 5 → m13 3 j = m9 3 j := fun j j5 => by rw [e13, zz_other (by omega)]
        refine cs_skip (d := d + 2) s13 (by decide) (fun n4 => ⟨fun _ => ?_, fun z => Bool.noConfusion z⟩) (fun q4 m15 f15 s15 => ⟨fun z => Bool.noConfusion z, fun _ m19 e19 => ?_⟩)
        · refine cs_readOfThreeBags (d := d) (a := T p - 65) s13 (by rw [g13 4 (by decide)]; exact w4) (by rw [g13 7 (by decide), g9 7 (by decide) (by decide)]; exact v7) (by rw [g13 8 (by decide), g9 8 (by decide) (by decide)]; exact v8) (fun m' ok hr => lift m13 m' _ ok p13 ?_ hr)
          unfold rdF
          rw [if_neg n1, if_pos q2, if_neg n, if_neg n4]
        · have s19 := s15.up (by decide) e19
          have p19 := (p13.trans f15.pf).trans (PF.up (by decide) e19)
          rw [show p + 1 + 1 = p + 2 by omega] at s19
          refine cs_take s19 (by decide) (by decide) (fun n5 m22 e22 => ⟨by rw [e22, zz_same]; exact ⟨by decide, by decide⟩, fun _ => ?_, fun z => absurd (by rw [e22, zz_same]; decide) z⟩) (fun q5 m20 f20 s20 m22 e22 => ⟨by rw [e22, zz_same]; exact ⟨by omega, by omega⟩, fun z => absurd z (by rw [e22, zz_same]; omega), fun _ => ?_⟩)
          · have e : rdF L T p = (false, p + 2, z6) := by unfold rdF; rw [if_neg n1, if_pos q2, if_neg n, if_pos q4, if_neg n5]
            exact hQ m22 false ⟨p19.trans (PF.up (by decide) e22), by rw [e]; exact s19.up (by decide) e22, by rw [e], fun z => Bool.noConfusion z⟩
          · have e : rdF L T p = (true, p + 3, (5, T p - 65, T (p + 2) - 65, 0, 0, 0)) := by unfold rdF; rw [if_neg n1, if_pos q2, if_neg n, if_pos q4, if_pos q5]
            rw [show p + 2 + 1 = p + 3 by omega] at s20
            refine hQ m22 true ⟨(p19.trans f20.pf).trans (PF.up (by decide) e22), by rw [e]; exact s20.up (by decide) e22, by rw [e], fun _ => ?_⟩
            rw [e]
            have g : ∀ j : Int, 4 ≤ j → j ≤ 8 → j ≠ 5 → m22 3 j = m9 3 j := fun j j0 j1 j5 => by rw [e22, zz_other (by omega), f20 3 j (by omega), e19, zz_other (by omega), f15 3 j (by omega), g13 j j5]
            refine tup3 ?_ ?_ ?_ ?_ ?_ ?_
            · rw [e22, zz_other (by simp), f20 3 3 (by simp), e19, zz_same]
            · rw [g 4 (by decide) (by decide) (by decide)]; exact w4
            · rw [e22, zz_same]
            · rw [g 6 (by decide) (by decide) (by decide), g9 6 (by decide) (by decide)]; exact v6
            · rw [g 7 (by decide) (by decide) (by decide), g9 7 (by decide) (by decide)]; exact v7
            · rw [g 8 (by decide) (by decide) (by decide), g9 8 (by decide) (by decide)]; exact v8
      · have s13 := s11.up (by decide) e13
        have p13 := (p9.trans f11.pf).trans (PF.up (by decide) e13)
        have g13 : ∀ j : Int, 3 ≤ j → j ≠ 5 → m13 3 j = m9 3 j := fun j j0 j5 => by rw [e13, zz_other (by omega), f11 3 j (by omega)]
        rw [show p + 1 + 1 = p + 2 by omega] at s13
        refine cs_readOfKind (d := d) (a := T p - 65) (b := T (p + 1) - 120) s13 (by rw [g13 4 (by decide) (by decide)]; exact w4) (by rw [e13, zz_same]) (by rw [g13 8 (by decide) (by decide), g9 8 (by decide) (by decide)]; exact v8) (fun m' ok hr => lift m13 m' _ ok p13 ?_ hr)
        unfold rdF
        rw [if_neg n1, if_pos q2, if_pos q3]
  · refine cs_readSize (d := d) s5 (by rw [f5 3 7 (by simp)]; exact v7) (by rw [f5 3 8 (by simp)]; exact v8) (fun m' ok hr => lift m5 m' _ ok (p4.trans f5.pf) ?_ hr)
    unfold rdF
    rw [if_pos q1]
/-- the whole text: the fault, -6 if there is none, and then its facts -/
def prL (L : Int) (T : Int → Int) : Nat → Int → Int × List fc_T
  | 0, p => (p, [])
  | n + 1, p => if (rdF L T p).1 = true then (if (rdF L T p).2.1 = L then (-6, [(rdF L T p).2.2]) else if okc L T 59 59 (rdF L T p).2.1 then ((prL L T n ((rdF L T p).2.1 + 1)).1, (rdF L T p).2.2 :: (prL L T n ((rdF L T p).2.1 + 1)).2) else ((rdF L T p).2.1, [])) else ((rdF L T p).2.1, [])
theorem prL_s (L : Int) (T : Int → Int) (n : Nat) (p : Int) : prL L T (n + 1) p = if (rdF L T p).1 = true then (if (rdF L T p).2.1 = L then (-6, [(rdF L T p).2.2]) else if okc L T 59 59 (rdF L T p).2.1 then ((prL L T n ((rdF L T p).2.1 + 1)).1, (rdF L T p).2.2 :: (prL L T n ((rdF L T p).2.1 + 1)).2) else ((rdF L T p).2.1, [])) else ((rdF L T p).2.1, []) := rfl
theorem cs_firstFault_7 {Q : vm_M → Int → Prop} {m0 : vm_M} {R : Int} (hQ : ∀ m' r, PF m0 m' → r = R → Q m' r) :
    ∀ (n : Nat) (i p : Int) (m : vm_M), i + (n : Int) = 80 → 0 ≤ i → PF m0 m → PSr L T m p → (prL L T n p).1 = R → vm_ex G (d + 5) mX3_firstFault 7 [some (.inr (.inr 3)), some (.inl i)] [] m (vm_qi Q) := by
  intro n
  induction n with
  | zero =>
    intro i p m hi i0 f s e
    refine qX3_firstFault_7 ⟨⟨by omega, by omega⟩, fun _ => hQ m _ f ?_, fun z => absurd (by omega) z⟩
    rw [← e, s.2.2.1]
    rfl
  | succ n ih =>
    intro i p m hi i0 f s e
    refine qX3_firstFault_7 ⟨⟨by omega, by omega⟩, fun z => absurd z (by omega), fun _ => cs_readFact (d := d) s (fun m2 ok hr => ⟨fun zo => ?_, fun zo => ?_⟩)⟩
    · obtain ⟨pf, s2, eo, _⟩ := hr
      rw [zo] at eo
      obtain ⟨⟨l1, l2⟩, t2, w2, b2⟩ := id s2
      rw [w2, l1]
      rw [prL_s] at e
      rw [if_pos eo.symm] at e
      refine ⟨⟨by omega, by omega⟩, ⟨by omega, by omega⟩, fun hne => ?_, fun he => ?_⟩
      · rw [if_neg hne] at e
        refine cs_skip (d := d + 3) s2 (by decide) (fun n59 => ⟨fun z => Bool.noConfusion z, fun _ => hQ m2 _ (f.trans pf) ?_⟩) (fun q m6 f6 s6 => ⟨fun _ => ih (i + 1) _ m6 (by omega) (by omega) ((f.trans pf).trans f6.pf) s6 ?_, fun z => Bool.noConfusion z⟩)
        · rw [if_neg n59] at e
          rw [w2, ← e]
        · rw [if_pos q] at e
          exact e
      · rw [if_pos he] at e
        exact hQ m2 _ (f.trans pf) e
    · obtain ⟨pf, s2, eo, _⟩ := hr
      rw [zo] at eo
      rw [prL_s] at e
      rw [if_neg (by rw [← eo]; decide)] at e
      refine hQ m2 _ (f.trans pf) ?_
      rw [s2.2.2.1, ← e]
theorem KC.ps (h : KC m S) (hv : sV S) (e : m1 = vm_up m 3 2 0) : PSr (sL S) (sT S) m1 0 := by
  have f : ∀ (c : Nat) (i : Int), ¬ (c = 3 ∧ i = 2) → m1 c i = m c i := fun c i q => by rw [e, zz_other q]
  exact ⟨⟨by rw [f 3 1 (by simp)]; exact h.2.2.2.1, hv.2.2.2.1⟩, fun i i0 i1 => by rw [f 10 i (by simp)]; exact ⟨h.2.2.2.2 i i0 i1, hv.2.2.2.2 i i0 i1⟩, by rw [e, zz_same], by decide, hv.2.2.2.1.1⟩
theorem KC.pf (h : KC m S) (f : PF m m1) : KC m1 S := by
  obtain ⟨⟨h1, h2⟩, ⟨a1, a2, a3⟩, ⟨b1, b2, b3⟩, ⟨c1, c2⟩⟩ := h
  have fc : ∀ c : Nat, c ≠ 3 → m1 c = m c := fun c q => funext fun i => f c i (fun z => q z.1)
  have ek : kst m1 = kst m := by
    funext x
    unfold kst
    rw [fc 1 (by decide), fc 9 (by decide)]
  exact ⟨⟨by unfold KCc; rw [ek]; exact h1, by rw [fc 6 (by decide)]; exact h2⟩, ⟨by rw [fc 4 (by decide)]; exact a1, by rw [fc 0 (by decide)]; exact a2, by rw [fc 11 (by decide)]; exact a3⟩, ⟨by rw [fc 5 (by decide)]; exact b1, by rw [fc 0 (by decide)]; exact b2, by rw [fc 12 (by decide)]; exact b3⟩, ⟨by rw [f 3 1 (by simp)]; exact c1, fun i i0 i1 => by rw [fc 10 (by decide)]; exact c2 i i0 i1⟩⟩
theorem PF.cfr (f : PF m m1) : CFr m m1 := fun c i hc => f c i (by omega)
def o_fault (S S' : aS) (r : Int) : Prop := S' = S ∧ r = (prL (sL S) (sT S) 80 0).1
theorem cs_firstFault {Q : vm_M → Int → Prop} (hv : sV S) (h : KC m S) (hQ : ∀ m' r, CFr m m' → KC m' S → r = (prL (sL S) (sT S) 80 0).1 → Q m' r) : vm_ci G (d + 5) mX3_firstFault [.inr (.inr 3)] m Q := by
  refine qX3_firstFault (fun m1 e1 => ?_)
  have p1 : PF m m1 := fun c i hc => by rw [e1, zz_other (by omega)]
  exact cs_firstFault_7 (m0 := m) (fun m' r f er => hQ m' r f.cfr (h.pf f) er) 80 0 0 m1 (by decide) (by decide) p1 (h.ps hv e1) rfl
theorem cs_fault {Q : vm_M → Int → Prop} (hv : sV S) (h : KC m S) (hQ : ∀ m' S' r, CFr m m' → KC m' S' → o_fault S S' r → Q m' r) : vm_ci G (d + 6) mX7_fault [.inr (.inr 0)] m Q :=
  qX7_fault (cs_firstFault (d := d) hv h (fun m' r f k e => hQ m' S r f k ⟨rfl, e⟩))
end CR2
