/-! TELL: what it does, and the class -/
noncomputable def tl : aS → List fc_T → aS × Int
  | S, [] => (S, 0)
  | S, t :: l => @ite (aS × Int) (fc_v t ∧ sC S 1 ≠ 10) (Classical.propDecidable _) ((tl (setC S (addC (sC S) t)) l).1, (tl (setC S (addC (sC S) t)) l).2 + 1) (S, 0)
theorem tl_yes {S : aS} {t : fc_T} {l : List fc_T} (h : fc_v t ∧ sC S 1 ≠ 10) : tl S (t :: l) = ((tl (setC S (addC (sC S) t)) l).1, (tl (setC S (addC (sC S) t)) l).2 + 1) := by simp only [tl]; rw [if_pos h]
theorem tl_no {S : aS} {t : fc_T} {l : List fc_T} (h : ¬ (fc_v t ∧ sC S 1 ≠ 10)) : tl S (t :: l) = (S, 0) := by simp only [tl]; rw [if_neg h]
theorem tl_v : ∀ (l : List fc_T) (S : aS), sV S → sV (tl S l).1
  | [], S, h => h
  | t :: l, S, h => by
    by_cases q : fc_v t ∧ sC S 1 ≠ 10
    · rw [tl_yes q]
      exact tl_v l _ (setC_v h (addC_v h.1 q.1 q.2))
    · rw [tl_no q]
      exact h
theorem tl_p : ∀ (l : List fc_T) (S : aS), (tl S l).1.2 = S.2
  | [], S => rfl
  | t :: l, S => by
    by_cases q : fc_v t ∧ sC S 1 ≠ 10
    · rw [tl_yes q]
      exact tl_p l _
    · rw [tl_no q]
theorem tl_n : ∀ (l : List fc_T) (S : aS), 0 ≤ (tl S l).2 ∧ (tl S l).2 ≤ (l.length : Int)
  | [], S => by simp [tl]
  | t :: l, S => by
    by_cases q : fc_v t ∧ sC S 1 ≠ 10
    · rw [tl_yes q]
      have := tl_n l (setC S (addC (sC S) t))
      simp only [List.length_cons]
      omega
    · rw [tl_no q]
      simp only [List.length_cons]
      omega
def o_tell (S S' : aS) (r : Int) : Prop := ((prL (sL S) (sT S) 80 0).1 ≠ -6 ∧ S' = S ∧ r = -3) ∨ ((prL (sL S) (sT S) 80 0).1 = -6 ∧ S' = setP (tl (recS S) (prL (sL S) (sT S) 80 0).2).1 0 (sT S) ∧ r = (tl (recS S) (prL (sL S) (sT S) 80 0).2).2)
theorem o_tell_v {S S' : aS} {r : Int} (h : sV S) (o : o_tell S S' r) : sV S' := by
  rcases o with ⟨_, rfl, _⟩ | ⟨_, rfl, _⟩
  · exact h
  · have q := tl_v (prL (sL S) (sT S) 80 0).2 (recS S) (recS_v h)
    exact ⟨q.1, q.2.1, q.2.2.1, ⟨by show (0:Int) ≤ 0; decide, by show (0:Int) ≤ 80; decide⟩, fun i i0 i1 => absurd i1 (by show ¬ i < 0; omega)⟩
theorem prL_b (L : Int) (T : Int → Int) : ∀ (n : Nat) (p : Int), 0 ≤ p → p ≤ L → (prL L T n p).1 = -6 ∨ (0 ≤ (prL L T n p).1 ∧ (prL L T n p).1 ≤ L)
  | 0, p, p0, p1 => Or.inr ⟨p0, p1⟩
  | n + 1, p, p0, p1 => by
    have b := rdF_b L T p
    have b2 := b.2.2 p1
    rw [prL_s]
    by_cases h1 : (rdF L T p).1 = true
    · rw [if_pos h1]
      by_cases h2 : (rdF L T p).2.1 = L
      · rw [if_pos h2]; exact Or.inl rfl
      · rw [if_neg h2]
        by_cases h3 : okc L T 59 59 (rdF L T p).2.1
        · rw [if_pos h3]
          exact prL_b L T n _ (by omega) (by omega)
        · rw [if_neg h3]
          exact Or.inr ⟨by show 0 ≤ (rdF L T p).2.1; omega, b2⟩
    · rw [if_neg h1]
      exact Or.inr ⟨by show 0 ≤ (rdF L T p).2.1; omega, b2⟩
section CTL
variable {G : vm_G} {d : Nat} {m m1 m2 m3 : vm_M} {L : Int} {T : Int → Int} {p : Int} {S : aS}
theorem PSr.same (h : PSr L T m p) (h3 : m1 3 = m 3) (h10 : m1 10 = m 10) : PSr L T m1 p := by
  unfold PSr
  rw [h3, h10]
  exact h
theorem cs_tellAll_9 {Q : vm_M → Int → Prop} {m0 : vm_M} :
    ∀ (n : Nat) (i p told : Int) (S : aS) (m : vm_M), i + (n : Int) = 80 → 0 ≤ i → CFr m0 m → sV S → KC m S → PSr L T m p → (prL L T n p).1 = -6 → (∀ m', CFr m0 m' → KC m' (tl S (prL L T n p).2).1 → Q m' (told + (tl S (prL L T n p).2).2)) →
    vm_ex G (d + 5) mX3_tellAll 9 [some (.inr (.inr 3)), some (.inr (.inr 1)), some (.inl told), some (.inl i)] [] m (vm_qi Q) := by
  intro n
  induction n with
  | zero =>
    intro i p told S m hi i0 f hv k s e hQ
    have : p = -6 := e
    have := s.2.2.2
    omega
  | succ n ih =>
    intro i p told S m hi i0 f hv k s e hQ
    refine qX3_tellAll_9 ⟨⟨by omega, by omega⟩, fun z => absurd z (by omega), fun _ => cs_readFact (d := d) s (fun m2 ok hr => ?_)⟩
    obtain ⟨pf, s2, eo, et⟩ := hr
    rw [prL_s] at e hQ
    by_cases hok : (rdF L T p).1 = true
    · rw [if_pos hok] at e hQ
      rw [hok] at eo
      subst eo
      have et := et rfl
      refine ⟨fun z => Bool.noConfusion z, fun _ => ?_⟩
      have k2 := k.pf pf
      have f2 : CFr m0 m2 := f.trans pf.cfr
      have sm := (rdF_b L T p).1
      have e6 : rf_tup (m2 3) 3 = (m2 3 3, m2 3 4, m2 3 5, m2 3 6, m2 3 7, m2 3 8) := rfl
      rw [e6] at et
      rw [← et] at sm
      obtain ⟨q1, q2, q3, q4, q5, q6⟩ : (-100 ≤ m2 3 3 ∧ m2 3 3 ≤ 100) ∧ (-100 ≤ m2 3 4 ∧ m2 3 4 ≤ 100) ∧ (-100 ≤ m2 3 5 ∧ m2 3 5 ≤ 100) ∧ (-100 ≤ m2 3 6 ∧ m2 3 6 ≤ 100) ∧ (-100 ≤ m2 3 7 ∧ m2 3 7 ≤ 100) ∧ (-100 ≤ m2 3 8 ∧ m2 3 8 ≤ 100) := sm
      have kk := k2.k hv
      -- what the text's list is
      have hlist : ∃ l, (if (rdF L T p).2.1 = L then (-6, [(rdF L T p).2.2]) else if okc L T 59 59 (rdF L T p).2.1 then ((prL L T n ((rdF L T p).2.1 + 1)).1, (rdF L T p).2.2 :: (prL L T n ((rdF L T p).2.1 + 1)).2) else ((rdF L T p).2.1, [])).2 = (rdF L T p).2.2 :: l := by
        by_cases w : (rdF L T p).2.1 = L
        · rw [if_pos w]; exact ⟨[], rfl⟩
        · rw [if_neg w] at e ⊢
          by_cases w2 : okc L T 59 59 (rdF L T p).2.1
          · rw [if_pos w2]; exact ⟨_, rfl⟩
          · rw [if_neg w2] at e
            have : (rdF L T p).2.1 = -6 := e
            have := s2.2.2.2
            omega
      refine cs_ask (d := d + 1) ⟨by omega, by omega⟩ ⟨by omega, by omega⟩ ⟨by omega, by omega⟩ ⟨by omega, by omega⟩ ⟨by omega, by omega⟩ ⟨by omega, by omega⟩ (fun nv => ⟨fun _ => ?_, fun z => Bool.noConfusion z⟩) (fun m4 hv4 a4 t4 => ⟨fun z => Bool.noConfusion z, fun _ => ?_⟩)
      · obtain ⟨l, hl⟩ := hlist
        rw [hl, tl_no (by rw [← et]; exact fun z => nv z.1)] at hQ
        have := hQ m2 f2 k2
        simpa using this
      · have c4 := a4.cq9 k2.1.2
        have k4 := c4.kc hv k2
        have f4 : CFr m0 m4 := f2.trans c4.cfr
        have e41 : m4 1 1 = m2 1 1 := a4 1 1 (by simp)
        refine qX0_isFull ⟨⟨by omega, by omega⟩, fun z => ⟨fun _ => ?_, fun z => Bool.noConfusion z⟩, fun z => ⟨fun z => Bool.noConfusion z, fun _ => ?_⟩⟩
        · have yes : fc_v (rdF L T p).2.2 ∧ sC S 1 ≠ 10 := ⟨by rw [← et]; exact hv4, by omega⟩
          refine cs_keepAsked (d := d + 3) (t := (rdF L T p).2.2) hv k4 (by rw [t4]; exact et) (by omega) (fun m8 f8 g8 k8 => ?_)
          have s8 : PSr L T m8 (rdF L T p).2.1 := (s2.same (funext fun i => a4 3 i (by simp)) (funext fun i => a4 10 i (by simp))).same (funext fun i => g8 3 i (by simp) (by decide)) (funext fun i => g8 10 i (by simp) (by decide))
          have f8' : CFr m0 m8 := f4.trans f8
          have v8 := setC_v hv (addC_v hv.1 yes.1 yes.2)
          refine cs_skip (d := d + 3) s8 (by decide) (fun n59 => ⟨fun z => Bool.noConfusion z, fun _ => ?_⟩) (fun q m10 f10 s10 => ⟨fun _ => ?_, fun z => Bool.noConfusion z⟩)
          · have w : (rdF L T p).2.1 = L := by
              by_cases w : (rdF L T p).2.1 = L
              · exact w
              · rw [if_neg w, if_neg n59] at e
                have : (rdF L T p).2.1 = -6 := e
                have := s2.2.2.2
                omega
            rw [if_pos w] at hQ
            have hQ' := hQ
            rw [tl_yes yes] at hQ'
            have := hQ' m8 f8' k8
            simpa [tl] using this
          · have w : ¬ (rdF L T p).2.1 = L := by omega
            rw [if_neg w, if_pos q] at e hQ
            refine ih (i + 1) _ (told + 1) _ m10 (by omega) (by omega) (f8'.trans f10.pf.cfr) v8 (k8.pf f10.pf) s10 e (fun m' f' k' => ?_)
            have hQ' := hQ
            rw [tl_yes yes] at hQ'
            have := hQ' m' f' k'
            rw [show told + 1 + (tl (setC S (addC (sC S) (rdF L T p).2.2)) (prL L T n ((rdF L T p).2.1 + 1)).2).2 = told + ((tl (setC S (addC (sC S) (rdF L T p).2.2)) (prL L T n ((rdF L T p).2.1 + 1)).2).2 + 1) by omega]
            exact this
        · obtain ⟨l, hl⟩ := hlist
          rw [hl, tl_no (by omega)] at hQ
          have := hQ m4 f4 k4
          simpa using this
    · rw [if_neg hok] at e
      have : (rdF L T p).2.1 = -6 := e
      have := s2.2.2.2
      omega
theorem cs_tell {Q : vm_M → Int → Prop} (hv : sV S) (h : KC m S) (hQ : ∀ m' S' r, CFr m m' → KC m' S' → o_tell S S' r → Q m' r) : vm_ci G (d + 6) mX7_tell [.inr (.inr 0)] m Q := by
  refine qX7_tell (cs_firstFault (d := d) hv h (fun m1 r f1 k1 er => ?_))
  have hR : vm_R r := by
    rw [er]
    have := prL_b (sL S) (sT S) 80 0 (by decide) hv.2.2.2.1.1
    have := hv.2.2.2.1
    exact ⟨by omega, by omega⟩
  refine ⟨hR, fun z => ?_, fun z => hQ m1 S _ f1 k1 (Or.inl ⟨by rw [← er]; exact z, rfl, rfl⟩)⟩
  refine cs_record (d := d + 2) hv k1 (fun m4 f4 k4 => qX3_tellAll (fun m5 e5 => ?_))
  have p5 : PF m4 m5 := fun c i hc => by rw [e5, zz_other (by omega)]
  have f14 : CFr m m4 := f1.trans (fun c i hc => f4 c i (by omega) (by omega))
  have v4 := recS_v hv
  have s5 := k4.ps v4 e5
  refine cs_tellAll_9 (d := d) (m0 := m) 80 0 0 0 (recS S) m5 (by decide) (by decide) (f14.trans p5.cfr) v4 (k4.pf p5) s5 (by rw [← z]; exact er.symm) (fun m6 f6 k6 => ?_)
  have eT : sT (tl (recS S) (prL (sL S) (sT S) 80 0).2).1 = sT S := by
    have := tl_p (prL (sL S) (sT S) 80 0).2 (recS S)
    show (tl (recS S) (prL (sL S) (sT S) 80 0).2).1.2.2.2.2 = _
    rw [this]
    rfl
  refine cs_clear k6 (fun m8 f8 k8 => ?_)
  rw [Int.zero_add]
  refine hQ m8 _ _ (f6.trans f8) k8 (Or.inr ⟨by rw [← er]; exact z, ?_, rfl⟩)
  rw [show sT (tl (recS S) (prL (sL (recS S)) (sT (recS S)) 80 0).2).1 = sT S from eT]
  rfl
end CTL
