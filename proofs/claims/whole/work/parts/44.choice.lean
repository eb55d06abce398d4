/-! THE CLASS: a row is narrowed by a choice -/
section CHO
variable {G : vm_G} {d : Nat} {m : vm_M} {Q : vm_M → Bool → Prop}
def PS (L i : Int) (m m' : vm_M) (r : Bool) : Prop :=
  SH L m m' ∧ (r = false → ∀ h, box L m h → ¬ ru_holds m i h) ∧
  (r = true → (∀ h, box L m h → ru_holds m i h → box L m' h) ∧
    (∀ u : Nat, u < 16 → (m 18 i).toNat.testBit u = false → m' 13 (L * 16 + (u : Int)) = m 13 (L * 16 + (u : Int)) ∧ m' 14 (L * 16 + (u : Int)) = m 14 (L * 16 + (u : Int))))
theorem kp_ps {L i v f l g : Int} {m' : vm_M} {r : Bool} (hk : KP L v f l g m m' r) (hN : NE L m) (hv : 0 ≤ v ∧ v < 16) (hbit : (m 18 i).toNat.testBit v.toNat = true) (hs : ∀ h, box L m h → ru_holds m i h → l ≤ f * h v ∧ f * h v ≤ g) : PS L i m m' r := by
  obtain ⟨kf, kt⟩ := hk
  cases r with
  | false =>
    obtain ⟨e, no⟩ := kf rfl
    subst e
    exact ⟨SH.refl hN, fun _ h hb hh => no (h v) (hb v hv.1 hv.2).1 (hb v hv.1 hv.2).2 (hs h hb hh), fun h => by simp at h⟩
  | true =>
    obtain ⟨s, oth, snd, ends⟩ := kt rfl
    refine ⟨s, fun h => by simp at h, fun _ => ⟨fun h hb hh => ?_, fun u u1 hu => oth u (by omega) (by omega) (fun e => ?_)⟩⟩
    · intro u u0 u1
      by_cases e : u = v
      · subst e; exact snd (h u) (hb u u0 u1).1 (hb u u0 u1).2 (hs h hb hh).1 (hs h hb hh).2
      · rw [(oth u u0 u1 e).1, (oth u u0 u1 e).2]; exact hb u u0 u1
    · rw [← e, Int.toNat_natCast, hu] at hbit
      simp at hbit
theorem PS.trans {L i n : Int} {a b c : vm_M} {r : Bool} (h0 : 0 ≤ i ∧ i < n) (hw : ru_wf a i) (p : PS L i a b true) (q : PS L i b c r) : PS L i a c r := by
  obtain ⟨s1, _, p3⟩ := p
  obtain ⟨s2, q2, q3⟩ := q
  obtain ⟨p4, p5⟩ := p3 rfl
  have hh := (ru_wf_same (s1.same n) h0.1 h0.2 hw).2
  have hm : b 18 i = a 18 i := s1.cell (by decide) i
  refine ⟨s1.trans s2, fun e h hb ht => q2 e h (p4 h hb ht) ((hh h).mpr ht), fun e => ⟨fun h hb ht => (q3 e).1 h (p4 h hb ht) ((hh h).mpr ht), fun u u1 hu => ?_⟩⟩
  have := p5 u u1 hu
  have := (q3 e).2 u u1 (by rw [hm]; exact hu)
  omega
theorem PS.tg {L i : Int} {m' : vm_M} {r : Bool} (p : PS L i m m' r) (h : r = true → ∀ h, box L m' h → (∀ u : Nat, u < 16 → (m 18 i).toNat.testBit u = true → m' 13 (L * 16 + (u : Int)) = m' 14 (L * 16 + (u : Int))) → ru_holds m i h) : TG L i m m' r :=
  ⟨p.1, p.2.1, fun e => ⟨(p.2.2 e).1, (p.2.2 e).2, h e⟩⟩
theorem kp_one {L v l g : Int} {m' : vm_M} (hk : KP L v 1 l g m m' true) : SH L m m' ∧ (∀ u : Int, 0 ≤ u → u < 16 → u ≠ v → m' 13 (L * 16 + u) = m 13 (L * 16 + u) ∧ m' 14 (L * 16 + u) = m 14 (L * 16 + u)) ∧ (∀ x, m 13 (L * 16 + v) ≤ x → x ≤ m 14 (L * 16 + v) → l ≤ x → x ≤ g → m' 13 (L * 16 + v) ≤ x ∧ x ≤ m' 14 (L * 16 + v)) ∧ (l ≤ m' 13 (L * 16 + v) ∧ m' 13 (L * 16 + v) ≤ g) := by
  obtain ⟨s, a, b, c⟩ := hk.2 rfl
  rw [Int.one_mul] at c
  exact ⟨s, a, fun x x0 x1 p q => b x x0 x1 (by omega) (by omega), c⟩
/-- the three steps, if the first is taken: the greatest of two -/
theorem ch_top {L i a b c : Int} (hi : 0 ≤ i ∧ i < 128) (hN : NE L m) (hw : ru_wf m i) (h1 : m 15 i = 1) (ea : m 20 (i * 4) = a) (eb : m 20 (i * 4 + 1) = b) (ec : m 20 (i * 4 + 2) = c) {m1 m2 m3 : vm_M} {r : Bool} {l2 l3 : Int}
    (k1 : PS L i m m1 true) (k2 : KP L b 1 l2 (m1 14 (L * 16 + a)) m1 m2 true) (k3 : KP L c 1 l3 (m2 14 (L * 16 + a)) m2 m3 r)
    (p2 : PS L i m m2 true) (q3 : (m2 14 (L * 16 + b) < m2 13 (L * 16 + a) ∧ l3 = m2 13 (L * 16 + a)) ∨ (m2 13 (L * 16 + a) ≤ m2 14 (L * 16 + b) ∧ l3 = 0)) : TG L i m m3 r := by
  obtain ⟨_, _, wt, _, _, _, w3⟩ := id hw
  have w3 := w3 (by omega)
  obtain ⟨_, t2, _, t4⟩ := id wt
  have ta := (t2 0 (by decide) (by omega)).1
  rw [Int.add_zero, ea] at ta
  have tb := (t2 1 (by decide) (by omega)).1
  rw [eb] at tb
  have tc := (t2 2 (by decide) (by omega)).1
  rw [ec] at tc
  have N2 := p2.1.ne hN
  have hh := (ru_wf_same (p2.1.same 128) hi.1 hi.2 hw).2
  have hm : m2 18 i = m 18 i := p2.1.cell (by decide) i
  have bc : (m 18 i).toNat.testBit c.toNat = true := (t4 _).mpr ⟨2, by decide, by omega, by omega⟩
  have bb : (m 18 i).toNat.testBit b.toNat = true := (t4 _).mpr ⟨1, by decide, by omega, by omega⟩
  have ba : (m 18 i).toNat.testBit a.toNat = true := (t4 _).mpr ⟨0, by decide, by omega, by rw [Int.add_zero]; omega⟩
  have hd : ∀ h, ru_holds m i h ↔ h a = max (h b) (h c) := fun h => by
    unfold ru_holds
    rw [h1, ea, eb, ec, if_neg (by decide), if_pos rfl]
  have p3 : PS L i m2 m3 r := kp_ps k3 N2 tc (by rw [hm]; exact bc) (fun h hb ht => by
    have := (hd h).mp ((hh h).mp ht)
    have xa := hb a ta.1 ta.2
    have xb := hb b tb.1 tb.2
    have xc := hb c tc.1 tc.2
    have := (N2.1 c tc.1 tc.2)
    omega)
  refine (p2.trans (n := 128) hi hw p3).tg (fun er h hb hs => ?_)
  subst er
  rw [hd]
  obtain ⟨s2, o2, n2, e2⟩ := kp_one k2
  obtain ⟨s3, o3, n3, e3⟩ := kp_one k3
  have sa := hs a.toNat (by omega) ba
  have sb := hs b.toNat (by omega) bb
  have sc := hs c.toNat (by omega) bc
  rw [Int.toNat_of_nonneg ta.1] at sa
  rw [Int.toNat_of_nonneg tb.1] at sb
  rw [Int.toNat_of_nonneg tc.1] at sc
  have xa := hb a ta.1 ta.2
  have xb := hb b tb.1 tb.2
  have xc := hb c tc.1 tc.2
  have ma2 := s2.2.1 a ta.1 ta.2
  have mb2 := s2.2.1 b tb.1 tb.2
  have mc2 := s2.2.1 c tc.1 tc.2
  have ma3 := s3.2.1 a ta.1 ta.2
  have mb3 := s3.2.1 b tb.1 tb.2
  have mc3 := s3.2.1 c tc.1 tc.2
  by_cases eab : a = b
  · by_cases ebc : b = c
    · subst eab; subst ebc; omega
    · have oa := o3 a ta.1 ta.2 (by omega)
      subst eab
      omega
  · by_cases ebc : b = c
    · have oa := o3 a ta.1 ta.2 (by omega)
      have n := n3 (h a)
      subst ebc
      omega
    · by_cases eac : a = c
      · have ob := o3 b tb.1 tb.2 ebc
        have oa := o2 a ta.1 ta.2 eab
        have n := n3 (m2 14 (L * 16 + a))
        have n' := n3 (m2 13 (L * 16 + a))
        have := N2.1 a ta.1 ta.2
        subst eac
        omega
      · have ob := o3 b tb.1 tb.2 ebc
        have oa := o2 a ta.1 ta.2 eab
        have oa3 := o3 a ta.1 ta.2 eac
        omega
/-- the three steps, if the first is taken: the least of two -/
theorem ch_bot {L i a b c : Int} (hi : 0 ≤ i ∧ i < 128) (hN : NE L m) (hw : ru_wf m i) (h1 : m 15 i = 2) (ea : m 20 (i * 4) = a) (eb : m 20 (i * 4 + 1) = b) (ec : m 20 (i * 4 + 2) = c) {m1 m2 m3 : vm_M} {r : Bool} {l2 l3 : Int}
    (k1 : PS L i m m1 true) (k2 : KP L b 1 (m1 13 (L * 16 + a)) l2 m1 m2 true) (k3 : KP L c 1 (m2 13 (L * 16 + a)) l3 m2 m3 r)
    (p2 : PS L i m m2 true) (q3 : (m2 14 (L * 16 + a) < m2 13 (L * 16 + b) ∧ l3 = m2 14 (L * 16 + a)) ∨ (m2 13 (L * 16 + b) ≤ m2 14 (L * 16 + a) ∧ l3 = 18)) : TG L i m m3 r := by
  obtain ⟨_, _, wt, _, _, _, w3⟩ := id hw
  have w3 := w3 (by omega)
  obtain ⟨_, t2, _, t4⟩ := id wt
  have ta := (t2 0 (by decide) (by omega)).1
  rw [Int.add_zero, ea] at ta
  have tb := (t2 1 (by decide) (by omega)).1
  rw [eb] at tb
  have tc := (t2 2 (by decide) (by omega)).1
  rw [ec] at tc
  have N2 := p2.1.ne hN
  have hh := (ru_wf_same (p2.1.same 128) hi.1 hi.2 hw).2
  have hm : m2 18 i = m 18 i := p2.1.cell (by decide) i
  have bc : (m 18 i).toNat.testBit c.toNat = true := (t4 _).mpr ⟨2, by decide, by omega, by omega⟩
  have bb : (m 18 i).toNat.testBit b.toNat = true := (t4 _).mpr ⟨1, by decide, by omega, by omega⟩
  have ba : (m 18 i).toNat.testBit a.toNat = true := (t4 _).mpr ⟨0, by decide, by omega, by rw [Int.add_zero]; omega⟩
  have hd : ∀ h, ru_holds m i h ↔ h a = min (h b) (h c) := fun h => by
    unfold ru_holds
    rw [h1, ea, eb, ec, if_neg (by decide), if_neg (by decide)]
  have p3 : PS L i m2 m3 r := kp_ps k3 N2 tc (by rw [hm]; exact bc) (fun h hb ht => by
    have := (hd h).mp ((hh h).mp ht)
    have xa := hb a ta.1 ta.2
    have xb := hb b tb.1 tb.2
    have xc := hb c tc.1 tc.2
    have := (N2.1 c tc.1 tc.2)
    omega)
  refine (p2.trans (n := 128) hi hw p3).tg (fun er h hb hs => ?_)
  subst er
  rw [hd]
  obtain ⟨s2, o2, n2, e2⟩ := kp_one k2
  obtain ⟨s3, o3, n3, e3⟩ := kp_one k3
  have sa := hs a.toNat (by omega) ba
  have sb := hs b.toNat (by omega) bb
  have sc := hs c.toNat (by omega) bc
  rw [Int.toNat_of_nonneg ta.1] at sa
  rw [Int.toNat_of_nonneg tb.1] at sb
  rw [Int.toNat_of_nonneg tc.1] at sc
  have xa := hb a ta.1 ta.2
  have xb := hb b tb.1 tb.2
  have xc := hb c tc.1 tc.2
  have ma2 := s2.2.1 a ta.1 ta.2
  have mb2 := s2.2.1 b tb.1 tb.2
  have mc2 := s2.2.1 c tc.1 tc.2
  have ma3 := s3.2.1 a ta.1 ta.2
  have mb3 := s3.2.1 b tb.1 tb.2
  have mc3 := s3.2.1 c tc.1 tc.2
  by_cases eab : a = b
  · by_cases ebc : b = c
    · subst eab; subst ebc; omega
    · have oa := o3 a ta.1 ta.2 (by omega)
      subst eab
      omega
  · by_cases ebc : b = c
    · have oa := o3 a ta.1 ta.2 (by omega)
      have n := n3 (h a)
      subst ebc
      omega
    · by_cases eac : a = c
      · have ob := o3 b tb.1 tb.2 ebc
        have oa := o2 a ta.1 ta.2 eab
        have n := n3 (m2 14 (L * 16 + a))
        have n' := n3 (m2 13 (L * 16 + a))
        have := N2.1 a ta.1 ta.2
        subst eac
        omega
      · have ob := o3 b tb.1 tb.2 ebc
        have oa := o2 a ta.1 ta.2 eab
        have oa3 := o3 a ta.1 ta.2 eac
        omega
end CHO
