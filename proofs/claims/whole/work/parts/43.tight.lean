/-! THE CLASS: a row is narrowed by a linear rule -/
theorem SH.cell {L : Int} {m m' : vm_M} (s : SH L m m') {c : Nat} (h : c ≠ 13 ∧ c ≠ 14 ∧ c ≠ 6) (i : Int) : m' c i = m c i := s.1 c i (by omega) (by omega)
theorem SH.same {L : Int} {m m' : vm_M} (s : SH L m m') (n : Int) : ru_same m m' n := fun i _ _ => ⟨s.cell (by decide) i, s.cell (by decide) i, s.cell (by decide) i, s.cell (by decide) i, s.cell (by decide) i, fun t _ _ => ⟨s.cell (by decide) _, s.cell (by decide) _⟩⟩
theorem SH.box {L : Int} {m m' : vm_M} (s : SH L m m') {h : fc_G} (hb : box L m' h) : box L m h := fun v v0 v1 => by have := hb v v0 v1; have := s.2.1 v v0 v1; omega
/-- what narrowing by one rule does -/
def TG (L i : Int) (m m' : vm_M) (r : Bool) : Prop :=
  SH L m m' ∧ (r = false → ∀ h, box L m h → ¬ ru_holds m i h) ∧
  (r = true → (∀ h, box L m h → ru_holds m i h → box L m' h) ∧
    (∀ u : Nat, u < 16 → (m 18 i).toNat.testBit u = false → m' 13 (L * 16 + (u : Int)) = m 13 (L * 16 + (u : Int)) ∧ m' 14 (L * 16 + (u : Int)) = m 14 (L * 16 + (u : Int))) ∧
    (∀ h, box L m' h → (∀ u : Nat, u < 16 → (m 18 i).toNat.testBit u = true → m' 13 (L * 16 + (u : Int)) = m' 14 (L * 16 + (u : Int))) → ru_holds m i h))
theorem mul_mono {f a b : Int} (hf : 0 ≤ f) (h : a ≤ b) : f * a ≤ f * b := Int.mul_le_mul_of_nonneg_left h hf
theorem mul_anti {f a b : Int} (hf : f ≤ 0) (h : a ≤ b) : f * b ≤ f * a := by
  have := Int.mul_le_mul_of_nonneg_left h (show 0 ≤ -f by omega)
  rw [Int.neg_mul, Int.neg_mul] at this
  omega
theorem lt_gt {m : vm_M} {L t x : Int} (h1 : m 13 (L * 16 + m 20 t) ≤ x) (h2 : x ≤ m 14 (L * 16 + m 20 t)) : lt m L t ≤ m 21 t * x ∧ m 21 t * x ≤ gt m L t := by
  unfold lt gt
  by_cases h : m 21 t > 0
  · rw [if_pos h, if_pos h]; exact ⟨mul_mono (by omega) h1, mul_mono (by omega) h2⟩
  · rw [if_neg h, if_neg h]; exact ⟨mul_anti (by omega) h2, mul_anti (by omega) h1⟩
theorem lt_one {m : vm_M} {L t : Int} (h : m 13 (L * 16 + m 20 t) = m 14 (L * 16 + m 20 t)) : lt m L t = m 21 t * m 13 (L * 16 + m 20 t) ∧ gt m L t = m 21 t * m 13 (L * 16 + m 20 t) := by
  unfold lt gt
  rw [h]
  constructor <;> split <;> rfl
theorem lt_bd {m : vm_M} {L t : Int} (hN : NE L m) (hv : 0 ≤ m 20 t ∧ m 20 t < 16) (hf : -4 ≤ m 21 t ∧ m 21 t ≤ 4) : (-84 ≤ lt m L t ∧ lt m L t ≤ 84) ∧ (-84 ≤ gt m L t ∧ gt m L t ≤ 84) := by
  have := hN.1 _ hv.1 hv.2
  unfold lt gt
  constructor <;> split <;> exact kp_mul hf (by omega)
theorem zz_sm_bd {f : Int → Int} {a b : Int} : ∀ {n : Nat}, (∀ i : Int, 0 ≤ i → i < (n : Int) → a ≤ f i ∧ f i ≤ b) → a * (n : Int) ≤ zz_sm f n ∧ zz_sm f n ≤ b * (n : Int)
  | 0, _ => by simp [zz_sm]
  | n + 1, h => by
    have ih := zz_sm_bd (f := f) (n := n) (fun i i0 i1 => h i i0 (by omega))
    have := h (n : Int) (by omega) (by omega)
    simp only [zz_sm]
    have e1 : a * ((n + 1 : Nat) : Int) = a * (n : Int) + a := by rw [Int.natCast_succ, Int.mul_add, Int.mul_one]
    have e2 : b * ((n + 1 : Nat) : Int) = b * (n : Int) + b := by rw [Int.natCast_succ, Int.mul_add, Int.mul_one]
    omega
theorem zz_sm_cut {f : Int → Int} {n : Nat} {j : Int} (h0 : 0 ≤ j) (h1 : j < (n : Int)) : zz_sm f n = zz_sm (fun i => if i = j then 0 else f i) n + f j :=
  zz_sm_upd h0 h1 (fun i _ _ hi => by rw [if_neg hi]) (by rw [if_pos rfl]; omega)
section TGT
variable {G : vm_G} {d : Nat} {m : vm_M} {Q : vm_M → Bool → Prop}
/-- the sums of the least and of the greatest terms -/
def slt (m : vm_M) (L i : Int) (n : Nat) : Int := zz_sm (fun t => lt m L (i * 4 + t)) n
def sgt (m : vm_M) (L i : Int) (n : Nat) : Int := zz_sm (fun t => gt m L (i * 4 + t)) n
theorem slt_bd {L i : Int} {n : Nat} (hN : NE L m) (hw : ru_tm m i) (hn : (n : Int) ≤ m 19 i) : (-336 ≤ slt m L i n ∧ slt m L i n ≤ 336) ∧ (-336 ≤ sgt m L i n ∧ sgt m L i n ≤ 336) := by
  have w1 := hw.1
  have a := zz_sm_bd (f := fun t => lt m L (i * 4 + t)) (a := -84) (b := 84) (n := n) (fun t t0 t1 => (lt_bd hN (hw.2.1 t t0 (by omega)).1 (hw.2.1 t t0 (by omega)).2).1)
  have b := zz_sm_bd (f := fun t => gt m L (i * 4 + t)) (a := -84) (b := 84) (n := n) (fun t t0 t1 => (lt_bd hN (hw.2.1 t t0 (by omega)).1 (hw.2.1 t t0 (by omega)).2).2)
  unfold slt sgt
  omega
theorem cs_sum {L i : Int} (hL : 0 ≤ L ∧ L ≤ 16) (hi : 0 ≤ i ∧ i < 128) (hw : ru_tm m i) {Q : vm_M → Bool → Prop}
    (hQ : vm_ex G (d + 1) mX5_tightenLinear 66 [some (.inr (.inr 6)), some (.inl i), some (.inl (L * 16)), some (.inl (i * 4)), some (.inl (i * 4 + m 19 i)), some (.inl (slt m L i (m 19 i).toNat)), some (.inl (sgt m L i (m 19 i).toNat)), some (.inl (i * 4)), none, none, none] [] m (vm_qb Q)) :
    ∀ (j t : Nat), m 19 i = (t : Int) + (j : Int) → vm_ex G (d + 1) mX5_tightenLinear 26 [some (.inr (.inr 6)), some (.inl i), some (.inl (L * 16)), some (.inl (i * 4)), some (.inl (i * 4 + m 19 i)), some (.inl (slt m L i t)), some (.inl (sgt m L i t)), some (.inl (i * 4 + (t : Int))), none, none, none] [] m (vm_qb Q)
  | 0, t, ht => by
    have w1 := hw.1
    have e : (m 19 i).toNat = t := by omega
    rw [e] at hQ
    exact qX5_tightenLinear_26 ⟨⟨by omega, by omega⟩, ⟨by omega, by omega⟩, fun _ => hQ, fun h => by omega⟩
  | j + 1, t, ht => by
    have w1 := hw.1
    have w2 := hw.2.1 (t : Int) (by omega) (by omega)
    refine qX5_tightenLinear_26 ⟨⟨by omega, by omega⟩, ⟨by omega, by omega⟩, fun h => by omega, fun _ => cm_leastTerm hL (by omega) w2.1 w2.2 (cm_greatestTerm hL (by omega) w2.1 w2.2 ?_)⟩
    have := cs_sum hL hi hw hQ j (t + 1) (by omega)
    rw [show (((t + 1 : Nat)) : Int) = (t : Int) + 1 by omega, ← Int.add_assoc] at this
    exact this
theorem cs_lin {L i : Int} (hL : 0 ≤ L ∧ L ≤ 16) (hi : 0 ≤ i ∧ i < 128) (hN : NE L m) (hw : ru_wf m i) (h0 : m 15 i = 0) (hQ : ∀ m' r, TG L i m m' r → Q m' r) :
    ∀ (j t : Nat) (m' : vm_M), m 19 i = (t : Int) + (j : Int) → SH L m m' → (∀ h, box L m h → ru_holds m i h → box L m' h) →
    (∀ u : Nat, u < 16 → (m 18 i).toNat.testBit u = false → m' 13 (L * 16 + (u : Int)) = m 13 (L * 16 + (u : Int)) ∧ m' 14 (L * 16 + (u : Int)) = m 14 (L * 16 + (u : Int))) →
    (1 ≤ t → ∀ h, box L m' h → (∀ u : Nat, u < 16 → (m 18 i).toNat.testBit u = true → m' 13 (L * 16 + (u : Int)) = m' 14 (L * 16 + (u : Int))) → ru_holds m i h) →
    vm_ex G (d + 2) mX5_tightenLinear 66 [some (.inr (.inr 6)), some (.inl i), some (.inl (L * 16)), some (.inl (i * 4)), some (.inl (i * 4 + m 19 i)), some (.inl (slt m' L i (m 19 i).toNat)), some (.inl (sgt m' L i (m 19 i).toNat)), some (.inl (i * 4 + (t : Int))), none, none, none] [] m' (vm_qb Q)
  | 0, t, m', ht, s, p1, p2, p3 => by
    have w1 := hw.2.2.1.1
    have w2 := hw.2.1
    exact qX5_tightenLinear_66 ⟨⟨by omega, by omega⟩, ⟨by omega, by omega⟩, fun _ => hQ m' true ⟨s, fun h => by simp at h, fun _ => ⟨p1, p2, p3 (by omega)⟩⟩, fun h => by omega⟩
  | j + 1, t, m', ht, s, p1, p2, p3 => by
    obtain ⟨_, v1, wt, b16, b17, dis, _⟩ := id hw
    obtain ⟨k1, k2, k3, k4⟩ := id wt
    have w2 := k2 (t : Int) (by omega) (by omega)
    have c20 : ∀ x, m' 20 x = m 20 x := fun x => s.cell (by decide) x
    have c21 : ∀ x, m' 21 x = m 21 x := fun x => s.cell (by decide) x
    have c16 : m' 16 i = m 16 i := s.cell (by decide) i
    have c17 : m' 17 i = m 17 i := s.cell (by decide) i
    have N' := s.ne hN
    have wt' : ru_tm m' i := (ru_wf_same (s.same (i + 1)) hi.1 (by omega) hw).1.2.2.1
    have c19 : m' 19 i = m 19 i := s.cell (by decide) i
    have bs := slt_bd (n := (m 19 i).toNat) N' wt' (by omega)
    have bt := lt_bd N' (t := i * 4 + (t : Int)) (by rw [c20]; exact w2.1) (by rw [c21]; exact w2.2)
    have hh0 : ∀ h, ru_holds m i h ↔ m 16 i ≤ ru_lin m i h (m 19 i).toNat ∧ ru_lin m i h (m 19 i).toNat ≤ m 17 i := fun h => by unfold ru_holds; rw [if_pos h0]
    refine qX5_tightenLinear_66 ⟨⟨by omega, by omega⟩, ⟨by omega, by omega⟩, fun h => by omega, fun _ => cm_leastTerm hL (by omega) (by rw [c20]; exact w2.1) (by rw [c21]; exact w2.2) (cm_greatestTerm hL (by omega) (by rw [c20]; exact w2.1) (by rw [c21]; exact w2.2) ⟨⟨by omega, by omega⟩, hi, ?_⟩)⟩
    refine cs_keep hL (by rw [c20]; exact w2.1) N' (by rw [c21]; exact w2.2) ⟨by omega, by omega⟩ ⟨by omega, by omega⟩ (fun m2 r hk => ?_)
    obtain ⟨kf, kt⟩ := hk
    -- what a solution leaves for this term
    have sound : ∀ h, box L m' h → ru_holds m i h → m' 16 i - (sgt m' L i (m 19 i).toNat - gt m' L (i * 4 + (t : Int))) ≤ m' 21 (i * 4 + (t : Int)) * h (m' 20 (i * 4 + (t : Int))) ∧ m' 21 (i * 4 + (t : Int)) * h (m' 20 (i * 4 + (t : Int))) ≤ m' 17 i - (slt m' L i (m 19 i).toNat - lt m' L (i * 4 + (t : Int))) := fun h hb hh => by
      rw [hh0] at hh
      unfold ru_lin at hh
      have tj : (t : Int) < ((m 19 i).toNat : Int) := by omega
      have e1 := zz_sm_cut (f := fun x => m 21 (i * 4 + x) * h (m 20 (i * 4 + x))) (n := (m 19 i).toNat) (j := (t : Int)) (by omega) tj
      have e2 := zz_sm_cut (f := fun x => lt m' L (i * 4 + x)) (n := (m 19 i).toNat) (j := (t : Int)) (by omega) tj
      have e3 := zz_sm_cut (f := fun x => gt m' L (i * 4 + x)) (n := (m 19 i).toNat) (j := (t : Int)) (by omega) tj
      have pt : ∀ x : Int, 0 ≤ x → x < ((m 19 i).toNat : Int) → lt m' L (i * 4 + x) ≤ m 21 (i * 4 + x) * h (m 20 (i * 4 + x)) ∧ m 21 (i * 4 + x) * h (m 20 (i * 4 + x)) ≤ gt m' L (i * 4 + x) := fun x x0 x1 => by
        have w := k2 x x0 (by omega)
        have := hb (m' 20 (i * 4 + x)) (by rw [c20]; exact w.1.1) (by rw [c20]; exact w.1.2)
        have q := lt_gt (m := m') (L := L) (t := i * 4 + x) this.1 this.2
        rw [c21, c20] at q
        exact q
      have l1 : zz_sm (fun x => if x = (t : Int) then 0 else lt m' L (i * 4 + x)) (m 19 i).toNat ≤ zz_sm (fun x => if x = (t : Int) then 0 else m 21 (i * 4 + x) * h (m 20 (i * 4 + x))) (m 19 i).toNat := zz_sm_le fun x x0 x1 => by
        split
        · exact Int.le_refl _
        · exact (pt x x0 x1).1
      have l2 : zz_sm (fun x => if x = (t : Int) then 0 else m 21 (i * 4 + x) * h (m 20 (i * 4 + x))) (m 19 i).toNat ≤ zz_sm (fun x => if x = (t : Int) then 0 else gt m' L (i * 4 + x)) (m 19 i).toNat := zz_sm_le fun x x0 x1 => by
        split
        · exact Int.le_refl _
        · exact (pt x x0 x1).2
      rw [c21, c20, c16, c17]
      unfold slt sgt
      omega
    cases r with
    | false =>
      refine ⟨fun h => by simp at h, fun _ => ?_⟩
      obtain ⟨e, no⟩ := kf rfl
      subst e
      refine hQ m2 false ⟨s, fun _ h hb hh => ?_, fun h => by simp at h⟩
      have hb' := p1 h hb hh
      have := hb' (m2 20 (i * 4 + (t : Int))) (by rw [c20]; exact w2.1.1) (by rw [c20]; exact w2.1.2)
      exact no _ this.1 this.2 (sound h hb' hh)
    | true =>
      refine ⟨fun _ => ?_, fun h => by simp at h⟩
      obtain ⟨s2, oth, snd, ends⟩ := kt rfl
      have d20 : ∀ x, m2 20 x = m 20 x := fun x => (s2.cell (by decide) x).trans (c20 x)
      have d21 : ∀ x, m2 21 x = m 21 x := fun x => (s2.cell (by decide) x).trans (c21 x)
      rw [c20] at oth
      have dt : ∀ x : Int, 0 ≤ x → x < m 19 i → x ≠ (t : Int) → m 20 (i * 4 + x) ≠ m 20 (i * 4 + (t : Int)) := fun x x0 x1 hx => by
        rcases Int.lt_or_gt_of_ne hx with hx | hx
        · exact dis h0 x t x0 hx (by omega)
        · exact fun e => dis h0 t x (by omega) hx x1 e.symm
      have same : ∀ x : Int, 0 ≤ x → x < ((m 19 i).toNat : Int) → x ≠ (t : Int) → lt m2 L (i * 4 + x) = lt m' L (i * 4 + x) ∧ gt m2 L (i * 4 + x) = gt m' L (i * 4 + x) := fun x x0 x1 hx => by
        have w := k2 x x0 (by omega)
        have o := oth (m 20 (i * 4 + x)) w.1.1 w.1.2 (dt x x0 (by omega) hx)
        unfold lt gt
        rw [d20, d21, c20, c21, o.1, o.2]
        exact ⟨rfl, rfl⟩
      have tj : (t : Int) < ((m 19 i).toNat : Int) := by omega
      have n1 : slt m2 L i (m 19 i).toNat = slt m' L i (m 19 i).toNat - lt m' L (i * 4 + (t : Int)) + lt m2 L (i * 4 + (t : Int)) := by
        have := zz_sm_upd (f := fun x => lt m2 L (i * 4 + x)) (g := fun x => lt m' L (i * 4 + x)) (j := (t : Int)) (x := lt m2 L (i * 4 + (t : Int)) - lt m' L (i * 4 + (t : Int))) (n := (m 19 i).toNat) (by omega) tj (fun x x0 x1 hx => (same x x0 x1 hx).1) (by omega)
        unfold slt
        omega
      have n2 : sgt m2 L i (m 19 i).toNat = sgt m' L i (m 19 i).toNat - gt m' L (i * 4 + (t : Int)) + gt m2 L (i * 4 + (t : Int)) := by
        have := zz_sm_upd (f := fun x => gt m2 L (i * 4 + x)) (g := fun x => gt m' L (i * 4 + x)) (j := (t : Int)) (x := gt m2 L (i * 4 + (t : Int)) - gt m' L (i * 4 + (t : Int))) (n := (m 19 i).toNat) (by omega) tj (fun x x0 x1 hx => (same x x0 x1 hx).2) (by omega)
        unfold sgt
        omega
      refine cm_leastTerm hL (by omega) (by rw [d20]; exact w2.1) (by rw [d21]; exact w2.2) (cm_greatestTerm hL (by omega) (by rw [d20]; exact w2.1) (by rw [d21]; exact w2.2) ?_)
      have := cs_lin hL hi hN hw h0 hQ j (t + 1) m2 (by omega) (s.trans s2) (fun h hb hh => ?_) (fun u u1 hu => ?_) (fun _ h hb hu => ?_)
      · rw [n1, n2, show (((t + 1 : Nat)) : Int) = (t : Int) + 1 by omega, ← Int.add_assoc] at this
        exact this
      · have hb' := p1 h hb hh
        intro v v0 v1
        by_cases e : v = m 20 (i * 4 + (t : Int))
        · have := sound h hb' hh
          have bb := hb' v v0 v1
          rw [c20] at this snd
          rw [← e] at this snd
          exact snd (h v) bb.1 bb.2 this.1 this.2
        · have := oth v v0 v1 e
          rw [this.1, this.2]
          exact hb' v v0 v1
      · have o := oth (u : Int) (by omega) (by omega) (fun e => by
          have := (k4 u).mpr ⟨(t : Int), by omega, by omega, e.symm⟩
          rw [hu] at this
          simp at this)
        have := p2 u u1 hu
        omega
      · rw [hh0]
        have one : ∀ x : Int, 0 ≤ x → x < ((m 19 i).toNat : Int) → lt m2 L (i * 4 + x) = m 21 (i * 4 + x) * h (m 20 (i * 4 + x)) ∧ gt m2 L (i * 4 + x) = m 21 (i * 4 + x) * h (m 20 (i * 4 + x)) := fun x x0 x1 => by
          have w := k2 x x0 (by omega)
          have hs := hu (m 20 (i * 4 + x)).toNat (by omega) ((k4 _).mpr ⟨x, x0, by omega, by omega⟩)
          rw [Int.toNat_of_nonneg w.1.1] at hs
          have hbx := hb _ w.1.1 w.1.2
          have e : h (m 20 (i * 4 + x)) = m2 13 (L * 16 + m 20 (i * 4 + x)) := by omega
          have := lt_one (m := m2) (L := L) (t := i * 4 + x) (by rw [d20]; exact hs)
          rw [d20, d21, ← e] at this
          exact this
        have q1 : slt m2 L i (m 19 i).toNat = ru_lin m i h (m 19 i).toNat := zz_sm_congr fun x x0 x1 => (one x x0 x1).1
        have q2 : sgt m2 L i (m 19 i).toNat = ru_lin m i h (m 19 i).toNat := zz_sm_congr fun x x0 x1 => (one x x0 x1).2
        have oo := one (t : Int) (by omega) tj
        have hs := hu (m 20 (i * 4 + (t : Int))).toNat (by omega) ((k4 _).mpr ⟨(t : Int), by omega, by omega, by omega⟩)
        rw [Int.toNat_of_nonneg w2.1.1] at hs
        have hbx := hb _ w2.1.1 w2.1.2
        have e : m2 13 (L * 16 + m 20 (i * 4 + (t : Int))) = h (m 20 (i * 4 + (t : Int))) := by omega
        rw [c20, c21, e, c16, c17] at ends
        omega
theorem cs_tightenLinear {L i : Int} (hL : 0 ≤ L ∧ L ≤ 16) (hi : 0 ≤ i ∧ i < 128) (hN : NE L m) (hw : ru_wf m i) (h0 : m 15 i = 0) (hQ : ∀ m' r, TG L i m m' r → Q m' r) : vm_cb G (d + 2) mX5_tightenLinear [.inr (.inr 6), .inl i, .inl (L * 16)] m Q := by
  have w1 := hw.2.2.1.1
  refine qX5_tightenLinear ⟨hi, ?_⟩
  have h2 := cs_lin (G := G) (d := d) hL hi hN hw h0 hQ (m 19 i).toNat 0 m (by omega) (SH.refl hN) (fun h hb _ => hb) (fun u _ _ => ⟨rfl, rfl⟩) (fun h => by omega)
  rw [show ((0 : Nat) : Int) = 0 by rfl, Int.add_zero] at h2
  have h1 := cs_sum (G := G) (d := d + 1) hL hi hw.2.2.1 h2 (m 19 i).toNat 0 (by omega)
  rw [show ((0 : Nat) : Int) = 0 by rfl, Int.add_zero] at h1
  exact h1
end TGT
