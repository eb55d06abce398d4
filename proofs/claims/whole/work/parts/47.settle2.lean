section SE2
variable {G : vm_G} {d : Nat} {m : vm_M} {Q : vm_M → Bool → Prop} {L n : Int} {C : Nat → Prop}
theorem PI_start {X : Nat} {m1 m0 : vm_M} (hN : NE L m) (hR : RW m n) (o : PO L n C m m1 X) (e0 : m0 = vm_up m1 6 4 0) : PI L n C X m0 m0 0 := by
  obtain ⟨o1, o2, o3, o4, o5, o6⟩ := o
  have z : ∀ (c : Nat) (i : Int), ¬ (c = 6 ∧ i = 4) → m0 c i = m1 c i := fun c i h => by rw [e0, zz_other h]
  have z0 : m0 6 4 = 0 := by rw [e0, zz_same]
  have N1 := o1.ne hN
  have s10 : SW L m1 m0 := ⟨fun c i _ q => z c i q, fun v v0 v1 => by rw [z 13 _ (by simp), z 14 _ (by simp)]; have := N1.1 v v0 v1; omega, by omega⟩
  have N0 := s10.ne N1
  refine ⟨SH.refl N0, fun h hb _ => hb, fun u _ _ => ⟨rfl, rfl⟩, fun i i0 i1 => ?_⟩
  rcases o6 i i0 i1 with q | q
  · exact Or.inl (OKR_keep s10 (o1.rw' hR) i0 i1 q (fun u _ _ => ⟨z 13 _ (by simp), z 14 _ (by simp)⟩))
  · exact Or.inr (Or.inr ⟨i0, (tch_iff ((o1.trans s10).cell (by decide) i)).mpr q⟩)
theorem cs_settle_28 {X : Nat} {pass : Int} {m0 : vm_M} (hL : 0 ≤ L ∧ L ≤ 16) (hN0 : NE L m0) (hR0 : RW m0 n) (hC0 : CL L m0 n C) (hX : X < 65536) (hXC : ∀ u, X.testBit u = true → C u)
    (hF : ∀ m2, SH L m0 m2 → (∀ h, box L m0 h → ¬ ∀ i : Int, 0 ≤ i → i < n → tch m0 i C → ru_holds m0 i h) → Q m2 false)
    (hT : ∀ m2, PI L n C X m0 m2 n → vm_ex G (d + 3) mX5_settle 8 [some (.inr (.inr 6)), some (.inl L), some (.inl (m2 6 4)), some (.inl (L * 16)), some (.inl (pass + 1)), none, none] [] m2 (vm_qb Q)) :
    ∀ (j : Nat) (k : Int) (m2 : vm_M), k + (j : Int) = n → 0 ≤ k → PI L n C X m0 m2 k →
    vm_ex G (d + 3) mX5_settle 28 [some (.inr (.inr 6)), some (.inl L), some (.inl (X : Int)), some (.inl (L * 16)), some (.inl pass), some (.inl k), none] [] m2 (vm_qb Q)
  | 0, k, m2, hk, k0, p => by
    have hn := (p.1.sw.rw' hR0)
    have e8 := hn.1
    have hb := hn.2.1
    have ek : k = n := by omega
    subst ek
    exact qX5_settle_28 ⟨⟨by omega, by omega⟩, ⟨by omega, by omega⟩, fun _ => hT m2 p, fun h => by omega⟩
  | j + 1, k, m2, hk, k0, p => by
    have hn := (p.1.sw.rw' hR0)
    have e8 := hn.1
    have hb := hn.2.1
    have hw := hn.2.2 k k0 (by omega)
    have N2 := p.1.ne hN0
    have em : m2 18 k = m0 18 k := p.1.cell (by decide) k
    have hmask := hw.2.2.1.2.2.1
    have emn : m2 18 k = ((m2 18 k).toNat : Int) := by omega
    have az := and_zero (a := (m2 18 k).toNat) (b := X) (by omega) (by omega)
    have aR := and_R (a := (m2 18 k).toNat) (b := X) (by omega) (by omega)
    rw [← emn] at az aR
    have hstep : ∀ m3 r, ¬ vm_and (m2 18 k) (X : Int) = 0 → TG L k m2 m3 r → (r = false → Q m3 false) ∧ (r = true → vm_ex G (d + 3) mX5_settle 28 [some (.inr (.inr 6)), some (.inl L), some (.inl (X : Int)), some (.inl (L * 16)), some (.inl pass), some (.inl (k + 1)), none] [] m3 (vm_qb Q)) := fun m3 r hnz t => by
      rw [az] at hnz
      obtain ⟨u, hu⟩ := Classical.not_forall.mp hnz
      obtain ⟨a, b⟩ := Classical.not_not.mp hu
      have ht : tch m0 k (fun u => X.testBit u = true) := ⟨u, bit_lt16 hX b, by rw [← em]; exact a, b⟩
      have st := PI_step hN0 hR0 hC0 hXC p k0 (by omega) ht t
      exact ⟨fun e => by subst e; exact hF m3 (p.1.trans t.1) (st.1 rfl), fun e => cs_settle_28 hL hN0 hR0 hC0 hX hXC hF hT j (k + 1) m3 (by omega) (by omega) (st.2 e)⟩
    refine qX5_settle_28 ⟨⟨by omega, by omega⟩, ⟨by omega, by omega⟩, fun h => by omega, fun _ => ⟨⟨by omega, by omega⟩, aR, fun hz => ?_, fun hnz => ⟨⟨by have := hw.1; omega, by have := hw.1; omega⟩, fun hc => ?_, fun hl => ?_⟩⟩⟩
    · refine cs_settle_28 hL hN0 hR0 hC0 hX hXC hF hT j (k + 1) m2 (by omega) (by omega) ⟨p.1, p.2.1, p.2.2.1, fun i i0 i1 => ?_⟩
      rcases p.2.2.2 i i0 i1 with q | q | ⟨q1, u, a, b, c⟩
      · exact Or.inl q
      · exact Or.inr (Or.inl q)
      · by_cases ek : i = k
        · subst ek
          rw [az] at hz
          exact absurd ⟨by rw [em]; exact b, c⟩ (hz u)
        · exact Or.inr (Or.inr ⟨by omega, u, a, b, c⟩)
    · refine cs_tightenChoice hL ⟨k0, by omega⟩ N2 hw hc (fun m3 r t => ⟨fun e => (hstep m3 r hnz t).2 e, fun e => (hstep m3 r hnz t).1 e⟩)
    · refine cs_tightenLinear hL ⟨k0, by omega⟩ N2 hw hl (fun m3 r t => ⟨fun e => (hstep m3 r hnz t).2 e, fun e => (hstep m3 r hnz t).1 e⟩)
theorem cs_settle_8 (hL : 0 ≤ L ∧ L ≤ 16) (hN : NE L m) (hR : RW m n) (hC : CL L m n C) (hQ : ∀ m' r, ST L n C m m' r → Q m' r) :
    ∀ (j : Nat) (pass : Int) (X : Nat) (m1 : vm_M), pass + (j : Int) = 1000 → 0 ≤ pass → PO L n C m m1 X → (X = 0 ∨ wid L m1 + pass ≤ 288) →
    vm_ex G (d + 3) mX5_settle 8 [some (.inr (.inr 6)), some (.inl L), some (.inl (X : Int)), some (.inl (L * 16)), some (.inl pass), none, none] [] m1 (vm_qb Q) := by
  have fin : ∀ (m1 : vm_M), PO L n C m m1 0 → Q m1 true := fun m1 o => by
    obtain ⟨o1, o2, o3, o4, o5, o6⟩ := o
    refine hQ m1 true ⟨o1, fun h => by simp at h, fun _ => ⟨o2, o3, fun i i0 i1 => ?_⟩⟩
    rcases o6 i i0 i1 with q | ⟨u, a, b, c⟩
    · exact q
    · simp at c
  intro j
  induction j with
  | zero =>
    intro pass X m1 hp p0 o hw
    have N1 := o.1.ne hN
    have := wid_bd N1
    have hX : X = 0 := by omega
    subst hX
    exact qX5_settle_8 ⟨⟨by omega, by omega⟩, fun _ => fin m1 o, fun h => by omega⟩
  | succ j ih =>
    intro pass X m1 hp p0 o hw
    have N1 := o.1.ne hN
    have oX := o.2.2.2.1
    refine qX5_settle_8 ⟨⟨by omega, by omega⟩, fun h => by omega, fun _ => ⟨⟨by omega, by omega⟩, fun hz => ?_, fun hnz m3 e3 => ?_⟩⟩
    · have : X = 0 := by omega
      subst this
      exact fin m1 o
    · have z : ∀ (c : Nat) (i : Int), ¬ (c = 6 ∧ i = 4) → m3 c i = m1 c i := fun c i h => by rw [e3, zz_other h]
      have z0 : m3 6 4 = 0 := by rw [e3, zz_same]
      have s13 : SW L m1 m3 := ⟨fun c i _ q => z c i q, fun v v0 v1 => by rw [z 13 _ (by simp), z 14 _ (by simp)]; have := N1.1 v v0 v1; omega, by omega⟩
      have s3 := o.1.trans s13
      have pi := PI_start hN hR o e3
      refine cs_settle_28 (m0 := m3) hL (s3.ne hN) (s3.rw' hR) (s3.cl hR hC) oX o.2.2.2.2.1 (fun m2 s2 no => ?_) (fun m2 p2 => ?_) n.toNat 0 m3 (by have := hR.2.1; omega) (by decide) pi
      · refine hQ m2 false ⟨s3.trans s2.sw, fun _ h hb hh => no h (fun v v0 v1 => ?_) (fun i i0 i1 ht => (s3.holds hR i0 i1 h).mpr (hh i i0 i1 ((tch_iff (s3.cell (by decide) i)).mp ht))), fun h => by simp at h⟩
        rw [z 13 _ (by simp), z 14 _ (by simp)]
        exact o.2.1 h hb hh v v0 v1
      · obtain ⟨o2, ow⟩ := PO_next hN hR o e3 p2
        have := ih (pass + 1) (m2 6 4).toNat m2 (by omega) (by omega) o2 (by omega)
        rw [Int.toNat_of_nonneg p2.1.2.2.1.1] at this
        exact this
theorem cs_settle {X : Nat} (hL : 0 ≤ L ∧ L ≤ 16) (hN : NE L m) (hR : RW m n) (hC : CL L m n C) (hX : X < 65536) (hXC : ∀ u, X.testBit u = true → C u) (hO : ∀ i : Int, 0 ≤ i → i < n → OKR L m i ∨ tch m i (fun u => X.testBit u = true)) (hQ : ∀ m' r, ST L n C m m' r → Q m' r) : vm_cb G (d + 3) mX5_settle [.inr (.inr 6), .inl L, .inl (X : Int)] m Q :=
  qX5_settle (cs_settle_8 hL hN hR hC hQ 1000 0 X m (by decide) (by decide) ⟨SW.refl hN, fun h hb _ => hb, fun u _ _ => ⟨rfl, rfl⟩, hX, hXC, hO⟩ (Or.inr (by have := wid_bd hN; omega)))
end SE2
