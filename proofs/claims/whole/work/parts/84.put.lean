/-! THE CLASS: put -/
section CPU
variable {G : vm_G} {d : Nat} {m m1 m2 : vm_M} {S : aS}
theorem cs_lengthOf_7 {p : Int} {Q : vm_M → Int → Prop} (hQ : ∀ r : Int, (((¬ ∃ n, plen (bX p) n) ∧ r = 0) ∨ ∃ n : Nat, plen (bX p) n ∧ r = (n : Int)) → Q m r) :
    ∀ (j i : Nat) (w : Int), i + j = 8 → bX w = bX p / 256 ^ i → (∀ u : Nat, u < i → 33 ≤ bX p / 256 ^ u % 256 ∧ bX p / 256 ^ u % 256 ≤ 126) →
    vm_ex G (d + 1) mX3_lengthOf 7 [some (.inr (.inl p)), none, some (.inl (i : Int)), some (.inr (.inl w)), none, some (.inl (i : Int)), none] [] m (vm_qi Q) := by
  have zero : ∀ (i : Nat), i ≤ 8 → bX p / 256 ^ i = 0 → (∀ u : Nat, u < i → 33 ≤ bX p / 256 ^ u % 256 ∧ bX p / 256 ^ u % 256 ≤ 126) → Q m (i : Int) := fun i hi hz hu => by
    have hlt : bX p < 256 ^ i := by
      rcases Nat.lt_or_ge (bX p) (256 ^ i) with q | q
      · exact q
      · have := Nat.div_pos q (Nat.pow_pos (by decide)); omega
    by_cases e : i = 0
    · subst e
      refine hQ _ (Or.inl ⟨fun ⟨n, hn⟩ => ?_, rfl⟩)
      have := (hn.2.2 0 (by have := hn.1; omega)).1
      rw [hz] at this
      omega
    · exact hQ _ (Or.inr ⟨i, ⟨by omega, hlt, hu⟩, rfl⟩)
  intro j
  induction j with
  | zero =>
    intro i w hi hw hu
    have e : i = 8 := by omega
    subst e
    exact qX3_lengthOf_7 ⟨⟨by omega, by omega⟩, fun _ => zero 8 (by decide) (Nat.div_eq_of_lt (bX_lt p)) hu, fun z => absurd (by omega) z⟩
  | succ j ih =>
    intro i w hi hw hu
    refine qX3_lengthOf_7 ⟨⟨by omega, by omega⟩, fun z => absurd z (by omega), fun _ => ⟨vm_lcmp_R _ _, fun z => zero i (by omega) (by rw [← hw]; exact (bX_zero w).mp z) hu, fun z => ?_⟩⟩
    have hnz : bX p / 256 ^ i ≠ 0 := fun h => z ((bX_zero w).mpr (by rw [hw]; exact h))
    have hb : bX w % 256 < 256 := Nat.mod_lt _ (by decide)
    rw [bX_land, l2i_nat _ hb]
    refine cs_in2 ⟨by omega, by omega⟩ ⟨by decide, by decide⟩ ⟨by decide, by decide⟩ (fun n => ⟨fun z => Bool.noConfusion z, fun _ => hQ _ (Or.inl ⟨fun ⟨k, hk⟩ => ?_, rfl⟩)⟩) (fun q => ⟨fun _ => ih (i + 1) (vm_lushr w 8) (by omega) (by rw [bX_shr, hw, pdiv]) (fun u hu2 => ?_), fun z => Bool.noConfusion z⟩)
    · have := hk.2.2 i (plen_no hk hnz)
      rw [← hw] at this
      exact n (by omega)
    · by_cases e : u = i
      · subst e; rw [← hw]; omega
      · exact hu u (by omega)
theorem cs_append_22 {p : Int} {n : Nat} {Q : vm_M → Prop} (hn : n ≤ 8) (hL : 0 ≤ m 3 1 ∧ m 3 1 + (n : Int) ≤ 80) (hQ : ∀ m' : vm_M, (∀ (c : Nat) (i : Int), ¬ (c = 10 ∧ m 3 1 ≤ i) → ¬ (c = 3 ∧ i = 1) → m' c i = m c i) → m' 3 1 = m 3 1 + (n : Int) → (∀ i : Int, m 3 1 ≤ i → i < m 3 1 + (n : Int) → m' 10 i = ((bX p / 256 ^ (m 3 1 + (n : Int) - 1 - i).toNat % 256 : Nat) : Int)) → Q m') :
    ∀ (j : Nat) (i w : Int) (mk : vm_M), i + 1 = m 3 1 + (j : Int) → j ≤ n → bX w = bX p / 256 ^ (n - j) → (∀ (c : Nat) (x : Int), ¬ (c = 10 ∧ m 3 1 ≤ x) → mk c x = m c x) → (∀ x : Int, i < x → x < m 3 1 + (n : Int) → mk 10 x = ((bX p / 256 ^ (m 3 1 + (n : Int) - 1 - x).toNat % 256 : Nat) : Int)) →
    vm_ex G (d + 1) mX3_append 22 [some (.inr (.inr 3)), some (.inr (.inl p)), none, some (.inl (n : Int)), some (.inr (.inl w)), none, some (.inl i)] [] mk (vm_qn Q) := by
  intro j
  induction j with
  | zero =>
    intro i w mk hi hj hw f ht
    have e31 : mk 3 1 = m 3 1 := f 3 1 (by simp)
    refine qX3_append_22 ⟨⟨by omega, by omega⟩, ⟨by omega, by omega⟩, fun _ m3 e3 => hQ m3 (fun c x h1 h2 => by rw [e3, zz_other h2]; exact f c x h1) (by rw [e3, zz_same, e31]) (fun x x0 x1 => ?_), fun z => absurd (by omega) z⟩
    rw [e3, zz_other (by simp)]
    exact ht x (by omega) x1
  | succ j ih =>
    intro i w mk hi hj hw f ht
    have e31 : mk 3 1 = m 3 1 := f 3 1 (by simp)
    have hb : bX w % 256 < 256 := Nat.mod_lt _ (by decide)
    refine qX3_append_22 ⟨⟨by omega, by omega⟩, ⟨by omega, by omega⟩, fun z => absurd z (by omega), fun _ => ⟨by omega, fun m5 e5 => ?_⟩⟩
    rw [bX_land, l2i_nat _ hb, chr_nat _ hb] at e5
    refine ih (i + -1) (vm_lushr w 8) m5 (by omega) (by omega) (by rw [bX_shr, hw, pdiv, show n - (j + 1) + 1 = n - j by omega]) (fun c x h => by rw [e5, zz_other (fun z => h ⟨z.1, by omega⟩)]; exact f c x h) (fun x x0 x1 => ?_)
    by_cases e : x = i
    · subst e
      rw [e5, zz_same, hw, show (m 3 1 + (n : Int) - 1 - x).toNat = n - (j + 1) by omega]
    · rw [e5, zz_other (fun z => e z.2)]
      exact ht x (by omega) x1
theorem cs_put {p : Int} {Q : vm_M → Int → Prop} (hv : sV S) (h : KC m S) (hQ : ∀ m' S' r, CFr m m' → KC m' S' → o_put S (bX p) S' r → Q m' r) : vm_ci G (d + 2) mX7_put [.inr (.inr 0), .inr (.inl p)] m Q := by
  obtain ⟨⟨h1, h2⟩, ⟨a1, a2, a3⟩, ⟨b1, b2, b3⟩, ⟨c1, c2⟩⟩ := id h
  have hL := hv.2.2.2.1
  refine qX7_put (qX3_lengthOf (cs_lengthOf_7 (d := d) (fun r hr => ?_) 8 0 p rfl (by rw [Nat.pow_zero, Nat.div_one]) (fun u hu => by omega)))
  rcases hr with ⟨no, rfl⟩ | ⟨n, hn, rfl⟩
  · exact ⟨⟨by decide, by decide⟩, fun z => absurd rfl z, fun _ => hQ m S _ (CFr.refl m) h (Or.inl ⟨no, rfl, rfl⟩)⟩
  · have hn8 := hn.1
    refine ⟨⟨by omega, by omega⟩, fun _ => ?_, fun z => absurd z (by omega)⟩
    refine qX3_hasRoomFor ⟨⟨by omega, by omega⟩, ⟨by omega, by omega⟩, fun z => ⟨fun z => Bool.noConfusion z, fun _ => hQ m S _ (CFr.refl m) h (Or.inr (Or.inl ⟨n, hn, by omega, rfl, rfl⟩))⟩, fun z => ⟨fun _ => ?_, fun z => Bool.noConfusion z⟩⟩
    refine qX3_append (qX3_hasRoomFor ⟨⟨by omega, by omega⟩, ⟨by omega, by omega⟩, fun z => absurd z (by omega), fun _ => ⟨fun _ => ?_, fun z => Bool.noConfusion z⟩⟩)
    refine cs_append_22 (d := d) (m := m) (p := p) (n := n) (by omega) (by omega) (fun m6 f6 l6 t6 => ?_) n _ p m (by omega) (by omega) (by rw [Nat.sub_self, Nat.pow_zero, Nat.div_one]) (fun _ _ _ => rfl) (fun x x0 x1 => by omega)
    rw [l6, c1]
    have fc : ∀ c : Nat, c ≠ 3 → c ≠ 10 → m6 c = m c := fun c p q => funext fun i => f6 c i (fun z => q z.1) (fun z => p z.1)
    have ek : kst m6 = kst m := by
      funext x
      unfold kst
      rw [fc 1 (by decide) (by decide), fc 9 (by decide) (by decide)]
    refine hQ m6 _ _ (fun c i hc => f6 c i (by omega) (by omega)) ⟨⟨by unfold KCc; rw [ek]; exact h1, by rw [fc 6 (by decide) (by decide)]; exact h2⟩, ⟨by rw [fc 4 (by decide) (by decide)]; exact a1, by rw [fc 0 (by decide) (by decide)]; exact a2, by rw [fc 11 (by decide) (by decide)]; exact a3⟩, ⟨by rw [fc 5 (by decide) (by decide)]; exact b1, by rw [fc 0 (by decide) (by decide)]; exact b2, by rw [fc 12 (by decide) (by decide)]; exact b3⟩, ⟨by rw [l6, c1]; rfl, fun i i0 i1 => ?_⟩⟩ (Or.inr (Or.inr ⟨n, hn, by omega, rfl, rfl⟩))
    have i1' : i < sL S + (n : Int) := i1
    show m6 10 i = if i < sL S then sT S i else ((bX p / 256 ^ (sL S + (n : Int) - 1 - i).toNat % 256 : Nat) : Int)
    by_cases e : i < sL S
    · rw [if_pos e, f6 10 i (by omega) (by simp)]
      exact c2 i i0 e
    · rw [if_neg e, t6 i (by omega) (by omega), c1]
end CPU
