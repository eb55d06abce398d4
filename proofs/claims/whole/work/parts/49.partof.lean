/-! THE CLASS: a part of what is open -/
section PTO
variable {G : vm_G} {d : Nat} {m : vm_M} {L n : Int}
/-- the rule i joins nothing of P with what else is open -/
def gd (L : Int) (m : vm_M) (O P : Nat) (i : Int) : Prop := (∀ u, ¬ ((m 18 i).toNat.testBit u = true ∧ O.testBit u = true ∧ P.testBit u = true)) ∨ (∀ u, (m 18 i).toNat.testBit u = true → O.testBit u = true → P.testBit u = true) ∨ SR L m i
theorem cs_partOf_30 {O P0 : Nat} {pass : Int} {Q : vm_M → Int → Prop} (hL : 0 ≤ L ∧ L ≤ 16) (hN : NE L m) (hR : RW m n) (hO : O < 65536) (h0 : P0 ≠ 0)
    (hQ : ∀ P : Nat, P < 65536 → (∀ u, P.testBit u = true → O.testBit u = true) → (∀ u, P0.testBit u = true → P.testBit u = true) → (P = P0 → ∀ i : Int, 0 ≤ i → i < n → gd L m O P i) → vm_ex G (d + 2) mX5_partOf 11 [some (.inr (.inr 6)), some (.inl L), some (.inl (O : Int)), some (.inl (P : Int)), some (.inl (P0 : Int)), some (.inl (pass + 1)), none, none] [] m (vm_qi Q)) :
    ∀ (j : Nat) (k : Int) (P : Nat), k + (j : Int) = n → 0 ≤ k → P < 65536 → (∀ u, P.testBit u = true → O.testBit u = true) → (∀ u, P0.testBit u = true → P.testBit u = true) → (P = P0 → ∀ i : Int, 0 ≤ i → i < k → gd L m O P i) →
    vm_ex G (d + 2) mX5_partOf 30 [some (.inr (.inr 6)), some (.inl L), some (.inl (O : Int)), some (.inl (P : Int)), some (.inl (P0 : Int)), some (.inl pass), some (.inl k), none] [] m (vm_qi Q)
  | 0, k, P, hk, k0, hP, hPO, hPP, hg => by
    have e8 := hR.1
    have hb := hR.2.1
    have ek : k = n := by omega
    subst ek
    exact qX5_partOf_30 ⟨⟨by omega, by omega⟩, ⟨by omega, by omega⟩, fun _ => hQ P hP hPO hPP hg, fun h => by omega⟩
  | j + 1, k, P, hk, k0, hP, hPO, hPP, hg => by
    have e8 := hR.1
    have hb := hR.2.1
    have hw := hR.2.2 k k0 (by omega)
    have hmask := hw.2.2.1.2.2.1
    have emn : m 18 k = ((m 18 k).toNat : Int) := by omega
    have hMl : (m 18 k).toNat < 65536 := by omega
    have hJ : (m 18 k).toNat &&& O < 65536 := Nat.lt_of_le_of_lt Nat.and_le_left hMl
    have eJ : vm_and (m 18 k) (O : Int) = (((m 18 k).toNat &&& O : Nat) : Int) := by
      have := zz_and (m 18 k).toNat O (by omega) (by omega)
      rwa [← emn] at this
    have az := and_zero (a := (m 18 k).toNat &&& O) (b := P) (by omega) (by omega)
    have aR := and_R (a := (m 18 k).toNat &&& O) (b := P) hJ (by omega)
    obtain ⟨r, er, r1, r2, r3⟩ := zz_andn ((m 18 k).toNat &&& O) P (by omega) (by omega)
    have hgo : gd L m O P k → vm_ex G (d + 2) mX5_partOf 30 [some (.inr (.inr 6)), some (.inl L), some (.inl (O : Int)), some (.inl (P : Int)), some (.inl (P0 : Int)), some (.inl pass), some (.inl (k + 1)), none] [] m (vm_qi Q) := fun hgd =>
      cs_partOf_30 hL hN hR hO h0 hQ j (k + 1) P (by omega) (by omega) hP hPO hPP (fun e i i0 i1 => by
        by_cases ek : i = k
        · subst ek; exact hgd
        · exact hg e i i0 (by omega))
    refine qX5_partOf_30 ⟨⟨by omega, by omega⟩, ⟨by omega, by omega⟩, fun h => by omega, fun _ => ⟨⟨by omega, by omega⟩, ?_⟩⟩
    rw [eJ]
    refine ⟨aR, fun hz => hgo (Or.inl fun u ⟨a, b, c⟩ => ?_), fun hnz => ?_⟩
    · rw [az] at hz
      exact hz u ⟨by rw [Nat.testBit_and, a, b]; rfl, c⟩
    · rw [er]
      refine ⟨⟨by omega, by omega⟩, fun hz => hgo (Or.inr (Or.inl fun u a b => ?_)), fun hn2 => ?_⟩
      · have hz : r = 0 := by omega
        have := r3 u
        rw [hz, Nat.zero_testBit, Nat.testBit_and, a, b] at this
        cases h : P.testBit u
        · rw [h] at this; simp at this
        · rfl
      · refine cs_isSure hL ⟨k0, by omega⟩ hN hw (fun s hs => ⟨fun e => hgo (Or.inr (Or.inr (hs e))), fun _ => ?_⟩)
        rw [zz_or P _ (by omega) (by omega)]
        obtain ⟨u, hu⟩ := Nat.exists_testBit_of_ne_zero (show r ≠ 0 by omega)
        have hbu := r3 u
        rw [hu] at hbu
        have hb1 : ((m 18 k).toNat &&& O).testBit u = true ∧ P.testBit u = false := by
          have hbu := hbu.symm
          rw [Bool.and_eq_true] at hbu
          exact ⟨hbu.1, by simpa using hbu.2⟩
        refine cs_partOf_30 hL hN hR hO h0 hQ j (k + 1) _ (by omega) (by omega) (zz_or_lt 16 hP hJ) (fun v hv => ?_) (fun v hv => ?_) (fun e => ?_)
        · rw [Nat.testBit_or, Bool.or_eq_true, Nat.testBit_and, Bool.and_eq_true] at hv
          exact hv.elim (hPO v) fun h => h.2
        · rw [Nat.testBit_or, hPP v hv]; rfl
        · exfalso
          have h1 : P0.testBit u = true := by rw [← e, Nat.testBit_or, hb1.1]; simp
          have h2 := hPP u h1
          rw [hb1.2] at h2
          simp at h2
theorem cs_partOf {O : Nat} {Q : vm_M → Int → Prop} (hL : 0 ≤ L ∧ L ≤ 16) (hN : NE L m) (hR : RW m n) (hO : O < 65536) (hO0 : O ≠ 0) (hQ : ∀ P : Nat, P < 65536 → P ≠ 0 → (∀ u, P.testBit u = true → O.testBit u = true) → (∀ i : Int, 0 ≤ i → i < n → gd L m O P i) → Q m (P : Int)) : vm_ci G (d + 2) mX5_partOf [.inr (.inr 6), .inl L, .inl (O : Int)] m Q := by
  obtain ⟨P, e, p1, p2, p3⟩ := vm_low (O := O) (by omega) hO
  refine qX5_partOf ?_
  rw [e]
  have key : ∀ (j : Nat) (i : Int) (P B : Nat), i + (j : Int) = 16 → 0 ≤ i → P < 65536 → P ≠ 0 → B < 65536 → (∀ u, P.testBit u = true → O.testBit u = true) → (P = B → ∀ i : Int, 0 ≤ i → i < n → gd L m O P i) → (P ≠ B → i + 1 ≤ pop P) → vm_ex G (d + 2) mX5_partOf 11 [some (.inr (.inr 6)), some (.inl L), some (.inl (O : Int)), some (.inl (P : Int)), some (.inl (B : Int)), some (.inl i), none, none] [] m (vm_qi Q) := by
    intro j
    induction j with
    | zero =>
      intro i P B hi i0 hP hP0 hB hPO hg hp
      have := pop_bd P
      have : P = B := Classical.byContradiction fun z => by have := hp z; omega
      exact qX5_partOf_11 ⟨⟨by omega, by omega⟩, fun _ => hQ P hP hP0 hPO (hg this), fun h => by omega⟩
    | succ j ih =>
      intro i P B hi i0 hP hP0 hB hPO hg hp
      refine qX5_partOf_11 ⟨⟨by omega, by omega⟩, fun h => by omega, fun _ => ⟨⟨by omega, by omega⟩, ⟨by omega, by omega⟩, fun h => hQ P hP hP0 hPO (hg (by omega)), fun h => ?_⟩⟩
      have hp := hp (by omega)
      have n0 := hR.2.1
      refine cs_partOf_30 hL hN hR hO hP0 (fun P' h1 h2 h3 h4 => ?_) n.toNat 0 P (by omega) (by decide) hP hPO (fun u hu => hu) (fun _ i a b => by omega)
      refine ih (i + 1) P' P (by omega) (by omega) h1 (fun z => ?_) hP h2 h4 (fun hne => ?_)
      · obtain ⟨u, hu⟩ := Nat.exists_testBit_of_ne_zero hP0
        have := h3 u hu
        rw [z, Nat.zero_testBit] at this
        simp at this
      · have : ∃ u, P'.testBit u = true ∧ P.testBit u = false := Classical.byContradiction fun hno => hne (Nat.eq_of_testBit_eq fun u => by
          cases a : P'.testBit u <;> cases b : P.testBit u
          · rfl
          · have := h3 u b; rw [a] at this; simp at this
          · exact absurd ⟨u, a, b⟩ hno
          · rfl)
        obtain ⟨u, a, b⟩ := this
        have := pop_lt h3 (bit_lt16 h1 a) b a
        omega
  have n0 := hR.2.1
  exact key 16 0 P 0 (by decide) (by decide) p1 p2 (by decide) p3 (fun h => absurd h p2) (fun _ => by have := pop_pos p1 p2; omega)
end PTO
