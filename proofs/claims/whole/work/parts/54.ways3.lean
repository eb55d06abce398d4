section WY4
variable {G : vm_G} {d : Nat}
theorem cs_ways_35 {e : Nat} {L n : Int} {m : vm_M} {A lim O : Nat} {Q : vm_M → Int → Prop} (hrec : WAYS G (e + 3) (L + 1)) (hL : 0 ≤ L ∧ L < 16) (hN : NE L m) (hR : RW m n) (hG : WG m) (hK : ∀ i : Int, 0 ≤ i → i < n → OKR L m i) (hU : ufx L m ≤ 16 - L) (hlim : 1 ≤ lim ∧ lim ≤ 500)
    (hO : opn L m A O) (hCO : CL L m n (bc O)) (hQ : ∀ (m' : vm_M) (r : Nat), WF L m m' → cnt (TS L n m O) lim r → Q m' (r : Int)) :
    ∀ (j : Nat) (i : Int) (D R F : Nat) (m1 : vm_M), i + (j : Int) = 16 → 0 ≤ i → WF L m m1 → R < 65536 → (∀ u, O.testBit u = true ↔ D.testBit u = true ∨ R.testBit u = true) → (∀ u, D.testBit u = true → R.testBit u = false) → CL L m n (bc D) → CL L m n (bc R) → 1 ≤ F → cnt (TS L n m D) lim F → pop R + i ≤ 16 →
    vm_ex G (e + 4) mX5_ways 35 [some (.inr (.inr 6)), some (.inl L), some (.inl (A : Int)), some (.inl (lim : Int)), some (.inl (R : Int)), some (.inl (F : Int)), some (.inl i), none, none, none, none, none, none] [] m1 (vm_qi Q) := by
  have fin : ∀ (D F : Nat) (m1 : vm_M), WF L m m1 → (∀ u, O.testBit u = true ↔ D.testBit u = true ∨ (0 : Nat).testBit u = true) → cnt (TS L n m D) lim F → Q m1 (F : Int) := fun D F m1 f hs c => by
    have : D = O := Nat.eq_of_testBit_eq fun u => by
      have := hs u
      rw [Nat.zero_testBit] at this
      cases a : D.testBit u <;> cases b : O.testBit u
      · rfl
      · have := this.mp b; rw [a] at this; simp at this
      · have := this.mpr (Or.inl a); rw [b] at this; simp at this
      · rfl
    subst this
    exact hQ m1 F f c
  have oO : isopen L m O := fun u u1 hu => ((hO.2 u).mp hu).2.1
  intro j
  induction j with
  | zero =>
    intro i D R F m1 hi i0 f hR1 hs hd cD cR hF c hp
    have hR0 : R = 0 := Classical.byContradiction fun z => by have := pop_pos hR1 z; omega
    subst hR0
    exact qX5_ways_35 ⟨⟨by omega, by omega⟩, fun _ => fin D F m1 f hs c, fun h => by omega⟩
  | succ j ih =>
    intro i D R F m1 hi i0 f hR1 hs hd cD cR hF c hp
    have F1 := cnt_le c
    refine qX5_ways_35 ⟨⟨by omega, by omega⟩, fun h => by omega, fun _ => ⟨⟨by omega, by omega⟩, fun hz => ?_, fun hnz => ?_⟩⟩
    · have hR0 : R = 0 := by omega
      subst hR0
      exact fin D F m1 f hs c
    · have N1 := f.ne hN
      have R1 := f.rw' hR
      refine cs_partOf (d := e + 1) (L := L) (by omega) N1 R1 hR1 (by omega) (fun P hP hP0 hPR hg => ?_)
      have hg' : ∀ i : Int, 0 ≤ i → i < n → gd L m R P i := fun i i0 i1 => f.gd' hR i0 i1 (hg i i0 i1)
      have cP := part_cl cR hPR hg'
      have oP : isopen L m P := fun u u1 hu => oO u u1 ((hs u).mpr (Or.inr (hPR u hu)))
      have oD : isopen L m D := fun u u1 hu => oO u u1 ((hs u).mpr (Or.inl hu))
      have dDP : ∀ u, D.testBit u = true → P.testBit u = false := fun u hu => by
        cases h : P.testBit u
        · rfl
        · have := hPR u h; rw [hd u hu] at this; simp at this
      refine cs_choose (L := L) (by omega) N1 (f.wg hG) hP hP0 (fun v hv hPv => ?_)
      obtain ⟨R', eR, _, r2, r3⟩ := zz_andn R P (by omega) (by omega)
      have r3' : ∀ u, R'.testBit u = true ↔ R.testBit u = true ∧ P.testBit u = false := fun u => by
        rw [r3 u, Bool.and_eq_true]
        simp
      have b := hN.1 (v : Int) (by omega) (by omega)
      have hi4 : m1 14 (L * 16 + (v : Int)) = m 14 (L * 16 + (v : Int)) := (f.row (u := (v : Int)) (by omega)).2
      have lo4 : m1 13 (L * 16 + (v : Int)) = m 13 (L * 16 + (v : Int)) := (f.row (u := (v : Int)) (by omega)).1
      rw [eR, hi4, lo4]
      have hw : ∀ w : Nat, (w = if F < lim then lim else 1) → vm_ex G (e + 4) mX5_ways 118 [some (.inr (.inr 6)), some (.inl L), some (.inl (A : Int)), some (.inl (lim : Int)), some (.inl (R' : Int)), some (.inl (F : Int)), some (.inl i), some (.inl (P : Int)), some (.inl (v : Int)), some (.inl (m 14 (L * 16 + (v : Int)))), some (.inl (w : Int)), some (.inl ((0 : Nat) : Int)), some (.inl (m 13 (L * 16 + (v : Int))))] [] m1 (vm_qi Q) := fun w hw => by
        have hw1 : 1 ≤ w ∧ w ≤ 500 := by
          rw [hw]
          split <;> omega
        refine cs_ways_118 (n := n) (m := m) hrec hL hN hR hG hK hU hP cP oP hv hPv hw1 hlim.2 (by omega) (fun m2 a f2 ca => ⟨fun ha => ?_, fun ha => ?_⟩) (m 14 (L * 16 + (v : Int)) + 1 - m 13 (L * 16 + (v : Int))).toNat 0 _ m1 (by omega) (Int.le_refl _) f (cnt_none fun u ⟨t, z⟩ => by have := t.1 (v : Int) (by omega) (by omega); omega)
        · rw [hw] at ca
          have c' := TS_prod hN hR cD cP oD oP dDP c ca hF (by omega)
          refine ih (i + 1) (D ||| P) R' (min lim (F * a)) m2 (by omega) (by omega) f2 (by omega) (fun u => ?_) (fun u hu => ?_) (CL_or cD cP) (rest_cl cR r3' hg') ?_ c' ?_
          · rw [hs u, Nat.testBit_or, Bool.or_eq_true, r3' u]
            constructor
            · rintro (h | h)
              · exact Or.inl (Or.inl h)
              · cases z : P.testBit u
                · exact Or.inr ⟨h, rfl⟩
                · exact Or.inl (Or.inr rfl)
            · rintro ((h | h) | h)
              · exact Or.inl h
              · exact Or.inr (hPR u h)
              · exact Or.inr h.1
          · cases z : R'.testBit u
            · rfl
            · have z := (r3' u).mp z
              rw [Nat.testBit_or, Bool.or_eq_true] at hu
              rcases hu with hu | hu
              · have := hd u hu; rw [z.1] at this; simp at this
              · rw [z.2] at hu; simp at hu
          · have : 1 ≤ F * a := Nat.mul_pos hF (by omega)
            omega
          · have := pop_lt (P := R') (P' := R) (fun u hu => ((r3' u).mp hu).1) hv (by
              cases z : R'.testBit v
              · rfl
              · have := ((r3' v).mp z).2; rw [hPv] at this; simp at this) (hPR v hPv)
            omega
        · subst ha
          refine hQ m2 0 f2 (cnt_none fun h t => ?_)
          have hPO : ∀ u, P.testBit u = true → O.testBit u = true := fun u hu => (hs u).mpr (Or.inr (hPR u hu))
          exact cnt_zero ca (by omega) _ (TS_cut hN hR cP t.1 (fun k k0 k1 ⟨u, u1, hu, hb⟩ => t.2.2.2 k k0 k1 ⟨u, u1, hu, hPO u hb⟩))
      refine ⟨⟨by omega, by omega⟩, ⟨by omega, by omega⟩, ⟨by omega, by omega⟩, fun h => ?_, fun h => ?_⟩
      · exact hw 1 (by rw [if_neg (by omega)])
      · exact hw lim (by rw [if_pos (by omega)])
theorem opn_cl {L n : Int} {m : vm_M} {A O : Nat} (hC : CL L m n (bc A)) (hO : opn L m A O) : CL L m n (bc O) := fun i i0 i1 ⟨u, u1, hu, hb⟩ => by
  have hb := (hO.2 u).mp hb
  rcases hC i i0 i1 ⟨u, u1, hu, hb.2.2⟩ with q | q
  · exact Or.inl q
  · exact Or.inr fun w w1 hw z => (hO.2 w).mpr ⟨w1, z, q w w1 hw z⟩
theorem cs_ways : ∀ (k : Nat) (L : Int), L + (k : Int) = 16 → 0 ≤ L → WAYS G (d + k + 4) L
  | 0, L, hk, h0 => fun m n A lim Q hN hR hG hK hU hA hC hlim hQ => by
    refine qX5_ways (cs_unfixed (L := L) (by omega) hN hA (fun O hO => ⟨⟨by omega, by omega⟩, fun h => by omega, fun _ => ⟨fun h => by omega, fun _ => ⟨⟨by have := hO.1; omega, by have := hO.1; omega⟩, fun hn => ?_, fun hz => ?_⟩⟩⟩))
    · have := ufx_pos hO (by omega)
      omega
    · have : O = 0 := by omega
      subst this
      exact hQ m 0 1 (WF.refl hN) hO (TS_zero hlim.1 hN)
  | k + 1, L, hk, h0 => fun m n A lim Q hN hR hG hK hU hA hC hlim hQ => by
    have hrec : WAYS G (d + (k + 1) + 3) (L + 1) := cs_ways k (L + 1) (by omega) (by omega)
    refine qX5_ways (cs_unfixed (L := L) (by omega) hN hA (fun O hO => ⟨⟨by omega, by omega⟩, fun h => by omega, fun _ => ⟨fun _ => ?_, fun h => by omega⟩⟩))
    have := cs_ways_35 (G := G) (e := d + (k + 1)) (Q := Q) hrec ⟨h0, by omega⟩ hN hR hG hK hU hlim hO (opn_cl hC hO) (fun m' r f c => hQ m' O r f hO c) 16 0 0 O 1 m (by decide) (by decide) (WF.refl hN) hO.1 (fun u => by simp) (fun u hu => by simp at hu) (fun i i0 i1 ⟨u, u1, hu, hb⟩ => by unfold bc at hb; simp at hb) (opn_cl hC hO) (Nat.le_refl 1) (TS_zero hlim.1 hN) (by have := pop_bd O; omega)
    exact this
end WY4
