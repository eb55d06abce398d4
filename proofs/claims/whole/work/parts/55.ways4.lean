/-! THE CLASS: the search in any set finds something if there is a solution -/
section WY5
variable {G : vm_G} {d : Nat}
def FS (L n : Int) (m : vm_M) (h : fc_G) : Prop := box L m h ∧ ∀ i : Int, 0 ≤ i → i < n → ru_holds m i h
theorem WF.fs {L n : Int} {m m1 : vm_M} (a : WF L m m1) (hR : RW m n) (h : fc_G) : FS L n m1 h ↔ FS L n m h := by
  unfold FS
  rw [a.box]
  exact ⟨fun t => ⟨t.1, fun i i0 i1 => (a.holds hR i0 i1 h).mp (t.2 i i0 i1)⟩, fun t => ⟨t.1, fun i i0 i1 => (a.holds hR i0 i1 h).mpr (t.2 i i0 i1)⟩⟩
def TT : Nat → Prop := fun _ => True
theorem CL_all {L n : Int} {m : vm_M} : CL L m n TT := fun _ _ _ _ => Or.inr fun _ _ _ _ => trivial
def FWAY (G : vm_G) (e : Nat) (L : Int) : Prop := ∀ (m : vm_M) (n : Int) (A lim : Nat) (Q : vm_M → Int → Prop), NE L m → RW m n → WG m → (∀ i : Int, 0 ≤ i → i < n → OKR L m i) → ufx L m ≤ 16 - L → A < 65536 → (1 ≤ lim ∧ lim ≤ 500) →
  (∀ (m' : vm_M) (r : Nat), WF L m m' → r ≤ lim → ((∃ h, FS L n m h) → 1 ≤ r) → Q m' (r : Int)) → vm_ci G e mX5_ways [.inr (.inr 6), .inl L, .inl (A : Int), .inl (lim : Int)] m Q
theorem fs_ways_118 {e : Nat} {L n : Int} {m : vm_M} {A lim R' F P v w : Nat} {i : Int} {Q : vm_M → Int → Prop} (hrec : FWAY G (e + 3) (L + 1)) (hL : 0 ≤ L ∧ L < 16) (hN : NE L m) (hR : RW m n) (hG : WG m) (hK : ∀ i : Int, 0 ≤ i → i < n → OKR L m i) (hU : ufx L m ≤ 16 - L)
    (hP : P < 65536) (hoP : isopen L m P) (hv : v < 16) (hPv : P.testBit v = true) (hw : 1 ≤ w ∧ w ≤ 500) (hlim : lim ≤ 500) (hF1 : F ≤ 500)
    (hF : ∀ (m1 : vm_M) (a : Nat), WF L m m1 → a ≤ w → ((∃ h, FS L n m h) → 1 ≤ a) → (¬ a = 0 → vm_ex G (e + 4) mX5_ways 35 [some (.inr (.inr 6)), some (.inl L), some (.inl (A : Int)), some (.inl (lim : Int)), some (.inl (R' : Int)), some (.inl ((min lim (F * a) : Nat) : Int)), some (.inl (i + 1)), none, none, none, none, none, none] [] m1 (vm_qi Q)) ∧ (a = 0 → Q m1 0)) :
    ∀ (j a : Nat) (x : Int) (m1 : vm_M), x + (j : Int) = m 14 (L * 16 + (v : Int)) + 1 → m 13 (L * 16 + (v : Int)) ≤ x → WF L m m1 → a ≤ w → ((∃ h, FS L n m h ∧ h (v : Int) < x) → 1 ≤ a) →
    vm_ex G (e + 4) mX5_ways 118 [some (.inr (.inr 6)), some (.inl L), some (.inl (A : Int)), some (.inl (lim : Int)), some (.inl (R' : Int)), some (.inl (F : Int)), some (.inl i), some (.inl (P : Int)), some (.inl (v : Int)), some (.inl (m 14 (L * 16 + (v : Int)))), some (.inl (w : Int)), some (.inl (a : Int)), some (.inl x)] [] m1 (vm_qi Q) := by
  have b := hN.1 (v : Int) (by omega) (by omega)
  have hend : ∀ (m1 : vm_M) (a : Nat), WF L m m1 → a ≤ w → ((∃ h, FS L n m h) → 1 ≤ a) → (¬ ((a : Nat) : Int) = 0 → vm_R (lim : Int) ∧ vm_R ((F : Int) * (a : Int)) ∧ vm_ex G (e + 4) mX5_ways 35 [some (.inr (.inr 6)), some (.inl L), some (.inl (A : Int)), some (.inl (lim : Int)), some (.inl (R' : Int)), some (.inl (if (F : Int) * (a : Int) < (lim : Int) then (F : Int) * (a : Int) else (lim : Int))), some (.inl (i + 1)), none, none, none, none, none, none] [] m1 (vm_qi Q)) ∧ (((a : Nat) : Int) = 0 → Q m1 0) := fun m1 a f ha c => by
    have hh := hF m1 a f ha c
    have q : F * a ≤ 500 * 500 := Nat.mul_le_mul hF1 (by omega)
    have e1 : (F : Int) * (a : Int) = ((F * a : Nat) : Int) := by rw [Int.natCast_mul]
    refine ⟨fun h0 => ⟨⟨by omega, by omega⟩, ?_, ?_⟩, fun h0 => hh.2 (by omega)⟩
    · rw [e1]; exact ⟨by omega, by omega⟩
    · have := hh.1 (by omega)
      have e2 : (if (F : Int) * (a : Int) < (lim : Int) then (F : Int) * (a : Int) else (lim : Int)) = ((min lim (F * a) : Nat) : Int) := by
        rw [e1]
        split <;> omega
      rw [e2]
      exact this
  intro j
  induction j with
  | zero =>
    intro a x m1 hx x0 f ha c
    exact qX5_ways_118 ⟨⟨by omega, by omega⟩, ⟨by omega, by omega⟩, fun _ => ⟨⟨by omega, by omega⟩, hend m1 a f ha (fun ⟨h, t⟩ => c ⟨h, t, by have := t.1 (v : Int) (by omega) (by omega); omega⟩)⟩, fun h => by omega⟩
  | succ j ih =>
    intro a x m1 hx x0 f ha c
    refine qX5_ways_118 ⟨⟨by omega, by omega⟩, ⟨by omega, by omega⟩, fun h => by omega, fun _ => ⟨⟨by omega, by omega⟩, ⟨by omega, by omega⟩, fun hwa => hend m1 a f ha (fun _ => by omega), fun hwa => ?_⟩⟩
    have N1 := f.ne hN
    have R1 := f.rw' hR
    have hx1 : m1 13 (L * 16 + (v : Int)) ≤ x ∧ x ≤ m1 14 (L * 16 + (v : Int)) := by
      rw [(f.row (u := (v : Int)) (by omega)).1, (f.row (u := (v : Int)) (by omega)).2]; omega
    have hstep : ∀ (r : Nat) (m3 : vm_M), WF L m m3 → r ≤ w - a → ((∃ h, FS L n m h ∧ h (v : Int) = x) → 1 ≤ r) → vm_ex G (e + 4) mX5_ways 118 [some (.inr (.inr 6)), some (.inl L), some (.inl (A : Int)), some (.inl (lim : Int)), some (.inl (R' : Int)), some (.inl (F : Int)), some (.inl i), some (.inl (P : Int)), some (.inl (v : Int)), some (.inl (m 14 (L * 16 + (v : Int)))), some (.inl (w : Int)), some (.inl ((a : Int) + (r : Int))), some (.inl (x + 1))] [] m3 (vm_qi Q) := fun r m3 f3 hr cs => by
      have := ih (a + r) (x + 1) m3 (by omega) (by omega) f3 (by omega) (fun ⟨h, t, z⟩ => by
        by_cases e : h (v : Int) = x
        · have := cs ⟨h, t, e⟩; omega
        · have := c ⟨h, t, by omega⟩; omega)
      rw [Int.natCast_add] at this
      exact this
    refine cs_fix hL (by omega) (fun mf fx => ?_)
    have Nf := fx.ne N1 hv hx1
    have Rf := fx.rw' R1
    have p1 : 2 ^ v < 2 ^ 16 := zz_pow_lt (by omega)
    have mk : ∀ h, FS L n m h → h (v : Int) = x → box (L + 1) mf h ∧ ∀ i : Int, 0 ≤ i → i < n → ru_holds mf i h := fun h t z =>
      have t1 := (f.fs hR h).mpr t
      ⟨(fx.box hv hx1 h).mpr ⟨t1.1, z⟩, fun i i0 i1 => (fx.holds R1 i0 i1 h).mpr (t1.2 i i0 i1)⟩
    rw [zz_shl1 (by omega)]
    refine cs_settle (L := L + 1) (X := 2 ^ v) (C := TT) (by omega) Nf Rf CL_all (by omega) (fun u hu => trivial) (fun k k0 k1 => fx.okr R1 hv hx1 k0 k1 (f.okr hR k0 k1 (hK k k0 k1))) (fun m2 r st => ?_)
    have f2 : WF L m m2 := (f.trans (WF.fx N1 fx)).trans (WF.sw st.1)
    cases r with
    | false =>
      refine ⟨fun _ => ?_, fun h => by simp at h⟩
      have := hstep 0 m2 f2 (Nat.zero_le _) (fun ⟨h, t, z⟩ => absurd (fun i i0 i1 _ => (mk h t z).2 i i0 i1) (st.2.1 rfl h (mk h t z).1))
      rw [show ((0 : Nat) : Int) = 0 by rfl, Int.add_zero] at this
      exact this
    | true =>
      refine ⟨fun h => by simp at h, fun _ => ?_⟩
      have N2 := st.1.ne Nf
      have R2 := st.1.rw' Rf
      rw [← zz_shl1 (n := v) (by omega), zz_clrI P v (by omega) (by omega), show (w : Int) - (a : Int) = ((w - a : Nat) : Int) by omega]
      refine hrec m2 n (clr P v) (w - a) _ N2 R2 (fun z z0 z1 => ?_) (fun k k0 k1 => (st.2.2 rfl).2.2 k k0 k1) ?_ (Nat.lt_of_le_of_lt (clr_le P v) hP) (by omega) (fun m3 r f3 hr cs => ?_)
      · rw [f2.cell (by decide)]; exact hG z z0 z1
      · have := ufx_next fx st.1 hv (by
          rw [(f.row (u := (v : Int)) (by omega)).1, (f.row (u := (v : Int)) (by omega)).2]
          exact hoP v hv hPv)
        have := f.ufx'
        omega
      · refine hstep r m3 (f2.trans f3.deep) hr (fun ⟨h, t, z⟩ => cs ⟨h, ?_, fun i i0 i1 => (st.1.holds Rf i0 i1 h).mpr ((mk h t z).2 i i0 i1)⟩)
        exact (st.2.2 rfl).1 h (mk h t z).1 (fun i i0 i1 _ => (mk h t z).2 i i0 i1)
theorem fs_ways_35 {e : Nat} {L n : Int} {m : vm_M} {A lim O : Nat} {Q : vm_M → Int → Prop} (hrec : FWAY G (e + 3) (L + 1)) (hL : 0 ≤ L ∧ L < 16) (hN : NE L m) (hR : RW m n) (hG : WG m) (hK : ∀ i : Int, 0 ≤ i → i < n → OKR L m i) (hU : ufx L m ≤ 16 - L) (hlim : 1 ≤ lim ∧ lim ≤ 500)
    (hO : opn L m A O) (hQ : ∀ (m' : vm_M) (r : Nat), WF L m m' → r ≤ lim → ((∃ h, FS L n m h) → 1 ≤ r) → Q m' (r : Int)) :
    ∀ (j : Nat) (i : Int) (R F : Nat) (m1 : vm_M), i + (j : Int) = 16 → 0 ≤ i → WF L m m1 → R < 65536 → (∀ u, R.testBit u = true → O.testBit u = true) → 1 ≤ F → F ≤ lim →
    vm_ex G (e + 4) mX5_ways 35 [some (.inr (.inr 6)), some (.inl L), some (.inl (A : Int)), some (.inl (lim : Int)), some (.inl (R : Int)), some (.inl (F : Int)), some (.inl i), none, none, none, none, none, none] [] m1 (vm_qi Q) := by
  have oO : isopen L m O := fun u u1 hu => ((hO.2 u).mp hu).2.1
  intro j
  induction j with
  | zero =>
    intro i R F m1 hi i0 f hR1 hs hF F1
    exact qX5_ways_35 ⟨⟨by omega, by omega⟩, fun _ => hQ m1 F f F1 (fun _ => hF), fun h => by omega⟩
  | succ j ih =>
    intro i R F m1 hi i0 f hR1 hs hF F1
    refine qX5_ways_35 ⟨⟨by omega, by omega⟩, fun h => by omega, fun _ => ⟨⟨by omega, by omega⟩, fun hz => hQ m1 F f F1 (fun _ => hF), fun hnz => ?_⟩⟩
    have N1 := f.ne hN
    have R1 := f.rw' hR
    refine cs_partOf (d := e + 1) (L := L) (by omega) N1 R1 hR1 (by omega) (fun P hP hP0 hPR hg => ?_)
    have oP : isopen L m P := fun u u1 hu => oO u u1 (hs u (hPR u hu))
    refine cs_choose (L := L) (by omega) N1 (f.wg hG) hP hP0 (fun v hv hPv => ?_)
    obtain ⟨R', eR, _, r2, r3⟩ := zz_andn R P (by omega) (by omega)
    have b := hN.1 (v : Int) (by omega) (by omega)
    have hi4 : m1 14 (L * 16 + (v : Int)) = m 14 (L * 16 + (v : Int)) := (f.row (u := (v : Int)) (by omega)).2
    have lo4 : m1 13 (L * 16 + (v : Int)) = m 13 (L * 16 + (v : Int)) := (f.row (u := (v : Int)) (by omega)).1
    rw [eR, hi4, lo4]
    have hw : ∀ w : Nat, (1 ≤ w ∧ w ≤ 500) → vm_ex G (e + 4) mX5_ways 118 [some (.inr (.inr 6)), some (.inl L), some (.inl (A : Int)), some (.inl (lim : Int)), some (.inl (R' : Int)), some (.inl (F : Int)), some (.inl i), some (.inl (P : Int)), some (.inl (v : Int)), some (.inl (m 14 (L * 16 + (v : Int)))), some (.inl (w : Int)), some (.inl ((0 : Nat) : Int)), some (.inl (m 13 (L * 16 + (v : Int))))] [] m1 (vm_qi Q) := fun w hw1 => by
      refine fs_ways_118 (n := n) (m := m) hrec hL hN hR hG hK hU hP oP hv hPv hw1 hlim.2 (by omega) (fun m2 a f2 ha ca => ⟨fun ha0 => ?_, fun ha0 => ?_⟩) (m 14 (L * 16 + (v : Int)) + 1 - m 13 (L * 16 + (v : Int))).toNat 0 _ m1 (by omega) (Int.le_refl _) f (Nat.zero_le _) (fun ⟨h, t, z⟩ => by have := t.1 (v : Int) (by omega) (by omega); omega)
      · have : 1 ≤ F * a := Nat.mul_pos hF (by omega)
        exact ih (i + 1) R' (min lim (F * a)) m2 (by omega) (by omega) f2 (by omega) (fun u hu => hs u (by
          rw [r3 u, Bool.and_eq_true] at hu
          exact hu.1)) (by omega) (by omega)
      · subst ha0
        exact hQ m2 0 f2 (Nat.zero_le _) (fun t => by have := ca t; omega)
    refine ⟨⟨by omega, by omega⟩, ⟨by omega, by omega⟩, ⟨by omega, by omega⟩, fun h => ?_, fun h => ?_⟩
    · exact hw 1 (by decide)
    · exact hw lim hlim
theorem fs_ways : ∀ (k : Nat) (L : Int), L + (k : Int) = 16 → 0 ≤ L → FWAY G (d + k + 4) L
  | 0, L, hk, h0 => fun m n A lim Q hN hR hG hK hU hA hlim hQ => by
    refine qX5_ways (cs_unfixed (L := L) (by omega) hN hA (fun O hO => ⟨⟨by omega, by omega⟩, fun h => by omega, fun _ => ⟨fun h => by omega, fun _ => ⟨⟨by have := hO.1; omega, by have := hO.1; omega⟩, fun hn => ?_, fun hz => ?_⟩⟩⟩))
    · have := ufx_pos hO (by omega)
      omega
    · exact hQ m 1 (WF.refl hN) hlim.1 (fun _ => Nat.le_refl 1)
  | k + 1, L, hk, h0 => fun m n A lim Q hN hR hG hK hU hA hlim hQ => by
    have hrec : FWAY G (d + (k + 1) + 3) (L + 1) := fs_ways k (L + 1) (by omega) (by omega)
    refine qX5_ways (cs_unfixed (L := L) (by omega) hN hA (fun O hO => ⟨⟨by omega, by omega⟩, fun h => by omega, fun _ => ⟨fun _ => ?_, fun h => by omega⟩⟩))
    exact fs_ways_35 (G := G) (e := d + (k + 1)) (Q := Q) hrec ⟨h0, by omega⟩ hN hR hG hK hU hlim hO hQ 16 0 O 1 m (by decide) (by decide) (WF.refl hN) hO.1 (fun u hu => hu) (Nat.le_refl 1) hlim.1
end WY5
