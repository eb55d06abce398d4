/-! THE CLASS: the search, in a set that nothing joins with the rest -/
section WY3
variable {G : vm_G} {d : Nat}
def WAYS (G : vm_G) (e : Nat) (L : Int) : Prop := ∀ (m : vm_M) (n : Int) (A lim : Nat) (Q : vm_M → Int → Prop), NE L m → RW m n → WG m → (∀ i : Int, 0 ≤ i → i < n → OKR L m i) → ufx L m ≤ 16 - L → A < 65536 → CL L m n (bc A) → (1 ≤ lim ∧ lim ≤ 500) →
  (∀ (m' : vm_M) (O r : Nat), WF L m m' → opn L m A O → cnt (TS L n m O) lim r → Q m' (r : Int)) → vm_ci G e mX5_ways [.inr (.inr 6), .inl L, .inl (A : Int), .inl (lim : Int)] m Q
theorem cnt_le {α : Type} {S : α → Prop} {a r : Nat} (h : cnt S a r) : r ≤ a := by
  obtain ⟨l, _, _, _, le, _⟩ := h
  exact le
theorem cs_ways_118 {e : Nat} {L n : Int} {m : vm_M} {A lim R' F P v w : Nat} {i : Int} {Q : vm_M → Int → Prop} (hrec : WAYS G (e + 3) (L + 1)) (hL : 0 ≤ L ∧ L < 16) (hN : NE L m) (hR : RW m n) (hG : WG m) (hK : ∀ i : Int, 0 ≤ i → i < n → OKR L m i) (hU : ufx L m ≤ 16 - L)
    (hP : P < 65536) (hC : CL L m n (bc P)) (hoP : isopen L m P) (hv : v < 16) (hPv : P.testBit v = true) (hw : 1 ≤ w ∧ w ≤ 500) (hlim : lim ≤ 500) (hF1 : F ≤ 500)
    (hF : ∀ (m1 : vm_M) (a : Nat), WF L m m1 → cnt (TS L n m P) w a → (¬ a = 0 → vm_ex G (e + 4) mX5_ways 35 [some (.inr (.inr 6)), some (.inl L), some (.inl (A : Int)), some (.inl (lim : Int)), some (.inl (R' : Int)), some (.inl ((min lim (F * a) : Nat) : Int)), some (.inl (i + 1)), none, none, none, none, none, none] [] m1 (vm_qi Q)) ∧ (a = 0 → Q m1 0)) :
    ∀ (j a : Nat) (x : Int) (m1 : vm_M), x + (j : Int) = m 14 (L * 16 + (v : Int)) + 1 → m 13 (L * 16 + (v : Int)) ≤ x → WF L m m1 → cnt (fun h => TS L n m P h ∧ h (v : Int) < x) w a →
    vm_ex G (e + 4) mX5_ways 118 [some (.inr (.inr 6)), some (.inl L), some (.inl (A : Int)), some (.inl (lim : Int)), some (.inl (R' : Int)), some (.inl (F : Int)), some (.inl i), some (.inl (P : Int)), some (.inl (v : Int)), some (.inl (m 14 (L * 16 + (v : Int)))), some (.inl (w : Int)), some (.inl (a : Int)), some (.inl x)] [] m1 (vm_qi Q) := by
  have b := hN.1 (v : Int) (by omega) (by omega)
  have hend : ∀ (m1 : vm_M) (a : Nat), WF L m m1 → cnt (TS L n m P) w a → (¬ ((a : Nat) : Int) = 0 → vm_R (lim : Int) ∧ vm_R ((F : Int) * (a : Int)) ∧ vm_ex G (e + 4) mX5_ways 35 [some (.inr (.inr 6)), some (.inl L), some (.inl (A : Int)), some (.inl (lim : Int)), some (.inl (R' : Int)), some (.inl (if (F : Int) * (a : Int) < (lim : Int) then (F : Int) * (a : Int) else (lim : Int))), some (.inl (i + 1)), none, none, none, none, none, none] [] m1 (vm_qi Q)) ∧ (((a : Nat) : Int) = 0 → Q m1 0) := fun m1 a f c => by
    have := cnt_le c
    have hh := hF m1 a f c
    have q : F * a ≤ 500 * 500 := Nat.mul_le_mul hF1 (by omega)
    have e1 : (F : Int) * (a : Int) = ((F * a : Nat) : Int) := by rw [Int.natCast_mul]
    refine ⟨fun h0 => ⟨⟨by omega, by omega⟩, ?_, ?_⟩, fun h0 => hh.2 (by omega)⟩
    · rw [e1]; exact ⟨by omega, by omega⟩
    · have := hh.1 (by omega)
      have e2 : (if (F : Int) * (a : Int) < (lim : Int) then (F : Int) * (a : Int) else (lim : Int)) = ((min lim (F * a) : Nat) : Int) := by
        rw [e1]
        split <;> omega
      rw [e2]
      exact this
  intro j
  induction j with
  | zero =>
    intro a x m1 hx x0 f c
    have := cnt_le c
    have c' : cnt (TS L n m P) w a := cnt_iff c (fun h => ⟨fun t => ⟨t, by have := t.1 (v : Int) (by omega) (by omega); omega⟩, fun t => t.1⟩)
    exact qX5_ways_118 ⟨⟨by omega, by omega⟩, ⟨by omega, by omega⟩, fun _ => ⟨⟨by omega, by omega⟩, hend m1 a f c'⟩, fun h => by omega⟩
  | succ j ih =>
    intro a x m1 hx x0 f c
    have ha := cnt_le c
    refine qX5_ways_118 ⟨⟨by omega, by omega⟩, ⟨by omega, by omega⟩, fun h => by omega, fun _ => ⟨⟨by omega, by omega⟩, ⟨by omega, by omega⟩, fun hwa => hend m1 a f ?_, fun hwa => ?_⟩⟩
    · have e : a = w := by omega
      subst e
      obtain ⟨l, n1, s1, e1, le1, c1⟩ := c
      exact ⟨l, n1, fun u hu => (s1 u hu).1, e1, le1, fun z => absurd z (Nat.lt_irrefl _)⟩
    · have N1 := f.ne hN
      have R1 := f.rw' hR
      have C1 := f.cl hR hC
      have hx1 : m1 13 (L * 16 + (v : Int)) ≤ x ∧ x ≤ m1 14 (L * 16 + (v : Int)) := by
        rw [(f.row (u := (v : Int)) (by omega)).1, (f.row (u := (v : Int)) (by omega)).2]; omega
      have hstep : ∀ (S : fc_G → Prop) (r : Nat) (m3 : vm_M), WF L m m3 → cnt S (w - a) r → (∀ h, S h ↔ TS L n m P h ∧ h (v : Int) = x) → vm_ex G (e + 4) mX5_ways 118 [some (.inr (.inr 6)), some (.inl L), some (.inl (A : Int)), some (.inl (lim : Int)), some (.inl (R' : Int)), some (.inl (F : Int)), some (.inl i), some (.inl (P : Int)), some (.inl (v : Int)), some (.inl (m 14 (L * 16 + (v : Int)))), some (.inl (w : Int)), some (.inl ((a : Int) + (r : Int))), some (.inl (x + 1))] [] m3 (vm_qi Q) := fun S r m3 f3 cs hs => by
        have := ih (a + r) (x + 1) m3 (by omega) (by omega) f3 (cnt_add c (by omega) cs (fun u hu hu2 => by have := ((hs u).mp hu2).2; have := hu.2; omega) (fun u => by
          rw [hs]
          constructor
          · rintro ⟨t, z⟩
            by_cases e : u (v : Int) = x
            · exact Or.inr ⟨t, e⟩
            · exact Or.inl ⟨t, by omega⟩
          · rintro (⟨t, z⟩ | ⟨t, z⟩)
            · exact ⟨t, by omega⟩
            · exact ⟨t, by omega⟩))
        rw [Int.natCast_add] at this
        exact this
      refine cs_fix hL (by omega) (fun mf fx => ?_)
      have Nf := fx.ne N1 hv hx1
      have Rf := fx.rw' R1
      have Cf := fx.cl R1 hv hx1 C1
      have p1 : 2 ^ v < 2 ^ 16 := zz_pow_lt (by omega)
      rw [zz_shl1 (by omega)]
      refine cs_settle (L := L + 1) (X := 2 ^ v) (by omega) Nf Rf Cf (by omega) (fun u hu => ?_) (fun k k0 k1 => fx.okr R1 hv hx1 k0 k1 (f.okr hR k0 k1 (hK k k0 k1))) (fun m2 r st => ?_)
      · rw [Nat.testBit_two_pow, decide_eq_true_eq] at hu
        subst hu
        exact hPv
      · have f2 : WF L m m2 := (f.trans (WF.fx N1 fx)).trans (WF.sw st.1)
        cases r with
        | false =>
          refine ⟨fun _ => ?_, fun h => by simp at h⟩
          have := hstep (fun _ => False) 0 m2 f2 (cnt_none fun u hu => hu) (fun h => ⟨False.elim, fun t => step_no R1 fx hv hx1 st h ⟨(f.ts hR h).mpr t.1, t.2⟩⟩)
          rw [show ((0 : Nat) : Int) = 0 by rfl, Int.add_zero] at this
          exact this
        | true =>
          refine ⟨fun h => by simp at h, fun _ => ?_⟩
          have N2 := st.1.ne Nf
          have R2 := st.1.rw' Rf
          rw [← zz_shl1 (n := v) (by omega), zz_clrI P v (by omega) (by omega), show (w : Int) - (a : Int) = ((w - a : Nat) : Int) by omega]
          refine hrec m2 n (clr P v) (w - a) _ N2 R2 (fun z z0 z1 => ?_) (fun k k0 k1 => (st.2.2 rfl).2.2 k k0 k1) ?_ (Nat.lt_of_le_of_lt (clr_le P v) hP) (step_cl R1 C1 fx hv hx1 st.1) (by omega) (fun m3 O r f3 ho cs => ?_)
          · rw [f2.cell (by decide)]; exact hG z z0 z1
          · have := ufx_next fx st.1 hv (by
              rw [(f.row (u := (v : Int)) (by omega)).1, (f.row (u := (v : Int)) (by omega)).2]
              exact hoP v hv hPv)
            have := f.ufx'
            omega
          · exact hstep _ r m3 (f2.trans f3.deep) cs (fun h => by rw [step_yes R1 C1 fx hv hPv hx1 st ho h, f.ts hR])
end WY3
