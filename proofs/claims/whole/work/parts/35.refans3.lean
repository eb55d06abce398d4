/-! THE REFERENCE'S ANSWERS: the least solution, how many there are -/
section RC
variable {G : vm_G} {d : Nat} {m : vm_M}
/-- what findFirst() has, ahead of the count k -/
def ff_ok (m mk : vm_M) (k : Nat) : Prop := (∀ j : Int, 0 ≤ j → j < (k : Int) → 0 ≤ mk 35 j ∧ mk 35 j ≤ m 25 0) ∧ (∀ g, lx (m 25) k g ↔ sl (m 25) (st_all (m 25)) g ∧ ∀ j : Int, 0 ≤ j → j < (k : Int) → g j = mk 35 j) ∧ ∃ g, lx (m 25) k g
theorem cm_findFirst_15 {Q : vm_M → Prop} {k : Nat} (ok : st_ok (m 25)) (hk : k < 12)
    (hN : ∀ mk : vm_M, rf_F2 m mk → ff_ok m mk (k + 1) → vm_ex G (d + 11) mX8_findFirst 2 [some (.inr (.inr 24)), some (.inl ((k : Int) + 1))] [] mk (vm_qn Q)) :
    ∀ (n : Nat) (mk : vm_M), m 25 0 - mk 35 (k : Int) + 1 = (n : Int) → rf_F2 m mk → ff_ok m mk k → 0 ≤ mk 35 (k : Int) → (∀ g, lx (m 25) k g → mk 35 (k : Int) ≤ g (k : Int)) →
    vm_ex G (d + 11) mX8_findFirst 15 [some (.inr (.inr 24)), some (.inl (k : Int))] [] mk (vm_qn Q) := by
  intro n
  induction n with
  | zero =>
    intro mk hn F ⟨f1, f2, g0, hg0⟩ h0 hlow
    have h1 := hlow g0 hg0
    have h2 := (lx_has hg0).1 (k : Int) (by omega) (by omega)
    omega
  | succ n ih =>
    intro mk hn F ⟨f1, f2, g0, hg0⟩ h0 hlow
    have hlow0 := hlow g0 hg0
    have hbx0 := (lx_has hg0).1 (k : Int) (by omega) (by omega)
    refine qX8_findFirst_15 (cm_isSolvedFrom (d := d) (by rw [F.st]; exact ok) (by omega) (fun j j0 j1 => ?_) (fun m1 b F1 hb => ⟨fun z => ?_, fun z => ⟨by omega, fun m4 e4 => ?_⟩⟩))
    · rw [F.st]
      by_cases e : j = (k : Int)
      · subst e; omega
      · exact f1 j j0 (by omega)
    · rw [F.st] at hb
      obtain ⟨g1, a1, a2⟩ := hb.mp z
      have hg1 : lx (m 25) k g1 := (f2 g1).mpr ⟨a1, fun j j0 j1 => a2 j j0 (by omega)⟩
      have e1 := a2 (k : Int) (by omega) (Int.le_refl _)
      have e35 : m1 35 = mk 35 := F1.first
      refine hN m1 (F.trans F1.two) ⟨fun j j0 j1 => ?_, fun g => ?_, g1, hg1, fun g' hg' => by rw [e1]; exact hlow g' hg'⟩
      · rw [e35]
        by_cases e : j = (k : Int)
        · subst e; omega
        · exact f1 j j0 (by omega)
      · rw [e35]
        constructor
        · rintro ⟨b1, b2⟩
          obtain ⟨c1, c2⟩ := (f2 g).mp b1
          refine ⟨c1, fun j j0 j1 => ?_⟩
          by_cases e : j = (k : Int)
          · subst e
            have := b2 g1 hg1
            have := hlow g b1
            omega
          · exact c2 j j0 (by omega)
        · rintro ⟨b1, b2⟩
          refine ⟨(f2 g).mpr ⟨b1, fun j j0 j1 => b2 j j0 (by omega)⟩, fun g' hg' => ?_⟩
          rw [b2 (k : Int) (by omega) (by omega)]
          exact hlow g' hg'
    · rw [F.st] at hb
      have e35 : m1 35 = mk 35 := F1.first
      have e4k : m4 35 (k : Int) = mk 35 (k : Int) + 1 := by rw [e4, zz_same, e35]
      have e4o : ∀ j : Int, j ≠ (k : Int) → m4 35 j = mk 35 j := fun j hj => by rw [e4, zz_other (fun w => hj w.2), e35]
      refine ih m4 (by rw [e4k]; omega) ((F.trans F1.two).trans (fun c i h1 h2 => by rw [e4, zz_other (by omega)])) ⟨fun j j0 j1 => by rw [e4o j (by omega)]; exact f1 j j0 j1, fun g => ?_, g0, hg0⟩ (by rw [e4k]; omega) (fun g hg => ?_)
      · rw [f2 g]
        constructor
        · rintro ⟨b1, b2⟩
          exact ⟨b1, fun j j0 j1 => by rw [e4o j (by omega)]; exact b2 j j0 j1⟩
        · rintro ⟨b1, b2⟩
          exact ⟨b1, fun j j0 j1 => by have := b2 j j0 j1; rwa [e4o j (by omega)] at this⟩
      · rw [e4k]
        have h1 := hlow g hg
        by_cases e : g (k : Int) = mk 35 (k : Int)
        · obtain ⟨c1, c2⟩ := (f2 g).mp hg
          have := hb.mpr ⟨g, c1, fun j j0 j1 => by
            by_cases ej : j = (k : Int)
            · subst ej; exact e
            · exact c2 j j0 (by omega)⟩
          rw [z] at this; cases this
        · omega
theorem cm_findFirst_2 {Q : vm_M → Prop} (ok : st_ok (m 25)) (hQ : ∀ mk : vm_M, rf_F2 m mk → ff_ok m mk 12 → Q mk) :
    ∀ (n k : Nat) (mk : vm_M), 12 = k + n → rf_F2 m mk → ff_ok m mk k → vm_ex G (d + 11) mX8_findFirst 2 [some (.inr (.inr 24)), some (.inl (k : Int))] [] mk (vm_qn Q) := by
  intro n
  induction n with
  | zero =>
    intro k mk hk F h
    have : k = 12 := by omega
    subst this
    exact qX8_findFirst_2 ⟨⟨by decide, by decide⟩, fun _ => hQ mk F h, fun h => absurd (by decide) h⟩
  | succ n ih =>
    intro k mk hk F ⟨f1, f2, g0, hg0⟩
    refine qX8_findFirst_2 ⟨⟨by omega, by omega⟩, fun h => absurd h (by omega), fun _ => ⟨by omega, fun m3 e3 => ?_⟩⟩
    have e3k : m3 35 (k : Int) = 0 := by rw [e3, zz_same]
    have e3o : ∀ j : Int, j ≠ (k : Int) → m3 35 j = mk 35 j := fun j hj => by rw [e3, zz_other (fun w => hj w.2)]
    have hst := ok.1
    refine cm_findFirst_15 ok (by omega) (fun m' F' h' => ih (k + 1) m' (by omega) F' h') (m 25 0 + 1).toNat m3 (by rw [e3k]; omega) (F.trans (fun c i h1 h2 => by rw [e3, zz_other (by omega)])) ⟨fun j j0 j1 => by rw [e3o j (by omega)]; exact f1 j j0 j1, fun g => ?_, g0, hg0⟩ (by rw [e3k]; exact Int.le_refl _) (fun g hg => by rw [e3k]; exact ((lx_has hg).1 (k : Int) (by omega) (by omega)).1)
    rw [f2 g]
    constructor
    · rintro ⟨b1, b2⟩
      exact ⟨b1, fun j j0 j1 => by rw [e3o j (by omega)]; exact b2 j j0 j1⟩
    · rintro ⟨b1, b2⟩
      exact ⟨b1, fun j j0 j1 => by have := b2 j j0 j1; rwa [e3o j (by omega)] at this⟩
theorem lx_down {st : Int → Int} {n : Nat} {g : fc_G} : ∀ {k : Nat}, lx st (n + k) g → lx st n g
  | 0, h => h
  | _ + 1, h => lx_down h.1
theorem cm_least {bag kind : Int} {Q : vm_M → Int → Prop} (h1 : vm_R bag) (h2 : vm_R kind) (ok : st_ok (m 25)) (hQ : ∀ (m' : vm_M) (r : Int), rf_F2 m m' → an_least (m 25) bag kind r → Q m' r) : vm_ci G (d + 12) mX8_least [.inr (.inr 24), .inl bag, .inl kind] m Q := by
  refine qX8_least (cm_isBag (d := d + 10) h1 (fun b hb => ⟨fun z => hQ m _ (rf_F.refl m).two (Or.inl ⟨fun w => (by have := hb.mpr w.1; rw [z] at this; cases this), rfl⟩), fun z => cm_isKind (d := d + 10) h2 (fun b2 hb2 => ⟨fun z2 => ?_, fun z2 => hQ m _ (rf_F.refl m).two (Or.inl ⟨fun w => (by have := hb2.mpr w.2; rw [z2] at this; cases this), rfl⟩)⟩)⟩))
  have hbag := hb.mp z
  have hkind := hb2.mp z2
  have hnb : ¬ an_bad bag kind := fun w => w ⟨hbag, hkind⟩
  refine cm_isSolvedNow ok (fun m1 r1 F1 q1 => ⟨fun z1 => ?_, fun z1 => hQ m1 _ F1.two (Or.inr (Or.inl ⟨hnb, fun w => (by have := q1.mpr w; rw [z1] at this; cases this), rfl⟩))⟩)
  obtain ⟨g0, hg0⟩ := q1.mp z1
  have eidx : (((3 * bag + kind).toNat : Nat) : Int) = 3 * bag + kind := Int.toNat_of_nonneg (by omega)
  have := cm_findFirst_2 (G := G) (d := d) (m := m) (Q := fun m7 => (0 ≤ ((3 * bag) + kind) ∧ ((3 * bag) + kind) < 12) ∧ Q m7 (m7 35 ((3 * bag) + kind))) ok (fun mk F ⟨f1, f2, g, hg⟩ => ⟨by omega, hQ mk _ F (Or.inr (Or.inr ⟨hnb, g, ?_, ?_⟩))⟩) 12 0 m1 rfl F1.two ⟨fun j j0 j1 => by omega, fun g => ⟨fun h => ⟨h, fun j j0 j1 => by omega⟩, fun h => h.1⟩, g0, hg0⟩
  · exact qX8_findFirst this
  · have e : 12 = ((3 * bag + kind).toNat + 1) + (11 - (3 * bag + kind).toNat) := by omega
    rw [e] at hg
    exact lx_down hg
  · exact (((f2 g).mp hg).2 (3 * bag + kind) (by omega) (by omega)).symm
end RC
