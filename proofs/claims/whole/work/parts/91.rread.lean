/-! THE REFERENCE READS THE PAD -/
section RRD
variable {G : vm_G} {d : Nat} {m m1 m2 m3 : vm_M} {L : Int} {T : Int → Int} {p r w : Int}
/-- the reading stands at p, in row r; w tells whether it is wrong -/
def QS (L : Int) (T : Int → Int) (m : vm_M) (p r w : Int) : Prop := (m 24 18 = L ∧ (0 ≤ L ∧ L ≤ 80)) ∧ (∀ i : Int, 0 ≤ i → i < L → m 36 i = T i ∧ 33 ≤ T i ∧ T i ≤ 126) ∧ (m 24 19 = p ∧ 0 ≤ p ∧ p ≤ L) ∧ (m 24 21 = r ∧ 0 ≤ r ∧ r ≤ 21) ∧ m 24 20 = w ∧ (w = 0 ∨ w = 1)
def QN (m m' : vm_M) : Prop := ∀ (c : Nat) (i : Int), ¬ (c = 24 ∧ 19 ≤ i ∧ i ≤ 21) → m' c i = m c i
def QE (j : Int) (m m' : vm_M) : Prop := ∀ (c : Nat) (i : Int), ¬ (c = 24 ∧ 19 ≤ i ∧ i ≤ 21) → ¬ (c = 37 ∧ i = j) → m' c i = m c i
def QR (r : Int) (m m' : vm_M) : Prop := ∀ (c : Nat) (i : Int), ¬ (c = 24 ∧ 19 ≤ i ∧ i ≤ 21) → ¬ (c = 37 ∧ 6 * r ≤ i ∧ i < 6 * r + 6) → m' c i = m c i
theorem QN.refl (m : vm_M) : QN m m := fun _ _ _ => rfl
theorem QN.trans (a : QN m m1) (b : QN m1 m2) : QN m m2 := fun c i h => (b c i h).trans (a c i h)
theorem QR.refl (r : Int) (m : vm_M) : QR r m m := fun _ _ _ _ => rfl
theorem QR.trans (a : QR r m m1) (b : QR r m1 m2) : QR r m m2 := fun c i h k => (b c i h k).trans (a c i h k)
theorem QN.qr (a : QN m m1) : QR r m m1 := fun c i h _ => a c i h
theorem QE.qr {j : Int} (a : QE j m m1) (hj : 6 * r ≤ j ∧ j < 6 * r + 6) : QR r m m1 := fun c i h k => a c i h (fun z => k ⟨z.1, by omega⟩)
theorem QS.at {c : Nat} {j v : Int} (h : QS L T m p r w) (hc : c = 37) (e : m1 = vm_up m c j v) : QS L T m1 p r w := by
  subst hc
  have f : ∀ (c : Nat) (i : Int), c ≠ 37 → m1 c i = m c i := fun c i q => by rw [e, zz_other (fun z => q z.1)]
  obtain ⟨h1, h2, h3, h4, h5⟩ := h
  exact ⟨by rw [f 24 18 (by decide)]; exact h1, fun i i0 i1 => by rw [f 36 i (by decide)]; exact h2 i i0 i1, by rw [f 24 19 (by decide)]; exact h3, by rw [f 24 21 (by decide)]; exact h4, by rw [f 24 20 (by decide)]; exact h5⟩
/-- the place is moved on -/
theorem QS.mv (h : QS L T m p r w) (hp : p < L) (e : m1 = vm_up m 24 19 (m 24 19 + 1)) : QS L T m1 (p + 1) r w ∧ QN m m1 := by
  have f : ∀ (c : Nat) (i : Int), ¬ (c = 24 ∧ i = 19) → m1 c i = m c i := fun c i q => by rw [e, zz_other q]
  obtain ⟨h1, h2, h3, h4, h5⟩ := h
  exact ⟨⟨by rw [f 24 18 (by simp)]; exact h1, fun i i0 i1 => by rw [f 36 i (by simp)]; exact h2 i i0 i1, by rw [e, zz_same]; omega, by rw [f 24 21 (by simp)]; exact h4, by rw [f 24 20 (by simp)]; exact h5⟩, fun c i q => f c i (by omega)⟩
theorem QS.wr {v : Int} (h : QS L T m p r w) (hv : v = 0 ∨ v = 1) (e : m1 = vm_up m 24 20 v) : QS L T m1 p r v ∧ QN m m1 := by
  have f : ∀ (c : Nat) (i : Int), ¬ (c = 24 ∧ i = 20) → m1 c i = m c i := fun c i q => by rw [e, zz_other q]
  obtain ⟨h1, h2, h3, h4, h5⟩ := h
  exact ⟨⟨by rw [f 24 18 (by simp)]; exact h1, fun i i0 i1 => by rw [f 36 i (by simp)]; exact h2 i i0 i1, by rw [f 24 19 (by simp)]; exact h3, by rw [f 24 21 (by simp)]; exact h4, by rw [e, zz_same], hv⟩, fun c i q => f c i (by omega)⟩
theorem QS.st (h : QS L T m p r w) (e : m1 = vm_up m 24 19 (m 24 19 + 0)) : QS L T m1 p r w ∧ QN m m1 := by
  have f : ∀ (c : Nat) (i : Int), ¬ (c = 24 ∧ i = 19) → m1 c i = m c i := fun c i q => by rw [e, zz_other q]
  obtain ⟨h1, h2, h3, h4, h5⟩ := h
  exact ⟨⟨by rw [f 24 18 (by simp)]; exact h1, fun i i0 i1 => by rw [f 36 i (by simp)]; exact h2 i i0 i1, by rw [e, zz_same]; omega, by rw [f 24 21 (by simp)]; exact h4, by rw [f 24 20 (by simp)]; exact h5⟩, fun c i q => f c i (by omega)⟩
theorem cm_next {Q : vm_M → Int → Prop} (h : QS L T m p r w) (hE : L ≤ p → Q m 0) (hT : p < L → 33 ≤ T p ∧ T p ≤ 126 → Q m (T p)) : vm_ci G d mX8_next [.inr (.inr 24)] m Q := by
  obtain ⟨h1, h2, h3, h4, h5⟩ := h
  refine qX8_next ⟨⟨by omega, by omega⟩, ⟨by omega, by omega⟩, fun z => hE (by omega), fun z => ⟨by omega, ?_⟩⟩
  have t := h2 p h3.2.1 (by omega)
  rw [h3.1, t.1]
  exact hT (by omega) t.2
theorem cm_enter {k v : Int} {Q : vm_M → Prop} (h : QS L T m p r w) (hk : 0 ≤ k ∧ k ≤ 5) (hQ : ∀ m', QE (6 * r + k) m m' → m' 37 (6 * r + k) = v → QS L T m' p r w → m' 24 = m 24 → Q m') : vm_cn G d mX8_enter [.inr (.inr 24), .inl k, .inl v] m Q := by
  have hr := h.2.2.2.1
  refine qX8_enter ?_
  rw [hr.1]
  refine ⟨by omega, fun m2 e2 => hQ m2 (fun c i _ q => by rw [e2, zz_other q]) (by rw [e2, zz_same]) (h.at rfl e2) (by rw [e2]; exact zz_cell (by decide))⟩
theorem cm_takeSign {s : Int} {Q : vm_M → Prop} (h : QS L T m p r w) (hs : 33 ≤ s ∧ s ≤ 126) (hW : (w = 1 ∨ ¬ okc L T s s p) → ∀ m', QN m m' → QS L T m' p r 1 → Q m') (hT : w = 0 → okc L T s s p → ∀ m', QN m m' → QS L T m' (p + 1) r 0 → Q m') : vm_cn G (d + 1) mX8_takeSign [.inr (.inr 24), .inl s] m Q := by
  have hw := h.2.2.2.2
  have bad : (w = 1 ∨ ¬ okc L T s s p) → ∀ m2, m2 = vm_up m 24 20 1 → (vm_R (m2 24 20)) ∧ (((m2 24 20) = 0 → (∀ m4, m4 = vm_up m2 24 19 ((m2 24 19) + 1) → Q m4)) ∧ (¬ (m2 24 20) = 0 → (∀ m5, m5 = vm_up m2 24 19 ((m2 24 19) + 0) → Q m5))) := fun hb m2 e2 => by
    have s2 := h.wr (Or.inr rfl) e2
    have e20 := s2.1.2.2.2.2.1
    rw [e20]
    refine ⟨⟨by decide, by decide⟩, fun z => absurd z (by decide), fun _ m5 e5 => ?_⟩
    have s5 := s2.1.st e5
    exact hW hb m5 (s2.2.trans s5.2) s5.1
  refine qX8_takeSign ⟨⟨by omega, by omega⟩, fun z m2 e2 => bad (Or.inl (by omega)) m2 e2, fun z => cm_next h (fun hp => ⟨⟨by decide, by decide⟩, ⟨by omega, by omega⟩, fun z2 => by omega, fun _ m14 e14 => bad (Or.inr (fun q => by omega)) m14 e14⟩) (fun hp ht => ⟨⟨by omega, by omega⟩, ⟨by omega, by omega⟩, fun z2 m10 e10 => ?_, fun z2 m14 e14 => bad (Or.inr (fun q => by omega)) m14 e14⟩)⟩
  have s10 := h.wr (Or.inl rfl) e10
  have e20 := s10.1.2.2.2.2.1
  rw [e20]
  refine ⟨⟨by decide, by decide⟩, fun _ m12 e12 => ?_, fun z => absurd rfl z⟩
  have s12 := s10.1.mv hp e12
  exact hT (by omega) ⟨hp, by omega, by omega⟩ m12 (s10.2.trans s12.2) s12.1
theorem cm_takeOne {k a b : Int} {Q : vm_M → Prop} (h : QS L T m p r w) (hk : 0 ≤ k ∧ k ≤ 5) (hab : 33 ≤ a ∧ a ≤ 126 ∧ 33 ≤ b ∧ b ≤ 126) (hW : (w = 1 ∨ ¬ okc L T a b p) → ∀ m', QN m m' → QS L T m' p r 1 → Q m') (hT : w = 0 → okc L T a b p → ∀ m', QE (6 * r + k) m m' → m' 37 (6 * r + k) = T p - a → QS L T m' (p + 1) r 0 → Q m') : vm_cn G (d + 1) mX8_takeOne [.inr (.inr 24), .inl k, .inl a, .inl b] m Q := by
  have hw := h.2.2.2.2
  have bad : (w = 1 ∨ ¬ okc L T a b p) → ∀ (R : Prop) m2, m2 = vm_up m 24 20 1 → (vm_R (m2 24 20)) ∧ ((¬ (m2 24 20) = 0 → Q m2) ∧ ((m2 24 20) = 0 → R)) := fun hb R m2 e2 => by
    have s2 := h.wr (Or.inr rfl) e2
    rw [s2.1.2.2.2.2.1]
    exact ⟨⟨by decide, by decide⟩, fun _ => hW hb m2 s2.2 s2.1, fun z => absurd z (by decide)⟩
  refine qX8_takeOne ⟨⟨by omega, by omega⟩, fun z m2 e2 => bad (Or.inl (by omega)) _ m2 e2, fun z => cm_next h (fun hp => cm_in2 ⟨by decide, by decide⟩ ⟨by omega, by omega⟩ ⟨by omega, by omega⟩ (fun n => ⟨fun z => Bool.noConfusion z, fun _ m20 e20 => bad (Or.inr (fun q => by omega)) _ m20 e20⟩) (fun q => by omega)) (fun hp ht => cm_in2 ⟨by omega, by omega⟩ ⟨by omega, by omega⟩ ⟨by omega, by omega⟩ (fun n => ⟨fun z => Bool.noConfusion z, fun _ m20 e20 => bad (Or.inr (fun q => n q.2)) _ m20 e20⟩) (fun q => ⟨fun _ m13 e13 => ?_, fun z => Bool.noConfusion z⟩))⟩
  have s13 := h.wr (Or.inl rfl) e13
  rw [s13.1.2.2.2.2.1]
  refine ⟨⟨by decide, by decide⟩, fun z => absurd rfl z, fun _ => cm_next s13.1 (fun hp2 => by omega) (fun _ _ => cm_enter s13.1 hk (fun m17 f17 v17 s17 _ m19 e19 => ?_))⟩
  have s19 := s17.mv hp e19
  exact hT (by omega) ⟨hp, q.1, q.2⟩ m19 (fun c i p1 p2 => by rw [s19.2 c i p1, f17 c i p1 p2]; exact s13.2 c i p1) (by rw [e19, zz_other (by simp)]; exact v17) s19.1
/-- what a number comes to when it goes wrong -/
def nW (L : Int) (T : Int → Int) (p w p' : Int) : Prop := (w = 1 ∧ p' = p) ∨ (w = 0 ∧ (rNum L T p).1 = -1 ∧ p' = (rNum L T p).2) ∨ (w = 0 ∧ 0 ≤ (rNum L T p).1 ∧ p' = (rNum L T p).2 ∧ p' < L ∧ 48 ≤ T p' ∧ T p' ≤ 57)
theorem cm_takeNumber {k : Int} {Q : vm_M → Prop} (h : QS L T m p r w) (hk : 0 ≤ k ∧ k ≤ 5) (hW : ∀ m' p', QR r m m' → QS L T m' p' r 1 → nW L T p w p' → Q m') (hT : w = 0 → 0 ≤ (rNum L T p).1 → ∀ m', QE (6 * r + k) m m' → m' 37 (6 * r + k) = (rNum L T p).1 → QS L T m' (rNum L T p).2 r 0 → Q m') : vm_cn G (d + 2) mX8_takeNumber [.inr (.inr 24), .inl k] m Q := by
  refine qX8_takeNumber (cm_takeOne (d := d) h hk (by decide) (fun hb m1 f1 s1 => ?_) (fun hw q m1 f1 v1 s1 => ?_))
  · rw [s1.2.2.2.2.1]
    refine ⟨⟨by decide, by decide⟩, fun _ => hW m1 p f1.qr s1 ?_, fun z => absurd z (by decide)⟩
    rcases h.2.2.2.2.2 with z | z
    · have n : ¬ okc L T 48 57 p := hb.resolve_left (by omega)
      have e : rNum L T p = (-1, p) := by unfold rNum; rw [if_neg n]
      exact Or.inr (Or.inl ⟨z, by rw [e], by rw [e]⟩)
    · exact Or.inl ⟨z, rfl⟩
  · have hr := s1.2.2.2.1
    rw [s1.2.2.2.2.1, hr.1, v1]
    have done : (T p - 48 = 0 ∨ ¬ okc L T 48 57 (p + 1)) → Q m1 := fun hh => by
      have e : rNum L T p = (T p - 48, p + 1) := by
        unfold rNum
        rw [if_pos q]
        by_cases z : T p = 49
        · rw [if_pos z, if_neg (fun y => by
            rcases hh with hh | hh
            · omega
            · exact hh ⟨y.1, y.2.1, by omega⟩), z]
          rfl
        · rw [if_neg z]
      exact hT hw (by rw [e]; show 0 ≤ T p - 48; omega) m1 f1 (by rw [e]; exact v1) (by rw [e]; exact s1)
    refine ⟨⟨by decide, by decide⟩, fun z => absurd rfl z, fun _ => ⟨by omega, ⟨by omega, by omega⟩, fun z => done (Or.inl z), fun hz => cm_next s1 (fun hp => cm_in2 ⟨by decide, by decide⟩ ⟨by decide, by decide⟩ ⟨by decide, by decide⟩ (fun n => ⟨fun z => Bool.noConfusion z, fun _ => done (Or.inr (fun y => by omega))⟩) (fun y => by omega)) (fun hp ht => cm_in2 ⟨by omega, by omega⟩ ⟨by decide, by decide⟩ ⟨by decide, by decide⟩ (fun n => ⟨fun z => Bool.noConfusion z, fun _ => done (Or.inr (fun y => n y.2))⟩) (fun y => ⟨fun _ => cm_next s1 (fun hp2 => by omega) (fun _ _ => ⟨⟨by omega, by omega⟩, fun hle m13 e13 => ?_, fun hgt m19 e19 => ?_⟩), fun z => Bool.noConfusion z⟩))⟩⟩
    · have s13 := s1.wr (Or.inl rfl) e13
      rw [s13.1.2.2.2.2.1]
      refine ⟨⟨by decide, by decide⟩, fun _ m15 e15 m16 e16 => ?_, fun z => absurd rfl z⟩
      have s15 := s13.1.mv hp e15
      have s16 := s15.1.at rfl e16
      rw [show p + 1 + 1 = p + 2 by omega] at s16
      have e : rNum L T p = (10 + (T (p + 1) - 48), p + 2) := by
        unfold rNum
        rw [if_pos q, if_pos (by omega), if_pos ⟨hp, by omega, by omega⟩]
      refine hT hw (by rw [e]; show 0 ≤ 10 + (T (p + 1) - 48); omega) m16 (fun c i p1 p2 => by rw [e16, zz_other (by omega), s15.2 c i p1, s13.2 c i p1]; exact f1 c i p1 p2) ?_ (by rw [e]; exact s16)
      rw [e16, zz_same, e, v1]
      show 10 * (T p - 48) + T (p + 1) - 48 = 10 + (T (p + 1) - 48)
      omega
    · have s19 := s1.wr (Or.inr rfl) e19
      rw [s19.1.2.2.2.2.1]
      refine ⟨⟨by decide, by decide⟩, fun z => absurd z (by decide), fun _ m23 e23 m24 e24 => ?_⟩
      have s23 := s19.1.st e23
      have s24 := s23.1.at rfl e24
      have e : rNum L T p = (T p - 48, p + 1) := by
        unfold rNum
        rw [if_pos q]
        by_cases z : T p = 49
        · rw [if_pos z, if_neg (fun y => by omega), z]
          rfl
        · rw [if_neg z]
      refine hW m24 (p + 1) (fun c i p1 p2 => by rw [e24, zz_other (by omega), s23.2 c i p1, s19.2 c i p1]; exact f1 c i p1 (by omega)) s24 (Or.inr (Or.inr ⟨hw, by rw [e]; show 0 ≤ T p - 48; omega, by rw [e], hp, y.1, y.2⟩))
/-- what a range comes to when it goes wrong -/
def eW (L : Int) (T : Int → Int) (p w p' : Int) : Prop := (w = 1 ∧ p' = p) ∨ (w = 0 ∧ (rEnd L T (rNum L T p).1 (rNum L T p).2).1 < 0 ∧ p' = (rEnd L T (rNum L T p).1 (rNum L T p).2).2) ∨ (w = 0 ∧ 0 ≤ (rEnd L T (rNum L T p).1 (rNum L T p).2).1 ∧ p' = (rEnd L T (rNum L T p).1 (rNum L T p).2).2 ∧ p' < L ∧ T p' ≠ 59)
theorem cm_takeRange {k : Int} {Q : vm_M → Prop} (h : QS L T m p r w) (hk : 0 ≤ k ∧ k ≤ 4) (hW : ∀ m' p', QR r m m' → QS L T m' p' r 1 → eW L T p w p' → Q m') (hT : w = 0 → 0 ≤ (rEnd L T (rNum L T p).1 (rNum L T p).2).1 → ∀ m', (∀ (c : Nat) (i : Int), ¬ (c = 24 ∧ 19 ≤ i ∧ i ≤ 21) → ¬ (c = 37 ∧ (i = 6 * r + k ∨ i = 6 * r + (k + 1))) → m' c i = m c i) → m' 37 (6 * r + k) = (rNum L T p).1 → m' 37 (6 * r + (k + 1)) = (rEnd L T (rNum L T p).1 (rNum L T p).2).1 → QS L T m' (rEnd L T (rNum L T p).1 (rNum L T p).2).2 r 0 → Q m') : vm_cn G (d + 3) mX8_takeRange [.inr (.inr 24), .inl k] m Q := by
  refine qX8_takeRange (cm_takeNumber (d := d) h (by omega) (fun m1 p' f1 s1 hn => ?_) (fun hw hn m1 f1 v1 s1 => ?_))
  · have hr := s1.2.2.2.1
    rw [hr.1]
    refine ⟨by omega, cm_enter s1 (by omega) (fun m4 f4 v4 s4 _ => ?_)⟩
    rw [s4.2.2.2.2.1]
    refine ⟨⟨by decide, by decide⟩, fun _ => hW m4 p' (f1.trans (f4.qr (by omega))) s4 ?_, fun z => absurd z (by decide)⟩
    rcases hn with ⟨a, b⟩ | ⟨a, b, c⟩ | ⟨a, b, c, e, f, g⟩
    · exact Or.inl ⟨a, b⟩
    · have e : rEnd L T (rNum L T p).1 (rNum L T p).2 = (-1, (rNum L T p).2) := by unfold rEnd; rw [if_neg (by omega)]
      exact Or.inr (Or.inl ⟨a, by rw [e]; show (-1 : Int) < 0; decide, by rw [e]; exact c⟩)
    · have e2 : rEnd L T (rNum L T p).1 (rNum L T p).2 = ((rNum L T p).1, (rNum L T p).2) := by unfold rEnd; rw [if_pos b, if_neg (fun y => by rw [← c] at y; omega)]
      exact Or.inr (Or.inr ⟨a, by rw [e2]; exact b, by rw [e2]; exact c, e, by omega⟩)
  · have hr := s1.2.2.2.1
    rw [hr.1, v1]
    refine ⟨by omega, cm_enter s1 (by omega) (fun m4 f4 v4 s4 e424 => ?_)⟩
    rw [s4.2.2.2.2.1]
    have no : ¬ okc L T 45 45 (rNum L T p).2 → Q m4 := fun n => by
      have e2 : rEnd L T (rNum L T p).1 (rNum L T p).2 = ((rNum L T p).1, (rNum L T p).2) := by unfold rEnd; rw [if_pos hn, if_neg n]
      exact hT hw (by rw [e2]; exact hn) m4 (fun c i p1 p2 => by rw [f4 c i p1 (fun z => p2 ⟨z.1, Or.inr z.2⟩)]; exact f1 c i p1 (fun z => p2 ⟨z.1, Or.inl z.2⟩)) (by rw [f4 37 (6 * r + k) (by simp) (by omega)]; exact v1) (by rw [e2]; exact v4) (by rw [e2]; exact s4)
    refine ⟨⟨by decide, by decide⟩, fun z => absurd rfl z, fun _ => cm_next s4 (fun hp => ⟨⟨by decide, by decide⟩, fun _ => no (fun y => by omega), fun z => absurd z (by decide)⟩) (fun hp ht => ⟨⟨by omega, by omega⟩, fun z => no (fun y => by omega), fun z m10 e10 => ?_⟩)⟩
    have s10 := s4.mv hp e10
    have e2 : rEnd L T (rNum L T p).1 (rNum L T p).2 = rNum L T ((rNum L T p).2 + 1) := by unfold rEnd; rw [if_pos hn, if_pos ⟨hp, by omega, by omega⟩]
    refine cm_takeNumber (d := d) s10.1 (by omega) (fun m11 p' f11 s11 hn11 => hW m11 p' (((f1.qr (by omega)).trans (f4.qr (by omega))).trans (s10.2.qr.trans f11)) s11 ?_) (fun _ hn11 m11 f11 v11 s11 => hT hw (by rw [e2]; exact hn11) m11 (fun c i p1 p2 => by rw [f11 c i p1 (fun z => p2 ⟨z.1, Or.inr z.2⟩), s10.2 c i p1, f4 c i p1 (fun z => p2 ⟨z.1, Or.inr z.2⟩)]; exact f1 c i p1 (fun z => p2 ⟨z.1, Or.inl z.2⟩)) (by rw [f11 37 (6 * r + k) (by simp) (by omega), s10.2 37 (6 * r + k) (by simp), f4 37 (6 * r + k) (by simp) (by omega)]; exact v1) (by rw [e2]; exact v11) (by rw [e2]; exact s11))
    rcases hn11 with ⟨a, b⟩ | ⟨a, b, c⟩ | ⟨a, b, c, e, f, g⟩
    · omega
    · exact Or.inr (Or.inl ⟨hw, by rw [e2]; omega, by rw [e2]; exact c⟩)
    · exact Or.inr (Or.inr ⟨hw, by rw [e2]; exact b, by rw [e2]; exact c, e, by omega⟩)
end RRD
