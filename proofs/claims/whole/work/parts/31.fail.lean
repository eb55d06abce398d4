/-! A FACT THAT CAN FAIL -/
/-- a fact as fact() takes it -/
def fc_v (t : fc_T) : Prop := match t with
  | (f, a, b, c, d, e) => (0 ≤ a ∧ a ≤ 3) ∧
    ((f = 0 ∧ (0 ≤ b ∧ b ≤ 2) ∧ (0 ≤ c ∧ c ≤ d ∧ d ≤ 6) ∧ e = 0) ∨ (f = 1 ∧ (0 ≤ b ∧ b ≤ c ∧ c ≤ 18) ∧ d = 0 ∧ e = 0) ∨
     ((f = 2 ∨ f = 3 ∨ f = 4) ∧ (0 ≤ b ∧ b ≤ 3) ∧ (0 ≤ c ∧ c ≤ 3) ∧ d = 0 ∧ e = 0) ∨ (f = 5 ∧ (0 ≤ b ∧ b ≤ 3) ∧ c = 0 ∧ d = 0 ∧ e = 0) ∨
     (f = 6 ∧ (0 ≤ b ∧ b ≤ 2) ∧ (0 ≤ c ∧ c ≤ 3) ∧ (0 ≤ d ∧ d ≤ 2) ∧ (-6 ≤ e ∧ e ≤ 6)))
theorem fc_v_wf {t : fc_T} (h : fc_v t) : fc_wf t := by
  obtain ⟨f, a, b, c, d, e⟩ := t
  obtain ⟨h1, h2⟩ := h
  simp only [fc_wf]
  omega
/-- facts of one kind of saying -/
theorem fc_holds_one {f a b c d e : Int} (hf : f = 0 ∨ f = 1 ∨ f = 6 ∨ f = 7 ∨ f = 8) (g : fc_G) : fc_holds (f, a, b, c, d, e) g ↔ fc_at (f, a, b, c, d, e) 0 g := by
  constructor
  · intro h; exact h 0 (by decide) (by decide)
  · intro h k _ _
    simp only [fc_at] at h ⊢
    rcases hf with rfl | rfl | rfl | rfl | rfl <;> exact h
section FL
variable {G : vm_G} {d : Nat} {m : vm_M}
theorem cm_in {v l h : Int} {Q : vm_M → Bool → Prop} (hv : vm_R v) (hl : vm_R l) (hh : vm_R h) (hQ : ∀ b : Bool, (b = true ↔ l ≤ v ∧ v ≤ h) → Q m b) : vm_cb G d mX8_in [.inl v, .inl l, .inl h] m Q :=
  qX8_in ⟨hv, hl, fun h1 => hQ false ⟨fun z => Bool.noConfusion z, fun z => by omega⟩, fun h1 => ⟨hh, fun h2 => hQ false ⟨fun z => Bool.noConfusion z, fun z => by omega⟩, fun h2 => hQ true ⟨fun _ => by omega, fun _ => rfl⟩⟩⟩
theorem cm_isBag {v : Int} {Q : vm_M → Bool → Prop} (hv : vm_R v) (hQ : ∀ b : Bool, (b = true ↔ 0 ≤ v ∧ v ≤ 3) → Q m b) : vm_cb G (d + 1) mX8_isBag [.inl v] m Q :=
  qX8_isBag (cm_in hv ⟨by decide, by decide⟩ ⟨by decide, by decide⟩ (fun b hb => hQ b hb))
theorem cm_isKind {v : Int} {Q : vm_M → Bool → Prop} (hv : vm_R v) (hQ : ∀ b : Bool, (b = true ↔ 0 ≤ v ∧ v ≤ 2) → Q m b) : vm_cb G (d + 1) mX8_isKind [.inl v] m Q :=
  qX8_isKind (cm_in hv ⟨by decide, by decide⟩ ⟨by decide, by decide⟩ (fun b hb => hQ b hb))
theorem cm_failsAt {set : Nat} {f a b c k : Int} {Q : vm_M → Bool → Prop} (hs : set < 2147483648) (ok : st_ok (m 25)) (ha : 0 ≤ a ∧ a ≤ 3) (hb : 0 ≤ b ∧ b ≤ 3) (hc : 0 ≤ c ∧ c ≤ 3) (hk : 0 ≤ k ∧ k ≤ 2) (hf : f = 2 ∨ f = 3 ∨ f = 4 ∨ f = 5)
    (hQ : ∀ (m' : vm_M) (r : Bool), rf_F m m' → (r = true ↔ ∃ g, sl (m 25) set g ∧ ¬ fc_at (f, a, b, c, 0, 0) k g) → Q m' r) : vm_cb G (d + 12) mX8_failsAt [.inr (.inr 24), .inl (set : Int), .inl f, .inl a, .inl b, .inl c, .inl k] m Q := by
  have w7 : ∀ x y z : Int, (0 ≤ x ∧ x ≤ 3) → (0 ≤ y ∧ y ≤ 3) → (0 ≤ z ∧ z ≤ 3) → fc_wf (7, x, y, z, k, 0) ∧ fc_wf (8, x, y, z, k, 0) := fun x y z hx hy hz => by simp only [fc_wf]; omega
  have w6 : ∀ x y : Int, (0 ≤ x ∧ x ≤ 3) → (0 ≤ y ∧ y ≤ 3) → fc_wf (6, x, k, y, k, 1) := fun x y hx hy => by simp only [fc_wf]; omega
  have h6 : ∀ (x y : Int) (g : fc_G), fc_holds (6, x, k, y, k, 1) g ↔ g (3 * y + k) + 1 ≤ g (3 * x + k) := fun x y g => by
    rw [fc_holds_one (by decide)]; simp [fc_at]
  refine qX8_failsAt ⟨⟨by omega, by omega⟩, fun h => ?_, fun h => ?_, fun h => ?_, fun h => ?_⟩
  · subst h
    have e7 : ∀ g : fc_G, fc_holds (7, a, b, c, k, 0) g ↔ g (3 * a + k) < g (3 * b + k) + g (3 * c + k) := fun g => by rw [fc_holds_one (by decide)]; simp [fc_at]
    have e8 : ∀ g : fc_G, fc_holds (8, a, b, c, k, 0) g ↔ g (3 * b + k) + g (3 * c + k) < g (3 * a + k) := fun g => by rw [fc_holds_one (by decide)]; simp [fc_at]
    have ee : ∀ g : fc_G, ¬ fc_at (2, a, b, c, 0, 0) k g ↔ ¬ g (3 * a + k) = g (3 * b + k) + g (3 * c + k) := fun g => by simp [fc_at]
    refine cm_isSolvedWith hs ok (w7 a b c ha hb hc).1 (fun m1 r1 F1 h1 => ⟨fun t1 => hQ m1 true F1 ⟨fun _ => ?_, fun _ => rfl⟩, fun t1 => ?_⟩)
    · obtain ⟨g, g1, g2⟩ := h1.mp t1
      rw [e7] at g2
      exact ⟨g, g1, by rw [ee]; omega⟩
    · refine cm_isSolvedWith hs (by rw [F1.st]; exact ok) (w7 a b c ha hb hc).2 (fun m2 r2 F2 h2 => ⟨fun t2 => hQ m2 false (F1.trans F2) ⟨fun z => Bool.noConfusion z, fun ⟨g, g1, g2⟩ => ?_⟩, fun t2 => hQ m2 true (F1.trans F2) ⟨fun _ => ?_, fun _ => rfl⟩⟩)
      · rw [ee] at g2
        rw [F1.st] at h2
        rcases Int.lt_or_gt_of_ne g2 with g3 | g3
        · have := h1.mpr ⟨g, g1, (e7 g).mpr g3⟩; rw [t1] at this; cases this
        · have := h2.mpr ⟨g, g1, (e8 g).mpr g3⟩; rw [t2] at this; cases this
      · obtain ⟨g, g1, g2⟩ := h2.mp t2
        rw [F1.st] at g1
        rw [e8] at g2
        exact ⟨g, g1, by rw [ee]; omega⟩
  · subst h
    have ee : ∀ g : fc_G, ¬ fc_at (3, a, b, c, 0, 0) k g ↔ ¬ g (3 * a + k) = max (g (3 * b + k)) (g (3 * c + k)) := fun g => by simp [fc_at]
    refine cm_isSolvedWith hs ok (w6 b a hb ha) (fun m1 r1 F1 h1 => ⟨fun t1 => hQ m1 true F1 ⟨fun _ => ?_, fun _ => rfl⟩, fun t1 => ?_⟩)
    · obtain ⟨g, g1, g2⟩ := h1.mp t1
      rw [h6] at g2
      exact ⟨g, g1, by rw [ee]; omega⟩
    refine cm_isSolvedWith hs (by rw [F1.st]; exact ok) (w6 c a hc ha) (fun m2 r2 F2 h2 => ⟨fun t2 => hQ m2 true (F1.trans F2) ⟨fun _ => ?_, fun _ => rfl⟩, fun t2 => ?_⟩)
    · obtain ⟨g, g1, g2⟩ := h2.mp t2
      rw [F1.st] at g1
      rw [h6] at g2
      exact ⟨g, g1, by rw [ee]; omega⟩
    have F12 := F1.trans F2
    refine cm_isSolvedWithBoth (ab := true) hs (by rw [F12.st]; exact ok) ha hk hb hc (fun m3 r3 F3 h3 => ⟨fun t3 => hQ m3 false (F12.trans F3) ⟨fun z => Bool.noConfusion z, fun ⟨g, g1, g2⟩ => ?_⟩, fun t3 => hQ m3 true (F12.trans F3) ⟨fun _ => ?_, fun _ => rfl⟩⟩)
    · rw [ee] at g2
      rw [F12.st] at h3
      rw [F1.st] at h2
      have n1 : ¬ g (3 * a + k) + 1 ≤ g (3 * b + k) := fun z => by have := h1.mpr ⟨g, g1, (h6 b a g).mpr z⟩; rw [t1] at this; cases this
      have n2 : ¬ g (3 * a + k) + 1 ≤ g (3 * c + k) := fun z => by have := h2.mpr ⟨g, g1, (h6 c a g).mpr z⟩; rw [t2] at this; cases this
      have := h3.mpr ⟨g, g1, by simp only [if_true]; exact (h6 a b g).mpr (by omega), by simp only [if_true]; exact (h6 a c g).mpr (by omega)⟩
      rw [t3] at this; cases this
    · obtain ⟨g, g1, g2, g3⟩ := h3.mp t3
      rw [F12.st] at g1
      simp only [if_true] at g2 g3
      rw [h6] at g2 g3
      exact ⟨g, g1, by rw [ee]; omega⟩
  · subst h
    have ee : ∀ g : fc_G, ¬ fc_at (4, a, b, c, 0, 0) k g ↔ ¬ g (3 * a + k) = min (g (3 * b + k)) (g (3 * c + k)) := fun g => by simp [fc_at]
    refine cm_isSolvedWith hs ok (w6 a b ha hb) (fun m1 r1 F1 h1 => ⟨fun t1 => hQ m1 true F1 ⟨fun _ => ?_, fun _ => rfl⟩, fun t1 => ?_⟩)
    · obtain ⟨g, g1, g2⟩ := h1.mp t1
      rw [h6] at g2
      exact ⟨g, g1, by rw [ee]; omega⟩
    refine cm_isSolvedWith hs (by rw [F1.st]; exact ok) (w6 a c ha hc) (fun m2 r2 F2 h2 => ⟨fun t2 => hQ m2 true (F1.trans F2) ⟨fun _ => ?_, fun _ => rfl⟩, fun t2 => ?_⟩)
    · obtain ⟨g, g1, g2⟩ := h2.mp t2
      rw [F1.st] at g1
      rw [h6] at g2
      exact ⟨g, g1, by rw [ee]; omega⟩
    have F12 := F1.trans F2
    refine cm_isSolvedWithBoth (ab := false) hs (by rw [F12.st]; exact ok) ha hk hb hc (fun m3 r3 F3 h3 => ⟨fun t3 => hQ m3 false (F12.trans F3) ⟨fun z => Bool.noConfusion z, fun ⟨g, g1, g2⟩ => ?_⟩, fun t3 => hQ m3 true (F12.trans F3) ⟨fun _ => ?_, fun _ => rfl⟩⟩)
    · rw [ee] at g2
      rw [F12.st] at h3
      rw [F1.st] at h2
      have n1 : ¬ g (3 * b + k) + 1 ≤ g (3 * a + k) := fun z => by have := h1.mpr ⟨g, g1, (h6 a b g).mpr z⟩; rw [t1] at this; cases this
      have n2 : ¬ g (3 * c + k) + 1 ≤ g (3 * a + k) := fun z => by have := h2.mpr ⟨g, g1, (h6 a c g).mpr z⟩; rw [t2] at this; cases this
      have := h3.mpr ⟨g, g1, by simp only [Bool.false_eq_true, if_false]; exact (h6 b a g).mpr (by omega), by simp only [Bool.false_eq_true, if_false]; exact (h6 c a g).mpr (by omega)⟩
      rw [t3] at this; cases this
    · obtain ⟨g, g1, g2, g3⟩ := h3.mp t3
      rw [F12.st] at g1
      simp only [Bool.false_eq_true, if_false] at g2 g3
      rw [h6] at g2 g3
      exact ⟨g, g1, by rw [ee]; omega⟩
  · have h5 : f = 5 := by omega
    subst h5
    have ee : ∀ g : fc_G, ¬ fc_at (5, a, b, c, 0, 0) k g ↔ ¬ g (3 * a + k) ≤ g (3 * b + k) := fun g => by simp [fc_at]
    refine cm_isSolvedWith hs ok (w6 a b ha hb) (fun m1 r1 F1 h1 => hQ m1 r1 F1 (h1.trans ⟨fun ⟨g, g1, g2⟩ => ⟨g, g1, ?_⟩, fun ⟨g, g1, g2⟩ => ⟨g, g1, ?_⟩⟩))
    · rw [h6] at g2; rw [ee]; omega
    · rw [ee] at g2; rw [h6]; omega
theorem cm_canFail_124 {set : Nat} {f a b c d' e : Int} {Q : vm_M → Bool → Prop} (hs : set < 2147483648) (ok : st_ok (m 25)) (ha : 0 ≤ a ∧ a ≤ 3) (hb : 0 ≤ b ∧ b ≤ 3) (hc : 0 ≤ c ∧ c ≤ 3) (hf : f = 2 ∨ f = 3 ∨ f = 4 ∨ f = 5)
    (hQ : ∀ (m' : vm_M) (r : Bool), rf_F m m' → (r = true ↔ ∃ g, sl (m 25) set g ∧ ¬ fc_holds (f, a, b, c, 0, 0) g) → Q m' r) :
    ∀ (n : Nat) (k : Int) (mk : vm_M) (r : Bool), k = 3 - (n : Int) → n ≤ 3 → rf_F m mk → (r = true → ∃ g, sl (m 25) set g ∧ ¬ fc_holds (f, a, b, c, 0, 0) g) → (r = false → ∀ g, sl (m 25) set g → ∀ j : Int, 0 ≤ j → j < k → fc_at (f, a, b, c, 0, 0) j g) →
    vm_ex G (d + 13) mX8_canFail 124 [some (.inr (.inr 24)), some (.inl (set : Int)), some (.inl f), some (.inl a), some (.inl b), some (.inl c), some (.inl d'), some (.inl e), some (.inl (vm_b2i r)), some (.inl k)] [] mk (vm_qb Q) := by
  intro n
  induction n with
  | zero =>
    intro k mk r hk _ F ht hf0
    refine qX8_canFail_124 ⟨⟨by omega, by omega⟩, fun _ => ⟨r, rfl, hQ mk r F ⟨ht, fun ⟨g, g1, g2⟩ => ?_⟩⟩, fun h => absurd h (by omega)⟩
    cases hr : r with
    | true => rfl
    | false => exact absurd (fun j j0 j1 => hf0 hr g g1 j j0 (by omega)) g2
  | succ n ih =>
    intro k mk r hk hn F ht hf0
    refine qX8_canFail_124 ⟨⟨by omega, by omega⟩, fun h => absurd h (by omega), fun _ => ⟨vm_b2i_R r, fun h => ⟨r, rfl, hQ mk r F ⟨ht, fun _ => vm_b2i_n.mp h⟩⟩, fun h => ?_⟩⟩
    have hr := vm_b2i_0.mp h
    subst hr
    refine cm_failsAt hs (by rw [F.st]; exact ok) ha hb hc (by omega) hf (fun m5 r6 F5 h5 => ih (k + 1) m5 r6 (by omega) (by omega) (F.trans F5) (fun z => ?_) (fun z g g1 j j0 j1 => ?_))
    · obtain ⟨g, g1, g2⟩ := h5.mp z
      rw [F.st] at g1
      exact ⟨g, g1, fun hh => g2 (hh k (by omega) (by omega))⟩
    · by_cases hj : j = k
      · subst hj
        apply Classical.byContradiction
        intro hno
        have := h5.mpr ⟨g, by rw [F.st]; exact g1, hno⟩
        rw [z] at this; cases this
      · exact hf0 rfl g g1 j j0 (by omega)
/-- whether a fact can fail where the facts of a set hold -/
theorem cm_canFail {set : Nat} {f a b c d' e : Int} {Q : vm_M → Bool → Prop} (hs : set < 2147483648) (ok : st_ok (m 25)) (hv : fc_v (f, a, b, c, d', e))
    (hQ : ∀ (m' : vm_M) (r : Bool), rf_F m m' → (r = true ↔ ∃ g, sl (m 25) set g ∧ ¬ fc_holds (f, a, b, c, d', e) g) → Q m' r) : vm_cb G (d + 13) mX8_canFail [.inr (.inr 24), .inl (set : Int), .inl f, .inl a, .inl b, .inl c, .inl d', .inl e] m Q := by
  obtain ⟨ha, hv⟩ := hv
  have two : ∀ (t1 t2 t : fc_T), (∀ g : fc_G, sl (m 25) set g → (¬ fc_holds t g ↔ fc_holds t1 g ∨ fc_holds t2 g)) → ∀ (m1 : vm_M) (r1 : Bool), rf_F m m1 → (r1 = true ↔ ∃ g, sl (m 25) set g ∧ fc_holds t1 g) → (∀ (m' : vm_M) (r : Bool), rf_F m m' → (r = true ↔ ∃ g, sl (m 25) set g ∧ ¬ fc_holds t g) → Q m' r) → ((r1 = true → Q m1 true) ∧ ∀ (m2 : vm_M) (r2 : Bool), r1 = false → rf_F m1 m2 → (r2 = true ↔ ∃ g, sl (m1 25) set g ∧ fc_holds t2 g) → ((r2 = false → Q m2 false) ∧ (r2 = true → Q m2 true))) := by
    intro t1 t2 t he m1 r1 F1 h1 hQ
    refine ⟨fun z => hQ m1 true F1 ⟨fun _ => ?_, fun _ => rfl⟩, fun m2 r2 z F2 h2 => ⟨fun z2 => hQ m2 false (F1.trans F2) ⟨fun q => Bool.noConfusion q, fun ⟨g, g1, g2⟩ => ?_⟩, fun z2 => hQ m2 true (F1.trans F2) ⟨fun _ => ?_, fun _ => rfl⟩⟩⟩
    · obtain ⟨g, g1, g2⟩ := h1.mp z
      exact ⟨g, g1, (he g g1).mpr (Or.inl g2)⟩
    · rcases (he g g1).mp g2 with q | q
      · have := h1.mpr ⟨g, g1, q⟩; rw [z] at this; cases this
      · have := h2.mpr ⟨g, by rw [F1.st]; exact g1, q⟩; rw [z2] at this; cases this
    · obtain ⟨g, g1, g2⟩ := h2.mp z2
      rw [F1.st] at g1
      exact ⟨g, g1, (he g g1).mpr (Or.inr g2)⟩
  have hst := ok.1
  refine qX8_canFail ⟨⟨by omega, by omega⟩, fun h0 => ⟨fun h1 => ⟨fun h6 => ?_, fun h6 => ?_⟩, fun h1 => ?_⟩, fun h0 => ?_⟩
  · have hbc : (0 ≤ b ∧ b ≤ 3) ∧ (0 ≤ c ∧ c ≤ 3) ∧ (f = 2 ∨ f = 3 ∨ f = 4 ∨ f = 5) ∧ d' = 0 ∧ e = 0 := by omega
    obtain ⟨hb, hc, hf, rfl, rfl⟩ := hbc
    have := cm_canFail_124 (G := G) (d := d) (d' := 0) (e := 0) hs ok ha hb hc hf hQ 3 0 m false (by decide) (by decide) (rf_F.refl m) (fun z => Bool.noConfusion z) (fun _ g _ j j0 j1 => by omega)
    exact this
  · subst h6
    have hw : fc_wf (6, c, d', a, b, 1 - e) := by simp only [fc_wf]; omega
    refine cm_isSolvedWith (d := d + 1) hs ok hw (fun m1 r1 F1 q => hQ m1 r1 F1 (q.trans ⟨fun ⟨g, g1, g2⟩ => ⟨g, g1, ?_⟩, fun ⟨g, g1, g2⟩ => ⟨g, g1, ?_⟩⟩))
    · rw [fc_holds_one (by decide)] at g2 ⊢
      simp [fc_at] at g2 ⊢
      omega
    · rw [fc_holds_one (by decide)] at g2 ⊢
      simp [fc_at] at g2 ⊢
      omega
  · subst h1
    have hw1 : fc_wf (1, a, 0, b - 1, 0, 0) := by simp only [fc_wf]; omega
    have hw2 : fc_wf (1, a, c + 1, 18, 0, 0) := by simp only [fc_wf]; omega
    have he : ∀ g : fc_G, sl (m 25) set g → (¬ fc_holds (1, a, b, c, d', e) g ↔ fc_holds (1, a, 0, b - 1, 0, 0) g ∨ fc_holds (1, a, c + 1, 18, 0, 0) g) := fun g hg => by
      rw [fc_holds_one (by decide), fc_holds_one (by decide), fc_holds_one (by decide)]
      have b0 := hg.1 (3 * a) (by omega) (by omega)
      have b1 := hg.1 (3 * a + 1) (by omega) (by omega)
      have b2 := hg.1 (3 * a + 2) (by omega) (by omega)
      simp [fc_at]
      omega
    refine cm_isSolvedWith (d := d + 1) hs ok hw1 (fun m1 r1 F1 q => ?_)
    obtain ⟨q1, q2⟩ := two _ _ _ he m1 r1 F1 q hQ
    exact ⟨q1, fun z => cm_isSolvedWith (d := d + 1) hs (by rw [F1.st]; exact ok) hw2 (fun m2 r2 F2 qq => q2 m2 r2 z F2 qq)⟩
  · subst h0
    have hw1 : fc_wf (0, a, b, 0, c - 1, 0) := by simp only [fc_wf]; omega
    have hw2 : fc_wf (0, a, b, d' + 1, 6, 0) := by simp only [fc_wf]; omega
    have he : ∀ g : fc_G, sl (m 25) set g → (¬ fc_holds (0, a, b, c, d', e) g ↔ fc_holds (0, a, b, 0, c - 1, 0) g ∨ fc_holds (0, a, b, d' + 1, 6, 0) g) := fun g hg => by
      rw [fc_holds_one (by decide), fc_holds_one (by decide), fc_holds_one (by decide)]
      have b0 := hg.1 (3 * a + b) (by omega) (by omega)
      simp [fc_at]
      omega
    refine cm_isSolvedWith (d := d + 1) hs ok hw1 (fun m1 r1 F1 q => ?_)
    obtain ⟨q1, q2⟩ := two _ _ _ he m1 r1 F1 q hQ
    exact ⟨q1, fun z => cm_isSolvedWith (d := d + 1) hs (by rw [F1.st]; exact ok) hw2 (fun m2 r2 F2 qq => q2 m2 r2 z F2 qq)⟩
end FL
