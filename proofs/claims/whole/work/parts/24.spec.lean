/-! WHAT A FACT SAYS: form, a..e; by kinds k; which counts it speaks of. The forms 7 and 8 are the reference's own: below a sum, above a sum. -/
abbrev fc_T : Type := Int × Int × Int × Int × Int × Int
def fc_at (t : fc_T) (k : Int) (g : fc_G) : Prop := match t with
  | (f, a, b, c, d, e) =>
    if f = 0 then c ≤ g (3 * a + b) ∧ g (3 * a + b) ≤ d
    else if f = 1 then b ≤ g (3 * a) + g (3 * a + 1) + g (3 * a + 2) ∧ g (3 * a) + g (3 * a + 1) + g (3 * a + 2) ≤ c
    else if f = 2 then g (3 * a + k) = g (3 * b + k) + g (3 * c + k)
    else if f = 3 then g (3 * a + k) = max (g (3 * b + k)) (g (3 * c + k))
    else if f = 4 then g (3 * a + k) = min (g (3 * b + k)) (g (3 * c + k))
    else if f = 5 then g (3 * a + k) ≤ g (3 * b + k)
    else if f = 6 then g (3 * c + d) + e ≤ g (3 * a + b)
    else if f = 7 then g (3 * a + d) < g (3 * b + d) + g (3 * c + d)
    else g (3 * b + d) + g (3 * c + d) < g (3 * a + d)
def fc_av (t : fc_T) (k : Int) (v : Int) : Prop := match t with
  | (f, a, b, c, d, _) =>
    if f = 0 then v = 3 * a + b
    else if f = 1 then v = 3 * a ∨ v = 3 * a + 1 ∨ v = 3 * a + 2
    else if f = 2 ∨ f = 3 ∨ f = 4 then v = 3 * a + k ∨ v = 3 * b + k ∨ v = 3 * c + k
    else if f = 5 then v = 3 * a + k ∨ v = 3 * b + k
    else if f = 6 then v = 3 * a + b ∨ v = 3 * c + d
    else v = 3 * a + d ∨ v = 3 * b + d ∨ v = 3 * c + d
def fc_holds (t : fc_T) (g : fc_G) : Prop := ∀ k : Int, 0 ≤ k → k < 3 → fc_at t k g
/-- a fact that the reference's search may be given -/
def fc_wf (t : fc_T) : Prop := match t with
  | (f, a, b, c, d, e) => (0 ≤ f ∧ f ≤ 8) ∧ (0 ≤ a ∧ a ≤ 3) ∧
    (f = 0 → (0 ≤ b ∧ b ≤ 2) ∧ (-10 ≤ c ∧ c ≤ 20) ∧ (-10 ≤ d ∧ d ≤ 20)) ∧
    (f = 1 → (-20 ≤ b ∧ b ≤ 40) ∧ (-20 ≤ c ∧ c ≤ 40)) ∧
    (f = 2 ∨ f = 3 ∨ f = 4 → (0 ≤ b ∧ b ≤ 3) ∧ (0 ≤ c ∧ c ≤ 3)) ∧
    (f = 5 → (0 ≤ b ∧ b ≤ 3)) ∧
    (f = 6 → (0 ≤ b ∧ b ≤ 2) ∧ (0 ≤ c ∧ c ≤ 3) ∧ (0 ≤ d ∧ d ≤ 2) ∧ (-10 ≤ e ∧ e ≤ 10)) ∧
    (f = 7 ∨ f = 8 → (0 ≤ b ∧ b ≤ 3) ∧ (0 ≤ c ∧ c ≤ 3) ∧ (0 ≤ d ∧ d ≤ 2))
theorem fc_at_congr {t : fc_T} {k : Int} {g g' : fc_G} (h : ∀ v, fc_av t k v → g v = g' v) (hg : fc_at t k g) : fc_at t k g' := by
  obtain ⟨f, a, b, c, d, e⟩ := t
  simp only [fc_at, fc_av] at h hg ⊢
  by_cases h0 : f = 0
  · subst h0
    simp only [if_true] at h hg ⊢
    rw [← h _ rfl]; exact hg
  by_cases h1 : f = 1
  · subst h1
    simp only [show ¬ (1 : Int) = 0 by decide, if_true, if_false] at h hg ⊢
    rw [← h (3 * a) (Or.inl rfl), ← h (3 * a + 1) (Or.inr (Or.inl rfl)), ← h (3 * a + 2) (Or.inr (Or.inr rfl))]; exact hg
  by_cases h2 : f = 2
  · subst h2
    simp only [show ¬ (2 : Int) = 0 by decide, show ¬ (2 : Int) = 1 by decide, true_or, if_true, if_false] at h hg ⊢
    rw [← h (3 * a + k) (Or.inl rfl), ← h (3 * b + k) (Or.inr (Or.inl rfl)), ← h (3 * c + k) (Or.inr (Or.inr rfl))]; exact hg
  by_cases h3 : f = 3
  · subst h3
    simp only [show ¬ (3 : Int) = 0 by decide, show ¬ (3 : Int) = 1 by decide, show ¬ (3 : Int) = 2 by decide, true_or, or_true, if_true, if_false] at h hg ⊢
    rw [← h (3 * a + k) (Or.inl rfl), ← h (3 * b + k) (Or.inr (Or.inl rfl)), ← h (3 * c + k) (Or.inr (Or.inr rfl))]; exact hg
  by_cases h4 : f = 4
  · subst h4
    simp only [show ¬ (4 : Int) = 0 by decide, show ¬ (4 : Int) = 1 by decide, show ¬ (4 : Int) = 2 by decide, show ¬ (4 : Int) = 3 by decide, or_true, if_true, if_false] at h hg ⊢
    rw [← h (3 * a + k) (Or.inl rfl), ← h (3 * b + k) (Or.inr (Or.inl rfl)), ← h (3 * c + k) (Or.inr (Or.inr rfl))]; exact hg
  by_cases h5 : f = 5
  · subst h5
    simp only [show ¬ (5 : Int) = 0 by decide, show ¬ (5 : Int) = 1 by decide, show ¬ (5 : Int) = 2 by decide, show ¬ (5 : Int) = 3 by decide, show ¬ (5 : Int) = 4 by decide, or_self, if_true, if_false] at h hg ⊢
    rw [← h (3 * a + k) (Or.inl rfl), ← h (3 * b + k) (Or.inr rfl)]; exact hg
  by_cases h6 : f = 6
  · subst h6
    simp only [show ¬ (6 : Int) = 0 by decide, show ¬ (6 : Int) = 1 by decide, show ¬ (6 : Int) = 2 by decide, show ¬ (6 : Int) = 3 by decide, show ¬ (6 : Int) = 4 by decide, show ¬ (6 : Int) = 5 by decide, or_self, if_true, if_false] at h hg ⊢
    rw [← h (3 * a + b) (Or.inl rfl), ← h (3 * c + d) (Or.inr rfl)]; exact hg
  simp only [h0, h1, h2, h3, h4, h5, h6, or_self, if_false] at h hg ⊢
  rw [← h (3 * a + d) (Or.inl rfl), ← h (3 * b + d) (Or.inr (Or.inl rfl)), ← h (3 * c + d) (Or.inr (Or.inr rfl))]; exact hg
section NB
variable {G : vm_G} {d : Nat} {m m0 : vm_M} {Q : vm_M → Prop} {T : fc_G → Prop} {V : Int → Prop} {B : Int}
/-- what a stable range says of a fact -/
def nr_X (m0 : vm_M) (t : fc_T) : Prop := ∀ k : Int, 0 ≤ k → k < 3 → nr_F m0 (fc_av t k) (fc_at t k)
theorem cm_narrowKind {f a b c a' b' c' k e : Int} (S : nr_S T V m0 m) (D : nr_D V B m) (ha : 0 ≤ a ∧ a < 12) (va : V a) (hb : 0 ≤ b ∧ b < 12) (vb : V b) (hc : f ≠ 5 → 0 ≤ c ∧ c < 12) (vc : f ≠ 5 → V c) (hf : f = 2 ∨ f = 3 ∨ f = 4 ∨ f = 5) (ea : a = 3 * a' + k) (eb : b = 3 * b' + k) (ec : c = 3 * c' + k) (d' : Int) (hT : ∀ g, T g → fc_at (f, a', b', c', d', e) k g) (hB : 20 ≤ B) (hB' : B ≤ 300000000)
    (hQ : ∀ m' : vm_M, nr_S T V m0 m' → nr_D V (5 * B) m' → (m' = m0 → m = m0 ∧ nr_F m0 (fc_av (f, a', b', c', d', e) k) (fc_at (f, a', b', c', d', e) k)) → Q m') : vm_cn G (d + 3) mX8_narrowKind [.inr (.inr 24), .inl f, .inl a, .inl b, .inl c] m Q := by
  subst ea eb ec
  refine qX8_narrowKind ⟨⟨by omega, by omega⟩, fun h2 => ⟨fun h3 => ⟨fun h4 => ?_, fun h4 => ?_⟩, fun h3 => ?_⟩, fun h2 => ?_⟩
  · have h5 : f = 5 := by omega
    subst h5
    refine cm_narrowMore S D hb vb ha va ⟨by decide, by decide⟩ (fun g hg => ?_) (by omega) (by omega) (fun m1 S1 D1 e1 => hQ m1 S1 (D1.up (by omega)) (fun h => ⟨(e1 h).1, fun g hg => ?_⟩))
    · have := hT g hg
      simp [fc_at] at this
      omega
    · have := (e1 h).2 g (fun u hu => hg u (by simp [fc_av]; rcases hu with rfl | rfl <;> simp))
      simp [fc_at]
      omega
  · subst h4
    refine cm_narrowLeast S D ha va hb vb (hc (by decide)) (vc (by decide)) (fun g hg => ?_) hB hB' (fun m1 S1 D1 e1 => hQ m1 S1 D1 (fun h => ⟨(e1 h).1, fun g hg => ?_⟩))
    · have := hT g hg
      simpa [fc_at] using this
    · have := (e1 h).2 g (fun u hu => hg u (by simpa [fc_av] using hu))
      simpa [fc_at] using this
  · subst h3
    refine cm_narrowGreatest S D ha va hb vb (hc (by decide)) (vc (by decide)) (fun g hg => ?_) hB hB' (fun m1 S1 D1 e1 => hQ m1 S1 D1 (fun h => ⟨(e1 h).1, fun g hg => ?_⟩))
    · have := hT g hg
      simpa [fc_at] using this
    · have := (e1 h).2 g (fun u hu => hg u (by simpa [fc_av] using hu))
      simpa [fc_at] using this
  · subst h2
    refine cm_narrowSum S D ha va hb vb (hc (by decide)) (vc (by decide)) (fun g hg => ?_) hB hB' (fun m1 S1 D1 e1 => hQ m1 S1 D1 (fun h => ⟨(e1 h).1, fun g hg => ?_⟩))
    · have := hT g hg
      simpa [fc_at] using this
    · have := (e1 h).2 g (fun u hu => hg u (by simpa [fc_av] using hu))
      simpa [fc_at] using this
theorem nr_S.wide {V W : Int → Prop} {a b : vm_M} (h : nr_S T V a b) (hW : ∀ v, V v → W v) : nr_S T W a b := ⟨fun c i h1 h2 => h.1 c i (fun z => h1 ⟨z.1, z.2.1, hW i z.2.2⟩) h2, h.2⟩
theorem cm_narrowBy_164 {f a b c d' e : Int} (hw : fc_wf (f, a, b, c, d', e)) (hf : f = 2 ∨ f = 3 ∨ f = 4 ∨ f = 5) (hT : ∀ g, T g → fc_holds (f, a, b, c, d', e) g) (hB : 20 ≤ B) (hB' : B ≤ 300000000) {m1 : vm_M} (S0 : nr_S T (fun _ => True) m0 m1)
    (hQ : ∀ m' : vm_M, nr_S T (fun _ => True) m0 m' → nr_D (fun _ => True) (5 * B) m' → (m' = m0 → m1 = m0 ∧ nr_X m0 (f, a, b, c, d', e)) → Q m') :
    ∀ (n : Nat) (k : Int) (m : vm_M), k = 3 - (n : Int) → n ≤ 3 → nr_S T (fun _ => True) m1 m → nr_D (fun v => v % 3 < k) (5 * B) m → nr_D (fun v => k ≤ v % 3) B m → (m = m1 → ∀ j : Int, 0 ≤ j → j < k → nr_F m1 (fc_av (f, a, b, c, d', e) j) (fc_at (f, a, b, c, d', e) j)) →
    vm_ex G (d + 4) mX8_narrowBy 164 [some (.inr (.inr 24)), some (.inl f), some (.inl a), some (.inl b), some (.inl c), some (.inl d'), some (.inl e), some (.inl k)] [] m (vm_qn Q) := by
  obtain ⟨w1, w2, w3, w4, w5, w6, w7, w8⟩ := hw
  intro n
  induction n with
  | zero =>
    intro k m hk _ S D5 D1 hx
    refine qX8_narrowBy_164 ⟨⟨by omega, by omega⟩, fun _ => ?_, fun h => absurd h (by omega)⟩
    refine hQ m (S0.trans S) (fun v h0 h1 _ => D5 v h0 h1 (by omega)) (fun hm => ?_)
    have h1 := S0.eq S hm
    refine ⟨h1, fun j j0 j1 => ?_⟩
    have := hx (hm.trans h1.symm) j j0 (by omega)
    rw [h1] at this
    exact this
  | succ n ih =>
    intro k m hk hn S D5 D1 hx
    have hk0 : 0 ≤ k ∧ k < 3 := by omega
    refine qX8_narrowBy_164 ⟨⟨by omega, by omega⟩, fun h => absurd h (by omega), fun _ => ?_⟩
    have hb : 0 ≤ b ∧ b ≤ 3 := by rcases hf with h | h | h | h <;> omega
    refine cm_narrowKind (V := fun v => v % 3 = k) (T := T) (m0 := m) (k := k) (a' := a) (b' := b) (c' := c) (e := e) (nr_S.refl _ _ _) (fun v h0 h1 hv => D1 v h0 h1 (by omega)) (by omega) (by omega) (by omega) (by omega) (fun h => by have := w5 (by omega); omega) (fun h => by omega) hf rfl rfl rfl d' (fun g hg => hT g hg k hk0.1 hk0.2) hB hB' (fun m2 S2 D2 e2 => ?_)
    have S2' := S2.wide (W := fun _ => True) (fun _ _ => trivial)
    refine ih (k + 1) m2 (by omega) (by omega) (S.trans S2') (fun v h0 h1 hv => ?_) (fun v h0 h1 hv => ?_) (fun hm j j0 j1 => ?_)
    · by_cases hvk : v % 3 = k
      · exact D2 v h0 h1 hvk
      · have := D5 v h0 h1 (by omega)
        have a1 := S2.1 29 v (fun z => hvk z.2.2) (fun z => by have := z.1; omega)
        have a2 := S2.1 30 v (fun z => hvk z.2.2) (fun z => by have := z.1; omega)
        rw [a1, a2]; exact this
    · have := D1 v h0 h1 (by omega)
      have a1 := S2.1 29 v (fun z => by have := z.2.2; omega) (fun z => by have := z.1; omega)
      have a2 := S2.1 30 v (fun z => by have := z.2.2; omega) (fun z => by have := z.1; omega)
      rw [a1, a2]; exact this
    · have h1 := S.eq S2' hm
      by_cases hj : j = k
      · subst hj
        have := (e2 (hm.trans h1.symm)).2
        rw [h1] at this
        exact this
      · exact hx h1 j j0 (by omega)
theorem cm_narrowBy {f a b c d' e : Int} (S : nr_S T (fun _ => True) m0 m) (D : nr_D (fun _ => True) B m) (hw : fc_wf (f, a, b, c, d', e)) (hp : ∀ g, T g → ∀ v, 0 ≤ v → v < 12 → 0 ≤ g v) (hT : ∀ g, T g → fc_holds (f, a, b, c, d', e) g) (hB : 20 ≤ B) (hB' : B ≤ 300000000)
    (hQ : ∀ m' : vm_M, nr_S T (fun _ => True) m0 m' → nr_D (fun _ => True) (5 * B) m' → (m' = m0 → m = m0 ∧ nr_X m0 (f, a, b, c, d', e)) → Q m') : vm_cn G (d + 5) mX8_narrowBy [.inr (.inr 24), .inl f, .inl a, .inl b, .inl c, .inl d', .inl e] m Q := by
  have loop : f = 2 ∨ f = 3 ∨ f = 4 ∨ f = 5 → vm_ex G (d + 5) mX8_narrowBy 164 [some (.inr (.inr 24)), some (.inl f), some (.inl a), some (.inl b), some (.inl c), some (.inl d'), some (.inl e), some (.inl 0)] [] m (vm_qn Q) := by
    intro hf
    exact cm_narrowBy_164 (d := d + 1) hw hf hT (by omega) hB' S hQ 3 0 m (by decide) (by decide) (nr_S.refl _ _ _) (fun v h0 h1 hv => by omega) (fun v h0 h1 hv => D v h0 h1 trivial) (fun _ j j0 j1 => by omega)
  obtain ⟨w1, w2, w3, w4, w5, w6, w7, w8⟩ := id hw
  have T0 : ∀ g, T g → fc_at (f, a, b, c, d', e) 0 g := fun g hg => hT g hg 0 (by decide) (by decide)
  refine qX8_narrowBy ⟨⟨by omega, by omega⟩, fun h => ?_, fun h => ?_, fun h => ?_, fun h => ?_, fun h => ?_, fun h => ?_, fun h => ?_, fun h => ?_, fun h => ?_, fun h => ?_⟩
  · subst h
    have w := w3 rfl
    refine cm_raise S D (by omega) trivial (fun g hg hb' => ?_) (5 * B) (by omega) (by omega) (by omega) (by omega) (fun m1 S1 D1 x1 k1 e1 => ?_)
    · have := T0 g hg
      simp [fc_at] at this
      omega
    refine cm_lower S1 D1 (by omega) trivial (fun g hg hb' => ?_) (5 * B) (by omega) (by omega) (by omega) (by omega) (fun m2 S2 D2 x2 k2 e2 => ?_)
    · have := T0 g hg
      simp [fc_at] at this
      omega
    refine hQ m2 S2 D2 (fun h => ?_)
    obtain ⟨h1, c2⟩ := e2 h
    obtain ⟨h0, c1⟩ := e1 h1
    refine ⟨h0, fun k _ _ g hg => ?_⟩
    have := hg (3 * a + b) (by simp [fc_av])
    rw [h1] at c2
    rw [h0] at c1
    simp [fc_at]
    omega
  · subst h
    have w := w4 rfl
    refine cm_narrowSize (d := d + 3) S D w2 (by omega) (by omega) (fun g hg => ?_) (by omega) (by omega) (fun m1 S1 D1 e1 => hQ m1 S1 (D1.up (by omega)) (fun h => ⟨(e1 h).1, fun k _ _ g hg => ?_⟩))
    · have := T0 g hg
      simpa [fc_at] using this
    · have := (e1 h).2 g (fun u hu => hg u (by simpa [fc_av] using hu))
      simpa [fc_at] using this
  · exact loop (Or.inl h)
  · exact loop (Or.inr (Or.inl h))
  · exact loop (Or.inr (Or.inr (Or.inl h)))
  · exact loop (Or.inr (Or.inr (Or.inr h)))
  · subst h
    have w := w7 rfl
    refine cm_narrowMore (d := d + 3) S D (by omega) trivial (by omega) trivial (by omega) (fun g hg => ?_) (by omega) (by omega) (fun m1 S1 D1 e1 => hQ m1 S1 (D1.up (by omega)) (fun h => ⟨(e1 h).1, fun k _ _ g hg => ?_⟩))
    · have := T0 g hg
      simpa [fc_at] using this
    · have := (e1 h).2 g (fun u hu => hg u (by simpa [fc_av] using hu))
      simpa [fc_at] using this
  · subst h
    have w := w8 (Or.inl rfl)
    refine cm_narrowBelow (d := d + 3) S D (by omega) trivial (by omega) trivial (by omega) trivial (fun g hg => ?_) (by omega) (by omega) (fun m1 S1 D1 e1 => hQ m1 S1 D1 (fun h => ⟨(e1 h).1, fun k _ _ g hg => ?_⟩))
    · have := T0 g hg
      simpa [fc_at] using this
    · have := (e1 h).2 g (fun u hu => hg u (by simpa [fc_av] using hu))
      simpa [fc_at] using this
  · subst h
    have w := w8 (Or.inr rfl)
    refine cm_narrowAbove (d := d + 3) S D (by omega) trivial (by omega) trivial (by omega) trivial hp (fun g hg => ?_) (by omega) (by omega) (fun m1 S1 D1 e1 => hQ m1 S1 D1 (fun h => ⟨(e1 h).1, fun k _ _ g hg => ?_⟩))
    · have := T0 g hg
      simpa [fc_at] using this
    · have := (e1 h).2 g (fun u hu => hg u (by simpa [fc_av] using hu))
      simpa [fc_at] using this
  · omega
theorem cm_narrowBy6 {a b c d' e : Int} (S : nr_S T (fun _ => True) m0 m) (D : nr_D (fun _ => True) B m) (hw : fc_wf (6, a, b, c, d', e)) (hT : ∀ g, T g → fc_holds (6, a, b, c, d', e) g) (hB : 20 ≤ B) (hB' : B ≤ 1000000000)
    (hQ : ∀ m' : vm_M, nr_S T (fun _ => True) m0 m' → nr_D (fun _ => True) (B + 20) m' → (m' = m0 → m = m0 ∧ nr_X m0 (6, a, b, c, d', e)) → Q m') : vm_cn G (d + 5) mX8_narrowBy [.inr (.inr 24), .inl 6, .inl a, .inl b, .inl c, .inl d', .inl e] m Q := by
  obtain ⟨w1, w2, w3, w4, w5, w6, w7, w8⟩ := id hw
  have T0 : ∀ g, T g → fc_at (6, a, b, c, d', e) 0 g := fun g hg => hT g hg 0 (by decide) (by decide)
  refine qX8_narrowBy ⟨⟨by omega, by omega⟩, fun h => absurd h (by decide), fun h => absurd h (by decide), fun h => absurd h (by decide), fun h => absurd h (by decide), fun h => absurd h (by decide), fun h => absurd h (by decide), fun h => ?_, fun h => absurd h (by decide), fun h => absurd h (by decide), fun h => absurd h (by decide)⟩
  have w := w7 rfl
  refine cm_narrowMore (d := d + 3) S D (by omega) trivial (by omega) trivial (by omega) (fun g hg => ?_) (by omega) (by omega) (fun m1 S1 D1 e1 => hQ m1 S1 D1 (fun h => ⟨(e1 h).1, fun k _ _ g hg => ?_⟩))
  · have := T0 g hg
    simpa [fc_at] using this
  · have := (e1 h).2 g (fun u hu => hg u (by simpa [fc_av] using hu))
    simpa [fc_at] using this
end NB
