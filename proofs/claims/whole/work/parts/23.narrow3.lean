theorem nr_D.up {V : Int → Prop} {B B' : Int} {m : vm_M} (h : nr_D V B m) (hB : B ≤ B') : nr_D V B' m := fun v h0 h1 hV => by
  have := h v h0 h1 hV
  omega
section NR3
variable {G : vm_G} {d : Nat} {m m0 : vm_M} {Q : vm_M → Prop} {T : fc_G → Prop} {V : Int → Prop} {B : Int}
theorem cm_narrowGreatest {a b c : Int} (S : nr_S T V m0 m) (D : nr_D V B m) (ha : 0 ≤ a ∧ a < 12) (va : V a) (hb : 0 ≤ b ∧ b < 12) (vb : V b) (hc : 0 ≤ c ∧ c < 12) (vc : V c) (hT : ∀ g, T g → g a = max (g b) (g c)) (hB : 20 ≤ B) (hB' : B ≤ 300000000)
    (hQ : ∀ m' : vm_M, nr_S T V m0 m' → nr_D V (5 * B) m' → (m' = m0 → m = m0 ∧ nr_F m0 (fun u => u = a ∨ u = b ∨ u = c) (fun g => g a = max (g b) (g c))) → Q m') : vm_cn G (d + 2) mX8_narrowGreatest [.inr (.inr 24), .inl a, .inl b, .inl c] m Q := by
  have hda := D a ha.1 ha.2 va
  have hdb := D b hb.1 hb.2 vb
  have hdc := D c hc.1 hc.2 vc
  refine qX8_narrowGreatest ⟨⟨by omega, by omega⟩, ⟨by omega, by omega⟩, fun hab => ⟨fun h => absurd hab h, fun _ => ?_⟩, fun hab => ⟨⟨by omega, by omega⟩, fun hac => ⟨hb, hc, ?_⟩, fun hac => ⟨fun _ => ?_, fun h => absurd h hab⟩⟩⟩
  · subst hab
    exact cm_narrowMore S D ha va hc vc ⟨by decide, by decide⟩ (fun g hg => by have := hT g hg; omega) (by omega) (by omega) (fun m1 S1 D1 e1 => hQ m1 S1 (D1.up (by omega)) (fun h => ⟨(e1 h).1, fun g hg => by have := (e1 h).2 g (fun u hu => hg u (by rcases hu with rfl | rfl <;> simp)); omega⟩))
  · refine cm_greater ⟨by omega, by omega⟩ ⟨by omega, by omega⟩ ?_
    refine cm_raise S D ha va (fun g hg hb' => ?_) B (by omega) (by omega) (by omega) (by omega) (fun m1 S1 D1 x1 k1 e1 => ?_)
    · have := hT g hg
      have := hb' b hb.1 hb.2
      have := hb' c hc.1 hc.2
      omega
    have d1b := D1 b hb.1 hb.2 vb
    have d1c := D1 c hc.1 hc.2 vc
    have k1b := k1 b
    have k1c := k1 c
    refine cm_greater ⟨by omega, by omega⟩ ⟨by omega, by omega⟩ ?_
    refine cm_lower S1 D1 ha va (fun g hg hb' => ?_) B (by omega) (by omega) (by omega) (by omega) (fun m2 S2 D2 x2 k2 e2 => ⟨ha, ?_⟩)
    · have := hT g hg
      have := hb' b hb.1 hb.2
      have := hb' c hc.1 hc.2
      omega
    have d2a := D2 a ha.1 ha.2 va
    refine cm_lower S2 D2 hb vb (fun g hg hb' => ?_) B (by omega) (by omega) (by omega) (by omega) (fun m3 S3 D3 x3 k3 e3 => ?_)
    · have := hT g hg
      have := hb' a ha.1 ha.2
      omega
    have d3a := D3 a ha.1 ha.2 va
    refine cm_lower S3 D3 hc vc (fun g hg hb' => ?_) B (by omega) (by omega) (by omega) (by omega) (fun m4 S4 D4 x4 k4 e4 => ?_)
    · have := hT g hg
      have := hb' a ha.1 ha.2
      omega
    have d4a := D4 a ha.1 ha.2 va
    have d4b := D4 b hb.1 hb.2 vb
    have d4c := D4 c hc.1 hc.2 vc
    have fin : ∀ m' : vm_M, nr_S T V m0 m' → nr_D V B m' → (m' = m0 → m4 = m0) → Q m' := by
      intro m' S' D' h'
      refine hQ m' S' (D'.up (by omega)) (fun h => ?_)
      obtain ⟨h3, c4⟩ := e4 (h' h)
      obtain ⟨h2, c3⟩ := e3 h3
      obtain ⟨h1, c2⟩ := e2 h2
      obtain ⟨h0, c1⟩ := e1 h1
      refine ⟨h0, fun g hg => ?_⟩
      have g1 := hg a (Or.inl rfl)
      have g2 := hg b (Or.inr (Or.inl rfl))
      have g3 := hg c (Or.inr (Or.inr rfl))
      rw [h0] at c1
      rw [h1] at c2
      omega
    refine ⟨⟨by omega, by omega⟩, ⟨by omega, by omega⟩, fun _ => ⟨⟨by omega, by omega⟩, fun _ => fin m4 S4 D4 id, fun h7 => ?_⟩, fun h6 => ?_⟩
    · refine cm_raise S4 D4 hc vc (fun g hg hb' => ?_) B (by omega) (by omega) (by omega) (by omega) (fun m5 S5 D5 x5 k5 e5 => fin m5 S5 D5 (fun h => (e5 h).1))
      have := hT g hg
      have := hb' a ha.1 ha.2
      have := hb' b hb.1 hb.2
      omega
    · refine cm_raise S4 D4 hb vb (fun g hg hb' => ?_) B (by omega) (by omega) (by omega) (by omega) (fun m5 S5 D5 x5 k5 e5 => ?_)
      · have := hT g hg
        have := hb' a ha.1 ha.2
        have := hb' c hc.1 hc.2
        omega
      have d5a := D5 a ha.1 ha.2 va
      have d5b := D5 b hb.1 hb.2 vb
      refine ⟨⟨by omega, by omega⟩, ⟨by omega, by omega⟩, fun _ => fin m5 S5 D5 (fun h => (e5 h).1), fun h8 => ?_⟩
      refine cm_raise S5 D5 hc vc (fun g hg hb' => ?_) B (by omega) (by omega) (by omega) (by omega) (fun m6 S6 D6 x6 k6 e6 => fin m6 S6 D6 (fun h => (e5 (e6 h).1).1))
      have := hT g hg
      have := hb' a ha.1 ha.2
      have := hb' b hb.1 hb.2
      omega
  · subst hac
    exact cm_narrowMore S D ha va hb vb ⟨by decide, by decide⟩ (fun g hg => by have := hT g hg; omega) (by omega) (by omega) (fun m1 S1 D1 e1 => hQ m1 S1 (D1.up (by omega)) (fun h => ⟨(e1 h).1, fun g hg => by have := (e1 h).2 g (fun u hu => hg u (by rcases hu with rfl | rfl <;> simp)); omega⟩))
theorem cm_narrowLeast {a b c : Int} (S : nr_S T V m0 m) (D : nr_D V B m) (ha : 0 ≤ a ∧ a < 12) (va : V a) (hb : 0 ≤ b ∧ b < 12) (vb : V b) (hc : 0 ≤ c ∧ c < 12) (vc : V c) (hT : ∀ g, T g → g a = min (g b) (g c)) (hB : 20 ≤ B) (hB' : B ≤ 300000000)
    (hQ : ∀ m' : vm_M, nr_S T V m0 m' → nr_D V (5 * B) m' → (m' = m0 → m = m0 ∧ nr_F m0 (fun u => u = a ∨ u = b ∨ u = c) (fun g => g a = min (g b) (g c))) → Q m') : vm_cn G (d + 2) mX8_narrowLeast [.inr (.inr 24), .inl a, .inl b, .inl c] m Q := by
  have hda := D a ha.1 ha.2 va
  have hdb := D b hb.1 hb.2 vb
  have hdc := D c hc.1 hc.2 vc
  refine qX8_narrowLeast ⟨⟨by omega, by omega⟩, ⟨by omega, by omega⟩, fun hab => ⟨fun h => absurd hab h, fun _ => ?_⟩, fun hab => ⟨⟨by omega, by omega⟩, fun hac => ⟨hb, hc, ?_⟩, fun hac => ⟨fun _ => ?_, fun h => absurd h hab⟩⟩⟩
  · subst hab
    exact cm_narrowMore S D hc vc ha va ⟨by decide, by decide⟩ (fun g hg => by have := hT g hg; omega) (by omega) (by omega) (fun m1 S1 D1 e1 => hQ m1 S1 (D1.up (by omega)) (fun h => ⟨(e1 h).1, fun g hg => by have := (e1 h).2 g (fun u hu => hg u (by rcases hu with rfl | rfl <;> simp)); omega⟩))
  · refine cm_lesser ⟨by omega, by omega⟩ ⟨by omega, by omega⟩ ?_
    refine cm_raise S D ha va (fun g hg hb' => ?_) B (by omega) (by omega) (by omega) (by omega) (fun m1 S1 D1 x1 k1 e1 => ?_)
    · have := hT g hg
      have := hb' b hb.1 hb.2
      have := hb' c hc.1 hc.2
      omega
    have d1b := D1 b hb.1 hb.2 vb
    have d1c := D1 c hc.1 hc.2 vc
    have k1b := k1 b
    have k1c := k1 c
    refine cm_lesser ⟨by omega, by omega⟩ ⟨by omega, by omega⟩ ?_
    refine cm_lower S1 D1 ha va (fun g hg hb' => ?_) B (by omega) (by omega) (by omega) (by omega) (fun m2 S2 D2 x2 k2 e2 => ⟨ha, ?_⟩)
    · have := hT g hg
      have := hb' b hb.1 hb.2
      have := hb' c hc.1 hc.2
      omega
    have d2a := D2 a ha.1 ha.2 va
    refine cm_raise S2 D2 hb vb (fun g hg hb' => ?_) B (by omega) (by omega) (by omega) (by omega) (fun m3 S3 D3 x3 k3 e3 => ?_)
    · have := hT g hg
      have := hb' a ha.1 ha.2
      omega
    have d3a := D3 a ha.1 ha.2 va
    refine cm_raise S3 D3 hc vc (fun g hg hb' => ?_) B (by omega) (by omega) (by omega) (by omega) (fun m4 S4 D4 x4 k4 e4 => ?_)
    · have := hT g hg
      have := hb' a ha.1 ha.2
      omega
    have d4a := D4 a ha.1 ha.2 va
    have d4b := D4 b hb.1 hb.2 vb
    have d4c := D4 c hc.1 hc.2 vc
    have fin : ∀ m' : vm_M, nr_S T V m0 m' → nr_D V B m' → (m' = m0 → m4 = m0) → Q m' := by
      intro m' S' D' h'
      refine hQ m' S' (D'.up (by omega)) (fun h => ?_)
      obtain ⟨h3, c4⟩ := e4 (h' h)
      obtain ⟨h2, c3⟩ := e3 h3
      obtain ⟨h1, c2⟩ := e2 h2
      obtain ⟨h0, c1⟩ := e1 h1
      refine ⟨h0, fun g hg => ?_⟩
      have g1 := hg a (Or.inl rfl)
      have g2 := hg b (Or.inr (Or.inl rfl))
      have g3 := hg c (Or.inr (Or.inr rfl))
      rw [h0] at c1
      rw [h1] at c2
      omega
    refine ⟨⟨by omega, by omega⟩, ⟨by omega, by omega⟩, fun _ => ⟨⟨by omega, by omega⟩, fun _ => fin m4 S4 D4 id, fun h7 => ?_⟩, fun h6 => ?_⟩
    · refine cm_lower S4 D4 hc vc (fun g hg hb' => ?_) B (by omega) (by omega) (by omega) (by omega) (fun m5 S5 D5 x5 k5 e5 => fin m5 S5 D5 (fun h => (e5 h).1))
      have := hT g hg
      have := hb' a ha.1 ha.2
      have := hb' b hb.1 hb.2
      omega
    · refine cm_lower S4 D4 hb vb (fun g hg hb' => ?_) B (by omega) (by omega) (by omega) (by omega) (fun m5 S5 D5 x5 k5 e5 => ?_)
      · have := hT g hg
        have := hb' a ha.1 ha.2
        have := hb' c hc.1 hc.2
        omega
      have d5a := D5 a ha.1 ha.2 va
      have d5b := D5 b hb.1 hb.2 vb
      refine ⟨⟨by omega, by omega⟩, ⟨by omega, by omega⟩, fun _ => fin m5 S5 D5 (fun h => (e5 h).1), fun h8 => ?_⟩
      refine cm_lower S5 D5 hc vc (fun g hg hb' => ?_) B (by omega) (by omega) (by omega) (by omega) (fun m6 S6 D6 x6 k6 e6 => fin m6 S6 D6 (fun h => (e5 (e6 h).1).1))
      have := hT g hg
      have := hb' a ha.1 ha.2
      have := hb' b hb.1 hb.2
      omega
  · subst hac
    exact cm_narrowMore S D hb vb ha va ⟨by decide, by decide⟩ (fun g hg => by have := hT g hg; omega) (by omega) (by omega) (fun m1 S1 D1 e1 => hQ m1 S1 (D1.up (by omega)) (fun h => ⟨(e1 h).1, fun g hg => by have := (e1 h).2 g (fun u hu => hg u (by rcases hu with rfl | rfl <;> simp)); omega⟩))
theorem cm_narrowSize_56 {b l h s1 s2 : Int} {m1 : vm_M} (hb : 0 ≤ b ∧ b ≤ 3) (hl : -50 ≤ l ∧ l ≤ 50) (hh : -50 ≤ h ∧ h ≤ 50) (hT : ∀ g, T g → l ≤ g (3 * b) + g (3 * b + 1) + g (3 * b + 2) ∧ g (3 * b) + g (3 * b + 1) + g (3 * b + 2) ≤ h) (hB : 20 ≤ B) (hB' : B ≤ 300000000) (D1 : nr_D (fun _ => True) B m1) (e1 : s1 = m1 29 (3 * b) + m1 29 (3 * b + 1) + m1 29 (3 * b + 2)) (e2 : s2 = m1 30 (3 * b) + m1 30 (3 * b + 1) + m1 30 (3 * b + 2)) (S1 : nr_S T (fun _ => True) m0 m1)
    (hQ : ∀ m' : vm_M, nr_S T (fun _ => True) m0 m' → nr_D (fun _ => True) (2 * B + 60) m' → (m' = m0 → m1 = m0 ∧ nr_F m0 (fun u => u = 3 * b ∨ u = 3 * b + 1 ∨ u = 3 * b + 2) (fun g => l ≤ g (3 * b) + g (3 * b + 1) + g (3 * b + 2) ∧ g (3 * b) + g (3 * b + 1) + g (3 * b + 2) ≤ h)) → Q m') :
    ∀ (n : Nat) (k : Int) (m : vm_M), k = 3 - (n : Int) → n ≤ 3 → nr_S T (fun _ => True) m1 m → nr_D (fun _ => True) (2 * B + 60) m → (∀ j : Int, k ≤ j → j < 3 → m 29 (3 * b + j) = m1 29 (3 * b + j) ∧ m 30 (3 * b + j) = m1 30 (3 * b + j)) → (m = m1 → 0 < k → l - (s2 - m1 30 (3 * b + 0)) ≤ m1 29 (3 * b + 0) ∧ m1 30 (3 * b + 0) ≤ h - (s1 - m1 29 (3 * b + 0))) →
    vm_ex G (d + 1) mX8_narrowSize 56 [some (.inr (.inr 24)), some (.inl b), some (.inl l), some (.inl h), some (.inl s1), some (.inl s2), some (.inl k), none, none, none] [] m (vm_qn Q) := by
  intro n
  have da := D1 (3 * b) (by omega) (by omega) trivial
  have db := D1 (3 * b + 1) (by omega) (by omega) trivial
  have dc := D1 (3 * b + 2) (by omega) (by omega) trivial
  have z0 : 3 * b + 0 = 3 * b := by omega
  induction n with
  | zero =>
    intro k m hk _ S D _ hf
    refine qX8_narrowSize_56 ⟨⟨by omega, by omega⟩, fun _ => ?_, fun h => absurd h (by omega)⟩
    refine hQ m (S1.trans S) D (fun hm => ?_)
    have h1 := S1.eq S hm
    obtain ⟨h2, h3⟩ := hf (hm.trans h1.symm) (by omega)
    refine ⟨h1, fun g hg => ?_⟩
    have g1 := hg (3 * b) (Or.inl rfl)
    have g2 := hg (3 * b + 1) (Or.inr (Or.inl rfl))
    have g3 := hg (3 * b + 2) (Or.inr (Or.inr rfl))
    rw [z0] at h2 h3
    rw [h1] at e1 e2 h2 h3
    omega
  | succ n ih =>
    intro k m hk hn S D hsame hf
    have hk0 : 0 ≤ k ∧ k < 3 := by omega
    have hv : 0 ≤ 3 * b + k ∧ 3 * b + k < 12 := by omega
    have hs := hsame k (by omega) (by omega)
    have dd := D (3 * b + k) hv.1 hv.2 trivial
    have hk3 : k = 0 ∨ k = 1 ∨ k = 2 := by omega
    have mono := S.2.1
    refine qX8_narrowSize_56 ⟨⟨by omega, by omega⟩, fun h => absurd h (by omega), fun _ => ⟨hv, ?_⟩⟩
    have rr : s2 - m1 30 (3 * b + k) ≥ -(2 * B) ∧ s2 - m1 30 (3 * b + k) ≤ 36 ∧ 0 ≤ s1 - m1 29 (3 * b + k) ∧ s1 - m1 29 (3 * b + k) ≤ 2 * B := by
      rcases hk3 with rfl | rfl | rfl
      · rw [z0]; omega
      · omega
      · omega
    have sound : ∀ g, T g → nr_B m g → l - (s2 - m1 30 (3 * b + k)) ≤ g (3 * b + k) ∧ g (3 * b + k) ≤ h - (s1 - m1 29 (3 * b + k)) := by
      intro g hg hb'
      have := hT g hg
      have t0 := hb' (3 * b) (by omega) (by omega)
      have t1 := hb' (3 * b + 1) (by omega) (by omega)
      have t2 := hb' (3 * b + 2) (by omega) (by omega)
      have u0 := mono (3 * b)
      have u1 := mono (3 * b + 1)
      have u2 := mono (3 * b + 2)
      rcases hk3 with rfl | rfl | rfl
      · rw [z0]; omega
      · omega
      · omega
    refine cm_raise S D hv trivial (fun g hg hb' => ?_) (2 * B + 60) (by omega) (by omega) (by omega) (by omega) (fun m2 S2 D2 x2 k2 e2' => ?_)
    · have := sound g hg hb'
      omega
    have k2k := k2 (3 * b + k)
    have dd2 := D2 (3 * b + k) hv.1 hv.2 trivial
    have sound2 : ∀ g, T g → nr_B m2 g → g (3 * b + k) ≤ h - (s1 - m1 29 (3 * b + k)) := by
      intro g hg hb'
      refine (sound g hg (fun v h0 h1 => ?_)).2
      have := hb' v h0 h1
      have := k2 v
      omega
    have hx29 : m1 29 (3 * b + k) ≤ m2 29 (3 * b + k) := by omega
    refine cm_lower S2 D2 hv trivial (fun g hg hb' => ?_) (2 * B + 60) (by omega) (by omega) (by omega) (by omega) (fun m3 S3 D3 x3 k3 e3' => ?_)
    · have t := sound2 g hg hb'
      have := hT g hg
      have t0 := hb' (3 * b) (by omega) (by omega)
      have t1 := hb' (3 * b + 1) (by omega) (by omega)
      have t2 := hb' (3 * b + 2) (by omega) (by omega)
      have u0 := S2.2.1 (3 * b)
      have u1 := S2.2.1 (3 * b + 1)
      have u2 := S2.2.1 (3 * b + 2)
      rcases hk3 with rfl | rfl | rfl
      · rw [z0] at *; omega
      · omega
      · omega
    · refine ih (k + 1) m3 (by omega) (by omega) S3 D3 (fun j h1 h2 => ?_) (fun hm hk1 => ?_)
      · have hj := hsame j (by omega) h2
        have hne : 3 * b + j ≠ 3 * b + k := by omega
        have a1 := k2 (3 * b + j)
        have a2 := k3 (3 * b + j)
        have a3 := a1.2.2 hne
        have a4 := a2.2.2 hne
        omega
      · obtain ⟨h1, h2⟩ := e3' hm
        obtain ⟨h3, h4⟩ := e2' h1
        rcases hk3 with rfl | rfl | rfl
        · rw [h1, h3] at h2
          rw [h3] at h4
          exact ⟨h4, h2⟩
        · exact hf h3 (by omega)
        · exact hf h3 (by omega)
theorem cm_narrowSize {b l h : Int} (S : nr_S T (fun _ => True) m0 m) (D : nr_D (fun _ => True) B m) (hb : 0 ≤ b ∧ b ≤ 3) (hl : -50 ≤ l ∧ l ≤ 50) (hh : -50 ≤ h ∧ h ≤ 50) (hT : ∀ g, T g → l ≤ g (3 * b) + g (3 * b + 1) + g (3 * b + 2) ∧ g (3 * b) + g (3 * b + 1) + g (3 * b + 2) ≤ h) (hB : 20 ≤ B) (hB' : B ≤ 300000000)
    (hQ : ∀ m' : vm_M, nr_S T (fun _ => True) m0 m' → nr_D (fun _ => True) (2 * B + 60) m' → (m' = m0 → m = m0 ∧ nr_F m0 (fun u => u = 3 * b ∨ u = 3 * b + 1 ∨ u = 3 * b + 2) (fun g => l ≤ g (3 * b) + g (3 * b + 1) + g (3 * b + 2) ∧ g (3 * b) + g (3 * b + 1) + g (3 * b + 2) ≤ h)) → Q m') : vm_cn G (d + 1) mX8_narrowSize [.inr (.inr 24), .inl b, .inl l, .inl h] m Q := by
  have z0 : 3 * b + 0 = 3 * b := by omega
  refine qX8_narrowSize (qX8_narrowSize_9 ⟨⟨by decide, by decide⟩, fun h => absurd h (by decide), fun _ => ⟨by omega, ?_⟩⟩)
  refine qX8_narrowSize_9 ⟨⟨by decide, by decide⟩, fun h => absurd h (by decide), fun _ => ⟨by omega, ?_⟩⟩
  refine qX8_narrowSize_9 ⟨⟨by decide, by decide⟩, fun h => absurd h (by decide), fun _ => ⟨by omega, ?_⟩⟩
  refine qX8_narrowSize_9 ⟨⟨by decide, by decide⟩, fun _ => ?_, fun h => absurd (by decide) h⟩
  exact cm_narrowSize_56 hb hl hh hT hB hB' D (by rw [z0]; show 0 + m 29 (3 * b) + m 29 (3 * b + (0 + 1)) + m 29 (3 * b + (0 + 1 + 1)) = _; rw [show (0 : Int) + 1 = 1 from rfl, show (1 : Int) + 1 = 2 from rfl]; omega) (by rw [z0]; show 0 + m 30 (3 * b) + m 30 (3 * b + (0 + 1)) + m 30 (3 * b + (0 + 1 + 1)) = _; rw [show (0 : Int) + 1 = 1 from rfl, show (1 : Int) + 1 = 2 from rfl]; omega) S hQ 3 0 m (by decide) (by decide) (nr_S.refl _ _ _) (D.up (by omega)) (fun _ _ _ => ⟨rfl, rfl⟩) (fun _ h => absurd h (by decide))
end NR3
