theorem zz_rem2 {a : Int} (ha : vm_R a) : -1 ≤ vm_rem a 2 ∧ vm_rem a 2 ≤ 1 ∧ (0 ≤ a → vm_rem a 2 = a % 2) := by
  have hd := zz_tdiv ha (b := 2) (by decide) (by decide)
  have h2 := Int.mul_tdiv_add_tmod a 2
  have hr : vm_rem a 2 = a.tmod 2 := by
    unfold vm_div at hd
    unfold vm_rem
    have h3 := Int.natAbs_tdiv_le_natAbs a 2
    rw [Int32.toInt_sub, Int32.toInt_mul, hd, vm_toOf ha, vm_toOf (x := 2) ⟨by decide, by decide⟩]
    have h4 : a.tdiv 2 * 2 = a - a.tmod 2 := by omega
    rw [h4]
    have h5 : (a.tmod 2).natAbs < 2 := by
      rw [Int.natAbs_tmod]; exact Nat.mod_lt _ (by decide)
    unfold vm_R at ha
    have hs : (2 ^ 32 : Nat) = 4294967296 := rfl
    rw [Int.bmod_def, Int.bmod_def, hs]
    split <;> split <;> omega
  have h5 : (a.tmod 2).natAbs < 2 := by
    rw [Int.natAbs_tmod]; exact Nat.mod_lt _ (by decide)
  rw [hr]
  refine ⟨by omega, by omega, fun h => Int.tmod_eq_emod_of_nonneg h⟩
theorem zz_div2 {a B : Int} (ha : vm_R a) (h0 : 0 ≤ B) (h1 : -B ≤ a) (h2 : a ≤ 18) : -B ≤ vm_div a 2 ∧ vm_div a 2 ≤ 18 ∧ (0 ≤ a → vm_div a 2 = a / 2) := by
  have hd := zz_tdiv ha (b := 2) (by decide) (by decide)
  rw [hd]
  have h3 := Int.mul_tdiv_add_tmod a 2
  have h5 : (a.tmod 2).natAbs < 2 := by
    rw [Int.natAbs_tmod]; exact Nat.mod_lt _ (by decide)
  have h6 : 0 ≤ a → a.tdiv 2 = a / 2 := fun h => Int.tdiv_eq_ediv_of_nonneg h
  by_cases h : 0 ≤ a
  · have := h6 h
    omega
  · have h7 : (-a).tdiv 2 = -(a.tdiv 2) := Int.neg_tdiv a 2
    have h8 : (-a).tdiv 2 = (-a) / 2 := Int.tdiv_eq_ediv_of_nonneg (by omega)
    omega
section NR2
variable {G : vm_G} {d : Nat} {m m0 : vm_M} {Q : vm_M → Prop} {T : fc_G → Prop} {V : Int → Prop} {B : Int}
theorem cm_greater {x y : Int} {Q : vm_M → Int → Prop} (hx : vm_R x) (hy : vm_R y) (hQ : Q m (max x y)) : vm_ci G d mX8_greater [.inl x, .inl y] m Q :=
  qX8_greater ⟨hx, hy, fun h => by rw [show max x y = y by omega] at hQ; exact hQ, fun h => by rw [show max x y = x by omega] at hQ; exact hQ⟩
theorem cm_lesser {x y : Int} {Q : vm_M → Int → Prop} (hx : vm_R x) (hy : vm_R y) (hQ : Q m (min x y)) : vm_ci G d mX8_lesser [.inl x, .inl y] m Q :=
  qX8_lesser ⟨hx, hy, fun h => by rw [show min x y = y by omega] at hQ; exact hQ, fun h => by rw [show min x y = x by omega] at hQ; exact hQ⟩
theorem cm_narrowTwice {a b : Int} (S : nr_S T V m0 m) (D : nr_D V B m) (ha : 0 ≤ a ∧ a < 12) (va : V a) (hb : 0 ≤ b ∧ b < 12) (vb : V b) (hT : ∀ g, T g → g a = g b + g b) (hB : 20 ≤ B) (hB' : B ≤ 300000000)
    (hQ : ∀ m' : vm_M, nr_S T V m0 m' → nr_D V (5 * B) m' → (m' = m0 → m = m0 ∧ nr_F m0 (fun u => u = a ∨ u = b ∨ u = b) (fun g => g a = g b + g b)) → Q m') : vm_cn G (d + 1) mX8_narrowTwice [.inr (.inr 24), .inl a, .inl b] m Q := by
  have hda := D a ha.1 ha.2 va
  have r1 := zz_rem (a := m 29 a) (b := 2) hda.1 (by omega) (by decide) (by decide)
  refine qX8_narrowTwice ⟨ha, ?_⟩
  rw [r1]
  refine cm_raise S D ha va (fun g hg hb' => ?_) (B + 1) (by omega) (by omega) (by omega) (by omega) (fun m1 S1 D1 x1 k1 e1 => ?_)
  · have := hT g hg
    have := hb' a ha.1 ha.2
    omega
  have hd1 := D1 a ha.1 ha.2 va
  have r2 : -1 ≤ vm_rem (m1 30 a) 2 ∧ vm_rem (m1 30 a) 2 ≤ 1 ∧ (0 ≤ m1 30 a → vm_rem (m1 30 a) 2 = m1 30 a % 2) := zz_rem2 ⟨by omega, by omega⟩
  refine cm_lower S1 D1 ha va (fun g hg hb' => ?_) (B + 3) (by omega) (by omega) (by omega) (by omega) (fun m2 S2 D2 x2 k2 e2 => ⟨hb, ?_⟩)
  · have := hT g hg
    have := hb' a ha.1 ha.2
    have := r2.2.2 (by omega)
    omega
  have hd2 := D2 b hb.1 hb.2 vb
  refine cm_raise S2 D2 ha va (fun g hg hb' => ?_) (2 * B + 6) (by omega) (by omega) (by omega) (by omega) (fun m3 S3 D3 x3 k3 e3 => ?_)
  · have := hT g hg
    have := hb' b hb.1 hb.2
    omega
  have hd3 := D3 b hb.1 hb.2 vb
  have k3b := k3 b
  have k3b2 : m3 29 b = m2 29 b ∨ b = a := by
    by_cases h : b = a
    · exact Or.inr h
    · exact Or.inl (k3b.2.2 h)
  refine cm_lower S3 D3 ha va (fun g hg hb' => ?_) (4 * B + 12) (by omega) (by omega) (by omega) (by omega) (fun m4 S4 D4 x4 k4 e4 => ?_)
  · have := hT g hg
    have := hb' b hb.1 hb.2
    omega
  have hd4 := D4 a ha.1 ha.2 va
  have hd4b := D3 a ha.1 ha.2 va
  have k4a := k4 a
  have r3 := zz_div (a := m4 29 a + 1) (b := 2) (by omega) (by omega) (by decide) (by decide)
  rw [r3]
  refine cm_raise S4 D4 hb vb (fun g hg hb' => ?_) (4 * B + 13) (by omega) (by omega) (by omega) (by omega) (fun m5 S5 D5 x5 k5 e5 => ?_)
  · have := hT g hg
    have := hb' a ha.1 ha.2
    omega
  have hd5 := D5 a ha.1 ha.2 va
  have r4 : -(4 * B + 13) ≤ vm_div (m5 30 a) 2 ∧ vm_div (m5 30 a) 2 ≤ 18 ∧ (0 ≤ m5 30 a → vm_div (m5 30 a) 2 = m5 30 a / 2) := zz_div2 ⟨by omega, by omega⟩ (by omega) (by omega) (by omega)
  refine cm_lower S5 D5 hb vb (fun g hg hb' => ?_) (5 * B) (by omega) (by omega) (by omega) (by omega) (fun m6 S6 D6 x6 k6 e6 => ?_)
  · have := hT g hg
    have := hb' a ha.1 ha.2
    have := r4.2.2 (by omega)
    omega
  refine hQ m6 S6 D6 (fun h => ?_)
  obtain ⟨h5, c6⟩ := e6 h
  obtain ⟨h4, c5⟩ := e5 h5
  obtain ⟨h3, c4⟩ := e4 h4
  obtain ⟨h2, c3⟩ := e3 h3
  obtain ⟨h1, c2⟩ := e2 h2
  obtain ⟨h0, c1⟩ := e1 h1
  refine ⟨h0, fun g hg => ?_⟩
  have g1 := hg a (Or.inl rfl)
  have g2 := hg b (Or.inr (Or.inl rfl))
  rw [h3] at c4
  rw [h2] at c3
  omega

theorem cm_narrowSum {a b c : Int} (S : nr_S T V m0 m) (D : nr_D V B m) (ha : 0 ≤ a ∧ a < 12) (va : V a) (hb : 0 ≤ b ∧ b < 12) (vb : V b) (hc : 0 ≤ c ∧ c < 12) (vc : V c) (hT : ∀ g, T g → g a = g b + g c) (hB : 20 ≤ B) (hB' : B ≤ 300000000)
    (hQ : ∀ m' : vm_M, nr_S T V m0 m' → nr_D V (5 * B) m' → (m' = m0 → m = m0 ∧ nr_F m0 (fun u => u = a ∨ u = b ∨ u = c) (fun g => g a = g b + g c)) → Q m') : vm_cn G (d + 2) mX8_narrowSum [.inr (.inr 24), .inl a, .inl b, .inl c] m Q := by
  have hda := D a ha.1 ha.2 va
  have hdb := D b hb.1 hb.2 vb
  have hdc := D c hc.1 hc.2 vc
  refine qX8_narrowSum ⟨⟨by omega, by omega⟩, ⟨by omega, by omega⟩, fun hab => ⟨⟨by omega, by omega⟩, fun hac => ⟨fun hbc => ⟨hb, hc, ?_⟩, fun hbc => ?_⟩, fun hac => ?_⟩, fun hab => ?_⟩
  · refine cm_raise S D ha va (fun g hg hb' => ?_) (2 * B) (by omega) (by omega) (by omega) (by omega) (fun m1 S1 D1 x1 k1 e1 => ?_)
    · have := hT g hg
      have := hb' b hb.1 hb.2
      have := hb' c hc.1 hc.2
      omega
    have k1b := k1 b
    have k1c := k1 c
    refine cm_lower S1 D1 ha va (fun g hg hb' => ?_) (2 * B) (by omega) (by omega) (by omega) (by omega) (fun m2 S2 D2 x2 k2 e2 => ⟨ha, ?_⟩)
    · have := hT g hg
      have := hb' b hb.1 hb.2
      have := hb' c hc.1 hc.2
      omega
    have k2a := k2 a
    have k2b := k2 b
    have k2c := k2 c
    have d2a := D2 a ha.1 ha.2 va
    have n1 := k1b.2.2 (Ne.symm hab)
    have n2 := k1c.2.2 (Ne.symm hac)
    have n3 := k2b.2.2 (Ne.symm hab)
    have n4 := k2c.2.2 (Ne.symm hac)
    refine cm_raise S2 D2 hb vb (fun g hg hb' => ?_) (3 * B) (by omega) (by omega) (by omega) (by omega) (fun m3 S3 D3 x3 k3 e3 => ?_)
    · have := hT g hg
      have := hb' a ha.1 ha.2
      have := hb' c hc.1 hc.2
      omega
    have k3a := k3 a
    have k3b := k3 b
    have k3c := k3 c
    have d3a := D3 a ha.1 ha.2 va
    have d3b := D3 b hb.1 hb.2 vb
    have n5 := k3a.2.2 hab
    have n6 := k3c.2.2 (Ne.symm hbc)
    refine cm_lower S3 D3 hb vb (fun g hg hb' => ?_) (3 * B) (by omega) (by omega) (by omega) (by omega) (fun m4 S4 D4 x4 k4 e4 => ?_)
    · have := hT g hg
      have := hb' a ha.1 ha.2
      have := hb' c hc.1 hc.2
      omega
    have k4a := k4 a
    have k4b := k4 b
    have k4c := k4 c
    have d4a := D4 a ha.1 ha.2 va
    have d4b := D4 b hb.1 hb.2 vb
    have n7 := k4a.2.2 hab
    have n8 := k4c.2.2 (Ne.symm hbc)
    refine cm_raise S4 D4 hc vc (fun g hg hb' => ?_) (5 * B) (by omega) (by omega) (by omega) (by omega) (fun m5 S5 D5 x5 k5 e5 => ?_)
    · have := hT g hg
      have := hb' a ha.1 ha.2
      have := hb' b hb.1 hb.2
      omega
    have k5a := k5 a
    have k5b := k5 b
    have n9 := k5a.2.2 hac
    have n10 := k5b.2.2 hbc
    refine cm_lower S5 D5 hc vc (fun g hg hb' => ?_) (5 * B) (by omega) (by omega) (by omega) (by omega) (fun m6 S6 D6 x6 k6 e6 => ?_)
    · have := hT g hg
      have := hb' a ha.1 ha.2
      have := hb' b hb.1 hb.2
      omega
    refine hQ m6 S6 D6 (fun h => ?_)
    obtain ⟨h5, c6⟩ := e6 h
    obtain ⟨h4, c5⟩ := e5 h5
    obtain ⟨h3, c4⟩ := e4 h4
    obtain ⟨h2, c3⟩ := e3 h3
    obtain ⟨h1, c2⟩ := e2 h2
    obtain ⟨h0, c1⟩ := e1 h1
    refine ⟨h0, fun g hg => ?_⟩
    have g1 := hg a (Or.inl rfl)
    have g2 := hg b (Or.inr (Or.inl rfl))
    have g3 := hg c (Or.inr (Or.inr rfl))
    rw [h0] at c1
    rw [h1] at c2
    omega
  · subst hbc
    exact cm_narrowTwice S D ha va hb vb hT hB hB' hQ
  · subst hac
    refine cm_lower S D hb vb (fun g hg hb' => ?_) (5 * B) (by omega) (by omega) (by omega) (by omega) (fun m1 S1 D1 x1 k1 e1 => ?_)
    · have := hT g hg
      omega
    refine hQ m1 S1 D1 (fun h => ?_)
    obtain ⟨h0, c1⟩ := e1 h
    refine ⟨h0, fun g hg => ?_⟩
    have g1 := hg b (Or.inr (Or.inl rfl))
    have := (S1.2.1 b)
    rw [h0] at c1 hdb
    omega
  · subst hab
    refine cm_lower S D hc vc (fun g hg hb' => ?_) (5 * B) (by omega) (by omega) (by omega) (by omega) (fun m1 S1 D1 x1 k1 e1 => ?_)
    · have := hT g hg
      omega
    refine hQ m1 S1 D1 (fun h => ?_)
    obtain ⟨h0, c1⟩ := e1 h
    refine ⟨h0, fun g hg => ?_⟩
    have g1 := hg c (Or.inr (Or.inr rfl))
    rw [h0] at c1 hdc
    omega
theorem cm_narrowBelow {a b c : Int} (S : nr_S T V m0 m) (D : nr_D V B m) (ha : 0 ≤ a ∧ a < 12) (va : V a) (hb : 0 ≤ b ∧ b < 12) (vb : V b) (hc : 0 ≤ c ∧ c < 12) (vc : V c) (hT : ∀ g, T g → g a < g b + g c) (hB : 20 ≤ B) (hB' : B ≤ 300000000)
    (hQ : ∀ m' : vm_M, nr_S T V m0 m' → nr_D V (5 * B) m' → (m' = m0 → m = m0 ∧ nr_F m0 (fun u => u = a ∨ u = b ∨ u = c) (fun g => g a < g b + g c)) → Q m') : vm_cn G (d + 1) mX8_narrowBelow [.inr (.inr 24), .inl a, .inl b, .inl c] m Q := by
  have hda := D a ha.1 ha.2 va
  have hdb := D b hb.1 hb.2 vb
  have hdc := D c hc.1 hc.2 vc
  have one : ∀ {x y : Int}, (0 ≤ y ∧ y < 12) → V y → (∀ g, T g → 1 ≤ g y) → (∀ g : fc_G, 1 ≤ g y → g a < g b + g c) → (y = a ∨ y = b ∨ y = c) → vm_cn G d mX8_raise [.inr (.inr 24), .inl y, .inl 1] m Q := by
    intro x y hy vy h1 h2 h3
    have hdy := D y hy.1 hy.2 vy
    refine cm_raise S D hy vy (fun g hg hb' => h1 g hg) (5 * B) (by omega) (by omega) (by omega) (by omega) (fun m1 S1 D1 x1 k1 e1 => ?_)
    refine hQ m1 S1 D1 (fun h => ?_)
    obtain ⟨h0, c1⟩ := e1 h
    refine ⟨h0, fun g hg => h2 g ?_⟩
    have g1 := hg y h3
    rw [h0] at c1
    omega
  refine qX8_narrowBelow ⟨⟨by omega, by omega⟩, ⟨by omega, by omega⟩, fun hab => ⟨fun h => absurd hab h, fun _ => ?_⟩, fun hab => ⟨⟨by omega, by omega⟩, fun hac => ⟨hb, hc, ?_⟩, fun hac => ⟨fun _ => ?_, fun h => absurd h hab⟩⟩⟩
  · subst hab
    exact one (x := 0) hc vc (fun g hg => by have := hT g hg; omega) (fun g hg => by omega) (Or.inr (Or.inr rfl))
  · refine cm_lower S D ha va (fun g hg hb' => ?_) (2 * B + 1) (by omega) (by omega) (by omega) (by omega) (fun m1 S1 D1 x1 k1 e1 => ⟨ha, ?_⟩)
    · have := hT g hg
      have := hb' b hb.1 hb.2
      have := hb' c hc.1 hc.2
      omega
    have k1a := k1 a
    have k1b := k1 b
    have k1c := k1 c
    have n1 := k1b.2.2 (Ne.symm hab)
    have n2 := k1c.2.2 (Ne.symm hac)
    refine cm_raise S1 D1 hb vb (fun g hg hb' => ?_) (2 * B + 1) (by omega) (by omega) (by omega) (by omega) (fun m2 S2 D2 x2 k2 e2 => ?_)
    · have := hT g hg
      have := hb' a ha.1 ha.2
      have := hb' c hc.1 hc.2
      omega
    have k2a := k2 a
    have k2b := k2 b
    have n3 := k2a.2.2 hab
    refine cm_raise S2 D2 hc vc (fun g hg hb' => ?_) (5 * B) (by omega) (by omega) (by omega) (by omega) (fun m3 S3 D3 x3 k3 e3 => ?_)
    · have := hT g hg
      have := hb' a ha.1 ha.2
      have := hb' b hb.1 hb.2
      omega
    refine hQ m3 S3 D3 (fun h => ?_)
    obtain ⟨h2, c3⟩ := e3 h
    obtain ⟨h1, c2⟩ := e2 h2
    obtain ⟨h0, c1⟩ := e1 h1
    refine ⟨h0, fun g hg => ?_⟩
    have g1 := hg a (Or.inl rfl)
    have g2 := hg b (Or.inr (Or.inl rfl))
    have g3 := hg c (Or.inr (Or.inr rfl))
    rw [h0] at c1
    omega
  · subst hac
    exact one (x := 0) hb vb (fun g hg => by have := hT g hg; omega) (fun g hg => by omega) (Or.inr (Or.inl rfl))
theorem cm_narrowAbove {a b c : Int} (S : nr_S T V m0 m) (D : nr_D V B m) (ha : 0 ≤ a ∧ a < 12) (va : V a) (hb : 0 ≤ b ∧ b < 12) (vb : V b) (hc : 0 ≤ c ∧ c < 12) (vc : V c) (hp : ∀ g, T g → ∀ v, 0 ≤ v → v < 12 → 0 ≤ g v) (hT : ∀ g, T g → g b + g c < g a) (hB : 20 ≤ B) (hB' : B ≤ 300000000)
    (hQ : ∀ m' : vm_M, nr_S T V m0 m' → nr_D V (5 * B) m' → (m' = m0 → m = m0 ∧ nr_F m0 (fun u => u = a ∨ u = b ∨ u = c) (fun g => g b + g c < g a)) → Q m') : vm_cn G (d + 1) mX8_narrowAbove [.inr (.inr 24), .inl a, .inl b, .inl c] m Q := by
  have hda := D a ha.1 ha.2 va
  have hdb := D b hb.1 hb.2 vb
  have hdc := D c hc.1 hc.2 vc
  have none : (∀ g, T g → False) → vm_cn G d mX8_lower [.inr (.inr 24), .inl a, .inl (-6)] m Q := by
    intro hF
    refine cm_lower S D ha va (fun g hg hb' => absurd (hF g hg) id) (5 * B) (by omega) (by omega) (by omega) (by omega) (fun m1 S1 D1 x1 k1 e1 => ?_)
    refine hQ m1 S1 D1 (fun h => ?_)
    obtain ⟨h0, c1⟩ := e1 h
    refine ⟨h0, fun g hg => ?_⟩
    have g1 := hg a (Or.inl rfl)
    rw [h0] at c1 hda
    omega
  refine qX8_narrowAbove ⟨⟨by omega, by omega⟩, ⟨by omega, by omega⟩, fun hab => ?_, fun hab => ⟨⟨by omega, by omega⟩, fun hac => ⟨hb, hc, ?_⟩, fun hac => ?_⟩⟩
  · subst hab
    exact none (fun g hg => by have := hT g hg; have := hp g hg c hc.1 hc.2; omega)
  · refine cm_raise S D ha va (fun g hg hb' => ?_) (2 * B + 1) (by omega) (by omega) (by omega) (by omega) (fun m1 S1 D1 x1 k1 e1 => ⟨ha, ?_⟩)
    · have := hT g hg
      have := hb' b hb.1 hb.2
      have := hb' c hc.1 hc.2
      omega
    have k1a := k1 a
    have k1b := k1 b
    have k1c := k1 c
    have n1 := k1b.2.2 (Ne.symm hab)
    have n2 := k1c.2.2 (Ne.symm hac)
    refine cm_lower S1 D1 hb vb (fun g hg hb' => ?_) (2 * B + 1) (by omega) (by omega) (by omega) (by omega) (fun m2 S2 D2 x2 k2 e2 => ?_)
    · have := hT g hg
      have := hb' a ha.1 ha.2
      have := hb' c hc.1 hc.2
      omega
    have k2a := k2 a
    have k2b := k2 b
    have n3 := k2a.2.2 hab
    refine cm_lower S2 D2 hc vc (fun g hg hb' => ?_) (5 * B) (by omega) (by omega) (by omega) (by omega) (fun m3 S3 D3 x3 k3 e3 => ?_)
    · have := hT g hg
      have := hb' a ha.1 ha.2
      have := hb' b hb.1 hb.2
      omega
    refine hQ m3 S3 D3 (fun h => ?_)
    obtain ⟨h2, c3⟩ := e3 h
    obtain ⟨h1, c2⟩ := e2 h2
    obtain ⟨h0, c1⟩ := e1 h1
    refine ⟨h0, fun g hg => ?_⟩
    have g1 := hg a (Or.inl rfl)
    have g2 := hg b (Or.inr (Or.inl rfl))
    have g3 := hg c (Or.inr (Or.inr rfl))
    rw [h0] at c1
    omega
  · subst hac
    exact none (fun g hg => by have := hT g hg; have := hp g hg b hb.1 hb.2; omega)
end NR2
