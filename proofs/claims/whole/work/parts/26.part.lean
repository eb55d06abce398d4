/-! THE REFERENCE: the counts that facts join -/
theorem zz_pow_lt {n k : Nat} (h : n < k) : 2 ^ n < 2 ^ k := Nat.pow_lt_pow_right (by decide) h
theorem zz_shlI {x : Int} (h0 : 0 ≤ x) (h1 : x < 31) : vm_shl 1 x = ((2 ^ x.toNat : Nat) : Int) := by
  have := zz_shl1 (n := x.toNat) (by omega)
  rwa [Int.toNat_of_nonneg h0] at this
theorem zz_two (x y : Int) (hx : 0 ≤ x ∧ x < 12) (hy : 0 ≤ y ∧ y < 12) : ∃ r : Nat, vm_or (vm_shl 1 x) (vm_shl 1 y) = (r : Int) ∧ r < 4096 ∧ ∀ u : Nat, r.testBit u = true ↔ (u : Int) = x ∨ (u : Int) = y := by
  have p1 : 2 ^ x.toNat < 2 ^ 12 := zz_pow_lt (by omega)
  have p2 : 2 ^ y.toNat < 2 ^ 12 := zz_pow_lt (by omega)
  refine ⟨2 ^ x.toNat ||| 2 ^ y.toNat, ?_, zz_or_lt 12 p1 p2, fun u => ?_⟩
  · rw [zz_shlI hx.1 (by omega), zz_shlI hy.1 (by omega), zz_or _ _ (by omega) (by omega)]
  · rw [Nat.testBit_or, Nat.testBit_two_pow, Nat.testBit_two_pow]
    simp
    omega
theorem zz_three (x y z : Int) (hx : 0 ≤ x ∧ x < 12) (hy : 0 ≤ y ∧ y < 12) (hz : 0 ≤ z ∧ z < 12) : ∃ r : Nat, vm_or (vm_or (vm_shl 1 x) (vm_shl 1 y)) (vm_shl 1 z) = (r : Int) ∧ r < 4096 ∧ ∀ u : Nat, r.testBit u = true ↔ (u : Int) = x ∨ (u : Int) = y ∨ (u : Int) = z := by
  obtain ⟨r, h1, h2, h3⟩ := zz_two x y hx hy
  have p3 : 2 ^ z.toNat < 2 ^ 12 := zz_pow_lt (by omega)
  refine ⟨r ||| 2 ^ z.toNat, ?_, zz_or_lt 12 h2 p3, fun u => ?_⟩
  · rw [h1, zz_shlI hz.1 (by omega), zz_or _ _ (by omega) (by omega)]
  · rw [Nat.testBit_or, Nat.testBit_two_pow]
    have := h3 u
    simp only [Bool.or_eq_true, decide_eq_true_eq, this]
    omega
/-- the set r of the counts that t joins to v -/
def jn_is (t : fc_T) (v r : Nat) : Prop := r < 4096 ∧ ∀ u : Nat, r.testBit u = true ↔ (fc_av t ((v : Int) % 3) v ∧ fc_av t ((v : Int) % 3) u) ∨ (¬ fc_av t ((v : Int) % 3) v ∧ u = v)
section PT
variable {G : vm_G} {d : Nat} {m : vm_M}
theorem cm_joined_127 {t : fc_T} {v s : Nat} {v1 v2 v3 v4 v5 v6 : Int} {Q : vm_M → Int → Prop} (hv : v < 12) (hs : s < 4096) (h : (∀ u : Nat, s.testBit u = true ↔ fc_av t ((v : Int) % 3) u) ∨ (s = 0 ∧ ∀ u : Nat, fc_av t ((v : Int) % 3) v → fc_av t ((v : Int) % 3) u → u = v)) (hQ : ∀ r : Nat, jn_is t v r → Q m r) :
    vm_ex G (d + 1) mX8_joined 127 [some (.inl (v : Int)), some (.inl v1), some (.inl v2), some (.inl v3), some (.inl v4), some (.inl v5), some (.inl v6), some (.inl (s : Int))] [] m (vm_qi Q) := by
  have hb := zz_bit s v (by omega) (by omega)
  have p1 : 2 ^ v < 2 ^ 12 := zz_pow_lt hv
  refine qX8_joined_127 ?_
  rw [hb]
  cases hsv : s.testBit v with
  | false =>
    simp only [Bool.false_eq_true, if_false]
    refine ⟨⟨by decide, by decide⟩, fun _ => ?_, fun h => absurd h (by decide)⟩
    rw [zz_shl1 (by omega)]
    refine hQ _ ⟨p1, fun u => ?_⟩
    rw [Nat.testBit_two_pow]
    simp only [decide_eq_true_eq]
    rcases h with h | ⟨h0, h⟩
    · have : ¬ fc_av t ((v : Int) % 3) v := fun z => by have := (h v).mpr z; rw [hsv] at this; cases this
      exact ⟨fun e => Or.inr ⟨this, e.symm⟩, fun e => by rcases e with e | e; exact absurd e.1 this; exact e.2.symm⟩
    · refine ⟨fun e => ?_, fun e => ?_⟩
      · subst e
        by_cases z : fc_av t ((v : Int) % 3) v
        · exact Or.inl ⟨z, z⟩
        · exact Or.inr ⟨z, rfl⟩
      · rcases e with e | e
        · exact (h u e.1 e.2).symm
        · exact e.2.symm
  | true =>
    simp only [if_true]
    refine ⟨⟨by decide, by decide⟩, fun h => absurd (by decide) h, fun _ => ?_⟩
    rcases h with h | ⟨h0, _⟩
    · have hz := (h v).mp hsv
      exact hQ _ ⟨hs, fun u => ⟨fun e => Or.inl ⟨hz, (h u).mp e⟩, fun e => by rcases e with e | e; exact (h u).mpr e.2; exact absurd hz e.1⟩⟩
    · subst h0; simp at hsv
theorem cm_joined {f a b c d' e : Int} {v : Nat} {Q : vm_M → Int → Prop} (hw : fc_wf (f, a, b, c, d', e)) (hv : v < 12) (hQ : ∀ r : Nat, jn_is (f, a, b, c, d', e) v r → Q m r) :
    vm_ci G (d + 1) mX8_joined [.inl (v : Int), .inl f, .inl a, .inl b, .inl c, .inl d'] m Q := by
  obtain ⟨w1, w2, w3, w4, w5, w6, w7, w8⟩ := hw
  have hrem : vm_rem (v : Int) 3 = (v : Int) % 3 := zz_rem (by omega) (by omega) (by decide) (by decide)
  have hk : 0 ≤ (v : Int) % 3 ∧ (v : Int) % 3 < 3 := by omega
  refine qX8_joined ⟨⟨by omega, by omega⟩, fun h7 => ?_, fun h7 => ⟨fun h8 => ?_, fun h8 => ?_⟩⟩
  · subst h7
    have w := w8 (Or.inl rfl)
    obtain ⟨r, e1, e2, e3⟩ := zz_three (3 * a + d') (3 * b + d') (3 * c + d') (by omega) (by omega) (by omega)
    refine qX8_joined_12 ⟨⟨by decide, by decide⟩, fun _ => ⟨fun _ => ⟨fun _ => ⟨fun h => absurd h (by decide), fun _ => ?_⟩, fun h => absurd h (by decide)⟩, fun h => absurd h (by decide)⟩, fun h => absurd h (by decide)⟩
    rw [e1]
    exact cm_joined_127 hv e2 (Or.inl fun u => by rw [e3 u]; simp [fc_av]) hQ
  · rw [hrem]
    refine ⟨fun h1 => ⟨fun h6 => ⟨fun h5 => ⟨fun h0 => ?_, fun h0 => ?_⟩, fun h5 => ?_⟩, fun h6 => ?_⟩, fun h1 => ?_⟩
    · subst h0
      exact cm_joined_127 (s := 0) hv (by decide) (Or.inr ⟨rfl, fun u e1 e2 => by simp [fc_av] at e1 e2; omega⟩) hQ
    · have hf : f = 2 ∨ f = 3 ∨ f = 4 := by omega
      have w := w5 hf
      obtain ⟨r, e1, e2, e3⟩ := zz_three (3 * a + (v : Int) % 3) (3 * b + (v : Int) % 3) (3 * c + (v : Int) % 3) (by omega) (by omega) (by omega)
      rw [e1]
      refine cm_joined_127 hv e2 (Or.inl fun u => ?_) hQ
      rw [e3 u]
      simp only [fc_av]
      rw [if_neg h0, if_neg h1, if_pos hf]
    · subst h5
      have w := w6 rfl
      obtain ⟨r, e1, e2, e3⟩ := zz_two (3 * a + (v : Int) % 3) (3 * b + (v : Int) % 3) (by omega) (by omega)
      rw [e1]
      exact cm_joined_127 hv e2 (Or.inl fun u => by rw [e3 u]; simp [fc_av]) hQ
    · subst h6
      have w := w7 rfl
      obtain ⟨r, e1, e2, e3⟩ := zz_two (3 * a + b) (3 * c + d') (by omega) (by omega)
      rw [e1]
      exact cm_joined_127 hv e2 (Or.inl fun u => by rw [e3 u]; simp [fc_av]) hQ
    · subst h1
      have hs : vm_shl 7 (3 * a) = ((7 * 2 ^ (3 * a).toNat : Nat) : Int) := by
        have := zz_shl 7 (3 * a).toNat (by omega) (by
          have : 2 ^ (3 * a).toNat ≤ 2 ^ 9 := Nat.pow_le_pow_right (by decide) (by omega)
          omega) (by decide)
        rwa [Int.toNat_of_nonneg (by omega)] at this
      refine qX8_bagBit ?_
      rw [hs]
      have h4 : a = 0 ∨ a = 1 ∨ a = 2 ∨ a = 3 := by omega
      have tb : ∀ u : Nat, (7 * 2 ^ (3 * a).toNat).testBit u = true ↔ (u : Int) = 3 * a ∨ (u : Int) = 3 * a + 1 ∨ (u : Int) = 3 * a + 2 := by
        intro u
        rw [Nat.mul_comm, Nat.testBit_two_pow_mul]
        have : (7 : Nat) = 2 ^ 3 - 1 := rfl
        rw [this, Nat.testBit_two_pow_sub_one]
        simp
        omega
      refine cm_joined_127 hv ?_ (Or.inl fun u => ?_) hQ
      · have : 2 ^ (3 * a).toNat ≤ 2 ^ 9 := Nat.pow_le_pow_right (by decide) (by omega)
        omega
      · rw [tb]; simp [fc_av]
  · subst h8
    have w := w8 (Or.inr rfl)
    obtain ⟨r, e1, e2, e3⟩ := zz_three (3 * a + d') (3 * b + d') (3 * c + d') (by omega) (by omega) (by omega)
    refine qX8_joined_12 ⟨⟨by decide, by decide⟩, fun _ => ⟨fun _ => ⟨fun _ => ⟨fun h => absurd h (by decide), fun _ => ?_⟩, fun h => absurd h (by decide)⟩, fun h => absurd h (by decide)⟩, fun h => absurd h (by decide)⟩
    rw [e1]
    exact cm_joined_127 hv e2 (Or.inl fun u => by rw [e3 u]; simp [fc_av]) hQ
/-- the counts that some fact joins to v, with it -/
def jn_to (m : vm_M) (v r : Nat) : Prop := r < 4096 ∧ ∀ u : Nat, r.testBit u = true ↔ u = v ∨ ∃ t, rf_C m t ∧ fc_av t ((v : Int) % 3) v ∧ fc_av t ((v : Int) % 3) u
theorem cm_joinedTo_77 {v : Nat} {Q : vm_M → Int → Prop} (ok : rf_ok m) (hv : v < 12) (hQ : ∀ r : Nat, jn_to m v r → Q m r) :
    ∀ (n : Nat) (k : Int) (s : Nat), m 24 9 = k + (n : Int) → 0 ≤ k → s < 4096 → (∀ u : Nat, s.testBit u = true ↔ u = v ∨ ∃ t, ((∃ i : Nat, (i : Int) < m 25 1 ∧ (m 24 10).toNat.testBit i = true ∧ t = rf_tup (m 25) (2 + 6 * (i : Int))) ∨ ∃ j : Int, 0 ≤ j ∧ j < k ∧ t = rf_tup (m 31) (6 * j)) ∧ fc_av t ((v : Int) % 3) v ∧ fc_av t ((v : Int) % 3) u) →
    vm_ex G (d + 2) mX8_joinedTo 77 [some (.inr (.inr 24)), some (.inl (v : Int)), some (.inl (s : Int)), some (.inl k), none] [] m (vm_qi Q) := by
  obtain ⟨hK, hU, hW, hE, hEw⟩ := id ok
  intro n
  induction n with
  | zero =>
    intro k s hk h0 hs hb
    have : k = m 24 9 := by omega
    subst this
    exact qX8_joinedTo_77 ⟨⟨by omega, by omega⟩, ⟨by omega, by omega⟩, fun _ => hQ s ⟨hs, hb⟩, fun h => absurd h (by omega)⟩
  | succ n ih =>
    intro k s hk h0 hs hb
    refine qX8_joinedTo_77 ⟨⟨by omega, by omega⟩, ⟨by omega, by omega⟩, fun h => absurd h (by omega), fun _ => ⟨by omega, by omega, by omega, by omega, by omega, ?_⟩⟩
    have hw := hEw k h0 (by omega)
    have e0 : rf_tup (m 31) (6 * k) = (m 31 (6 * k), m 31 (6 * k + 1), m 31 (6 * k + 2), m 31 (6 * k + 3), m 31 (6 * k + 4), m 31 (6 * k + 5)) := by simp [rf_tup]
    have hw2 := hw
    rw [e0] at hw2
    refine cm_joined hw2 hv (fun r hr => ?_)
    rw [← e0] at hr
    rw [zz_or s r (by omega) (by have := hr.1; omega)]
    refine ih (k + 1) (s ||| r) (by omega) (by omega) (zz_or_lt 12 hs hr.1) (fun u => ?_)
    rw [Nat.testBit_or, Bool.or_eq_true, hb u, hr.2 u]
    constructor
    · rintro ((h | ⟨t, ht, h1, h2⟩) | (⟨h1, h2⟩ | ⟨h1, h2⟩))
      · exact Or.inl h
      · refine Or.inr ⟨t, ?_, h1, h2⟩
        rcases ht with ht | ⟨j, j0, j1, e⟩
        · exact Or.inl ht
        · exact Or.inr ⟨j, j0, by omega, e⟩
      · exact Or.inr ⟨_, Or.inr ⟨k, h0, by omega, rfl⟩, h1, h2⟩
      · exact Or.inl h2
    · rintro (h | ⟨t, ht, h1, h2⟩)
      · exact Or.inl (Or.inl h)
      · rcases ht with ht | ⟨j, j0, j1, e⟩
        · exact Or.inl (Or.inr ⟨t, Or.inl ht, h1, h2⟩)
        · by_cases hj : j = k
          · subst hj; rw [e] at h1 h2; exact Or.inr (Or.inl ⟨h1, h2⟩)
          · exact Or.inl (Or.inr ⟨t, Or.inr ⟨j, j0, by omega, e⟩, h1, h2⟩)
theorem cm_joinedTo_6 {v : Nat} {Q : vm_M → Int → Prop} (ok : rf_ok m) (hv : v < 12) (hQ : ∀ r : Nat, jn_to m v r → Q m r) :
    ∀ (n : Nat) (k : Nat) (s : Nat), m 25 1 = (k : Int) + (n : Int) → s < 4096 → (∀ u : Nat, s.testBit u = true ↔ u = v ∨ ∃ t, (∃ i : Nat, i < k ∧ (m 24 10).toNat.testBit i = true ∧ t = rf_tup (m 25) (2 + 6 * (i : Int))) ∧ fc_av t ((v : Int) % 3) v ∧ fc_av t ((v : Int) % 3) u) →
    vm_ex G (d + 2) mX8_joinedTo 6 [some (.inr (.inr 24)), some (.inl (v : Int)), some (.inl (s : Int)), some (.inl (k : Int)), none] [] m (vm_qi Q) := by
  obtain ⟨hK, hU, hW, hE, hEw⟩ := id ok
  intro n
  induction n with
  | zero =>
    intro k s hk hs hb
    refine qX8_joinedTo_6 ⟨⟨by omega, by omega⟩, ⟨by omega, by omega⟩, fun _ => ?_, fun h => absurd h (by omega)⟩
    refine cm_joinedTo_77 ok hv hQ (m 24 9).toNat 0 s (by omega) (by decide) hs (fun u => ?_)
    rw [hb u]
    constructor
    · rintro (h | ⟨t, ⟨i, hi, hb, e⟩, h1, h2⟩)
      · exact Or.inl h
      · exact Or.inr ⟨t, Or.inl ⟨i, by omega, hb, e⟩, h1, h2⟩
    · rintro (h | ⟨t, ⟨i, hi, hb, e⟩ | ⟨j, j0, j1, e⟩, h1, h2⟩)
      · exact Or.inl h
      · exact Or.inr ⟨t, ⟨i, by omega, hb, e⟩, h1, h2⟩
      · omega
  | succ n ih =>
    intro k s hk hs hb
    have e10 : m 24 10 = ((m 24 10).toNat : Int) := by omega
    have hbit := zz_bit (m 24 10).toNat k (by omega) (by omega)
    refine qX8_joinedTo_6 ⟨⟨by omega, by omega⟩, ⟨by omega, by omega⟩, fun h => absurd h (by omega), fun _ => ?_⟩
    rw [e10]
    cases hbk : (m 24 10).toNat.testBit k with
    | false =>
      have hv0 : vm_and (vm_shr ((m 24 10).toNat : Int) (k : Int)) 1 = 0 := by rw [hbit, hbk]; rfl
      rw [hv0]
      refine ⟨⟨by decide, by decide⟩, fun _ => ?_, fun h => absurd h (by decide)⟩
      have hz := zz_or s 0 (by omega) (by decide)
      rw [show ((0 : Nat) : Int) = 0 from rfl, Nat.or_zero] at hz
      rw [hz]
      have := ih (k + 1) s (by omega) hs (fun u => by
        rw [hb u]
        constructor
        · rintro (h | ⟨t, ⟨i, hi, hbi, e⟩, h1, h2⟩)
          · exact Or.inl h
          · exact Or.inr ⟨t, ⟨i, by omega, hbi, e⟩, h1, h2⟩
        · rintro (h | ⟨t, ⟨i, hi, hbi, e⟩, h1, h2⟩)
          · exact Or.inl h
          · by_cases hik : i = k
            · subst hik; rw [hbk] at hbi; cases hbi
            · exact Or.inr ⟨t, ⟨i, by omega, hbi, e⟩, h1, h2⟩)
      exact this
    | true =>
      have hv1 : vm_and (vm_shr ((m 24 10).toNat : Int) (k : Int)) 1 = 1 := by rw [hbit, hbk]; rfl
      rw [hv1]
      refine ⟨⟨by decide, by decide⟩, fun h => absurd (by decide) h, fun _ => ?_⟩
      have hw := hW (k : Int) (by omega) (by omega)
      refine cm_of (by omega) (cm_of (by omega) (cm_of (by omega) (cm_of (by omega) (cm_of (by omega) ?_))))
      refine cm_joined (e := m 25 (2 + 6 * (k : Int) + 5)) hw hv (fun r hr => ?_)
      rw [zz_or s r (by omega) (by have := hr.1; omega)]
      have := ih (k + 1) (s ||| r) (by omega) (zz_or_lt 12 hs hr.1) (fun u => by
        rw [Nat.testBit_or, Bool.or_eq_true, hb u, hr.2 u]
        constructor
        · rintro ((h | ⟨t, ⟨i, hi, hbi, e⟩, h1, h2⟩) | (⟨h1, h2⟩ | ⟨h1, h2⟩))
          · exact Or.inl h
          · exact Or.inr ⟨t, ⟨i, by omega, hbi, e⟩, h1, h2⟩
          · exact Or.inr ⟨_, ⟨k, by omega, hbk, rfl⟩, h1, h2⟩
          · exact Or.inl h2
        · rintro (h | ⟨t, ⟨i, hi, hbi, e⟩, h1, h2⟩)
          · exact Or.inl (Or.inl h)
          · by_cases hik : i = k
            · subst hik; rw [e] at h1 h2; exact Or.inr (Or.inl ⟨h1, h2⟩)
            · exact Or.inl (Or.inr ⟨t, ⟨i, by omega, hbi, e⟩, h1, h2⟩))
      exact this
theorem cm_joinedTo {v : Nat} {Q : vm_M → Int → Prop} (ok : rf_ok m) (hv : v < 12) (hQ : ∀ r : Nat, jn_to m v r → Q m r) : vm_ci G (d + 2) mX8_joinedTo [.inr (.inr 24), .inl (v : Int)] m Q := by
  refine qX8_joinedTo ?_
  rw [zz_shl1 (by omega)]
  have p1 : 2 ^ v < 2 ^ 12 := zz_pow_lt hv
  have := cm_joinedTo_6 (G := G) (d := d) ok hv hQ (m 25 1).toNat 0 (2 ^ v) (by have := ok.1; omega) p1 (fun u => by
    rw [Nat.testBit_two_pow, decide_eq_true_eq]
    exact ⟨fun e => Or.inl e.symm, fun e => by rcases e with e | ⟨t, ⟨i, hi, _⟩, _⟩; exact e.symm; omega⟩)
  exact this
/-- a set that holds, with a count, all that some fact joins to it -/
def jn_cl (m : vm_M) (Z : Nat → Prop) : Prop := ∀ v u : Nat, v < 12 → Z v → ∀ t, rf_C m t → fc_av t ((v : Int) % 3) v → fc_av t ((v : Int) % 3) u → Z u
/-- the part of a count: the least such set -/
def jn_pt (m : vm_M) (v r : Nat) : Prop := r < 4096 ∧ r.testBit v = true ∧ jn_cl m (fun u => r.testBit u = true) ∧ ∀ Z : Nat → Prop, jn_cl m Z → Z v → ∀ u, r.testBit u = true → Z u
theorem cm_part_16 {v s0 : Nat} {Q : vm_M → Int → Prop} (ok : rf_ok m) (hs0 : s0 < 4096) (h0 : ∀ Z : Nat → Prop, jn_cl m Z → Z v → ∀ u, s0.testBit u = true → Z u)
    (hN : ∀ s : Nat, s < 4096 → (∀ u, s0.testBit u = true → s.testBit u = true) → (∀ w u : Nat, w < 12 → s0.testBit w = true → ∀ t, rf_C m t → fc_av t ((w : Int) % 3) w → fc_av t ((w : Int) % 3) u → s.testBit u = true) → (∀ Z : Nat → Prop, jn_cl m Z → Z v → ∀ u, s.testBit u = true → Z u) → vm_ex G (d + 3) mX8_part 6 [some (.inr (.inr 24)), some (.inl (v : Int)), some (.inl (s : Int)), some (.inl (s0 : Int)), none] [] m (vm_qi Q)) :
    ∀ (n : Nat) (k : Nat) (s : Nat), 12 = k + n → s < 4096 → (∀ u, s0.testBit u = true → s.testBit u = true) → (∀ w u : Nat, w < k → s0.testBit w = true → ∀ t, rf_C m t → fc_av t ((w : Int) % 3) w → fc_av t ((w : Int) % 3) u → s.testBit u = true) → (∀ Z : Nat → Prop, jn_cl m Z → Z v → ∀ u, s.testBit u = true → Z u) →
    vm_ex G (d + 3) mX8_part 16 [some (.inr (.inr 24)), some (.inl (v : Int)), some (.inl (s : Int)), some (.inl (s0 : Int)), some (.inl (k : Int))] [] m (vm_qi Q) := by
  intro n
  induction n with
  | zero =>
    intro k s hk hs h1 h2 h3
    have : k = 12 := by omega
    subst this
    exact qX8_part_16 ⟨⟨by omega, by omega⟩, fun _ => hN s hs h1 h2 h3, fun h => absurd h (by omega)⟩
  | succ n ih =>
    intro k s hk hs h1 h2 h3
    have hbit := zz_bit s0 k (by omega) (by omega)
    refine qX8_part_16 ⟨⟨by omega, by omega⟩, fun h => absurd h (by omega), fun _ => ?_⟩
    cases hbk : s0.testBit k with
    | false =>
      have hv0 : vm_and (vm_shr (s0 : Int) (k : Int)) 1 = 0 := by rw [hbit, hbk]; rfl
      rw [hv0]
      refine ⟨⟨by decide, by decide⟩, fun _ => ?_, fun h => absurd h (by decide)⟩
      have hz := zz_or s 0 (by omega) (by decide)
      rw [show ((0 : Nat) : Int) = 0 from rfl, Nat.or_zero] at hz
      rw [hz]
      have := ih (k + 1) s (by omega) hs h1 (fun w u hw hb => by
        by_cases hwk : w = k
        · subst hwk; rw [hbk] at hb; cases hb
        · exact h2 w u (by omega) hb) h3
      exact this
    | true =>
      have hv1 : vm_and (vm_shr (s0 : Int) (k : Int)) 1 = 1 := by rw [hbit, hbk]; rfl
      rw [hv1]
      refine ⟨⟨by decide, by decide⟩, fun h => absurd (by decide) h, fun _ => ?_⟩
      refine cm_joinedTo (d := d) ok (by omega) (fun r hr => ?_)
      rw [zz_or s r (by omega) (by have := hr.1; omega)]
      have := ih (k + 1) (s ||| r) (by omega) (zz_or_lt 12 hs hr.1) (fun u hu => by rw [Nat.testBit_or, h1 u hu]; rfl) (fun w u hw hb t ht ha hb2 => by
        rw [Nat.testBit_or, Bool.or_eq_true]
        by_cases hwk : w = k
        · subst hwk; exact Or.inr ((hr.2 u).mpr (Or.inr ⟨t, ht, ha, hb2⟩))
        · exact Or.inl (h2 w u (by omega) hb t ht ha hb2)) (fun Z hZ hv u hu => by
        rw [Nat.testBit_or, Bool.or_eq_true] at hu
        rcases hu with hu | hu
        · exact h3 Z hZ hv u hu
        · have hk := h0 Z hZ hv k hbk
          rcases (hr.2 u).mp hu with e | ⟨t, ht, ha, hb2⟩
          · subst e; exact hk
          · exact hZ k u (by omega) hk t ht ha hb2)
      exact this
theorem cm_part_6 {v : Nat} {Q : vm_M → Int → Prop} (ok : rf_ok m) (hv : v < 12) (hQ : ∀ r : Nat, jn_pt m v r → Q m r) :
    ∀ (n : Nat) (s s0 : Nat), 4096 ≤ s0 + n → s0 ≤ s → s < 4096 → (s.testBit v = true) → (∀ Z : Nat → Prop, jn_cl m Z → Z v → ∀ u, s.testBit u = true → Z u) → (∀ w u : Nat, w < 12 → s0.testBit w = true → ∀ t, rf_C m t → fc_av t ((w : Int) % 3) w → fc_av t ((w : Int) % 3) u → s.testBit u = true) →
    vm_ex G (d + 3) mX8_part 6 [some (.inr (.inr 24)), some (.inl (v : Int)), some (.inl (s : Int)), some (.inl (s0 : Int)), none] [] m (vm_qi Q) := by
  intro n
  induction n with
  | zero =>
    intro s s0 hn h0 hs
    omega
  | succ n ih =>
    intro s s0 hn hle hs hsv hZ hc
    refine qX8_part_6 ⟨⟨by omega, by omega⟩, ⟨by omega, by omega⟩, fun he => ?_, fun he => ?_⟩
    · have : s = s0 := by omega
      subst this
      exact hQ s ⟨hs, hsv, fun w u hw hb => hc w u hw hb, hZ⟩
    · have hlt : s0 < s := by omega
      have := cm_part_16 (G := G) (d := d) (Q := Q) (v := v) ok hs hZ (fun s' hs' h1 h2 h3 => ih s' s (by omega) (by
          -- a greater set is a greater number
          have hand : s &&& s' = s := by
            apply Nat.eq_of_testBit_eq
            intro i
            rw [Nat.testBit_and]
            cases h : s.testBit i with
            | false => rfl
            | true => rw [h1 i h]; rfl
          have := @Nat.and_le_right s s'
          omega) hs' (h1 v hsv) h3 h2) 12 0 s rfl hs (fun _ h => h) (fun w u hw => by omega) hZ
      exact this
theorem cm_part {v : Nat} {Q : vm_M → Int → Prop} (ok : rf_ok m) (hv : v < 12) (hQ : ∀ r : Nat, jn_pt m v r → Q m r) : vm_ci G (d + 3) mX8_part [.inr (.inr 24), .inl (v : Int)] m Q := by
  refine qX8_part ?_
  rw [zz_shl1 (by omega)]
  have p1 : 2 ^ v < 2 ^ 12 := zz_pow_lt hv
  have := cm_part_6 (G := G) (d := d) ok hv hQ 4096 (2 ^ v) 0 (by omega) (Nat.zero_le _) p1 (by rw [Nat.testBit_two_pow]; simp) (fun Z _ hZ u hu => by
    rw [Nat.testBit_two_pow, decide_eq_true_eq] at hu
    subst hu; exact hZ) (fun w u _ h => by simp at h)
  exact this
end PT
