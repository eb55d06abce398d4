/-! THE REFERENCE: narrowing as far as it goes -/
section RF
variable {G : vm_G} {d : Nat} {m : vm_M} {Q : vm_M → Bool → Prop}
theorem vm_or_b (a b : Bool) : vm_or (vm_b2i a) (vm_b2i b) = vm_b2i (a || b) := by cases a <;> cases b <;> decide
theorem cm_isEmpty_4 (hR : ∀ v : Int, 0 ≤ v → v < 12 → vm_R (m 29 v) ∧ vm_R (m 30 v)) (hQ : ∀ b : Bool, (b = true ↔ ∃ v : Int, 0 ≤ v ∧ v < 12 ∧ m 30 v < m 29 v) → Q m b) :
    ∀ (n : Nat) (k : Int) (b : Bool), k = 12 - (n : Int) → n ≤ 12 → (b = true ↔ ∃ v : Int, 0 ≤ v ∧ v < k ∧ m 30 v < m 29 v) →
    vm_ex G d mX8_isEmpty 4 [some (.inr (.inr 24)), some (.inl (vm_b2i b)), some (.inl k)] [] m (vm_qb Q) := by
  intro n
  induction n with
  | zero =>
    intro k b hk _ hb
    have : k = 12 := by omega
    subst this
    exact qX8_isEmpty_4 ⟨⟨by decide, by decide⟩, fun _ => ⟨b, rfl, hQ b hb⟩, fun h => absurd (by decide) h⟩
  | succ n ih =>
    intro k b hk hn hb
    have hk0 : 0 ≤ k ∧ k < 12 := by omega
    have hr := hR k hk0.1 hk0.2
    refine qX8_isEmpty_4 ⟨⟨by omega, by omega⟩, fun h => absurd h (by omega), fun _ => ⟨hk0, hr.1, hr.2, fun h => ?_, fun h => ?_⟩⟩
    · rw [show (0 : Int) = vm_b2i false from rfl, vm_or_b, Bool.or_false]
      refine ih (k + 1) b (by omega) (by omega) (hb.trans ⟨fun ⟨v, h0, h1, h2⟩ => ⟨v, h0, by omega, h2⟩, fun ⟨v, h0, h1, h2⟩ => ⟨v, h0, ?_, h2⟩⟩)
      by_cases hv : v = k
      · subst hv; omega
      · omega
    · rw [show (1 : Int) = vm_b2i true from rfl, vm_or_b, Bool.or_true]
      exact ih (k + 1) true (by omega) (by omega) ⟨fun _ => ⟨k, hk0.1, by omega, by omega⟩, fun _ => rfl⟩
theorem cm_isEmpty (hR : ∀ v : Int, 0 ≤ v → v < 12 → vm_R (m 29 v) ∧ vm_R (m 30 v)) (hQ : ∀ b : Bool, (b = true ↔ ∃ v : Int, 0 ≤ v ∧ v < 12 ∧ m 30 v < m 29 v) → Q m b) : vm_cb G d mX8_isEmpty [.inr (.inr 24)] m Q :=
  qX8_isEmpty (cm_isEmpty_4 hR hQ 12 0 false (by decide) (by decide) ⟨fun h => Bool.noConfusion h, fun ⟨v, h0, h1, _⟩ => by omega⟩)
theorem cm_of {f w : Int} {Q : vm_M → Int → Prop} (h : 0 ≤ 2 + 6 * f + w ∧ 2 + 6 * f + w < 62) (hQ : Q m (m 25 (2 + 6 * f + w))) : vm_ci G d mX8_of [.inr (.inr 24), .inl f, .inl w] m Q := qX8_of ⟨h, hQ⟩
end RF
def rf_tup (f : Int → Int) (b : Int) : fc_T := (f (b + 0), f (b + 1), f (b + 2), f (b + 3), f (b + 4), f (b + 5))
/-- the facts that the search is asked about: those of the row that are used, and those besides them -/
def rf_C (m : vm_M) (t : fc_T) : Prop := (∃ i : Nat, (i : Int) < m 25 1 ∧ (m 24 10).toNat.testBit i = true ∧ t = rf_tup (m 25) (2 + 6 * (i : Int))) ∨ ∃ j : Int, 0 ≤ j ∧ j < m 24 9 ∧ t = rf_tup (m 31) (6 * j)
def rf_ok (m : vm_M) : Prop :=
  (0 ≤ m 25 1 ∧ m 25 1 ≤ 10) ∧ (0 ≤ m 24 10 ∧ m 24 10 < 2147483648) ∧ (∀ i : Int, 0 ≤ i → i < m 25 1 → fc_wf (rf_tup (m 25) (2 + 6 * i))) ∧
  (m 24 9 = 0 ∨ m 24 9 = 1 ∨ (m 24 9 = 2 ∧ m 31 (6 * 0 + 0) = 6 ∧ m 31 (6 * 1 + 0) = 6)) ∧ (∀ j : Int, 0 ≤ j → j < m 24 9 → fc_wf (rf_tup (m 31) (6 * j)))
/-- what the search looks for -/
def rf_T (m : vm_M) (g : fc_G) : Prop := (∀ v : Int, 0 ≤ v → v < 12 → 0 ≤ g v) ∧ ∀ t, rf_C m t → fc_holds t g
/-- the same question -/
def rf_eq (m m' : vm_M) : Prop := m' 25 = m 25 ∧ m' 31 = m 31 ∧ m' 24 10 = m 24 10 ∧ m' 24 9 = m 24 9
theorem rf_eq.refl (m : vm_M) : rf_eq m m := ⟨rfl, rfl, rfl, rfl⟩
theorem rf_eq.trans {a b c : vm_M} (h1 : rf_eq a b) (h2 : rf_eq b c) : rf_eq a c := ⟨h2.1.trans h1.1, h2.2.1.trans h1.2.1, h2.2.2.1.trans h1.2.2.1, h2.2.2.2.trans h1.2.2.2⟩
theorem rf_eq.C {m m' : vm_M} (h : rf_eq m m') : rf_C m' = rf_C m := by
  funext t
  simp only [rf_C, h.1, h.2.1, h.2.2.1, h.2.2.2]
theorem rf_eq.T {m m' : vm_M} (h : rf_eq m m') : rf_T m' = rf_T m := by
  funext g
  simp only [rf_T, h.C]
theorem rf_eq.ok {m m' : vm_M} (h : rf_eq m m') (hm : rf_ok m) : rf_ok m' := by
  simp only [rf_ok, h.1, h.2.1, h.2.2.1, h.2.2.2]
  exact hm
theorem nr_S.eqv {T : fc_G → Prop} {V : Int → Prop} {m m' : vm_M} (h : nr_S T V m m') : rf_eq m m' :=
  ⟨funext fun i => h.1 25 i (by simp) (by simp), funext fun i => h.1 31 i (by simp) (by simp), h.1 24 10 (by simp) (by simp), h.1 24 9 (by simp) (by simp)⟩
theorem nr_X.congr {m m' : vm_M} {t : fc_T} (h : nr_X m t) (h29 : m' 29 = m 29) (h30 : m' 30 = m 30) : nr_X m' t := by
  intro k h0 h1 g hg
  exact h k h0 h1 g (fun u hu => by have := hg u hu; rw [h29, h30] at this; exact this)
section RN
variable {G : vm_G} {d : Nat} {m m0 : vm_M} {Q : vm_M → Bool → Prop}
/-- a pass over the facts besides the row -/
theorem cm_narrow_96 (ok : rf_ok m) (S : nr_S (rf_T m) (fun _ => True) m0 m) (D : nr_D (fun _ => True) 200000000 m)
    (hX : m = m0 → ∀ i : Nat, (i : Int) < m0 25 1 → (m0 24 10).toNat.testBit i = true → nr_X m0 (rf_tup (m0 25) (2 + 6 * (i : Int))))
    (hQ : ∀ m' : vm_M, nr_S (rf_T m) (fun _ => True) m0 m' → nr_D (fun _ => True) 1000000000 m' → (m' = m0 → ∀ t, rf_C m0 t → nr_X m0 t) → vm_ex G (d + 6) mX8_narrow 5 [some (.inr (.inr 24)), none, none] [] m' (vm_qb Q)) :
    vm_ex G (d + 6) mX8_narrow 96 [some (.inr (.inr 24)), some (.inl 0), none] [] m (vm_qb Q) := by
  obtain ⟨hK, hU, hW, hE, hEw⟩ := id ok
  have Tn : ∀ g, rf_T m g → ∀ v : Int, 0 ≤ v → v < 12 → 0 ≤ g v := fun g hg => hg.1
  have TX : ∀ j : Int, 0 ≤ j → j < m 24 9 → ∀ g, rf_T m g → fc_holds (rf_tup (m 31) (6 * j)) g := fun j h0 h1 g hg => hg.2 _ (Or.inr ⟨j, h0, h1, rfl⟩)
  -- the end: all have been looked at
  have fin : ∀ (m' : vm_M) (n : Int), n = m 24 9 → nr_S (rf_T m) (fun _ => True) m0 m' → nr_D (fun _ => True) 1000000000 m' → (m' = m0 → m = m0 ∧ ∀ j : Int, 0 ≤ j → j < n → nr_X m0 (rf_tup (m0 31) (6 * j))) → vm_ex G (d + 6) mX8_narrow 96 [some (.inr (.inr 24)), some (.inl n), none] [] m' (vm_qb Q) := by
    intro m' n hn S' D' h'
    have e9 : m' 24 9 = m 24 9 := (S'.1 24 9 (by simp) (by simp)).trans (S.1 24 9 (by simp) (by simp)).symm
    refine qX8_narrow_96 ⟨⟨by omega, by omega⟩, ⟨by omega, by omega⟩, fun _ => ?_, fun h => absurd h (by omega)⟩
    refine hQ m' S' D' (fun hm t ht => ?_)
    obtain ⟨h1, h2⟩ := h' hm
    rcases ht with ⟨i, hi, hb, rfl⟩ | ⟨j, j0, j1, rfl⟩
    · exact hX h1 i hi hb
    · exact h2 j j0 (by rw [hn, h1]; exact j1)
  -- one of them
  have one : ∀ (m' : vm_M) (j : Int), 0 ≤ j → j < m 24 9 → rf_eq m m' → (∀ m2 : vm_M, (vm_cn G (d + 5) mX8_narrowBy [.inr (.inr 24), .inl (m' 31 (6 * j)), .inl (m' 31 (6 * j + 1)), .inl (m' 31 (6 * j + 2)), .inl (m' 31 (6 * j + 3)), .inl (m' 31 (6 * j + 4)), .inl (m' 31 (6 * j + 5))] m' (fun m9 => vm_ex G (d + 6) mX8_narrow 96 [some (.inr (.inr 24)), some (.inl (j + 1)), none] [] m9 (vm_qb Q)))) → vm_ex G (d + 6) mX8_narrow 96 [some (.inr (.inr 24)), some (.inl j), none] [] m' (vm_qb Q) := by
    intro m' j j0 j1 he h
    have e9 : m' 24 9 = m 24 9 := he.2.2.2
    refine qX8_narrow_96 ⟨⟨by omega, by omega⟩, ⟨by omega, by omega⟩, fun h => absurd h (by omega), fun _ => ⟨by omega, by omega, by omega, by omega, by omega, by omega, h m'⟩⟩
  rcases hE with h0 | h1 | ⟨h2, f0, f1⟩
  · exact fin m 0 h0.symm S (D.up (by decide)) (fun h => ⟨h, fun j _ _ => by omega⟩)
  · refine one m 0 (by decide) (by omega) (rf_eq.refl m) (fun _ => ?_)
    have hw := hEw 0 (by decide) (by omega)
    refine cm_narrowBy S D hw Tn (TX 0 (by decide) (by omega)) (by decide) (by decide) (fun m1 S1 D1 e1 => ?_)
    refine fin m1 (0 + 1) (by omega) S1 (D1.up (by decide)) (fun h => ⟨(e1 h).1, fun j j0 j1 => ?_⟩)
    have : j = 0 := by omega
    subst this
    have := (e1 h).2
    rw [(e1 h).1] at this
    exact this
  · refine one m 0 (by decide) (by omega) (rf_eq.refl m) (fun _ => ?_)
    have hw := hEw 0 (by decide) (by omega)
    have hw1 := hEw 1 (by decide) (by omega)
    have T1 := TX 1 (by decide) (by omega)
    have T0 := TX 0 (by decide) (by omega)
    have f0' : m 31 (6 * 0) = 6 := f0
    have f1' : m 31 (6 * (0 + 1)) = 6 := f1
    rw [f0']
    simp only [rf_tup, f0] at hw T0
    simp only [rf_tup, f1] at hw1 T1
    refine cm_narrowBy6 (B := 200000000) S D hw T0 (by decide) (by decide) (fun m1 S1 D1 e1 => ?_)
    have he1 : rf_eq m m1 := ⟨(S1.eqv.1).trans S.eqv.1.symm, S1.eqv.2.1.trans S.eqv.2.1.symm, S1.eqv.2.2.1.trans S.eqv.2.2.1.symm, S1.eqv.2.2.2.trans S.eqv.2.2.2.symm⟩
    refine one m1 (0 + 1) (by decide) (by omega) he1 (fun _ => ?_)
    rw [he1.2.1, f1']
    refine cm_narrowBy6 (B := 200000020) S1 D1 hw1 T1 (by decide) (by decide) (fun m2 S2 D2 e2 => ?_)
    refine fin m2 (0 + 1 + 1) (by omega) S2 (D2.up (by decide)) (fun h => ?_)
    obtain ⟨h1, x1⟩ := e2 h
    obtain ⟨h0, x0⟩ := e1 h1
    refine ⟨h0, fun j j0 j1 => ?_⟩
    have : j = 0 ∨ j = 1 := by omega
    rcases this with rfl | rfl
    · rw [h0] at f0 x0; simp only [rf_tup, f0]; exact x0
    · rw [h0] at f1 x1; simp only [rf_tup, f1]; exact x1
/-- a pass over the facts of the row -/
theorem cm_narrow_26 (ok : rf_ok m0) (h11 : m0 24 11 = 0) (D0 : nr_D (fun _ => True) 20 m0)
    (hQ : ∀ m' : vm_M, nr_S (rf_T m0) (fun _ => True) m0 m' → nr_D (fun _ => True) 1000000000 m' → (m' = m0 → ∀ t, rf_C m0 t → nr_X m0 t) → vm_ex G (d + 6) mX8_narrow 5 [some (.inr (.inr 24)), none, none] [] m' (vm_qb Q)) :
    ∀ (n : Nat) (k : Nat) (m : vm_M), m0 25 1 = (k : Int) + n → nr_S (rf_T m0) (fun _ => True) m0 m → nr_D (fun _ => True) (20 * 5 ^ k) m → (m = m0 → ∀ i : Nat, i < k → (m0 24 10).toNat.testBit i = true → nr_X m0 (rf_tup (m0 25) (2 + 6 * (i : Int)))) →
    vm_ex G (d + 6) mX8_narrow 26 [some (.inr (.inr 24)), some (.inl (k : Int)), none] [] m (vm_qb Q) := by
  obtain ⟨hK, hU, hW, hE, hEw⟩ := id ok
  intro n
  induction n with
  | zero =>
    intro k m hk S D hX
    have he := S.eqv
    have e1 : m 25 1 = m0 25 1 := by rw [he.1]
    have hk10 : k ≤ 10 := by omega
    have hB : 20 * 5 ^ k ≤ (200000000 : Int) := by
      have : (5 : Nat) ^ k ≤ 5 ^ 10 := Nat.pow_le_pow_right (by decide) hk10
      have h2 : ((5 ^ k : Nat) : Int) = 5 ^ k := by simp
      omega
    refine qX8_narrow_26 ⟨⟨by omega, by omega⟩, ⟨by omega, by omega⟩, fun _ => ?_, fun h => absurd h (by omega)⟩
    refine cm_narrow_96 (m0 := m0) (he.ok ok) (by rw [he.T]; exact S) (D.up hB) (fun hm i hi hb => hX hm i (by omega) hb) (fun m' S' D' h' => hQ m' (by rw [he.T] at S'; exact S') D' h')
  | succ n ih =>
    intro k m hk S D hX
    have he := S.eqv
    have e1 : m 25 1 = m0 25 1 := by rw [he.1]
    have e10 : m 24 10 = ((m0 24 10).toNat : Int) := by rw [he.2.2.1]; omega
    have hk10 : k ≤ 9 := by omega
    have hB : 20 * 5 ^ k ≤ (300000000 : Int) ∧ (20 : Int) ≤ 20 * 5 ^ k := by
      have : (5 : Nat) ^ k ≤ 5 ^ 9 := Nat.pow_le_pow_right (by decide) hk10
      have h3 : 1 ≤ (5 : Nat) ^ k := Nat.one_le_pow _ _ (by decide)
      have h2 : ((5 ^ k : Nat) : Int) = 5 ^ k := by simp
      omega
    have hbit := zz_bit (m0 24 10).toNat k (by omega) (by omega)
    have hb5 : 5 * (20 * 5 ^ k : Int) = 20 * 5 ^ (k + 1) := by
      rw [Int.pow_succ]; omega
    refine qX8_narrow_26 ⟨⟨by omega, by omega⟩, ⟨by omega, by omega⟩, fun h => absurd h (by omega), fun _ => ?_⟩
    rw [e10]
    cases hb : (m0 24 10).toNat.testBit k with
    | false =>
      have hv : vm_and (vm_shr ((m0 24 10).toNat : Int) (k : Int)) 1 = 0 := by rw [hbit, hb]; rfl
      rw [hv]
      refine ⟨⟨by decide, by decide⟩, fun _ => ?_, fun h => absurd h (by decide)⟩
      have := ih (k + 1) m (by omega) S (D.up (by rw [← hb5]; omega)) (fun hm i hi hbi => by
        by_cases hik : i = k
        · subst hik; rw [hb] at hbi; cases hbi
        · exact hX hm i (by omega) hbi)
      exact this
    | true =>
      have hv : vm_and (vm_shr ((m0 24 10).toNat : Int) (k : Int)) 1 = 1 := by rw [hbit, hb]; rfl
      rw [hv]
      refine ⟨⟨by decide, by decide⟩, fun h => absurd (by decide) h, fun _ => ?_⟩
      have hw := hW (k : Int) (by omega) (by omega)
      refine cm_of (by omega) (cm_of (by omega) (cm_of (by omega) (cm_of (by omega) (cm_of (by omega) (cm_of (by omega) ?_)))))
      rw [he.1]
      refine cm_narrowBy S D hw (fun g hg => hg.1) (fun g hg => hg.2 _ (Or.inl ⟨k, by omega, hb, rfl⟩)) hB.2 hB.1 (fun m1 S1 D1 x1 => ?_)
      have := ih (k + 1) m1 (by omega) S1 (by rw [← hb5]; exact D1) (fun hm i hi hbi => by
        by_cases hik : i = k
        · subst hik; exact (x1 hm).2
        · exact hX (x1 hm).1 i (by omega) hbi)
      exact this
/-- how much is left in the ranges -/
def rf_ms (m : vm_M) : Int := zz_sm (fun v => m 30 v - m 29 v) 12
theorem rf_ms_lt {T : fc_G → Prop} {V : Int → Prop} {m m' : vm_M} (S : nr_S T V m m') (h : ∃ v : Int, 0 ≤ v ∧ v < 12 ∧ (m 29 v < m' 29 v ∨ m' 30 v < m 30 v)) : rf_ms m' < rf_ms m := by
  obtain ⟨v, h0, h1, h2⟩ := h
  refine zz_sm_lt (fun i _ _ => ?_) ⟨v, h0, h1, ?_⟩
  · have := S.2.1 i
    omega
  · have := S.2.1 v
    omega
theorem rf_ms_le {T : fc_G → Prop} {V : Int → Prop} {m m' : vm_M} (S : nr_S T V m m') : rf_ms m' ≤ rf_ms m :=
  zz_sm_le (fun i _ _ => by have := S.2.1 i; omega)
/-- the ranges are stable: every fact that is asked about holds of its counts, where they are known -/
def rf_st (m : vm_M) : Prop := ∀ t, rf_C m t → nr_X m t
/-- narrowed, and nothing lost; the flag is anything -/
def nr_W (T : fc_G → Prop) (m m' : vm_M) : Prop :=
  (∀ (c : Nat) (i : Int), ¬ ((c = 29 ∨ c = 30) ∧ 0 ≤ i ∧ i < 12) → ¬ (c = 24 ∧ i = 11) → m' c i = m c i) ∧
  (∀ v : Int, m 29 v ≤ m' 29 v ∧ m' 30 v ≤ m 30 v) ∧ (∀ g : fc_G, T g → nr_B m g → nr_B m' g)
theorem nr_W.refl (T : fc_G → Prop) (m : vm_M) : nr_W T m m := ⟨fun _ _ _ _ => rfl, fun _ => ⟨Int.le_refl _, Int.le_refl _⟩, fun _ _ h => h⟩
theorem nr_W.trans {T : fc_G → Prop} {a b c : vm_M} (h1 : nr_W T a b) (h2 : nr_W T b c) : nr_W T a c :=
  ⟨fun x i h h' => (h2.1 x i h h').trans (h1.1 x i h h'), fun v => ⟨Int.le_trans (h1.2.1 v).1 (h2.2.1 v).1, Int.le_trans (h2.2.1 v).2 (h1.2.1 v).2⟩, fun g hg hb => h2.2.2 g hg (h1.2.2 g hg hb)⟩
theorem nr_S.W {T : fc_G → Prop} {V : Int → Prop} {a b : vm_M} (h : nr_S T V a b) : nr_W T a b := ⟨fun c i h1 h2 => h.1 c i (fun z => h1 ⟨z.1, z.2.1⟩) h2, h.2.1, h.2.2.1⟩
theorem nr_W.flag (T : fc_G → Prop) (m : vm_M) (x : Int) : nr_W T m (vm_up m 24 11 x) := by
  have e29 : vm_up m 24 11 x 29 = m 29 := zz_cell (by decide)
  have e30 : vm_up m 24 11 x 30 = m 30 := zz_cell (by decide)
  refine ⟨fun c i _ h => zz_other h, fun v => ?_, fun g _ h v h0 h1 => ?_⟩
  · rw [e29, e30]; exact ⟨Int.le_refl _, Int.le_refl _⟩
  · rw [e29, e30]; exact h v h0 h1
theorem nr_W.eqv {T : fc_G → Prop} {m m' : vm_M} (h : nr_W T m m') : rf_eq m m' :=
  ⟨funext fun i => h.1 25 i (by simp) (by simp), funext fun i => h.1 31 i (by simp) (by simp), h.1 24 10 (by simp) (by simp), h.1 24 9 (by simp) (by simp)⟩
/-- the pass's head, where all is stable -/
theorem cm_narrow_5B (hQ : ∀ (m' : vm_M) (b : Bool), nr_W (rf_T m0) m0 m' → (b = true → (∀ v : Int, 0 ≤ v → v < 12 → m' 29 v ≤ m' 30 v) ∧ rf_st m' ∧ nr_D (fun _ => True) 20 m') → (b = false → ∃ v : Int, 0 ≤ v ∧ v < 12 ∧ m' 30 v < m' 29 v) → Q m' b)
    (S : nr_W (rf_T m0) m0 m) (D : nr_D (fun _ => True) 1000000000 m) (h11 : m 24 11 = 0) (hst : rf_st m) (hne : ∀ v : Int, 0 ≤ v → v < 12 → m 29 v ≤ m 30 v) :
    vm_ex G (d + 6) mX8_narrow 5 [some (.inr (.inr 24)), none, none] [] m (vm_qb Q) := by
  have hR : ∀ v : Int, 0 ≤ v → v < 12 → vm_R (m 29 v) ∧ vm_R (m 30 v) := fun v h0 h1 => by
    have := D v h0 h1 trivial
    exact ⟨⟨by omega, by omega⟩, ⟨by omega, by omega⟩⟩
  refine qX8_narrow_5 ⟨by rw [h11]; exact ⟨by decide, by decide⟩, fun _ => ?_, fun h0 => absurd h11 h0⟩
  refine cm_isEmpty hR (fun b hb => ⟨fun hbt => ?_, fun hbf => ?_⟩)
  · obtain ⟨v, v0, v1, v2⟩ := hb.mp hbt
    have := hne v v0 v1
    omega
  · refine hQ m true S (fun _ => ⟨hne, hst, fun v v0 v1 _ => ?_⟩) (fun h => Bool.noConfusion h)
    have := D v v0 v1 trivial
    have := hne v v0 v1
    omega
/-- the pass's head -/
theorem cm_narrow_5 (hQ : ∀ (m' : vm_M) (b : Bool), nr_W (rf_T m0) m0 m' → (b = true → (∀ v : Int, 0 ≤ v → v < 12 → m' 29 v ≤ m' 30 v) ∧ rf_st m' ∧ nr_D (fun _ => True) 20 m') → (b = false → ∃ v : Int, 0 ≤ v ∧ v < 12 ∧ m' 30 v < m' 29 v) → Q m' b) :
    ∀ (n : Nat) (m : vm_M), (rf_ms m + 1).toNat = n → rf_ok m → nr_W (rf_T m0) m0 m → nr_D (fun _ => True) 1000000000 m → m 24 11 = 1 →
    vm_ex G (d + 6) mX8_narrow 5 [some (.inr (.inr 24)), none, none] [] m (vm_qb Q) := by
  intro n
  induction n using Nat.strongRecOn with
  | ind n ih =>
    intro m hn ok S D h11
    have hR : ∀ v : Int, 0 ≤ v → v < 12 → vm_R (m 29 v) ∧ vm_R (m 30 v) := fun v h0 h1 => by
      have := D v h0 h1 trivial
      exact ⟨⟨by omega, by omega⟩, ⟨by omega, by omega⟩⟩
    refine qX8_narrow_5 ⟨by rw [h11]; exact ⟨by decide, by decide⟩, fun h0 => absurd (h11.symm.trans h0) (by decide), fun _ => ?_⟩
    refine cm_isEmpty hR (fun b hb => ⟨fun hbt => ?_, fun hbf => ?_⟩)
    · refine cm_isEmpty hR (fun b2 hb2 => ⟨fun h2t => ?_, fun h2f => ?_⟩)
      · exact hQ m false S (fun h => Bool.noConfusion h) (fun _ => hb2.mp h2t)
      · have := hb2.mpr (hb.mp hbt)
        rw [h2f] at this
        cases this
    · intro m8 e8
      have hne : ∀ v : Int, 0 ≤ v → v < 12 → m 29 v ≤ m 30 v := fun v v0 v1 => by
        rcases Int.lt_or_le (m 30 v) (m 29 v) with h | h
        · have := hb.mpr ⟨v, v0, v1, h⟩
          rw [hbf] at this; cases this
        · exact h
      have e29 : m8 29 = m 29 := by rw [e8]; exact zz_cell (by decide)
      have e30 : m8 30 = m 30 := by rw [e8]; exact zz_cell (by decide)
      have e11 : m8 24 11 = 0 := by rw [e8]; exact zz_same _ _ _ _
      have S8 : nr_W (rf_T m0) m0 m8 := S.trans (by rw [e8]; exact nr_W.flag _ _ _)
      have he : rf_eq m0 m8 := S8.eqv
      have ok8 : rf_ok m8 := (show rf_eq m m8 from ⟨he.1.trans S.eqv.1.symm, he.2.1.trans S.eqv.2.1.symm, he.2.2.1.trans S.eqv.2.2.1.symm, he.2.2.2.trans S.eqv.2.2.2.symm⟩).ok ok
      have D8 : nr_D (fun _ => True) 20 m8 := fun v v0 v1 _ => by
        have := D v v0 v1 trivial
        have := hne v v0 v1
        rw [e29, e30]; omega
      refine cm_narrow_26 (m0 := m8) ok8 e11 D8 (fun m' S' D' h' => ?_) (m8 25 1).toNat 0 m8 (by have := ok8.1; omega) (nr_S.refl _ _ _) (by rw [show (20 * 5 ^ 0 : Int) = 20 from rfl]; exact D8) (fun _ i hi => absurd hi (by omega))
      rw [he.T] at S'
      have SW : nr_W (rf_T m0) m0 m' := S8.trans S'.W
      have ok' : rf_ok m' := S'.eqv.ok ok8
      rcases S'.2.2.2 with h | ⟨h1, h2⟩
      · have hst := h' h
        rw [← h] at hst e11 e29 e30
        exact cm_narrow_5B hQ SW D' e11 hst (fun v v0 v1 => by rw [e29, e30]; exact hne v v0 v1)
      · have hlt := rf_ms_lt S' h2
        have e0 : rf_ms m8 = rf_ms m := by simp only [rf_ms, e29, e30]
        have hnn : 0 ≤ rf_ms m := zz_sm_nn (fun v v0 v1 => by have := hne v v0 v1; omega)
        have hless : (rf_ms m' + 1).toNat < n := by
          clear h2 h' hQ hb
          omega
        exact ih (rf_ms m' + 1).toNat hless m' rfl ok' SW D' h1
/-- narrow(): what is left has all that was wanted; true: nothing is empty, and all facts hold of what is known -/
theorem cm_narrow (ok : rf_ok m) (D : nr_D (fun _ => True) 20 m)
    (hQ : ∀ (m' : vm_M) (b : Bool), nr_W (rf_T m) m m' → (b = true → (∀ v : Int, 0 ≤ v → v < 12 → m' 29 v ≤ m' 30 v) ∧ rf_st m' ∧ nr_D (fun _ => True) 20 m') → (b = false → ∃ v : Int, 0 ≤ v ∧ v < 12 ∧ m' 30 v < m' 29 v) → Q m' b) : vm_cb G (d + 6) mX8_narrow [.inr (.inr 24)] m Q := by
  refine qX8_narrow (fun m1 e1 => ?_)
  have e29 : m1 29 = m 29 := by rw [e1]; exact zz_cell (by decide)
  have e30 : m1 30 = m 30 := by rw [e1]; exact zz_cell (by decide)
  have S1 : nr_W (rf_T m) m m1 := by rw [e1]; exact nr_W.flag _ _ _
  exact cm_narrow_5 (m0 := m) hQ _ m1 rfl (S1.eqv.ok ok) S1 (fun v v0 v1 _ => by have := D v v0 v1 trivial; rw [e29, e30]; omega) (by rw [e1]; exact zz_same _ _ _ _)
end RN
