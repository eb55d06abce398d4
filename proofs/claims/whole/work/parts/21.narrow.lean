/-! THE REFERENCE: narrowing of the ranges -/
theorem zz_tdiv {a b : Int} (ha : vm_R a) (hb : 0 < b) (hb2 : b ≤ 2147483647) : vm_div a b = a.tdiv b := by
  have h1 := Int.natAbs_tdiv_le_natAbs a b
  unfold vm_div
  rw [Int32.toInt_div, vm_toOf ha, vm_toOf ⟨by omega, hb2⟩]
  unfold vm_R at ha
  have hb1 : (a.tdiv b) ≤ 2147483647 := by
    rcases Int.lt_or_le a 0 with h | h
    · have h2 : (-a).tdiv b = -(a.tdiv b) := Int.neg_tdiv a b
      have h3 : 0 ≤ (-a).tdiv b := Int.tdiv_nonneg (by omega) (Int.le_of_lt hb)
      omega
    · omega
  have hs : (2 ^ 32 : Nat) = 4294967296 := rfl
  rw [Int.bmod_def, hs]
  split <;> omega
abbrev fc_G : Type := Int → Int
def nr_rs (v x : Int) (m : vm_M) : vm_M := if x ≤ m 29 v then m else vm_up (vm_up m 29 v x) 24 11 1
def nr_lw (v x : Int) (m : vm_M) : vm_M := if m 30 v ≤ x then m else vm_up (vm_up m 30 v x) 24 11 1
def nr_B (m : vm_M) (g : fc_G) : Prop := ∀ v : Int, 0 ≤ v → v < 12 → m 29 v ≤ g v ∧ g v ≤ m 30 v
def nr_D (V : Int → Prop) (B : Int) (m : vm_M) : Prop := ∀ v : Int, 0 ≤ v → v < 12 → V v → 0 ≤ m 29 v ∧ m 29 v ≤ B ∧ -B ≤ m 30 v ∧ m 30 v ≤ 18
/-- from m to m' ranges have been narrowed, and nothing that T allows is lost -/
def nr_S (T : fc_G → Prop) (V : Int → Prop) (m m' : vm_M) : Prop :=
  (∀ (c : Nat) (i : Int), ¬ ((c = 29 ∨ c = 30) ∧ (0 ≤ i ∧ i < 12) ∧ V i) → ¬ (c = 24 ∧ i = 11) → m' c i = m c i) ∧
  (∀ v : Int, m 29 v ≤ m' 29 v ∧ m' 30 v ≤ m 30 v) ∧
  (∀ g : fc_G, T g → nr_B m g → nr_B m' g) ∧
  (m' = m ∨ (m' 24 11 = 1 ∧ ∃ v : Int, 0 ≤ v ∧ v < 12 ∧ (m 29 v < m' 29 v ∨ m' 30 v < m 30 v)))
theorem nr_S.refl (T : fc_G → Prop) (V : Int → Prop) (m : vm_M) : nr_S T V m m := ⟨fun _ _ _ _ => rfl, fun _ => ⟨Int.le_refl _, Int.le_refl _⟩, fun _ _ h => h, Or.inl rfl⟩
theorem nr_S.trans {T : fc_G → Prop} {V : Int → Prop} {a b c : vm_M} (h1 : nr_S T V a b) (h2 : nr_S T V b c) : nr_S T V a c := by
  obtain ⟨f1, m1, s1, c1⟩ := h1
  obtain ⟨f2, m2, s2, c2⟩ := h2
  refine ⟨fun c i h h' => (f2 c i h h').trans (f1 c i h h'), fun v => ⟨Int.le_trans (m1 v).1 (m2 v).1, Int.le_trans (m2 v).2 (m1 v).2⟩, fun g hg hb => s2 g hg (s1 g hg hb), ?_⟩
  rcases c2 with rfl | ⟨h, v, h0, h1, h2⟩
  · exact c1
  · refine Or.inr ⟨h, v, h0, h1, ?_⟩
    have := m1 v
    omega
theorem nr_S.eq {T : fc_G → Prop} {V : Int → Prop} {a b c : vm_M} (h1 : nr_S T V a b) (h2 : nr_S T V b c) (h : c = a) : b = a := by
  subst h
  rcases h1.2.2.2 with e | ⟨_, v, h0, h1', h2'⟩
  · exact e
  · have := h1.2.1 v
    have := h2.2.1 v
    omega
theorem nr_S.weak {T T' : fc_G → Prop} {V : Int → Prop} {a b : vm_M} (h : nr_S T V a b) (hT : ∀ g, T' g → T g) : nr_S T' V a b := ⟨h.1, h.2.1, fun g hg => h.2.2.1 g (hT g hg), h.2.2.2⟩
theorem nr_rs_S {T : fc_G → Prop} {V : Int → Prop} {m : vm_M} {v x : Int} (hv : 0 ≤ v ∧ v < 12) (vv : V v) (hT : ∀ g, T g → nr_B m g → x ≤ g v) : nr_S T V m (nr_rs v x m) := by
  unfold nr_rs
  split
  · exact nr_S.refl T V m
  · rename_i hx
    have e29 : ∀ u : Int, vm_up (vm_up m 29 v x) 24 11 1 29 u = if u = v then x else m 29 u := fun u => by simp [vm_up]
    have e30 : ∀ u : Int, vm_up (vm_up m 29 v x) 24 11 1 30 u = m 30 u := fun u => by simp [vm_up]
    refine ⟨fun c i h h' => ?_, fun u => ?_, fun g hg hb u h0 h1 => ?_, Or.inr ⟨by simp [vm_up], v, hv.1, hv.2, Or.inl ?_⟩⟩
    · simp only [vm_up]
      rw [if_neg h', if_neg]
      rintro ⟨rfl, rfl⟩
      exact h ⟨Or.inl rfl, ⟨hv.1, hv.2⟩, vv⟩
    · rw [e29, e30]
      refine ⟨?_, Int.le_refl _⟩
      split
      · rename_i h; subst h; omega
      · exact Int.le_refl _
    · rw [e29, e30]
      have := hb u h0 h1
      split
      · rename_i h; subst h; exact ⟨hT g hg hb, this.2⟩
      · exact this
    · rw [e29, if_pos rfl]; omega
theorem nr_lw_S {T : fc_G → Prop} {V : Int → Prop} {m : vm_M} {v x : Int} (hv : 0 ≤ v ∧ v < 12) (vv : V v) (hT : ∀ g, T g → nr_B m g → g v ≤ x) : nr_S T V m (nr_lw v x m) := by
  unfold nr_lw
  split
  · exact nr_S.refl T V m
  · rename_i hx
    have e29 : ∀ u : Int, vm_up (vm_up m 30 v x) 24 11 1 29 u = m 29 u := fun u => by simp [vm_up]
    have e30 : ∀ u : Int, vm_up (vm_up m 30 v x) 24 11 1 30 u = if u = v then x else m 30 u := fun u => by simp [vm_up]
    refine ⟨fun c i h h' => ?_, fun u => ?_, fun g hg hb u h0 h1 => ?_, Or.inr ⟨by simp [vm_up], v, hv.1, hv.2, Or.inr ?_⟩⟩
    · simp only [vm_up]
      rw [if_neg h', if_neg]
      rintro ⟨rfl, rfl⟩
      exact h ⟨Or.inr rfl, ⟨hv.1, hv.2⟩, vv⟩
    · rw [e29, e30]
      refine ⟨Int.le_refl _, ?_⟩
      split
      · rename_i h; subst h; omega
      · exact Int.le_refl _
    · rw [e29, e30]
      have := hb u h0 h1
      split
      · rename_i h; subst h; exact ⟨this.1, hT g hg hb⟩
      · exact this
    · rw [e30, if_pos rfl]; omega
section NR
variable {G : vm_G} {d : Nat} {m m0 : vm_M} {Q : vm_M → Prop} {T : fc_G → Prop} {V : Int → Prop} {B : Int}
/-- one raise of a walk that began at m0 -/
theorem cm_raise {v x : Int} (S : nr_S T V m0 m) (D : nr_D V B m) (hv : 0 ≤ v ∧ v < 12) (vv : V v) (hT : ∀ g, T g → nr_B m g → x ≤ g v) (B' : Int) (hB : B ≤ B') (hx : x ≤ B') (hx2 : -2000000000 ≤ x) (hB' : B' ≤ 2000000000)
    (hQ : ∀ m' : vm_M, nr_S T V m0 m' → nr_D V B' m' → x ≤ m' 29 v → (∀ u, m 29 u ≤ m' 29 u ∧ m' 30 u = m 30 u ∧ (u ≠ v → m' 29 u = m 29 u)) → (m' = m0 → m = m0 ∧ x ≤ m 29 v) → Q m') : vm_cn G d mX8_raise [.inr (.inr 24), .inl v, .inl x] m Q := by
  have hS := nr_rs_S (T := T) (V := V) hv vv hT
  have hd := D v hv.1 hv.2 vv
  have key : Q (nr_rs v x m) := by
    have e29 : ∀ u : Int, nr_rs v x m 29 u = if u = v ∧ ¬ x ≤ m 29 v then x else m 29 u := by
      intro u
      unfold nr_rs
      by_cases h : x ≤ m 29 v
      · simp [h]
      · simp only [h, if_false, vm_up]
        by_cases hu : u = v <;> simp [hu]
    have e30 : ∀ u : Int, nr_rs v x m 30 u = m 30 u := by
      intro u
      unfold nr_rs
      split <;> simp [vm_up]
    refine hQ _ (S.trans hS) ?_ ?_ ?_ ?_
    · intro u h0 h1 hV
      have := D u h0 h1 hV
      rw [e29, e30]
      split <;> omega
    · rw [e29]; split <;> omega
    · intro u
      rw [e29, e30]
      refine ⟨?_, rfl, fun hu => by rw [if_neg (fun z => hu z.1)]⟩
      split
      · rename_i h; obtain ⟨rfl, h⟩ := h; omega
      · exact Int.le_refl _
    · intro h
      have h1 := S.eq hS h
      refine ⟨h1, ?_⟩
      subst h1
      have h2 := congrFun (congrFun h 29) v
      rw [e29] at h2
      by_cases hx : x ≤ m 29 v
      · exact hx
      · rw [if_pos ⟨rfl, hx⟩] at h2; omega
  refine qX8_raise ⟨hv, ⟨by omega, by omega⟩, ⟨by omega, by omega⟩, fun h => ?_, fun h => ?_⟩
  · rw [nr_rs, if_pos h] at key; exact key
  · rintro _ rfl _ rfl
    rw [nr_rs, if_neg h] at key; exact key
theorem cm_lower {v x : Int} (S : nr_S T V m0 m) (D : nr_D V B m) (hv : 0 ≤ v ∧ v < 12) (vv : V v) (hT : ∀ g, T g → nr_B m g → g v ≤ x) (B' : Int) (hB : B ≤ B') (hx : -B' ≤ x) (hx2 : x ≤ 2000000000) (hB' : B' ≤ 2000000000)
    (hQ : ∀ m' : vm_M, nr_S T V m0 m' → nr_D V B' m' → m' 30 v ≤ x → (∀ u, m' 30 u ≤ m 30 u ∧ m' 29 u = m 29 u ∧ (u ≠ v → m' 30 u = m 30 u)) → (m' = m0 → m = m0 ∧ m 30 v ≤ x) → Q m') : vm_cn G d mX8_lower [.inr (.inr 24), .inl v, .inl x] m Q := by
  have hS := nr_lw_S (T := T) (V := V) hv vv hT
  have hd := D v hv.1 hv.2 vv
  have key : Q (nr_lw v x m) := by
    have e30 : ∀ u : Int, nr_lw v x m 30 u = if u = v ∧ ¬ m 30 v ≤ x then x else m 30 u := by
      intro u
      unfold nr_lw
      by_cases h : m 30 v ≤ x
      · simp [h]
      · simp only [h, if_false, vm_up]
        by_cases hu : u = v <;> simp [hu]
    have e29 : ∀ u : Int, nr_lw v x m 29 u = m 29 u := by
      intro u
      unfold nr_lw
      split <;> simp [vm_up]
    refine hQ _ (S.trans hS) ?_ ?_ ?_ ?_
    · intro u h0 h1 hV
      have := D u h0 h1 hV
      rw [e29, e30]
      split
      · rename_i h; obtain ⟨rfl, h⟩ := h; omega
      · omega
    · rw [e30]; split <;> omega
    · intro u
      rw [e29, e30]
      refine ⟨?_, rfl, fun hu => by rw [if_neg (fun z => hu z.1)]⟩
      split
      · rename_i h; obtain ⟨rfl, h⟩ := h; omega
      · exact Int.le_refl _
    · intro h
      have h1 := S.eq hS h
      refine ⟨h1, ?_⟩
      subst h1
      have h2 := congrFun (congrFun h 30) v
      rw [e30] at h2
      by_cases hx : m 30 v ≤ x
      · exact hx
      · rw [if_pos ⟨rfl, hx⟩] at h2; omega
  refine qX8_lower ⟨hv, ⟨by omega, by omega⟩, ⟨by omega, by omega⟩, fun h => ?_, fun h => ?_⟩
  · rw [nr_lw, if_pos h] at key; exact key
  · rintro _ rfl _ rfl
    rw [nr_lw, if_neg h] at key; exact key
/-- what a stable range says of a constraint: if its variables are known, it holds -/
def nr_F (m0 : vm_M) (av : Int → Prop) (K : fc_G → Prop) : Prop := ∀ g : fc_G, (∀ u, av u → m0 29 u = g u ∧ m0 30 u = g u) → K g
theorem cm_narrowMore {v w y : Int} (S : nr_S T V m0 m) (D : nr_D V B m) (hv : 0 ≤ v ∧ v < 12) (vv : V v) (hw : 0 ≤ w ∧ w < 12) (vw : V w) (hy : -10 ≤ y ∧ y ≤ 10) (hT : ∀ g, T g → g w + y ≤ g v) (hB : 0 ≤ B) (hB' : B ≤ 1000000000)
    (hQ : ∀ m' : vm_M, nr_S T V m0 m' → nr_D V (B + 20) m' → (m' = m0 → m = m0 ∧ nr_F m0 (fun u => u = v ∨ u = w) (fun g => g w + y ≤ g v)) → Q m') : vm_cn G (d + 1) mX8_narrowMore [.inr (.inr 24), .inl v, .inl w, .inl y] m Q := by
  have hdw := D w hw.1 hw.2 vw
  have hdv := D v hv.1 hv.2 vv
  refine qX8_narrowMore ⟨hw, cm_raise S D hv vv (fun g hg hb => ?_) (B + 10) (by omega) (by omega) (by omega) (by omega) (fun m1 S1 D1 x1 k1 e1 => ⟨hv, ?_⟩)⟩
  · have := hT g hg
    have := hb w hw.1 hw.2
    omega
  · have hd1 := D1 v hv.1 hv.2 vv
    refine cm_lower S1 D1 hw vw (fun g hg hb => ?_) (B + 20) (by omega) (by omega) (by omega) (by omega) (fun m2 S2 D2 x2 k2 e2 => ?_)
    · have := hT g hg
      have := hb v hv.1 hv.2
      omega
    · refine hQ m2 S2 D2 (fun h => ?_)
      obtain ⟨h1, h2⟩ := e2 h
      obtain ⟨h3, h4⟩ := e1 h1
      refine ⟨h3, fun g hg => ?_⟩
      subst h3
      have := hg v (Or.inl rfl)
      have := hg w (Or.inr rfl)
      omega
end NR
