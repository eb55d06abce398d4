/-! THE REFERENCE: what the search stands on: which count next, rows kept and taken back -/
section D0
variable {G : vm_G} {d : Nat} {m : vm_M}
/-- the answer of narrowest() -/
def rf_nx (m : vm_M) (U : Nat) (r : Int) : Prop := (r = -6 ∧ ∀ v : Nat, v < 12 → U.testBit v = true → m 30 (v : Int) ≤ m 29 (v : Int)) ∨ ((0 ≤ r ∧ r < 12) ∧ U.testBit r.toNat = true ∧ m 29 r < m 30 r)
theorem cm_narrowest_50 {U : Nat} {Q : vm_M → Int → Prop} (hU : U < 4096) (hR : ∀ v : Int, 0 ≤ v → v < 12 → -1000 ≤ m 29 v ∧ m 29 v ≤ 1000 ∧ -1000 ≤ m 30 v ∧ m 30 v ≤ 1000) (hQ : ∀ r : Int, rf_nx m U r → Q m r) :
    ∀ (n : Nat) (k : Nat) (b : Int), 12 = k + n → ((b = -6 ∧ ∀ v : Nat, v < k → U.testBit v = true → m 30 (v : Int) ≤ m 29 (v : Int)) ∨ ((0 ≤ b ∧ b < 12) ∧ U.testBit b.toNat = true ∧ m 29 b < m 30 b)) →
    vm_ex G d mX8_narrowest 50 [some (.inr (.inr 24)), some (.inl (U : Int)), some (.inl b), some (.inl (k : Int))] [] m (vm_qi Q) := by
  intro n
  induction n with
  | zero =>
    intro k b hk hb
    have : k = 12 := by omega
    subst this
    exact qX8_narrowest_50 ⟨⟨by omega, by omega⟩, fun _ => hQ b hb, fun h => absurd h (by omega)⟩
  | succ n ih =>
    intro k b hk hb
    have hbit := zz_bit U k (by omega) (by omega)
    have hr := hR (k : Int) (by omega) (by omega)
    have next : ∀ b' : Int, ((b' = -6 ∧ ∀ v : Nat, v < k + 1 → U.testBit v = true → m 30 (v : Int) ≤ m 29 (v : Int)) ∨ ((0 ≤ b' ∧ b' < 12) ∧ U.testBit b'.toNat = true ∧ m 29 b' < m 30 b')) → vm_ex G d mX8_narrowest 50 [some (.inr (.inr 24)), some (.inl (U : Int)), some (.inl b'), some (.inl ((k : Int) + 1))] [] m (vm_qi Q) := fun b' hb' => ih (k + 1) b' (by omega) hb'
    have keep : (U.testBit k = true → m 30 (k : Int) ≤ m 29 (k : Int)) → ((b = -6 ∧ ∀ v : Nat, v < k + 1 → U.testBit v = true → m 30 (v : Int) ≤ m 29 (v : Int)) ∨ ((0 ≤ b ∧ b < 12) ∧ U.testBit b.toNat = true ∧ m 29 b < m 30 b)) := by
      intro hk2
      rcases hb with ⟨h1, h2⟩ | h
      · refine Or.inl ⟨h1, fun v hv hv2 => ?_⟩
        by_cases e : v = k
        · subst e; exact hk2 hv2
        · exact h2 v (by omega) hv2
      · exact Or.inr h
    refine qX8_narrowest_50 ⟨⟨by omega, by omega⟩, fun h => absurd h (by omega), fun _ => ?_⟩
    cases hbk : U.testBit k with
    | false =>
      have hv0 : vm_and (vm_shr (U : Int) (k : Int)) 1 = 0 := by rw [hbit, hbk]; rfl
      rw [hv0]
      exact ⟨⟨by decide, by decide⟩, fun _ => next b (keep (fun h => by rw [hbk] at h; cases h)), fun h => absurd h (by decide)⟩
    | true =>
      have hv1 : vm_and (vm_shr (U : Int) (k : Int)) 1 = 1 := by rw [hbit, hbk]; rfl
      rw [hv1]
      refine ⟨⟨by decide, by decide⟩, fun h => absurd (by decide) h, fun _ => ⟨by omega, ⟨by omega, by omega⟩, ⟨by omega, by omega⟩, fun h => next b (keep fun _ => h), fun h => ?_⟩⟩
      have hk' : ((0 ≤ (k : Int) ∧ (k : Int) < 12) ∧ U.testBit ((k : Int)).toNat = true ∧ m 29 (k : Int) < m 30 (k : Int)) := ⟨by omega, by rw [Int.toNat_natCast]; exact hbk, by omega⟩
      have hbR : vm_R b := by rcases hb with ⟨h1, _⟩ | ⟨h1, _⟩ <;> exact ⟨by omega, by omega⟩
      refine ⟨hbR, fun _ => next (k : Int) (Or.inr hk'), fun hb0 => ?_⟩
      have hb1 : (0 ≤ b ∧ b < 12) ∧ U.testBit b.toNat = true ∧ m 29 b < m 30 b := by
        rcases hb with ⟨h1, _⟩ | h1
        · omega
        · exact h1
      have hrb := hR b hb1.1.1 hb1.1.2
      exact ⟨hb1.1, ⟨by omega, by omega⟩, ⟨by omega, by omega⟩, fun _ => next b (Or.inr hb1), fun _ => next (k : Int) (Or.inr hk')⟩
theorem cm_narrowest {U : Nat} {Q : vm_M → Int → Prop} (hU : U < 4096) (hf : -6 ≤ m 24 12 ∧ m 24 12 < 12) (hR : ∀ v : Int, 0 ≤ v → v < 12 → -1000 ≤ m 29 v ∧ m 29 v ≤ 1000 ∧ -1000 ≤ m 30 v ∧ m 30 v ≤ 1000) (hQ : ∀ r : Int, rf_nx m U r → Q m r) : vm_ci G d mX8_narrowest [.inr (.inr 24), .inl (U : Int)] m Q := by
  have go := cm_narrowest_50 (G := G) (d := d) hU hR hQ 12 0 (-6) rfl (Or.inl ⟨rfl, fun v hv => absurd hv (by omega)⟩)
  refine qX8_narrowest ⟨⟨by omega, by omega⟩, fun _ => go, fun h0 => ?_⟩
  have ef : m 24 12 = ((m 24 12).toNat : Int) := by omega
  have hbit := zz_bit U (m 24 12).toNat (by omega) (by omega)
  have hr := hR (m 24 12) (by omega) (by omega)
  rw [← ef] at hbit
  cases hbk : U.testBit (m 24 12).toNat with
  | false =>
    have hv0 : vm_and (vm_shr (U : Int) (m 24 12)) 1 = 0 := by rw [hbit, hbk]; rfl
    rw [hv0]
    exact ⟨⟨by decide, by decide⟩, fun _ => go, fun h => absurd h (by decide)⟩
  | true =>
    have hv1 : vm_and (vm_shr (U : Int) (m 24 12)) 1 = 1 := by rw [hbit, hbk]; rfl
    rw [hv1]
    exact ⟨⟨by decide, by decide⟩, fun h => absurd (by decide) h, fun _ => ⟨by omega, ⟨by omega, by omega⟩, ⟨by omega, by omega⟩, fun _ => go, fun h => hQ _ (Or.inr ⟨by omega, hbk, by omega⟩)⟩⟩
/-- the row k holds the ranges of m -/
def rf_row (m m' : vm_M) (k : Int) : Prop := ∀ v : Int, 0 ≤ v → v < 12 → m' 32 (12 * k + v) = m 29 v ∧ m' 33 (12 * k + v) = m 30 v
theorem cm_push_2 {k : Int} {Q : vm_M → Prop} (hk : 0 ≤ k ∧ k ≤ 12) (hQ : ∀ m' : vm_M, (∀ (c : Nat) (i : Int), ¬ ((c = 32 ∨ c = 33) ∧ 12 * k ≤ i ∧ i < 12 * k + 12) → m' c i = m c i) → rf_row m m' k → Q m') :
    ∀ (n : Nat) (j : Int) (m' : vm_M), 12 = j + (n : Int) → 0 ≤ j → (∀ (c : Nat) (i : Int), ¬ ((c = 32 ∨ c = 33) ∧ 12 * k ≤ i ∧ i < 12 * k + 12) → m' c i = m c i) → (∀ v : Int, 0 ≤ v → v < j → m' 32 (12 * k + v) = m 29 v ∧ m' 33 (12 * k + v) = m 30 v) →
    vm_ex G d mX8_push 2 [some (.inr (.inr 24)), some (.inl k), some (.inl j)] [] m' (vm_qn Q) := by
  intro n
  induction n with
  | zero =>
    intro j m' hj _ hf hr
    have : j = 12 := by omega
    subst this
    exact qX8_push_2 ⟨⟨by omega, by omega⟩, fun _ => hQ m' hf hr, fun h => absurd h (by omega)⟩
  | succ n ih =>
    intro j m' hj h0 hf hr
    refine qX8_push_2 ⟨⟨by omega, by omega⟩, fun h => absurd h (by omega), fun _ => ⟨by omega, by omega, fun m4 e4 m5 e5 => ?_⟩⟩
    have e29 := hf 29 j (by simp)
    have e30 := hf 30 j (by simp)
    have e430 : m4 30 j = m' 30 j := by rw [e4]; exact zz_other (by simp)
    refine ih (j + 1) m5 (by omega) (by omega) (fun c i h => ?_) (fun v v0 v1 => ?_)
    · rw [e5, e4, zz_other (by rintro ⟨rfl, rfl⟩; exact h ⟨Or.inr rfl, by omega, by omega⟩), zz_other (by rintro ⟨rfl, rfl⟩; exact h ⟨Or.inl rfl, by omega, by omega⟩)]
      exact hf c i h
    · by_cases hv : v = j
      · subst hv
        rw [e5, zz_other (by simp), zz_same, e430, e4, zz_same]
        exact ⟨e29, e30⟩
      · have := hr v v0 (by omega)
        rw [e5, zz_other (by simp), e4, zz_other (by omega), zz_other (by omega), zz_other (by simp)]
        exact this
theorem cm_push {k : Int} {Q : vm_M → Prop} (hk : 0 ≤ k ∧ k ≤ 12) (hQ : ∀ m' : vm_M, (∀ (c : Nat) (i : Int), ¬ ((c = 32 ∨ c = 33) ∧ 12 * k ≤ i ∧ i < 12 * k + 12) → m' c i = m c i) → rf_row m m' k → Q m') : vm_cn G d mX8_push [.inr (.inr 24), .inl k] m Q :=
  qX8_push (cm_push_2 hk hQ 12 0 m (by decide) (by decide) (fun _ _ _ => rfl) (fun v v0 v1 => absurd v1 (by omega)))
theorem cm_pull_2 {k : Int} {Q : vm_M → Prop} (hk : 0 ≤ k ∧ k ≤ 12) (hQ : ∀ m' : vm_M, (∀ (c : Nat) (i : Int), ¬ ((c = 29 ∨ c = 30) ∧ 0 ≤ i ∧ i < 12) → m' c i = m c i) → (∀ v : Int, 0 ≤ v → v < 12 → m' 29 v = m 32 (12 * k + v) ∧ m' 30 v = m 33 (12 * k + v)) → Q m') :
    ∀ (n : Nat) (j : Int) (m' : vm_M), 12 = j + (n : Int) → 0 ≤ j → (∀ (c : Nat) (i : Int), ¬ ((c = 29 ∨ c = 30) ∧ 0 ≤ i ∧ i < 12) → m' c i = m c i) → (∀ v : Int, 0 ≤ v → v < j → m' 29 v = m 32 (12 * k + v) ∧ m' 30 v = m 33 (12 * k + v)) →
    vm_ex G d mX8_pull 2 [some (.inr (.inr 24)), some (.inl k), some (.inl j)] [] m' (vm_qn Q) := by
  intro n
  induction n with
  | zero =>
    intro j m' hj _ hf hr
    have : j = 12 := by omega
    subst this
    exact qX8_pull_2 ⟨⟨by omega, by omega⟩, fun _ => hQ m' hf hr, fun h => absurd h (by omega)⟩
  | succ n ih =>
    intro j m' hj h0 hf hr
    refine qX8_pull_2 ⟨⟨by omega, by omega⟩, fun h => absurd h (by omega), fun _ => ⟨by omega, by omega, fun m4 e4 m5 e5 => ?_⟩⟩
    have e32 := hf 32 (12 * k + j) (by simp)
    have e33 := hf 33 (12 * k + j) (by simp)
    have e433 : m4 33 (12 * k + j) = m' 33 (12 * k + j) := by rw [e4]; exact zz_other (by simp)
    refine ih (j + 1) m5 (by omega) (by omega) (fun c i h => ?_) (fun v v0 v1 => ?_)
    · rw [e5, e4, zz_other (by rintro ⟨rfl, rfl⟩; exact h ⟨Or.inr rfl, by omega, by omega⟩), zz_other (by rintro ⟨rfl, rfl⟩; exact h ⟨Or.inl rfl, by omega, by omega⟩)]
      exact hf c i h
    · by_cases hv : v = j
      · subst hv
        rw [e5, zz_other (by simp), zz_same, e433, e4, zz_same]
        exact ⟨e32, e33⟩
      · have := hr v v0 (by omega)
        rw [e5, zz_other (by simp), e4, zz_other (by omega), zz_other (by omega), zz_other (by simp)]
        exact this
theorem cm_pull {k : Int} {Q : vm_M → Prop} (hk : 0 ≤ k ∧ k ≤ 12) (hQ : ∀ m' : vm_M, (∀ (c : Nat) (i : Int), ¬ ((c = 29 ∨ c = 30) ∧ 0 ≤ i ∧ i < 12) → m' c i = m c i) → (∀ v : Int, 0 ≤ v → v < 12 → m' 29 v = m 32 (12 * k + v) ∧ m' 30 v = m 33 (12 * k + v)) → Q m') : vm_cn G d mX8_pull [.inr (.inr 24), .inl k] m Q :=
  qX8_pull (cm_pull_2 hk hQ 12 0 m (by decide) (by decide) (fun _ _ _ => rfl) (fun v v0 v1 => absurd v1 (by omega)))
end D0
