/-! THE CLASS: gaps by kinds -/
section GAP
variable {G : vm_G} {d : Nat} {m m1 : vm_M} {S : fc_G → Prop} {most : Int}
/-- how many gaps of a kind no counts have -/
def fz (most k : Int) (m : vm_M) : Int := zz_sm (fun t => if m 23 (k * 16 + t) < -most then 1 else 0) 16
theorem fz_bd (most k : Int) (m : vm_M) : 0 ≤ fz most k m ∧ fz most k m ≤ 16 := by
  have := zz_sm_bd (f := fun t => if m 23 (k * 16 + t) < -most then 1 else 0) (a := 0) (b := 1) (n := 16) (fun v _ _ => by split <;> omega)
  unfold fz
  omega
def low2 (most k : Int) (m : vm_M) : Int := ((2 ^ (fz most k m).toNat : Nat) : Int)
theorem low2_bd (most k : Int) (m : vm_M) : 1 ≤ low2 most k m ∧ low2 most k m ≤ 65536 := by
  have := fz_bd most k m
  have a : 1 ≤ 2 ^ (fz most k m).toNat := Nat.one_le_two_pow
  have b : 2 ^ (fz most k m).toNat ≤ 2 ^ 16 := Nat.pow_le_pow_right (by decide) (by omega)
  unfold low2
  omega
def GI (S : fc_G → Prop) (most : Int) (m : vm_M) : Prop := m 7 1 = most ∧ (1 ≤ most ∧ most ≤ 6) ∧ (0 ≤ m 7 2 ∧ m 7 2 ≤ 1) ∧ ∀ k : Int, 0 ≤ k → k < 3 →
  (∀ i j : Int, (0 ≤ i ∧ i < 4) → (0 ≤ j ∧ j < 4) → ∀ g, S g → g (3 * i + k) - g (3 * j + k) ≤ m 23 ((k * 4 + i) * 4 + j)) ∧ ∀ t : Int, 0 ≤ t → t < 16 → -6 * low2 most k m ≤ m 23 (k * 16 + t) ∧ m 23 (k * 16 + t) ≤ most
def GF (m m' : vm_M) : Prop := (∀ (c : Nat) (i : Int), c ≠ 23 → ¬ (c = 7 ∧ i = 2) → m' c i = m c i) ∧ ∀ x, m' 23 x ≤ m 23 x
theorem GF.refl (m : vm_M) : GF m m := ⟨fun _ _ _ _ => rfl, fun _ => Int.le_refl _⟩
theorem GF.trans {a b c : vm_M} (s : GF a b) (t : GF b c) : GF a c := ⟨fun x i p q => (t.1 x i p q).trans (s.1 x i p q), fun x => Int.le_trans (t.2 x) (s.2 x)⟩
theorem GI.at (h : GI S most m) {k i j : Int} (hk : 0 ≤ k ∧ k < 3) (hi : 0 ≤ i ∧ i < 4) (hj : 0 ≤ j ∧ j < 4) : -6 * low2 most k m ≤ m 23 ((k * 4 + i) * 4 + j) ∧ m 23 ((k * 4 + i) * 4 + j) ≤ most := by
  have := (h.2.2.2 k hk.1 hk.2).2 (4 * i + j) (by omega) (by omega)
  rwa [show k * 16 + (4 * i + j) = (k * 4 + i) * 4 + j by omega] at this
theorem cs_of {k i j : Int} {Q : vm_M → Int → Prop} (hk : 0 ≤ k ∧ k < 3) (hi : 0 ≤ i ∧ i < 4) (hj : 0 ≤ j ∧ j < 4) (hQ : Q m (m 23 ((k * 4 + i) * 4 + j))) : vm_ci G d mX1_of [.inr (.inr 7), .inl k, .inl i, .inl j] m Q := qX1_of ⟨⟨by omega, by omega⟩, hQ⟩
theorem cs_narrow {k i j p : Int} {Q : vm_M → Prop} (h : GI S most m) (hk : 0 ≤ k ∧ k < 3) (hi : 0 ≤ i ∧ i < 4) (hj : 0 ≤ j ∧ j < 4) (hp : -12 * low2 most k m ≤ p ∧ p ≤ 12) (hS : ∀ g, S g → g (3 * i + k) - g (3 * j + k) ≤ p)
    (hQ : ∀ m', GI S most m' → GF m m' → (m' 23 ((k * 4 + i) * 4 + j) ≤ p ∨ m' 23 ((k * 4 + i) * 4 + j) < -most) → Q m') : vm_cn G d mX1_narrow [.inr (.inr 7), .inl k, .inl i, .inl j, .inl p] m Q := by
  have hat := h.at hk hi hj
  have hl := low2_bd most k m
  obtain ⟨h1, h2, h3, h4⟩ := id h
  refine qX1_narrow ⟨⟨by omega, by omega⟩, ⟨by omega, by omega⟩, ⟨by omega, by omega⟩, fun hle => hQ m h (GF.refl m) (Or.inl hle), fun hgt => ⟨⟨by omega, by omega⟩, fun hlt => hQ m h (GF.refl m) (Or.inr (by omega)), fun hnl m5 e5 m6 e6 => ?_⟩⟩
  have z : ∀ (c : Nat) (y : Int), ¬ (c = 23 ∧ y = (k * 4 + i) * 4 + j) → ¬ (c = 7 ∧ y = 2) → m6 c y = m c y := fun c y p q => by rw [e6, zz_other q, e5, zz_other p]
  have z0 : m6 23 ((k * 4 + i) * 4 + j) = p := by rw [e6, zz_other (by simp), e5, zz_same]
  have z2 : m6 7 2 = 1 := by rw [e6, zz_same]
  have oth : ∀ k' t : Int, 0 ≤ t → t < 16 → ¬ (k' = k ∧ t = 4 * i + j) → m6 23 (k' * 16 + t) = m 23 (k' * 16 + t) := fun k' t t0 t1 hn => z 23 _ (by omega) (by simp)
  have one : m6 23 (k * 16 + (4 * i + j)) = p := by rw [show k * 16 + (4 * i + j) = (k * 4 + i) * 4 + j by omega]; exact z0
  have old : m 23 (k * 16 + (4 * i + j)) = m 23 ((k * 4 + i) * 4 + j) := by rw [show k * 16 + (4 * i + j) = (k * 4 + i) * 4 + j by omega]
  have lw : ∀ k', k' ≠ k → low2 most k' m6 = low2 most k' m := fun k' hne => by
    unfold low2
    have : fz most k' m6 = fz most k' m := zz_sm_congr fun t t0 t1 => by rw [oth k' t t0 (by omega) (fun q => hne q.1)]
    rw [this]
  have lk : (¬ p < -most ∧ low2 most k m6 = low2 most k m) ∨ (p < -most ∧ low2 most k m6 = 2 * low2 most k m) := by
    by_cases hpm : p < -most
    · right
      refine ⟨hpm, ?_⟩
      have := zz_sm_upd (f := fun t => if m6 23 (k * 16 + t) < -most then 1 else 0) (g := fun t => if m 23 (k * 16 + t) < -most then 1 else 0) (j := 4 * i + j) (x := 1) (n := 16) (by omega) (by omega) (fun t t0 t1 hn => by rw [oth k t t0 (by omega) (fun q => hn q.2)]) (by rw [one, if_pos hpm, old, if_neg (by omega)]; decide)
      have e : fz most k m6 = fz most k m + 1 := this
      have := fz_bd most k m
      unfold low2
      rw [e, show (fz most k m + 1).toNat = (fz most k m).toNat + 1 by omega, Nat.pow_succ]
      omega
    · left
      refine ⟨hpm, ?_⟩
      have e : fz most k m6 = fz most k m := zz_sm_congr fun t t0 t1 => by
        by_cases q : t = 4 * i + j
        · subst q; rw [one, if_neg hpm, old, if_neg (by omega)]
        · rw [oth k t t0 (by omega) (fun w => q w.2)]
      unfold low2
      rw [e]
  refine hQ m6 ⟨by rw [z 7 1 (by simp) (by simp)]; exact h1, h2, by omega, fun k' k0 k1 => ⟨fun i' j' hi' hj' g hg => ?_, fun t t0 t1 => ?_⟩⟩ ⟨fun c y p q => z c y (by omega) q, fun x => ?_⟩ (Or.inl (by omega))
  · by_cases q : (k' * 4 + i') * 4 + j' = (k * 4 + i) * 4 + j
    · have q1 : k' = k := by omega
      have q2 : i' = i := by omega
      have q3 : j' = j := by omega
      subst q1; subst q2; subst q3
      rw [z0]; exact hS g hg
    · rw [z 23 _ (by omega) (by simp)]
      exact (h4 k' k0 k1).1 i' j' hi' hj' g hg
  · by_cases q : k' = k
    · subst q
      by_cases q2 : t = 4 * i + j
      · subst q2
        rw [one]
        have := low2_bd most k' m
        omega
      · rw [oth k' t t0 t1 (fun w => q2 w.2)]
        have := (h4 k' k0 k1).2 t t0 t1
        have := low2_bd most k' m
        omega
    · rw [oth k' t t0 t1 (fun w => q w.1), lw k' q]
      exact (h4 k' k0 k1).2 t t0 t1
  · by_cases q : x = (k * 4 + i) * 4 + j
    · subst q; rw [z0]; omega
    · rw [z 23 x (by omega) (by simp)]; exact Int.le_refl _
theorem cs_chain {k : Int} {Q : vm_M → Prop} (h : GI S most m) (hk : 0 ≤ k ∧ k < 3) (hQ : ∀ m', GI S most m' → GF m m' → Q m') : vm_cn G (d + 1) mX1_chain [.inr (.inr 7), .inl k] m Q := by
  have l17 : ∀ (v i : Int), (0 ≤ v ∧ v < 4) → (0 ≤ i ∧ i < 4) → (∀ m', GI S most m' → GF m m' → vm_ex G (d + 1) mX1_chain 9 [some (.inr (.inr 7)), some (.inl k), some (.inl v), some (.inl (i + 1)), none] [] m' (vm_qn Q)) → ∀ (n : Nat) (j : Int) (m1 : vm_M), j + (n : Int) = 4 → 0 ≤ j → GI S most m1 → GF m m1 → vm_ex G (d + 1) mX1_chain 17 [some (.inr (.inr 7)), some (.inl k), some (.inl v), some (.inl i), some (.inl j)] [] m1 (vm_qn Q) := by
    intro v i hv hi hn n
    induction n with
    | zero => exact fun j m1 hj j0 g f => qX1_chain_17 ⟨⟨by omega, by omega⟩, fun _ => hn m1 g f, fun h => by omega⟩
    | succ n ih =>
      intro j m1 hj j0 g f
      have a := g.at hk hi hv
      have b := g.at hk hv (j := j) ⟨j0, by omega⟩
      have hm := g.2.1
      refine qX1_chain_17 ⟨⟨by omega, by omega⟩, fun h => by omega, fun _ => cs_of hk hi hv (cs_of hk hv ⟨j0, by omega⟩ (cs_narrow g hk hi ⟨j0, by omega⟩ (by omega) (fun x hx => ?_) (fun m2 g2 f2 _ => ih (j + 1) m2 (by omega) (by omega) g2 (f.trans f2))))⟩
      have p := (g.2.2.2 k hk.1 hk.2).1 i v hi hv x hx
      have q := (g.2.2.2 k hk.1 hk.2).1 v j hv ⟨j0, by omega⟩ x hx
      omega
  have l9 : ∀ v : Int, (0 ≤ v ∧ v < 4) → (∀ m', GI S most m' → GF m m' → vm_ex G (d + 1) mX1_chain 2 [some (.inr (.inr 7)), some (.inl k), some (.inl (v + 1)), none, none] [] m' (vm_qn Q)) → ∀ (n : Nat) (i : Int) (m1 : vm_M), i + (n : Int) = 4 → 0 ≤ i → GI S most m1 → GF m m1 → vm_ex G (d + 1) mX1_chain 9 [some (.inr (.inr 7)), some (.inl k), some (.inl v), some (.inl i), none] [] m1 (vm_qn Q) := by
    intro v hv hn n
    induction n with
    | zero => exact fun i m1 hi i0 g f => qX1_chain_9 ⟨⟨by omega, by omega⟩, fun _ => hn m1 g f, fun h => by omega⟩
    | succ n ih =>
      intro i m1 hi i0 g f
      exact qX1_chain_9 ⟨⟨by omega, by omega⟩, fun h => by omega, fun _ => l17 v i hv ⟨i0, by omega⟩ (fun m' g' f' => ih (i + 1) m' (by omega) (by omega) g' f') 4 0 m1 (by decide) (by decide) g f⟩
  have l2 : ∀ (n : Nat) (v : Int) (m1 : vm_M), v + (n : Int) = 4 → 0 ≤ v → GI S most m1 → GF m m1 → vm_ex G (d + 1) mX1_chain 2 [some (.inr (.inr 7)), some (.inl k), some (.inl v), none, none] [] m1 (vm_qn Q) := by
    intro n
    induction n with
    | zero => exact fun v m1 hv v0 g f => qX1_chain_2 ⟨⟨by omega, by omega⟩, fun _ => hQ m1 g f, fun h => by omega⟩
    | succ n ih =>
      intro v m1 hv v0 g f
      exact qX1_chain_2 ⟨⟨by omega, by omega⟩, fun h => by omega, fun _ => l9 v ⟨v0, by omega⟩ (fun m' g' f' => ih (v + 1) m' (by omega) (by omega) g' f') 4 0 m1 (by decide) (by decide) g f⟩
  exact qX1_chain (l2 4 0 m (by decide) (by decide) h (GF.refl m))
end GAP
