/-! THE CLASS: the gaps become rules -/
section ADT
variable {G : vm_G} {d : Nat} {m m1 : vm_M} {S : fc_G → Prop} {most n0 : Int} {P : fc_G → Prop}
def HB (most : Int) (h : fc_G) : Prop := ∀ b k : Int, (0 ≤ b ∧ b < 4) → (0 ≤ k ∧ k < 3) → 0 ≤ h (4 * b + k) ∧ h (4 * b + k) ≤ most
/-- what keeps all gaps, and the sizes -/
def GH (m : vm_M) (s : Bool) (most : Int) (h : fc_G) : Prop := HB most h ∧ (∀ k i j : Int, (0 ≤ k ∧ k < 3) → (0 ≤ i ∧ i < 4) → (0 ≤ j ∧ j < 4) → h (4 * i + k) - h (4 * j + k) ≤ m 23 ((k * 4 + i) * 4 + j)) ∧ (s = true → ∀ b : Int, 0 ≤ b → b < 4 → bg_sum h b)
def AD (n0 : Int) (P : fc_G → Prop) (s : Bool) (most : Int) (m m1 : vm_M) (i j k : Int) : Prop := ru_fr m m1 ∧ ∃ N P', RU m1 N P' ∧ N ≤ n0 + (i * 4 + j) * 4 + k ∧ (∀ h, P' h → P h) ∧ (∀ h, P h → GH m s most h → P' h) ∧
  ∀ h, P' h → HB most h → ∀ k' i' j' : Int, (0 ≤ k' ∧ k' < 3) → (0 ≤ i' ∧ i' < 4) → (0 ≤ j' ∧ j' < 4) → (i' * 4 + j') * 3 + k' < (i * 4 + j) * 3 + k → h (4 * i' + k') - h (4 * j' + k') ≤ m 23 ((k' * 4 + i') * 4 + j')
theorem cs_addTo_22 {s : Bool} {i j : Int} {Q : vm_M → Prop} (hg : GI S most m) (h0 : 0 ≤ n0 ∧ n0 ≤ 4) (hi : 0 ≤ i ∧ i < 4) (hj : 0 ≤ j ∧ j < 4)
    (hn : ∀ m', AD n0 P s most m m' i (j + 1) 0 → vm_ex G (d + 3) mX1_addTo 10 [some (.inr (.inr 7)), some (.inr (.inr 8)), some (.inl (vm_b2i s)), some (.inl i), some (.inl (j + 1)), none, none, none] [] m' (vm_qn Q)) :
    ∀ (n : Nat) (k tot : Int) (m1 : vm_M), k + (n : Int) = 3 → 0 ≤ k → AD n0 P s most m m1 i j k → (-400000 * k ≤ tot ∧ tot ≤ 6 * k) → (∀ h, GH m s most h → (0 < k → h (4 * i) - h (4 * j) + (if 1 < k then h (4 * i + 1) - h (4 * j + 1) else 0) + (if 2 < k then h (4 * i + 2) - h (4 * j + 2) else 0) ≤ tot)) →
    vm_ex G (d + 3) mX1_addTo 22 [some (.inr (.inr 7)), some (.inr (.inr 8)), some (.inl (vm_b2i s)), some (.inl i), some (.inl j), some (.inl tot), some (.inl k), none] [] m1 (vm_qn Q) := by
  have hm := hg.2.1
  intro n
  induction n with
  | zero =>
    intro k tot m1 hk k0 a ht hs
    have hk : k = 3 := by omega
    subst hk
    obtain ⟨f, N, P', r, hN, q1, q2, q3⟩ := a
    have rn := r.2.1
    have e71 : m1 7 1 = most := (f 7 1 (by simp) (by simp)).trans hg.1
    have same : AD n0 P s most m m1 i (j + 1) 0 := ⟨f, N, P', r, by omega, q1, q2, fun h hp hb k' i' j' hk' hi' hj' hlt => q3 h hp hb k' i' j' hk' hi' hj' (by omega)⟩
    refine qX1_addTo_22 ⟨⟨by omega, by omega⟩, fun _ => ⟨fun _ => hn m1 same, fun hst => ⟨⟨by omega, by omega⟩, ⟨by omega, by omega⟩, fun _ => hn m1 same, fun hne => ⟨⟨by omega, by omega⟩, by rw [e71]; exact ⟨by omega, by omega⟩, fun _ => hn m1 same, fun _ => cm_variable (cm_variable (cm_difference r (by omega) (by omega) (by omega) (by omega) (fun m2 f2 r2 => hn m2 ⟨f.trans f2, N + 1, _, r2, by omega, fun h hp => q1 h hp.1, fun h hp hg => ⟨q2 h hp hg, ?_⟩, fun h hp hb k' i' j' hk' hi' hj' hlt => q3 h hp.1 hb k' i' j' hk' hi' hj' (by omega)⟩)))⟩⟩⟩, fun h => by omega⟩
    have t := hs h hg (by decide)
    rw [if_pos (by decide), if_pos (by decide)] at t
    obtain ⟨g1, g2, g3⟩ := hg
    have s1 := g3 hst i hi.1 hi.2
    have s2 := g3 hst j hj.1 hj.2
    unfold bg_sum at s1 s2
    have b0 := g1 i 0 hi (by decide)
    have b1 := g1 i 1 hi (by decide)
    have b2 := g1 i 2 hi (by decide)
    have c0 := g1 j 0 hj (by decide)
    have c1 := g1 j 1 hj (by decide)
    have c2 := g1 j 2 hj (by decide)
    rw [Int.add_zero] at b0 c0
    rw [Int.mul_comm j 4, Int.mul_comm i 4]
    omega
  | succ n ih =>
    intro k tot m1 hk k0 a ht hs
    have hkk : 0 ≤ k ∧ k < 3 := ⟨k0, by omega⟩
    obtain ⟨f, N, P', r, hN, q1, q2, q3⟩ := a
    have rn := r.2.1
    have e71 : m1 7 1 = most := (f 7 1 (by simp) (by simp)).trans hg.1
    have e23 : m1 23 ((k * 4 + i) * 4 + j) = m 23 ((k * 4 + i) * 4 + j) := f 23 _ (by simp) (by simp)
    have gb := hg.at hkk hi hj
    have gl := low2_bd most k m
    have hs' : ∀ h, GH m s most h → (0 < k + 1 → h (4 * i) - h (4 * j) + (if 1 < k + 1 then h (4 * i + 1) - h (4 * j + 1) else 0) + (if 2 < k + 1 then h (4 * i + 2) - h (4 * j + 2) else 0) ≤ tot + m 23 ((k * 4 + i) * 4 + j)) := fun h hg _ => by
      have t := hs h hg
      have u := hg.2.1 k i j hkk hi hj
      have : k = 0 ∨ k = 1 ∨ k = 2 := by omega
      rcases this with e | e | e
      · subst e
        have w := ht
        rw [Int.add_zero, Int.add_zero] at u
        simp only [show ¬ (1 : Int) < 0 + 1 by decide, show ¬ (2 : Int) < 0 + 1 by decide, if_false]
        omega
      · subst e
        have t := t (by decide)
        simp only [show ¬ (1 : Int) < 1 by decide, show ¬ (2 : Int) < 1 by decide, if_false] at t
        simp only [show (1 : Int) < 1 + 1 by decide, show ¬ (2 : Int) < 1 + 1 by decide, if_false, if_true]
        omega
      · subst e
        have t := t (by decide)
        simp only [show (1 : Int) < 2 by decide, show ¬ (2 : Int) < 2 by decide, if_false, if_true] at t
        simp only [show (1 : Int) < 2 + 1 by decide, show (2 : Int) < 2 + 1 by decide, if_true]
        omega
    have skip : (∀ h, HB most h → h (4 * i + k) - h (4 * j + k) ≤ m 23 ((k * 4 + i) * 4 + j)) → vm_ex G (d + 3) mX1_addTo 22 [some (.inr (.inr 7)), some (.inr (.inr 8)), some (.inl (vm_b2i s)), some (.inl i), some (.inl j), some (.inl (tot + m1 23 ((k * 4 + i) * 4 + j))), some (.inl (k + 1)), none] [] m1 (vm_qn Q) := fun hno => by
      rw [e23]
      refine ih (k + 1) _ m1 (by omega) (by omega) ⟨f, N, P', r, by omega, q1, q2, fun h hp hb k' i' j' hk' hi' hj' hlt => ?_⟩ (by omega) hs'
      by_cases e : (i' * 4 + j') * 3 + k' < (i * 4 + j) * 3 + k
      · exact q3 h hp hb k' i' j' hk' hi' hj' e
      · have x1 : k' = k := by omega
        have x2 : i' = i := by omega
        have x3 : j' = j := by omega
        subst x1; subst x2; subst x3
        exact hno h hb
    have diff : vm_ci G (d + 2) mX5_variable [.inl j, .inl k] m1 (fun m18 r19 => vm_ci G (d + 2) mX5_variable [.inl i, .inl k] m18 (fun m20 r21 => vm_cn G (d + 2) mX4_difference [.inr (.inr 8), .inl r19, .inl r21, .inl (-(m1 23 ((k * 4 + i) * 4 + j)))] m20 (fun m22 => vm_ex G (d + 3) mX1_addTo 22 [some (.inr (.inr 7)), some (.inr (.inr 8)), some (.inl (vm_b2i s)), some (.inl i), some (.inl j), some (.inl (tot + m1 23 ((k * 4 + i) * 4 + j))), some (.inl (k + 1)), none] [] m22 (vm_qn Q)))) := by
      rw [e23]
      refine cm_variable (cm_variable (cm_difference r (by omega) (by omega) (by omega) (by omega) (fun m2 f2 r2 => ih (k + 1) _ m2 (by omega) (by omega) ⟨f.trans f2, N + 1, _, r2, by omega, fun h hp => q1 h hp.1, fun h hp hg => ⟨q2 h hp hg, ?_⟩, fun h hp hb k' i' j' hk' hi' hj' hlt => ?_⟩ (by omega) hs')))
      · have u := hg.2.1 k i j hkk hi hj
        have b := hg.1 i k hi hkk
        have c := hg.1 j k hj hkk
        rw [Int.mul_comm j 4, Int.mul_comm i 4]
        omega
      · by_cases e : (i' * 4 + j') * 3 + k' < (i * 4 + j) * 3 + k
        · exact q3 h hp.1 hb k' i' j' hk' hi' hj' e
        · have x1 : k' = k := by omega
          have x2 : i' = i := by omega
          have x3 : j' = j := by omega
          subst x1; subst x2; subst x3
          have := hp.2.1
          rw [Int.mul_comm j' 4, Int.mul_comm i' 4] at this
          omega
    refine qX1_addTo_22 ⟨⟨by omega, by omega⟩, fun h => by omega, fun _ => cs_of hkk hi hj ⟨⟨by omega, by omega⟩, ⟨by omega, by omega⟩, fun hne => ⟨⟨by omega, by omega⟩, by rw [e71]; exact ⟨by omega, by omega⟩, fun hle => skip (fun h hb => ?_), fun _ => diff⟩, fun he => ⟨⟨by omega, by omega⟩, fun hle => skip (fun h hb => ?_), fun _ => diff⟩⟩⟩
    · have b := hb i k hi hkk
      have c := hb j k hj hkk
      omega
    · subst he
      omega
end ADT
