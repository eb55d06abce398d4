section AD2
variable {G : vm_G} {d : Nat} {m m1 : vm_M} {S : fc_G → Prop} {most n0 : Int} {P : fc_G → Prop}
theorem cs_addTo {s : Bool} {Q : vm_M → Prop} (hg : GI S most m) (h0 : 0 ≤ n0 ∧ n0 ≤ 4) (hR : RU m n0 P) (hQ : ∀ m', AD n0 P s most m m' 4 0 0 → Q m') : vm_cn G (d + 3) mX1_addTo [.inr (.inr 7), .inr (.inr 8), .inl (vm_b2i s)] m Q := by
  have l10 : ∀ i : Int, (0 ≤ i ∧ i < 4) → (∀ m', AD n0 P s most m m' (i + 1) 0 0 → vm_ex G (d + 3) mX1_addTo 2 [some (.inr (.inr 7)), some (.inr (.inr 8)), some (.inl (vm_b2i s)), some (.inl (i + 1)), none, none, none, none] [] m' (vm_qn Q)) → ∀ (n : Nat) (j : Int) (m1 : vm_M), j + (n : Int) = 4 → 0 ≤ j → AD n0 P s most m m1 i j 0 → vm_ex G (d + 3) mX1_addTo 10 [some (.inr (.inr 7)), some (.inr (.inr 8)), some (.inl (vm_b2i s)), some (.inl i), some (.inl j), none, none, none] [] m1 (vm_qn Q) := by
    intro i hi hn n
    induction n with
    | zero =>
      intro j m1 hj j0 a
      obtain ⟨f, N, P', r, hN, q1, q2, q3⟩ := a
      exact qX1_addTo_10 ⟨⟨by omega, by omega⟩, fun _ => hn m1 ⟨f, N, P', r, by omega, q1, q2, fun h hp hb k' i' j' hk' hi' hj' hlt => q3 h hp hb k' i' j' hk' hi' hj' (by omega)⟩, fun h => by omega⟩
    | succ n ih =>
      intro j m1 hj j0 a
      exact qX1_addTo_10 ⟨⟨by omega, by omega⟩, fun h => by omega, fun _ => cs_addTo_22 (S := S) (P := P) (m := m) hg h0 hi ⟨j0, by omega⟩ (fun m' a' => ih (j + 1) m' (by omega) (by omega) a') 3 0 0 m1 (by decide) (by decide) a (by omega) (fun h _ hz => absurd hz (by decide))⟩
  have l2 : ∀ (n : Nat) (i : Int) (m1 : vm_M), i + (n : Int) = 4 → 0 ≤ i → AD n0 P s most m m1 i 0 0 → vm_ex G (d + 3) mX1_addTo 2 [some (.inr (.inr 7)), some (.inr (.inr 8)), some (.inl (vm_b2i s)), some (.inl i), none, none, none, none] [] m1 (vm_qn Q) := by
    intro n
    induction n with
    | zero =>
      intro i m1 hi i0 a
      have : i = 4 := by omega
      subst this
      exact qX1_addTo_2 ⟨⟨by omega, by omega⟩, fun _ => hQ m1 a, fun h => by omega⟩
    | succ n ih =>
      intro i m1 hi i0 a
      exact qX1_addTo_2 ⟨⟨by omega, by omega⟩, fun h => by omega, fun _ => l10 i ⟨i0, by omega⟩ (fun m' a' => ih (i + 1) m' (by omega) (by omega) a') 4 0 m1 (by decide) (by decide) a⟩
  exact qX1_addTo (l2 4 0 m (by decide) (by decide) ⟨ru_fr.refl m, n0, P, hR, by omega, fun h hp => hp, fun h hp _ => hp, fun h _ _ k' i' j' hk' hi' hj' hlt => by omega⟩)
end AD2
