/-! THE CLASS: facts become rules -/
section LGC
variable {G : vm_G} {d : Nat} {m m1 : vm_M} {P : fc_G → Prop} {n : Int}
theorem cs_hasSizeFact {s : Nat} {Q : vm_M → Bool → Prop} (hs : s < 2048) (hR : ∀ i : Nat, i ≤ 10 → s.testBit i = true → vm_R (m 9 ((i : Int) * 6 + 0))) (hQ : ∀ r, (r = true ↔ ∃ i : Nat, i ≤ 10 ∧ s.testBit i = true ∧ m 9 ((i : Int) * 6 + 0) = 1) → Q m r) : vm_cb G (d + 2) mX2_hasSizeFact [.inr (.inr 2), .inr (.inr 1), .inl (s : Int)] m Q := by
  have key : ∀ (n i : Nat), i + n = 11 → (∀ u : Nat, u < i → ¬ (s.testBit u = true ∧ m 9 ((u : Int) * 6 + 0) = 1)) → vm_ex G (d + 2) mX2_hasSizeFact 2 [some (.inr (.inr 2)), some (.inr (.inr 1)), some (.inl (s : Int)), some (.inl (i : Int))] [] m (vm_qb Q) := by
    intro n
    induction n with
    | zero =>
      intro i hi h
      exact qX2_hasSizeFact_2 ⟨⟨by omega, by omega⟩, fun _ => hQ false ⟨fun e => by simp at e, fun ⟨u, u1, u2, u3⟩ => absurd ⟨u2, u3⟩ (h u (by omega))⟩, fun h => by omega⟩
    | succ n ih =>
      intro i hi h
      have bz := zz_bit2 s i (by omega) (by omega)
      have p1 : 2 ^ i < 2 ^ 16 := zz_pow_lt (by omega)
      have aR : vm_R (vm_and (s : Int) (vm_shl 1 (i : Int))) := by rw [zz_shl1 (by omega)]; exact and_R (by omega) (by omega)
      have next : ¬ (s.testBit i = true ∧ m 9 ((i : Int) * 6 + 0) = 1) → vm_ex G (d + 2) mX2_hasSizeFact 2 [some (.inr (.inr 2)), some (.inr (.inr 1)), some (.inl (s : Int)), some (.inl ((i : Int) + 1))] [] m (vm_qb Q) := fun hno => ih (i + 1) (by omega) (fun u hu => by
        by_cases e : u = i
        · subst e; exact hno
        · exact h u (by omega))
      refine qX2_hasSizeFact_2 ⟨⟨by omega, by omega⟩, fun h => by omega, fun _ => ⟨aR, fun hz => next (fun z => by rw [bz, z.1] at hz; simp at hz), fun hz => ?_⟩⟩
      have hb : s.testBit i = true := by rw [bz] at hz; simpa using hz
      exact cs_number (by omega) (by decide) ⟨hR i (by omega) hb, fun hne => next (fun z => hne z.2), fun he => hQ true ⟨fun _ => ⟨i, by omega, hb, he⟩, fun _ => rfl⟩⟩
  exact qX2_hasSizeFact (key 11 0 (by decide) (fun u hu => by omega))
/-- what a fact about three bags says of a column -/
def colP (f a b c k : Int) (h : fc_G) : Prop := if f = 2 then h (a * 4 + k) = h (b * 4 + k) + h (c * 4 + k) else k = 3 ∨ h (a * 4 + k) = if f = 3 then max (h (b * 4 + k)) (h (c * 4 + k)) else min (h (b * 4 + k)) (h (c * 4 + k))
theorem cs_addColumn {f k a b c : Int} {Q : vm_M → Prop} (hR : RU m n P) (hn : n < 128) (hf : 2 ≤ f ∧ f ≤ 4) (hk : 0 ≤ k ∧ k ≤ 3) (ha : 0 ≤ a ∧ a ≤ 3) (hb : 0 ≤ b ∧ b ≤ 3) (hc : 0 ≤ c ∧ c ≤ 3) (hQ : ∀ m' N, ru_fr m m' → RU m' N (fun h => P h ∧ colP f a b c k h) → N ≤ n + 1 → Q m') : vm_cn G (d + 3) mX2_addColumn [.inr (.inr 2), .inl f, .inl k, .inl a, .inl b, .inl c] m Q := by
  refine qX2_addColumn (cm_variable (cm_variable (cm_variable ⟨⟨by omega, by omega⟩, fun h2 => ⟨⟨by omega, by omega⟩, fun h3 => ?_, fun h3 => ⟨fun hf3 => ?_, fun hf3 => ?_⟩⟩, fun h2 => ?_⟩)))
  · exact hQ m n (ru_fr.refl m) (hR.congr fun h => ⟨fun p => ⟨p, by unfold colP; rw [if_neg h2]; exact Or.inl h3⟩, fun p => p.1⟩) (by omega)
  · refine cm_choice (d := d + 1) hR hn (Or.inr rfl) (by omega) (by omega) (by omega) (fun m2 f2 r2 => hQ m2 (n + 1) f2 (r2.congr fun h => ?_) (by omega))
    unfold colP
    rw [if_neg h2, if_neg hf3, if_neg (by decide)]
    exact ⟨fun p => ⟨p.1, Or.inr p.2⟩, fun p => ⟨p.1, p.2.resolve_left h3⟩⟩
  · refine cm_choice (d := d + 1) hR hn (Or.inl rfl) (by omega) (by omega) (by omega) (fun m2 f2 r2 => hQ m2 (n + 1) f2 (r2.congr fun h => ?_) (by omega))
    unfold colP
    rw [if_neg h2, if_pos hf3, if_pos rfl]
    exact ⟨fun p => ⟨p.1, Or.inr p.2⟩, fun p => ⟨p.1, p.2.resolve_left h3⟩⟩
  · refine cm_sum (d := d) hR hn (by omega) (by omega) (by omega) (by decide) (by decide) (fun m2 f2 r2 => hQ m2 (n + 1) f2 (r2.congr fun h => ?_) (by omega))
    unfold colP
    rw [if_pos h2]
    constructor
    · rintro ⟨p, q1, q2⟩; exact ⟨p, by omega⟩
    · rintro ⟨p, q⟩; exact ⟨p, by omega, by omega⟩
end LGC
