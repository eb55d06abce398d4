section LO3
variable {G : vm_G} {d : Nat} {m : vm_M} {S : fc_G → Prop} {most : Int}
theorem cs_load {s : Nat} {as : Bool} {Q : vm_M → Prop} (hlt : s < 2048) (hm : m 1 2 = most ∧ 1 ≤ most ∧ most ≤ 6) (h64 : 0 ≤ m 6 4 ∧ m 6 4 < 65536) (hB : ∀ g, S g → ∀ v : Int, 0 ≤ v → v < 12 → 0 ≤ g v ∧ g v ≤ most) (hF : FA S m s)
    (hQ : ∀ m' mg hs, (hs = true ↔ as = true ∨ ∃ i : Nat, i ≤ 10 ∧ s.testBit i = true ∧ m 9 ((i : Int) * 6 + 0) = 1) → LDD S most s hs m m' mg → (∀ (c : Nat) (i : Int), ¬ (15 ≤ c ∧ c ≤ 23) → c ≠ 8 → c ≠ 6 → c ≠ 7 → ¬ (c = 13 ∨ c = 14) → m' c i = m c i) → Q m') :
    vm_cn G (d + 5) mX2_load [.inr (.inr 2), .inr (.inr 1), .inl (s : Int), .inl (vm_b2i as)] m Q := by
  have hR : ∀ i : Nat, i ≤ 10 → s.testBit i = true → vm_R (m 9 ((i : Int) * 6 + 0)) := fun i hi hb => by
    have hv := (hF i hi hb).1.2
    exact ⟨by omega, by omega⟩
  refine qX2_load ⟨fun e => ?_, fun e => cs_hasSizeFact (d := d + 2) hlt hR (fun r hr => ⟨fun z => ?_, fun z => ?_⟩)⟩
  · exact cs_load_in (d := d) (hs := true) hlt hm h64 hB hF (fun m' mg l f => hQ m' mg true ⟨fun _ => Or.inl e, fun _ => rfl⟩ l f)
  · exact cs_load_in (d := d) (hs := false) hlt hm h64 hB hF (fun m' mg l f => hQ m' mg false ⟨fun w => by simp at w, fun w => by
      rcases w with w | w
      · rw [e] at w; simp at w
      · have := hr.mpr w; rw [z] at this; simp at this⟩ l f)
  · exact cs_load_in (d := d) (hs := true) hlt hm h64 hB hF (fun m' mg l f => hQ m' mg true ⟨fun _ => Or.inr (hr.mp z), fun _ => rfl⟩ l f)
end LO3
