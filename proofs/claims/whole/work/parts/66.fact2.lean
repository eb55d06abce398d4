section FC2
variable {G : vm_G} {d : Nat} {m m1 : vm_M} {P : fc_G → Prop} {n : Int}
theorem cs_addFact {s : Bool} {i : Int} {Q : vm_M → Prop} (hi : 0 ≤ i ∧ i ≤ 10) (hB : RB m) (hR : RU m n P) (hn : n ≤ 120) (ht : fc_v (rf_tup (m 9) (i * 6)))
    (hQ : ∀ m' N P', LG m m' → RB m' → RU m' N P' → N ≤ n + 4 → (∀ h, box 0 m' h ∧ P' h ↔ (box 0 m h ∧ P h) ∧ FC s (rf_tup (m 9) (i * 6)) h) → Q m') : vm_cn G (d + 4) mX2_addFact [.inr (.inr 2), .inr (.inr 1), .inl i, .inl (vm_b2i s)] m Q := by
  have ha := ht.1
  have hv := ht.2
  have none : m 9 (i * 6 + 0) = 5 ∨ (m 9 (i * 6 + 0) = 6 ∧ m 9 (i * 6 + 2) = m 9 (i * 6 + 4)) → Q m := fun hf => hQ m n P (LG.refl m) hB hR (by omega) (fun h => ⟨fun p => ⟨p, ⟨fun z => by omega, fun z => by omega, fun z w => by omega, fun z => by omega⟩⟩, fun p => p.1⟩)
  have cols : 2 ≤ m 9 (i * 6 + 0) ∧ m 9 (i * 6 + 0) ≤ 4 → vm_ex G (d + 4) mX2_addFact 164 [some (.inr (.inr 2)), some (.inr (.inr 1)), some (.inl i), some (.inl (vm_b2i s)), some (.inl (m 9 (i * 6 + 0))), some (.inl (m 9 (i * 6 + 1))), some (.inl (m 9 (i * 6 + 2))), some (.inl (m 9 (i * 6 + 3))), some (.inl (m 9 (i * 6 + 4))), some (.inl 0)] [] m (vm_qn Q) := fun hf =>
    cs_addFact_175 (n := n) (m := m) (P := P) hn hf ha (by omega) (by omega) (fun m' N P' fr r hN hP => hQ m' N P' fr.lg (fr.rb hB) r hN (fun h => by
      rw [fr.bx, hP]
      constructor
      · rintro ⟨p, q, w⟩
        exact ⟨⟨p, q⟩, ⟨fun z => by omega, fun z => by omega, fun z w => by omega, fun _ => w⟩⟩
      · rintro ⟨⟨p, q⟩, w⟩
        exact ⟨p, q, w.2.2.2 (by omega)⟩)) (if s = true then 4 else 3) 0 m n P (by split <;> rfl) (by decide) (ru_fr.refl m) hR (by omega) (fun h => ⟨fun p => ⟨p, fun k' a b => by omega⟩, fun p => p.1⟩)
  have rest : ∀ v l g : Int, (0 ≤ v ∧ v < 16) → (0 ≤ l ∧ l ≤ 18) → (0 ≤ g ∧ g ≤ 18) → (∀ h, FC s (rf_tup (m 9) (i * 6)) h ↔ l ≤ h v ∧ h v ≤ g) → vm_cn G (d + 3) mX5_restrict [.inr (.inr 6), .inl v, .inl l, .inl g] m Q := fun v l g hv hl hg hF => by
    have b := hB.1 v hv.1 hv.2
    rw [row0] at b
    refine cs_restrict (d := d + 2) hv ⟨by omega, by omega⟩ ⟨by omega, by omega⟩ ⟨by omega, by omega⟩ ⟨by omega, by omega⟩ (fun m2 t => hQ m2 n P (t.lg hv) (t.rb hv hB (by omega) (by omega)) (hR.keep (fun c y hc => t.1 c y (by omega))) (by omega) (fun h => ?_))
    rw [t.box hv, hF]
    constructor
    · rintro ⟨⟨p, q⟩, w⟩; exact ⟨⟨p, w⟩, q⟩
    · rintro ⟨⟨p, w⟩, q⟩; exact ⟨⟨p, q⟩, w⟩
  refine qX2_addFact (cs_number (d := d + 2) hi (by decide) (cs_number (d := d + 2) hi (by decide) (cs_number (d := d + 2) hi (by decide) (cs_number (d := d + 2) hi (by decide) (cs_number (d := d + 2) hi (by decide) ⟨⟨by omega, by omega⟩, fun h0 => ⟨fun h1 => ⟨fun h6 => ⟨fun h2 => cols (by omega), fun h2 => ⟨fun h3 => cols (by omega), fun h3 => ⟨fun h4 => none (by omega), fun h4 => cols (by omega)⟩⟩⟩, fun h6 => ⟨⟨by omega, by omega⟩, ⟨by omega, by omega⟩, fun he => ⟨fun h2 => by omega, fun h2 => ⟨fun h3 => by omega, fun h3 => ⟨fun h4 => none (Or.inr ⟨h6, he⟩), fun h4 => by omega⟩⟩⟩, fun he => ?_⟩⟩, fun h1 => ?_⟩, fun h0 => ?_⟩)))))
  · refine cs_number (d := d + 2) hi (by decide) (cm_variable (cm_variable (cm_difference (d := d + 1) hR (by omega) (by omega) (by omega) (by omega) (fun m2 f2 r2 => hQ m2 (n + 1) _ f2.lg (f2.rb hB) r2 (by omega) (fun h => ?_)))))
    rw [f2.bx]
    constructor
    · rintro ⟨p, q, w⟩
      exact ⟨⟨p, q⟩, ⟨fun z => by omega, fun z => by omega, fun _ _ => w, fun z => by omega⟩⟩
    · rintro ⟨⟨p, q⟩, w⟩
      exact ⟨p, q, w.2.2.1 h6 he⟩
  · exact cm_variable (rest _ _ _ (by omega) (by omega) (by omega) (fun h => ⟨fun w => w.2.1 h1, fun w => ⟨fun z => by omega, fun _ => w, fun z _ => by omega, fun z => by omega⟩⟩))
  · exact cm_variable (rest _ _ _ (by omega) (by omega) (by omega) (fun h => ⟨fun w => w.1 h0, fun w => ⟨fun _ => w, fun z => by omega, fun z _ => by omega, fun z => by omega⟩⟩))
end FC2
