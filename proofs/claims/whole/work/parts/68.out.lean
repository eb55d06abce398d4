/-! THE CLASS: the opposite of a range -/
section OUT
variable {G : vm_G} {d : Nat} {m : vm_M}
theorem cs_restrictOutside {v a b w : Int} {Q : vm_M → Prop} (hv : 0 ≤ v ∧ v < 16) (ha : 0 ≤ a ∧ a ≤ 18) (hb : 0 ≤ b ∧ b ≤ 18) (hw : vm_R w) (hB : RB m) (hQ : ∀ m', LG m m' → RB m' → (∀ (c : Nat) (i : Int), (15 ≤ c ∧ c ≤ 22) ∨ c = 8 → m' c i = m c i) → (∀ h, box 0 m' h ↔ box 0 m h ∧ (if w = 0 then 0 ≤ h v ∧ h v ≤ a - 1 else b + 1 ≤ h v ∧ h v ≤ 18)) → Q m') : vm_cn G (d + 2) mX2_restrictOutside [.inr (.inr 2), .inl v, .inl a, .inl b, .inl w] m Q := by
  have bb := hB.1 v hv.1 hv.2
  rw [row0] at bb
  refine qX2_restrictOutside ⟨hw, fun hn => ?_, fun hz => ?_⟩
  · refine cs_restrict hv ⟨by omega, by omega⟩ ⟨by omega, by omega⟩ ⟨by omega, by omega⟩ ⟨by omega, by omega⟩ (fun m2 t => hQ m2 (t.lg hv) (t.rb hv hB (by omega) (by omega)) (fun c y hc => t.1 c y (by omega)) (fun h => ?_))
    rw [t.box hv, if_neg hn]
  · refine cs_restrict hv ⟨by omega, by omega⟩ ⟨by omega, by omega⟩ ⟨by omega, by omega⟩ ⟨by omega, by omega⟩ (fun m2 t => hQ m2 (t.lg hv) (t.rb hv hB (by omega) (by omega)) (fun c y hc => t.1 c y (by omega)) (fun h => ?_))
    rw [t.box hv, if_pos hz]
end OUT
