/-! THE CLASS: is it a fact? and the row that is asked about -/
section ASK
variable {G : vm_G} {d : Nat} {m : vm_M}
theorem cs_in2 {v l h : Int} {Q : vm_M → Bool → Prop} (hv : vm_R v) (hl : vm_R l) (hh : vm_R h) (hF : ¬ (l ≤ v ∧ v ≤ h) → Q m false) (hT : (l ≤ v ∧ v ≤ h) → Q m true) : vm_cb G d mX7_isWithin [.inl v, .inl l, .inl h] m Q :=
  cs_isWithin hv hl hh (fun b hb => by
    cases b with
    | false => exact hF (fun w => by have := hb.mpr w; cases this)
    | true => exact hT (hb.mp rfl))
theorem cs_isBag2 {v : Int} {Q : vm_M → Bool → Prop} (hv : vm_R v) (hF : ¬ (0 ≤ v ∧ v ≤ 3) → Q m false) (hT : (0 ≤ v ∧ v ≤ 3) → Q m true) : vm_cb G (d + 1) mX7_isBag [.inl v] m Q :=
  qX7_isBag (cs_in2 hv ⟨by decide, by decide⟩ ⟨by decide, by decide⟩ hF hT)
theorem cs_isKind2 {v : Int} {Q : vm_M → Bool → Prop} (hv : vm_R v) (hF : ¬ (0 ≤ v ∧ v ≤ 2) → Q m false) (hT : (0 ≤ v ∧ v ≤ 2) → Q m true) : vm_cb G (d + 1) mX7_isKind [.inl v] m Q :=
  qX7_isKind (cs_in2 hv ⟨by decide, by decide⟩ ⟨by decide, by decide⟩ hF hT)
theorem cs_isRange2 {a b l : Int} {Q : vm_M → Bool → Prop} (ha : vm_R a) (hb : vm_R b) (hl : vm_R l) (hF : ¬ (0 ≤ a ∧ a ≤ b ∧ b ≤ l) → Q m false) (hT : (0 ≤ a ∧ a ≤ b ∧ b ≤ l) → Q m true) : vm_cb G d mX0_isRange [.inl a, .inl b, .inl l] m Q :=
  qX0_isRange ⟨ha, fun _ => hF (by omega), fun _ => ⟨hb, fun _ => hF (by omega), fun _ => ⟨hl, fun _ => hF (by omega), fun _ => hT (by omega)⟩⟩⟩
theorem cs_isFact {f a b c e' e : Int} {Q : vm_M → Bool → Prop} (hf : vm_R f) (ha : vm_R a) (hb : vm_R b) (hc : vm_R c) (hd : vm_R e') (he : vm_R e) (hQ : ∀ r : Bool, (r = true ↔ fc_v (f, a, b, c, e', e)) → Q m r) : vm_cb G (d + 2) mX0_isFact [.inl f, .inl a, .inl b, .inl c, .inl e', .inl e] m Q := by
  have no : ¬ fc_v (f, a, b, c, e', e) → Q m false := fun h => hQ false ⟨fun z => Bool.noConfusion z, fun w => absurd w h⟩
  have yes : fc_v (f, a, b, c, e', e) → Q m true := fun h => hQ true ⟨fun _ => h, fun _ => rfl⟩
  have tail : ((0 ≤ a ∧ a ≤ 3) ∧ (f = 2 ∨ f = 3 ∨ f = 4)) → vm_cb G (d + 1) mX7_isBag [.inl b] m (fun m13 r14 => (r14 = false → Q m13 false) ∧ (r14 = true → vm_cb G (d + 1) mX7_isBag [.inl c] m13 (fun m15 r16 => (r16 = false → Q m15 false) ∧ (r16 = true → (vm_R e') ∧ ((¬ e' = 0 → Q m15 false) ∧ (e' = 0 → (vm_R e) ∧ ((¬ e = 0 → Q m15 false) ∧ (e = 0 → Q m15 true)))))))) := fun hh =>
    cs_isBag2 hb (fun n => ⟨fun _ => no (by simp only [fc_v]; omega), fun h => Bool.noConfusion h⟩) (fun q1 => ⟨fun h => Bool.noConfusion h, fun _ => cs_isBag2 hc (fun n => ⟨fun _ => no (by simp only [fc_v]; omega), fun h => Bool.noConfusion h⟩) (fun q2 => ⟨fun h => Bool.noConfusion h, fun _ => ⟨hd, fun n => no (by simp only [fc_v]; omega), fun z1 => ⟨he, fun n => no (by simp only [fc_v]; omega), fun z2 => yes (by simp only [fc_v]; omega)⟩⟩⟩)⟩)
  refine qX0_isFact (cs_isBag2 ha (fun n => ⟨fun h => Bool.noConfusion h, fun _ => no (by simp only [fc_v]; omega)⟩) (fun q1 => ⟨fun _ => ⟨hf, fun h => ?_, fun h => ?_, fun h => tail ⟨q1, by omega⟩, fun h => tail ⟨q1, by omega⟩, fun h => tail ⟨q1, by omega⟩, fun h => ?_, fun h => ?_, fun h => no (by simp only [fc_v]; omega)⟩, fun h => Bool.noConfusion h⟩))
  · exact cs_isKind2 hb (fun n => ⟨fun _ => no (by simp only [fc_v]; omega), fun h => Bool.noConfusion h⟩) (fun q2 => ⟨fun h => Bool.noConfusion h, fun _ => cs_isRange2 hc hd ⟨by decide, by decide⟩ (fun n => ⟨fun _ => no (by simp only [fc_v]; omega), fun h => Bool.noConfusion h⟩) (fun q3 => ⟨fun h => Bool.noConfusion h, fun _ => ⟨he, fun n => no (by simp only [fc_v]; omega), fun z => yes (by simp only [fc_v]; omega)⟩⟩)⟩)
  · exact cs_isRange2 hb hc ⟨by decide, by decide⟩ (fun n => ⟨fun _ => no (by simp only [fc_v]; omega), fun h => Bool.noConfusion h⟩) (fun q3 => ⟨fun h => Bool.noConfusion h, fun _ => ⟨hd, fun n => no (by simp only [fc_v]; omega), fun z1 => ⟨he, fun n => no (by simp only [fc_v]; omega), fun z => yes (by simp only [fc_v]; omega)⟩⟩⟩)
  · exact cs_isBag2 hb (fun n => ⟨fun _ => no (by simp only [fc_v]; omega), fun h => Bool.noConfusion h⟩) (fun q2 => ⟨fun h => Bool.noConfusion h, fun _ => ⟨hc, fun n => no (by simp only [fc_v]; omega), fun z0 => ⟨hd, fun n => no (by simp only [fc_v]; omega), fun z1 => ⟨he, fun n => no (by simp only [fc_v]; omega), fun z2 => yes (by simp only [fc_v]; omega)⟩⟩⟩⟩)
  · exact cs_isKind2 hb (fun n => ⟨fun _ => no (by simp only [fc_v]; omega), fun h => Bool.noConfusion h⟩) (fun q2 => ⟨fun h => Bool.noConfusion h, fun _ => cs_isBag2 hc (fun n => ⟨fun _ => no (by simp only [fc_v]; omega), fun h => Bool.noConfusion h⟩) (fun q3 => ⟨fun h => Bool.noConfusion h, fun _ => cs_isKind2 hd (fun n => ⟨fun _ => no (by simp only [fc_v]; omega), fun h => Bool.noConfusion h⟩) (fun q4 => ⟨fun h => Bool.noConfusion h, fun _ => cs_in2 he ⟨by decide, by decide⟩ ⟨by decide, by decide⟩ (fun n => ⟨fun _ => no (by simp only [fc_v]; omega), fun h => Bool.noConfusion h⟩) (fun q5 => ⟨fun h => Bool.noConfusion h, fun _ => yes (by simp only [fc_v]; omega)⟩)⟩)⟩)⟩)
/-- the row that is asked about -/
def AK10 (m m' : vm_M) : Prop := ∀ (c : Nat) (i : Int), ¬ (c = 9 ∧ 60 ≤ i ∧ i < 66) → m' c i = m c i
theorem cs_ask {f a b c e' e : Int} {Q : vm_M → Bool → Prop} (hf : vm_R f) (ha : vm_R a) (hb : vm_R b) (hc : vm_R c) (hd : vm_R e') (he : vm_R e) (hF : ¬ fc_v (f, a, b, c, e', e) → Q m false) (hT : ∀ m', fc_v (f, a, b, c, e', e) → AK10 m m' → rf_tup (m' 9) 60 = (f, a, b, c, e', e) → Q m' true) : vm_cb G (d + 3) mX0_ask [.inr (.inr 1), .inl f, .inl a, .inl b, .inl c, .inl e', .inl e] m Q := by
  refine qX0_ask (cs_isFact (d := d) hf ha hb hc hd he (fun r hr => ⟨fun z m3 e3 m4 e4 m5 e5 m6 e6 m7 e7 m8 e8 => hT m8 (hr.mp z) (fun x i h => ?_) ?_, fun z => hF (fun w => by have := hr.mpr w; rw [z] at this; cases this)⟩))
  · rw [e8, zz_other (fun q => h (by omega)), e7, zz_other (fun q => h (by omega)), e6, zz_other (fun q => h (by omega)), e5, zz_other (fun q => h (by omega)), e4, zz_other (fun q => h (by omega)), e3, zz_other (fun q => h (by omega))]
  · have q : ∀ x : Int, m8 9 x = if x = 65 then e else if x = 64 then e' else if x = 63 then c else if x = 62 then b else if x = 61 then a else if x = 60 then f else m 9 x := by
      intro x
      rw [e8, e7, e6, e5, e4, e3]
      simp only [vm_up, true_and]
      rfl
    unfold rf_tup
    rw [q, q, q, q, q, q]
    rfl
end ASK
