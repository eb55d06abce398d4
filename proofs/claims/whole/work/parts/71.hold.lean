/-! THE CLASS: the opposite of a fact about bags, by a kind -/
section OPP
variable {G : vm_G} {d : Nat} {m : vm_M} {P : fc_G → Prop} {n : Int}
def opP (f w a b c : Int) (h : fc_G) : Prop :=
  if f = 5 then 1 ≤ h a - h b
  else if f = 2 then (if w = 0 then 1 ≤ h a - h b - h c else h a - h b - h c ≤ -1)
  else if w = 0 then (if f = 3 then 1 ≤ h b - h a else 1 ≤ h a - h b)
  else if w = 1 then (if f = 3 then 1 ≤ h c - h a else 1 ≤ h a - h c)
  else if f = 3 then 1 ≤ h a - h b ∧ 1 ≤ h a - h c else 1 ≤ h b - h a ∧ 1 ≤ h c - h a
/-- the variables are no more than a size can be, the counts no more than a count -/
def H18 (h : fc_G) : Prop := ∀ v : Int, 0 ≤ v → v < 16 → (0 ≤ h v ∧ h v ≤ 18) ∧ (v % 4 ≠ 3 → h v ≤ 6)
theorem cs_addOppositeOfKind {f w a b c : Int} {Q : vm_M → Prop} (hR : RU m n P) (hn : n ≤ 120) (hf : 2 ≤ f ∧ f ≤ 5) (hw : 0 ≤ w ∧ w ≤ 2) (ha : (0 ≤ a ∧ a < 16) ∧ a % 4 ≠ 3) (hb : (0 ≤ b ∧ b < 16) ∧ b % 4 ≠ 3) (hc : (0 ≤ c ∧ c < 16) ∧ c % 4 ≠ 3)
    (hQ : ∀ m' N P', ru_fr m m' → RU m' N P' → N ≤ n + 2 → (∀ h, P' h → P h) → (∀ h, H18 h → (P' h ↔ P h ∧ opP f w a b c h)) → Q m') : vm_cn G (d + 3) mX2_addOppositeOfKind [.inr (.inr 2), .inl f, .inl w, .inl a, .inl b, .inl c] m Q := by
  have bx : ∀ h, H18 h → ((0 ≤ h a ∧ h a ≤ 6) ∧ (0 ≤ h b ∧ h b ≤ 6) ∧ (0 ≤ h c ∧ h c ≤ 6)) := fun h hh => by
    have q1 := hh a ha.1.1 ha.1.2
    have q2 := hh b hb.1.1 hb.1.2
    have q3 := hh c hc.1.1 hc.1.2
    exact ⟨⟨q1.1.1, q1.2 ha.2⟩, ⟨q2.1.1, q2.2 hb.2⟩, ⟨q3.1.1, q3.2 hc.2⟩⟩
  have one : ∀ x y : Int, (x = a ∨ x = b ∨ x = c) → (y = a ∨ y = b ∨ y = c) → (∀ h : fc_G, opP f w a b c h ↔ 1 ≤ h x - h y) → vm_cn G (d + 2) mX4_difference [.inr (.inr 8), .inl x, .inl y, .inl 1] m Q := fun x y hx hy he => by
    refine cm_difference (d := d) hR (by omega) (by omega) (by omega) (by decide) (fun m2 f2 r2 => hQ m2 (n + 1) _ f2 r2 (by omega) (fun h p => p.1) (fun h hh => ?_))
    have q := bx h hh
    rw [he h]
    have q1 : 0 ≤ h x ∧ h x ≤ 6 := by rcases hx with e | e | e <;> rw [e] <;> omega
    have q2 : 0 ≤ h y ∧ h y ≤ 6 := by rcases hy with e | e | e <;> rw [e] <;> omega
    exact ⟨fun p => ⟨p.1, p.2.1⟩, fun p => ⟨p.1, p.2, by omega⟩⟩
  have two : ∀ x y x2 y2 : Int, (x = a ∨ x = b ∨ x = c) → (y = a ∨ y = b ∨ y = c) → (x2 = a ∨ x2 = b ∨ x2 = c) → (y2 = a ∨ y2 = b ∨ y2 = c) → (∀ h : fc_G, opP f w a b c h ↔ 1 ≤ h x - h y ∧ 1 ≤ h x2 - h y2) → vm_cn G (d + 2) mX4_difference [.inr (.inr 8), .inl x, .inl y, .inl 1] m (fun m3 => vm_cn G (d + 2) mX4_difference [.inr (.inr 8), .inl x2, .inl y2, .inl 1] m3 (fun m5 => Q m5)) := fun x y x2 y2 hx hy hx2 hy2 he => by
    refine cm_difference (d := d) hR (by omega) (by omega) (by omega) (by decide) (fun m2 f2 r2 => cm_difference (d := d) r2 (by omega) (by omega) (by omega) (by decide) (fun m3 f3 r3 => hQ m3 (n + 1 + 1) _ (f2.trans f3) r3 (by omega) (fun h p => p.1.1) (fun h hh => ?_)))
    have q := bx h hh
    rw [he h]
    have q1 : 0 ≤ h x ∧ h x ≤ 6 := by rcases hx with e | e | e <;> rw [e] <;> omega
    have q2 : 0 ≤ h y ∧ h y ≤ 6 := by rcases hy with e | e | e <;> rw [e] <;> omega
    have q3 : 0 ≤ h x2 ∧ h x2 ≤ 6 := by rcases hx2 with e | e | e <;> rw [e] <;> omega
    have q4 : 0 ≤ h y2 ∧ h y2 ≤ 6 := by rcases hy2 with e | e | e <;> rw [e] <;> omega
    exact ⟨fun p => ⟨p.1.1, p.1.2.1, p.2.1⟩, fun p => ⟨⟨p.1, p.2.1, by omega⟩, p.2.2, by omega⟩⟩
  have sum : ∀ l u : Int, (-100 ≤ l ∧ l ≤ 100) → (-100 ≤ u ∧ u ≤ 100) → (∀ h : fc_G, H18 h → (opP f w a b c h ↔ l ≤ h a - h b - h c ∧ h a - h b - h c ≤ u)) → vm_cn G (d + 2) mX4_sum [.inr (.inr 8), .inl a, .inl b, .inl c, .inl l, .inl u] m Q := fun l u hl hu he => by
    refine cm_sum (d := d) hR (by omega) ha.1 hb.1 hc.1 (by omega) (by omega) (fun m2 f2 r2 => hQ m2 (n + 1) _ f2 r2 (by omega) (fun h p => p.1) (fun h hh => ?_))
    rw [he h hh]
  have A1 : a = a ∨ a = b ∨ a = c := Or.inl rfl
  have B1 : b = a ∨ b = b ∨ b = c := Or.inr (Or.inl rfl)
  have C1 : c = a ∨ c = b ∨ c = c := Or.inr (Or.inr rfl)
  have k5 : f = 5 → ∀ h : fc_G, opP f w a b c h ↔ 1 ≤ h a - h b := fun e h => by unfold opP; rw [if_pos e]
  have k2z : f = 2 → w = 0 → ∀ h : fc_G, opP f w a b c h ↔ 1 ≤ h a - h b - h c := fun e e2 h => by unfold opP; rw [if_neg (by omega), if_pos e, if_pos e2]
  have k2n : f = 2 → ¬ w = 0 → ∀ h : fc_G, opP f w a b c h ↔ h a - h b - h c ≤ -1 := fun e e2 h => by unfold opP; rw [if_neg (by omega), if_pos e, if_neg e2]
  have k30 : f = 3 → w = 0 → ∀ h : fc_G, opP f w a b c h ↔ 1 ≤ h b - h a := fun e e2 h => by unfold opP; rw [if_neg (by omega), if_neg (by omega), if_pos e2, if_pos e]
  have k40 : ¬ f = 5 → ¬ f = 2 → ¬ f = 3 → w = 0 → ∀ h : fc_G, opP f w a b c h ↔ 1 ≤ h a - h b := fun e1 e2 e3 e h => by unfold opP; rw [if_neg e1, if_neg e2, if_pos e, if_neg e3]
  have k31 : f = 3 → w = 1 → ∀ h : fc_G, opP f w a b c h ↔ 1 ≤ h c - h a := fun e e2 h => by unfold opP; rw [if_neg (by omega), if_neg (by omega), if_neg (by omega), if_pos e2, if_pos e]
  have k41 : ¬ f = 5 → ¬ f = 2 → ¬ f = 3 → w = 1 → ∀ h : fc_G, opP f w a b c h ↔ 1 ≤ h a - h c := fun e1 e2 e3 e h => by unfold opP; rw [if_neg e1, if_neg e2, if_neg (by omega), if_pos e, if_neg e3]
  have k32 : f = 3 → 2 ≤ w → ∀ h : fc_G, opP f w a b c h ↔ 1 ≤ h a - h b ∧ 1 ≤ h a - h c := fun e e2 h => by unfold opP; rw [if_neg (by omega), if_neg (by omega), if_neg (by omega), if_neg (by omega), if_pos e]
  have k42 : ¬ f = 5 → ¬ f = 2 → ¬ f = 3 → 2 ≤ w → ∀ h : fc_G, opP f w a b c h ↔ 1 ≤ h b - h a ∧ 1 ≤ h c - h a := fun e1 e2 e3 e h => by unfold opP; rw [if_neg e1, if_neg e2, if_neg (by omega), if_neg (by omega), if_neg e3]
  refine qX2_addOppositeOfKind ⟨⟨by omega, by omega⟩, fun hw0 => ⟨⟨by omega, by omega⟩, fun h5 => ⟨fun h2 => ⟨fun g2 => ⟨fun h3 => ?_, fun h3 => ?_⟩, fun g2 => ⟨fun h3 => ⟨fun _ => ?_, fun z => absurd z h3⟩, fun h3 => ⟨fun z => absurd h3 z, fun _ => ?_⟩⟩⟩, fun h2 => ⟨fun _ => ⟨fun _ => ?_, fun z => absurd z hw0⟩, fun z => absurd z hw0⟩⟩, fun h5 => ?_⟩,
    fun hw0 => ⟨⟨by omega, by omega⟩, fun h5 => ⟨fun h2 => ⟨fun g2 => absurd g2 (by omega), fun g2 => ⟨fun h3 => ⟨fun _ => ?_, fun z => absurd z h3⟩, fun h3 => ⟨fun z => absurd h3 z, fun _ => ?_⟩⟩⟩, fun h2 => ⟨fun z => absurd hw0 z, fun _ => ⟨fun z => absurd hw0 z, fun _ => ?_⟩⟩⟩, fun h5 => ?_⟩⟩
  · exact two b a c a B1 A1 C1 A1 (k42 h5 h2 h3 g2)
  · exact two a b a c A1 B1 A1 C1 (k32 h3 g2)
  · exact one a c A1 C1 (k41 h5 h2 h3 (by omega))
  · exact one c a C1 A1 (k31 h3 (by omega))
  · exact sum (-18) (-1) (by decide) (by decide) (fun h hh => by rw [k2n h2 hw0 h]; have := bx h hh; omega)
  · exact one a b A1 B1 (k5 h5)
  · exact one a b A1 B1 (k40 h5 h2 h3 hw0)
  · exact one b a B1 A1 (k30 h3 hw0)
  · exact sum 1 18 (by decide) (by decide) (fun h hh => by rw [k2z h2 hw0 h]; have := bx h hh; omega)
  · exact one a b A1 B1 (k5 h5)
/-- how a fact can fail -/
def OP (t : fc_T) (w : Int) (h : fc_G) : Prop := match t with
  | (f, a, b, c, x, e) => if f = 0 then (if w = 0 then 0 ≤ h (a * 4 + b) ∧ h (a * 4 + b) ≤ c - 1 else x + 1 ≤ h (a * 4 + b) ∧ h (a * 4 + b) ≤ 18)
    else if f = 1 then (if w = 0 then 0 ≤ h (a * 4 + 3) ∧ h (a * 4 + 3) ≤ b - 1 else c + 1 ≤ h (a * 4 + 3) ∧ h (a * 4 + 3) ≤ 18)
    else if f = 6 then 1 ≤ h (c * 4 + x) - h (a * 4 + b) + e
    else opP f (w / 3) (a * 4 + w % 3) (b * 4 + w % 3) (c * 4 + w % 3) h
theorem cs_addOpposite {i w : Int} {Q : vm_M → Prop} (hi : 0 ≤ i ∧ i ≤ 10) (hw : 0 ≤ w ∧ w ≤ 8) (hB : RB m) (hR : RU m n P) (hn : n ≤ 120) (ht : fc_v (rf_tup (m 9) (i * 6)))
    (hQ : ∀ m' N P', LG m m' → RB m' → RU m' N P' → N ≤ n + 2 → (∀ h, box 0 m' h ∧ P' h → box 0 m h ∧ P h) → (∀ h, H18 h → (box 0 m' h ∧ P' h ↔ (box 0 m h ∧ P h) ∧ OP (rf_tup (m 9) (i * 6)) w h)) → Q m') : vm_cn G (d + 4) mX2_addOpposite [.inr (.inr 2), .inr (.inr 1), .inl i, .inl w] m Q := by
  have ha := ht.1
  have hv := ht.2
  have outs : ∀ v p q : Int, (0 ≤ v ∧ v < 16) → (0 ≤ p ∧ p ≤ 18) → (0 ≤ q ∧ q ≤ 18) → (∀ h, OP (rf_tup (m 9) (i * 6)) w h ↔ if w = 0 then 0 ≤ h v ∧ h v ≤ p - 1 else q + 1 ≤ h v ∧ h v ≤ 18) → vm_cn G (d + 3) mX2_restrictOutside [.inr (.inr 2), .inl v, .inl p, .inl q, .inl w] m Q := fun v p q hv hp hq he => by
    refine cs_restrictOutside (d := d + 1) hv hp hq ⟨by omega, by omega⟩ hB (fun m2 f2 b2 k2 h2 => hQ m2 n P f2 b2 (hR.keep k2) (by omega) (fun h p => ⟨((h2 h).mp p.1).1, p.2⟩) (fun h _ => ?_))
    rw [h2, he]
    exact ⟨fun p => ⟨⟨p.1.1, p.2⟩, p.1.2⟩, fun p => ⟨⟨p.1.1, p.2⟩, p.1.2⟩⟩
  refine qX2_addOpposite (cs_number (d := d + 2) hi (by decide) (cs_number (d := d + 2) hi (by decide) (cs_number (d := d + 2) hi (by decide) (cs_number (d := d + 2) hi (by decide) (cs_number (d := d + 2) hi (by decide) ⟨⟨by omega, by omega⟩, fun h0 => ⟨fun h1 => ⟨fun h6 => ?_, fun h6 => ?_⟩, fun h1 => ?_⟩, fun h0 => ?_⟩)))))
  · rw [zz_rem hw.1 (by omega) (by decide) (by decide), zz_div hw.1 (by omega) (by decide) (by decide)]
    refine cm_variable (cm_variable (cm_variable (cs_addOppositeOfKind (d := d) hR hn (by omega) (by omega) (by omega) (by omega) (by omega) (fun m2 N P' f2 r2 hN s2 h2 => hQ m2 N P' f2.lg (f2.rb hB) r2 hN (fun h p => ⟨(f2.bx h).mp p.1, s2 h p.2⟩) (fun h hh => ?_)))))
    rw [f2.bx, h2 h hh]
    have e : OP (rf_tup (m 9) (i * 6)) w h ↔ opP (m 9 (i * 6 + 0)) (w / 3) (m 9 (i * 6 + 1) * 4 + w % 3) (m 9 (i * 6 + 2) * 4 + w % 3) (m 9 (i * 6 + 3) * 4 + w % 3) h := by
      unfold OP rf_tup
      simp only [h0, h1, h6, if_false]
    rw [e]
    exact ⟨fun p => ⟨⟨p.1, p.2.1⟩, p.2.2⟩, fun p => ⟨p.1.1, p.1.2, p.2⟩⟩
  · refine cs_number (d := d + 2) hi (by decide) (cm_variable (cm_variable (cm_difference (d := d + 1) hR (by omega) (by omega) (by omega) (by omega) (fun m2 f2 r2 => hQ m2 (n + 1) _ f2.lg (f2.rb hB) r2 (by omega) (fun h p => ⟨(f2.bx h).mp p.1, p.2.1⟩) (fun h hh => ?_)))))
    rw [f2.bx]
    have e : OP (rf_tup (m 9) (i * 6)) w h ↔ 1 ≤ h (m 9 (i * 6 + 3) * 4 + m 9 (i * 6 + 4)) - h (m 9 (i * 6 + 1) * 4 + m 9 (i * 6 + 2)) + m 9 (i * 6 + 5) := by
      unfold OP rf_tup
      simp only [h6, show ¬ (6 : Int) = 0 by decide, show ¬ (6 : Int) = 1 by decide, if_false, if_true]
    rw [e]
    have q1 := hh (m 9 (i * 6 + 3) * 4 + m 9 (i * 6 + 4)) (by omega) (by omega)
    have q2 := hh (m 9 (i * 6 + 1) * 4 + m 9 (i * 6 + 2)) (by omega) (by omega)
    constructor
    · rintro ⟨p, q, w⟩; exact ⟨⟨p, q⟩, by omega⟩
    · rintro ⟨⟨p, q⟩, w⟩; exact ⟨p, q, by omega, by omega⟩
  · exact cm_variable (outs _ _ _ (by omega) (by omega) (by omega) (fun h => by
      unfold OP rf_tup
      simp only [h1, show ¬ (1 : Int) = 0 by decide, if_false, if_true]))
  · exact cm_variable (outs _ _ _ (by omega) (by omega) (by omega) (fun h => by
      unfold OP rf_tup
      simp only [h0, if_true]))
end OPP
