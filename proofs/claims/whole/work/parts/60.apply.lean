/-! THE CLASS: what a fact says of the gaps -/
section APL
variable {G : vm_G} {d : Nat} {m m1 : vm_M} {S : fc_G → Prop} {most : Int}
theorem cs_number {i w : Int} {Q : vm_M → Int → Prop} (hi : 0 ≤ i ∧ i ≤ 10) (hw : 0 ≤ w ∧ w ≤ 5) (hQ : Q m (m 9 (i * 6 + w))) : vm_ci G (d + 1) mX0_number [.inr (.inr 1), .inl i, .inl w] m Q :=
  qX0_number (cs_isWithin ⟨by omega, by omega⟩ ⟨by decide, by decide⟩ ⟨by decide, by decide⟩ (fun r hr => ⟨fun e => by have := hr.mpr hi; rw [e] at this; simp at this, fun _ => cs_isWithin ⟨by omega, by omega⟩ ⟨by decide, by decide⟩ ⟨by decide, by decide⟩ (fun r' hr' => ⟨fun e => by have := hr'.mpr hw; rw [e] at this; simp at this, fun _ => ⟨⟨by omega, by omega⟩, hQ⟩⟩)⟩))
theorem fc2 {a b c x e k : Int} {g : fc_G} : fc_at (2, a, b, c, x, e) k g ↔ g (3 * a + k) = g (3 * b + k) + g (3 * c + k) := by simp [fc_at]
theorem fc3 {a b c x e k : Int} {g : fc_G} : fc_at (3, a, b, c, x, e) k g ↔ g (3 * a + k) = max (g (3 * b + k)) (g (3 * c + k)) := by simp [fc_at]
theorem fc4 {a b c x e k : Int} {g : fc_G} : fc_at (4, a, b, c, x, e) k g ↔ g (3 * a + k) = min (g (3 * b + k)) (g (3 * c + k)) := by simp [fc_at]
theorem fc5 {a b c x e k : Int} {g : fc_G} : fc_at (5, a, b, c, x, e) k g ↔ g (3 * a + k) ≤ g (3 * b + k) := by simp [fc_at]
theorem fc6 {a b c x e k : Int} {g : fc_G} : fc_at (6, a, b, c, x, e) k g ↔ g (3 * c + x) + e ≤ g (3 * a + b) := by simp [fc_at]
/-- what is known after the kinds below k -/
def AJ (S : fc_G → Prop) (most f a b : Int) (m m1 : vm_M) (k : Int) : Prop := GI S most m1 ∧ GF m m1 ∧ (f = 5 → ∀ k' : Int, 0 ≤ k' → k' < k → m1 23 ((k' * 4 + a) * 4 + b) ≤ 0)
theorem AJ.step {f a b k : Int} {m2 : vm_M} (j : AJ S most f a b m m1 k) (g : GI S most m2) (h : GF m1 m2) : AJ S most f a b m m2 k :=
  ⟨g, j.2.1.trans h, fun e k' k0 k1 => Int.le_trans (h.2 _) (j.2.2 e k' k0 k1)⟩
theorem cs_apply_146 {i f a b c x e k : Int} {Q : vm_M → Prop} (hB : ∀ g, S g → ∀ v : Int, 0 ≤ v → v < 12 → 0 ≤ g v ∧ g v ≤ most) (ht : fc_v (f, a, b, c, x, e)) (hS : ∀ g, S g → fc_holds (f, a, b, c, x, e) g) (hk : 0 ≤ k ∧ k < 3) (hn : ∀ m', AJ S most f a b m m' (k + 1) → vm_ex G (d + 1) mX1_apply 68 [some (.inr (.inr 7)), some (.inr (.inr 1)), some (.inl i), some (.inl f), some (.inl a), some (.inl b), some (.inl c), some (.inl (k + 1)), none] [] m' (vm_qn Q)) :
    ∀ (n : Nat) (j : Int) (m1 : vm_M), j + (n : Int) = 4 → 0 ≤ j → AJ S most f a b m m1 (k + 1) → vm_ex G (d + 1) mX1_apply 146 [some (.inr (.inr 7)), some (.inr (.inr 1)), some (.inl i), some (.inl f), some (.inl a), some (.inl b), some (.inl c), some (.inl k), some (.inl j)] [] m1 (vm_qn Q) := by
  obtain ⟨ha, hv⟩ := ht
  intro n
  induction n with
  | zero => exact fun j m1 hj j0 q => qX1_apply_146 ⟨⟨by omega, by omega⟩, fun _ => hn m1 q, fun h => by omega⟩
  | succ n ih =>
    intro j m1 hj j0 q
    have hjj : 0 ≤ j ∧ j < 4 := ⟨j0, by omega⟩
    have hl := low2_bd most k m1
    have hm := q.1.2.1
    refine qX1_apply_146 ⟨⟨by omega, by omega⟩, fun h => by omega, fun _ => ⟨⟨by omega, by omega⟩, fun _ => ⟨fun _ => ih (j + 1) m1 (by omega) (by omega) q, fun h4 => ?_⟩, fun h3 => ?_⟩⟩
    · subst h4
      have hb : 0 ≤ b ∧ b < 4 := by omega
      have hc : 0 ≤ c ∧ c < 4 := by omega
      have p1 := q.1.at hk hjj hb
      have p2 := q.1.at hk hjj hc
      refine cs_of hk hjj hb (cs_of hk hjj hc ⟨⟨by omega, by omega⟩, ⟨by omega, by omega⟩, cs_narrow q.1 hk hjj (by omega) ?_ (fun g hg => ?_) (fun m2 g2 f2 _ => ih (j + 1) m2 (by omega) (by omega) (q.step g2 f2))⟩)
      · constructor <;> split <;> omega
      · have s := fc4.mp (hS g hg k hk.1 hk.2)
        have s1 := (q.1.2.2.2 k hk.1 hk.2).1 j b hjj hb g hg
        have s2 := (q.1.2.2.2 k hk.1 hk.2).1 j c hjj hc g hg
        split <;> omega
    · subst h3
      have hb : 0 ≤ b ∧ b < 4 := by omega
      have hc : 0 ≤ c ∧ c < 4 := by omega
      have p1 := q.1.at hk hb hjj
      have p2 := q.1.at hk hc hjj
      refine cs_of hk hb hjj (cs_of hk hc hjj ⟨⟨by omega, by omega⟩, ⟨by omega, by omega⟩, cs_narrow q.1 hk (by omega) hjj ?_ (fun g hg => ?_) (fun m2 g2 f2 _ => ih (j + 1) m2 (by omega) (by omega) (q.step g2 f2))⟩)
      · constructor <;> split <;> omega
      · have s := fc3.mp (hS g hg k hk.1 hk.2)
        have s1 := (q.1.2.2.2 k hk.1 hk.2).1 b j hb hjj g hg
        have s2 := (q.1.2.2.2 k hk.1 hk.2).1 c j hc hjj g hg
        split <;> omega
theorem cs_apply_68 {i f a b c x e : Int} {Q : vm_M → Prop} (hB : ∀ g, S g → ∀ v : Int, 0 ≤ v → v < 12 → 0 ≤ g v ∧ g v ≤ most) (ht : fc_v (f, a, b, c, x, e)) (hS : ∀ g, S g → fc_holds (f, a, b, c, x, e) g) (hQ : ∀ m', AJ S most f a b m m' 3 → Q m') :
    ∀ (n : Nat) (k : Int) (m1 : vm_M), k + (n : Int) = 3 → 0 ≤ k → AJ S most f a b m m1 k → vm_ex G (d + 1) mX1_apply 68 [some (.inr (.inr 7)), some (.inr (.inr 1)), some (.inl i), some (.inl f), some (.inl a), some (.inl b), some (.inl c), some (.inl k), none] [] m1 (vm_qn Q) := by
  have hv := ht.2
  have ha := ht.1
  intro n
  induction n with
  | zero =>
    intro k m1 hk k0 q
    have : k = 3 := by omega
    subst this
    exact qX1_apply_68 ⟨⟨by omega, by omega⟩, fun _ => hQ m1 q, fun h => by omega⟩
  | succ n ih =>
    intro k m1 hk k0 q
    have hkk : 0 ≤ k ∧ k < 3 := ⟨k0, by omega⟩
    have hl := fun m2 => low2_bd most k m2
    have go : ∀ m2, AJ S most f a b m m2 (k + 1) → vm_ex G (d + 1) mX1_apply 146 [some (.inr (.inr 7)), some (.inr (.inr 1)), some (.inl i), some (.inl f), some (.inl a), some (.inl b), some (.inl c), some (.inl k), some (.inl 0)] [] m2 (vm_qn Q) := fun m2 q2 =>
      cs_apply_146 hB ht hS hkk (fun m' q' => ih (k + 1) m' (by omega) (by omega) q') 4 0 m2 (by decide) (by decide) q2
    have up : ∀ m2, AJ S most f a b m m2 k → f ≠ 5 → AJ S most f a b m m2 (k + 1) := fun m2 q2 h => ⟨q2.1, q2.2.1, fun e => absurd e h⟩
    have nn : f = 2 ∨ f = 3 → vm_cn G d mX1_narrow [.inr (.inr 7), .inl k, .inl b, .inl a, .inl 0] m1 (fun m3 => vm_cn G d mX1_narrow [.inr (.inr 7), .inl k, .inl c, .inl a, .inl 0] m3 (fun m5 => vm_ex G (d + 1) mX1_apply 146 [some (.inr (.inr 7)), some (.inr (.inr 1)), some (.inl i), some (.inl f), some (.inl a), some (.inl b), some (.inl c), some (.inl k), some (.inl 0)] [] m5 (vm_qn Q))) := fun hf => by
      have hb : 0 ≤ b ∧ b < 4 := by omega
      have hc : 0 ≤ c ∧ c < 4 := by omega
      have key : ∀ g, S g → g (3 * b + k) - g (3 * a + k) ≤ 0 ∧ g (3 * c + k) - g (3 * a + k) ≤ 0 := fun g hg => by
        have s := hS g hg k hkk.1 hkk.2
        have b1 := hB g hg (3 * b + k) (by omega) (by omega)
        have b2 := hB g hg (3 * c + k) (by omega) (by omega)
        rcases hf with hf | hf
        · subst hf
          have s := fc2.mp s
          omega
        · subst hf
          have s := fc3.mp s
          omega
      exact cs_narrow q.1 hkk hb (by omega) (by have := hl m1; omega) (fun g hg => (key g hg).1) (fun m3 g3 f3 _ => cs_narrow g3 hkk hc (by omega) (by have := hl m3; omega) (fun g hg => (key g hg).2) (fun m5 g5 f5 _ => go m5 (up m5 ((q.step g3 f3).step g5 f5) (by omega))))
    refine qX1_apply_68 ⟨⟨by omega, by omega⟩, fun h => by omega, fun _ => ⟨⟨by omega, by omega⟩, fun h5 => ?_, fun h5 => ⟨fun h4 => ⟨fun _ => ⟨fun h2 => nn (Or.inl h2), fun h2 => ⟨fun h3 => go m1 (up m1 q h5), fun h3 => nn (Or.inr h3)⟩⟩, fun z => absurd z h4⟩, fun h4 => ?_⟩⟩⟩
    · subst h5
      have hb : 0 ≤ b ∧ b < 4 := by omega
      refine cs_narrow q.1 hkk (by omega) hb (by have := hl m1; omega) (fun g hg => by have := fc5.mp (hS g hg k hkk.1 hkk.2); omega) (fun m3 g3 f3 le => ⟨fun _ => ⟨fun z => absurd z (by decide), fun _ => ⟨fun _ => go m3 ⟨g3, q.2.1.trans f3, fun _ k' k0' k1' => ?_⟩, fun z => absurd z (by decide)⟩⟩, fun z => absurd z (by decide)⟩)
      by_cases ek : k' = k
      · subst ek
        have := g3.2.1
        omega
      · exact Int.le_trans (f3.2 _) (q.2.2 rfl k' k0' (by omega))
    · subst h4
      have hb : 0 ≤ b ∧ b < 4 := by omega
      have hc : 0 ≤ c ∧ c < 4 := by omega
      exact cs_narrow q.1 hkk (by omega) hb (by have := hl m1; omega) (fun g hg => by have := fc4.mp (hS g hg k hkk.1 hkk.2); omega) (fun m3 g3 f3 _ => ⟨fun z => absurd rfl z, fun _ => cs_narrow g3 hkk (by omega) hc (by have := hl m3; omega) (fun g hg => by have := fc4.mp (hS g hg k hkk.1 hkk.2); omega) (fun m5 g5 f5 _ => ⟨fun z => absurd z (by decide), fun _ => ⟨fun _ => go m5 (up m5 ((q.step g3 f3).step g5 f5) (by decide)), fun z => absurd z (by decide)⟩⟩)⟩)
end APL
