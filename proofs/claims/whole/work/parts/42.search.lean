/-! THE CLASS: a row of ranges is narrowed -/
/-- the row L is narrowed -/
def SH (L : Int) (m m' : vm_M) : Prop :=
  (∀ (c : Nat) (i : Int), ¬ ((c = 13 ∨ c = 14) ∧ L * 16 ≤ i ∧ i < L * 16 + 16) → ¬ (c = 6 ∧ i = 4) → m' c i = m c i) ∧
  (∀ v : Int, 0 ≤ v → v < 16 → m 13 (L * 16 + v) ≤ m' 13 (L * 16 + v) ∧ m' 13 (L * 16 + v) ≤ m' 14 (L * 16 + v) ∧ m' 14 (L * 16 + v) ≤ m 14 (L * 16 + v)) ∧
  (0 ≤ m' 6 4 ∧ m' 6 4 < 65536) ∧
  (∀ v : Nat, v < 16 → ((m' 6 4).toNat.testBit v = true ↔ (m 6 4).toNat.testBit v = true ∨ ¬ (m' 13 (L * 16 + (v : Int)) = m 13 (L * 16 + (v : Int)) ∧ m' 14 (L * 16 + (v : Int)) = m 14 (L * 16 + (v : Int)))))
/-- the row L is in order -/
def NE (L : Int) (m : vm_M) : Prop := (∀ v : Int, 0 ≤ v → v < 16 → 0 ≤ m 13 (L * 16 + v) ∧ m 13 (L * 16 + v) ≤ m 14 (L * 16 + v) ∧ m 14 (L * 16 + v) ≤ 18) ∧ (0 ≤ m 6 4 ∧ m 6 4 < 65536)
def box (L : Int) (m : vm_M) (h : fc_G) : Prop := ∀ v : Int, 0 ≤ v → v < 16 → m 13 (L * 16 + v) ≤ h v ∧ h v ≤ m 14 (L * 16 + v)
theorem SH.refl {L : Int} {m : vm_M} (h : NE L m) : SH L m m :=
  ⟨fun _ _ _ _ => rfl, fun v v0 v1 => ⟨Int.le_refl _, (h.1 v v0 v1).2.1, Int.le_refl _⟩, h.2, fun v _ => ⟨Or.inl, fun h => h.elim id fun h => absurd ⟨rfl, rfl⟩ h⟩⟩
theorem SH.ne {L : Int} {m m' : vm_M} (s : SH L m m') (h : NE L m) : NE L m' :=
  ⟨fun v v0 v1 => by have := h.1 v v0 v1; have := s.2.1 v v0 v1; omega, s.2.2.1⟩
theorem SH.trans {L : Int} {a b c : vm_M} (s : SH L a b) (t : SH L b c) : SH L a c :=
  ⟨fun x i p q => (t.1 x i p q).trans (s.1 x i p q), fun v v0 v1 => by have := s.2.1 v v0 v1; have := t.2.1 v v0 v1; omega, t.2.2.1, fun v v1 => by
    rw [t.2.2.2 v v1, s.2.2.2 v v1]
    have p := s.2.1 (v : Int) (by omega) (by omega)
    have q := t.2.1 (v : Int) (by omega) (by omega)
    constructor
    · rintro ((h | h) | h)
      · exact Or.inl h
      · exact Or.inr (by omega)
      · exact Or.inr (by omega)
    · rintro (h | h)
      · exact Or.inl (Or.inl h)
      · by_cases z : b 13 (L * 16 + (v : Int)) = a 13 (L * 16 + (v : Int)) ∧ b 14 (L * 16 + (v : Int)) = a 14 (L * 16 + (v : Int))
        · exact Or.inr (by omega)
        · exact Or.inl (Or.inr z)⟩
theorem kp_mul {f x : Int} (hf : -4 ≤ f ∧ f ≤ 4) (hx : -1 ≤ x ∧ x ≤ 21) : -84 ≤ f * x ∧ f * x ≤ 84 := by
  have : f = -4 ∨ f = -3 ∨ f = -2 ∨ f = -1 ∨ f = 0 ∨ f = 1 ∨ f = 2 ∨ f = 3 ∨ f = 4 := by omega
  rcases this with rfl | rfl | rfl | rfl | rfl | rfl | rfl | rfl | rfl <;> omega
section SRC
variable {G : vm_G} {d : Nat} {m : vm_M} {Q : vm_M → Bool → Prop}
/-- what comes of a row when a variable keeps what is within a range -/
def KP (L v f l g : Int) (m m' : vm_M) (r : Bool) : Prop :=
  (r = false → m' = m ∧ ∀ x, m 13 (L * 16 + v) ≤ x → x ≤ m 14 (L * 16 + v) → ¬ (l ≤ f * x ∧ f * x ≤ g)) ∧
  (r = true → SH L m m' ∧ (∀ u : Int, 0 ≤ u → u < 16 → u ≠ v → m' 13 (L * 16 + u) = m 13 (L * 16 + u) ∧ m' 14 (L * 16 + u) = m 14 (L * 16 + u)) ∧
    (∀ x, m 13 (L * 16 + v) ≤ x → x ≤ m 14 (L * 16 + v) → l ≤ f * x → f * x ≤ g → m' 13 (L * 16 + v) ≤ x ∧ x ≤ m' 14 (L * 16 + v)) ∧
    (l ≤ f * m' 13 (L * 16 + v) ∧ f * m' 13 (L * 16 + v) ≤ g))
theorem kp_write {L v f l g a b : Int} (hL : 0 ≤ L ∧ L ≤ 16) (hv : 0 ≤ v ∧ v < 16) (hN : NE L m) (h1 : m 13 (L * 16 + v) ≤ a) (h2 : a ≤ b) (h3 : b ≤ m 14 (L * 16 + v)) (ha : l ≤ f * a ∧ f * a ≤ g)
    (hs : ∀ x, m 13 (L * 16 + v) ≤ x → x ≤ m 14 (L * 16 + v) → l ≤ f * x → f * x ≤ g → a ≤ x ∧ x ≤ b) (hn : ¬ (a = m 13 (L * 16 + v) ∧ b = m 14 (L * 16 + v))) {m1 m2 m3 : vm_M}
    (e1 : m1 = vm_up m 13 (L * 16 + v) a) (e2 : m2 = vm_up m1 14 (L * 16 + v) b) (e3 : m3 = vm_up m2 6 4 (vm_or (m2 6 4) (vm_shl 1 (vm_rem (L * 16 + v) 16)))) : KP L v f l g m m3 true := by
  have z24 : m2 6 4 = m 6 4 := by rw [e2, zz_other (by simp), e1, zz_other (by simp)]
  have zr : vm_rem (L * 16 + v) 16 = v := by rw [zz_rem (by omega) (by omega) (by decide) (by decide)]; omega
  rw [z24, zr] at e3
  have z13 : ∀ i, m3 13 i = if i = L * 16 + v then a else m 13 i := fun i => by
    rw [e3, zz_other (by simp), e2, zz_other (by simp), e1]; simp [vm_up]
  have z14 : ∀ i, m3 14 i = if i = L * 16 + v then b else m 14 i := fun i => by
    rw [e3, zz_other (by simp), e2, zz_up, e1]; simp [vm_up]
  have zf : ∀ (c : Nat) (i : Int), ¬ ((c = 13 ∨ c = 14) ∧ i = L * 16 + v) → ¬ (c = 6 ∧ i = 4) → m3 c i = m c i := fun c i p q => by
    rw [e3, zz_other q, e2, zz_other (by omega), e1, zz_other (by omega)]
  have p1 : 2 ^ v.toNat < 2 ^ 16 := zz_pow_lt (by omega)
  have hM : m3 6 4 = (((m 6 4).toNat ||| 2 ^ v.toNat : Nat) : Int) := by
    rw [e3, zz_same, zz_shlI hv.1 (by omega)]
    have := zz_or (m 6 4).toNat (2 ^ v.toNat) (by have := hN.2; omega) (by omega)
    rwa [Int.toNat_of_nonneg hN.2.1] at this
  have hlt : (m 6 4).toNat ||| 2 ^ v.toNat < 2 ^ 16 := zz_or_lt 16 (by have := hN.2; omega) p1
  refine ⟨fun h => by simp at h, fun _ => ⟨⟨fun c i p q => zf c i (by omega) q, fun u u0 u1 => ?_, by rw [hM]; omega, fun u u1 => ?_⟩, fun u u0 u1 hu => ?_, fun x x0 x1 p q => ?_, ?_⟩⟩
  · have := (hN.1 u u0 u1).2.1
    rw [z13, z14]
    split
    · rename_i e
      have : u = v := by omega
      subst this
      omega
    · omega
  · rw [hM, Int.toNat_natCast, zz_tb_or, Bool.or_eq_true, decide_eq_true_eq, z13, z14]
    by_cases e : (u : Int) = v
    · subst e
      rw [if_pos rfl, if_pos rfl]
      exact ⟨fun _ => Or.inr hn, fun _ => Or.inr (by omega)⟩
    · rw [if_neg (by omega), if_neg (by omega)]
      constructor
      · rintro (h | h)
        · exact Or.inl h
        · omega
      · rintro (h | h)
        · exact Or.inl h
        · exact absurd ⟨rfl, rfl⟩ h
  · rw [z13, z14, if_neg (by omega), if_neg (by omega)]
    exact ⟨rfl, rfl⟩
  · rw [z13, z14, if_pos rfl, if_pos rfl]
    exact hs x x0 x1 p q
  · rw [z13, if_pos rfl]; exact ha
theorem cs_keep_46 {L v f l g : Int} (hL : 0 ≤ L ∧ L ≤ 16) (hv : 0 ≤ v ∧ v < 16) (hN : NE L m) (hf : -4 ≤ f ∧ f ≤ 4) (hl : vm_R l) (hg : vm_R g) (hQ : ∀ m' r, KP L v f l g m m' r → Q m' r) :
    ∀ (j : Nat) (a b : Int), b < a + (j : Int) → m 13 (L * 16 + v) ≤ a → a ≤ m 14 (L * 16 + v) + 1 → b ≤ m 14 (L * 16 + v) → -1 ≤ b → (a ≤ m 14 (L * 16 + v) → l ≤ f * a ∧ f * a ≤ g) → (∀ x, m 13 (L * 16 + v) ≤ x → x < a → ¬ (l ≤ f * x ∧ f * x ≤ g)) → (∀ x, b < x → x ≤ m 14 (L * 16 + v) → ¬ (l ≤ f * x ∧ f * x ≤ g)) →
    vm_ex G d mX5_keep 46 [some (.inr (.inr 6)), some (.inl (L * 16 + v)), some (.inl f), some (.inl l), some (.inl g), some (.inl a), some (.inl b)] [] m (vm_qb Q) := by
  have b0 := hN.1 v hv.1 hv.2
  intro j
  induction j with
  | zero =>
    intro a b hab ha1 ha2 hb hb1 hok hlow hup
    refine qX5_keep_46 ⟨⟨by omega, by omega⟩, ⟨by omega, by omega⟩, fun _ => ⟨fun h => by omega, fun _ => hQ m false ⟨fun _ => ⟨rfl, fun x x0 x1 => ?_⟩, fun h => by simp at h⟩⟩, fun h => by omega⟩
    by_cases hx : x < a
    · exact hlow x x0 hx
    · exact hup x (by omega) x1
  | succ j ih =>
    intro a b hab ha1 ha2 hb hb1 hok hlow hup
    by_cases hba : b < a
    · exact ih a b (by omega) ha1 ha2 hb hb1 hok hlow hup
    · have hm := kp_mul hf (x := b) (by omega)
      have hgo : ∀ (h : ¬ (l ≤ f * b ∧ f * b ≤ g)), vm_ex G d mX5_keep 46 [some (.inr (.inr 6)), some (.inl (L * 16 + v)), some (.inl f), some (.inl l), some (.inl g), some (.inl a), some (.inl (b + (-1)))] [] m (vm_qb Q) := fun h =>
        ih a (b + (-1)) (by omega) ha1 ha2 (by omega) (by omega) hok hlow (fun x x0 x1 => by
          by_cases e : x = b
          · rw [e]; exact h
          · exact hup x (by omega) x1)
      have hs : ∀ x, m 13 (L * 16 + v) ≤ x → x ≤ m 14 (L * 16 + v) → l ≤ f * x → f * x ≤ g → a ≤ x ∧ x ≤ b := fun x x0 x1 p q => by
        constructor
        · exact Int.not_lt.mp fun z => hlow x x0 z ⟨p, q⟩
        · exact Int.not_lt.mp fun z => hup x z x1 ⟨p, q⟩
      refine qX5_keep_46 ⟨⟨by omega, by omega⟩, ⟨by omega, by omega⟩, fun h => absurd h hba, fun _ => ⟨⟨by omega, by omega⟩, hl, fun h => hgo (by omega), fun h1 => ⟨hg, fun h2 => ⟨fun _ => ⟨⟨by omega, by omega⟩, ⟨by omega, by omega⟩, fun hn m1 e1 m2 e2 m3 e3 => hQ m3 true (kp_write hL hv hN ha1 (by omega) hb (hok (by omega)) hs (fun z => hn z.1) e1 e2 e3), fun he => ⟨⟨by omega, by omega⟩, fun he2 => hQ m true ⟨fun h => by simp at h, fun _ => ⟨SH.refl hN, fun u _ _ _ => ⟨rfl, rfl⟩, fun x x0 x1 _ _ => ⟨x0, x1⟩, by rw [← he]; exact hok (by omega)⟩⟩, fun hn m1 e1 m2 e2 m3 e3 => hQ m3 true (kp_write hL hv hN ha1 (by omega) hb (hok (by omega)) hs (fun z => hn z.2) e1 e2 e3)⟩⟩, fun h => absurd (by omega) h⟩, fun h => hgo (by omega)⟩⟩⟩
theorem cs_keep_16 {L v f l g : Int} (hL : 0 ≤ L ∧ L ≤ 16) (hv : 0 ≤ v ∧ v < 16) (hN : NE L m) (hf : -4 ≤ f ∧ f ≤ 4) (hl : vm_R l) (hg : vm_R g) (hQ : ∀ m' r, KP L v f l g m m' r → Q m' r) :
    ∀ (j : Nat) (a : Int), m 14 (L * 16 + v) < a + (j : Int) → m 13 (L * 16 + v) ≤ a → a ≤ m 14 (L * 16 + v) + 1 → (∀ x, m 13 (L * 16 + v) ≤ x → x < a → ¬ (l ≤ f * x ∧ f * x ≤ g)) →
    vm_ex G d mX5_keep 16 [some (.inr (.inr 6)), some (.inl (L * 16 + v)), some (.inl f), some (.inl l), some (.inl g), some (.inl a), some (.inl (m 14 (L * 16 + v)))] [] m (vm_qb Q) := by
  have b0 := hN.1 v hv.1 hv.2
  have fin : ∀ a : Int, m 13 (L * 16 + v) ≤ a → a ≤ m 14 (L * 16 + v) + 1 → (∀ x, m 13 (L * 16 + v) ≤ x → x < a → ¬ (l ≤ f * x ∧ f * x ≤ g)) → (a ≤ m 14 (L * 16 + v) → l ≤ f * a ∧ f * a ≤ g) →
      vm_ex G d mX5_keep 46 [some (.inr (.inr 6)), some (.inl (L * 16 + v)), some (.inl f), some (.inl l), some (.inl g), some (.inl a), some (.inl (m 14 (L * 16 + v)))] [] m (vm_qb Q) := fun a a0 a1 a2 a3 =>
    cs_keep_46 hL hv hN hf hl hg hQ (m 14 (L * 16 + v) - a + 2).toNat a _ (by omega) a0 a1 (Int.le_refl _) (by omega) a3 a2 (fun x x0 x1 => by omega)
  intro j
  induction j with
  | zero =>
    intro a haj ha1 ha2 hlow
    refine qX5_keep_16 ⟨⟨by omega, by omega⟩, ⟨by omega, by omega⟩, fun _ => fin a ha1 ha2 hlow (fun h => by omega), fun h => by omega⟩
  | succ j ih =>
    intro a haj ha1 ha2 hlow
    have hm := kp_mul hf (x := a) (by omega)
    have hgo : m 14 (L * 16 + v) ≥ a → ¬ (l ≤ f * a ∧ f * a ≤ g) → vm_ex G d mX5_keep 16 [some (.inr (.inr 6)), some (.inl (L * 16 + v)), some (.inl f), some (.inl l), some (.inl g), some (.inl (a + 1)), some (.inl (m 14 (L * 16 + v)))] [] m (vm_qb Q) := fun h0 h =>
      ih (a + 1) (by omega) (by omega) (by omega) (fun x x0 x1 => by
        by_cases e : x = a
        · rw [e]; exact h
        · exact hlow x x0 (by omega))
    refine qX5_keep_16 ⟨⟨by omega, by omega⟩, ⟨by omega, by omega⟩, fun _ => fin a ha1 ha2 hlow (fun h => by omega), fun h0 => ⟨⟨by omega, by omega⟩, hl, fun h => hgo (by omega) (by omega), fun h1 => ⟨hg, fun h2 => fin a ha1 ha2 hlow (fun _ => ⟨by omega, h2⟩), fun h => hgo (by omega) (by omega)⟩⟩⟩
theorem cs_keep {L v f l g : Int} (hL : 0 ≤ L ∧ L ≤ 16) (hv : 0 ≤ v ∧ v < 16) (hN : NE L m) (hf : -4 ≤ f ∧ f ≤ 4) (hl : vm_R l) (hg : vm_R g) (hQ : ∀ m' r, KP L v f l g m m' r → Q m' r) : vm_cb G (d + 1) mX5_keep [.inr (.inr 6), .inl (L * 16 + v), .inl f, .inl l, .inl g] m Q := by
  have b0 := hN.1 v hv.1 hv.2
  exact qX5_keep ⟨⟨by omega, by omega⟩, cs_keep_16 hL hv hN hf hl hg hQ (m 14 (L * 16 + v) - m 13 (L * 16 + v) + 1).toNat _ (by omega) (Int.le_refl _) (by omega) (fun x x0 x1 => by omega)⟩
/-- the least and the greatest that a term can be -/
def lt (m : vm_M) (L t : Int) : Int := m 21 t * (if m 21 t > 0 then m 13 (L * 16 + m 20 t) else m 14 (L * 16 + m 20 t))
def gt (m : vm_M) (L t : Int) : Int := m 21 t * (if m 21 t > 0 then m 14 (L * 16 + m 20 t) else m 13 (L * 16 + m 20 t))
theorem cm_leastTerm {L t : Int} {Q : vm_M → Int → Prop} (hL : 0 ≤ L ∧ L ≤ 16) (ht : 0 ≤ t ∧ t < 512) (hv : 0 ≤ m 20 t ∧ m 20 t < 16) (hf : -4 ≤ m 21 t ∧ m 21 t ≤ 4) (hQ : Q m (lt m L t)) : vm_ci G d mX5_leastTerm [.inr (.inr 6), .inl t, .inl (L * 16)] m Q := by
  unfold lt at hQ
  refine qX5_leastTerm ⟨ht, ⟨by omega, by omega⟩, fun h => ⟨by omega, ?_⟩, fun h => ⟨by omega, ?_⟩⟩
  · rwa [if_neg (by omega)] at hQ
  · rwa [if_pos (by omega)] at hQ
theorem cm_greatestTerm {L t : Int} {Q : vm_M → Int → Prop} (hL : 0 ≤ L ∧ L ≤ 16) (ht : 0 ≤ t ∧ t < 512) (hv : 0 ≤ m 20 t ∧ m 20 t < 16) (hf : -4 ≤ m 21 t ∧ m 21 t ≤ 4) (hQ : Q m (gt m L t)) : vm_ci G d mX5_greatestTerm [.inr (.inr 6), .inl t, .inl (L * 16)] m Q := by
  unfold gt at hQ
  refine qX5_greatestTerm ⟨ht, ⟨by omega, by omega⟩, fun h => ⟨by omega, ?_⟩, fun h => ⟨by omega, ?_⟩⟩
  · rwa [if_neg (by omega)] at hQ
  · rwa [if_pos (by omega)] at hQ
end SRC
