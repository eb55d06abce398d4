/-! THE CLASS: the gaps are closed -/
section CLO
variable {G : vm_G} {d : Nat} {m m1 : vm_M} {S : fc_G → Prop} {most : Int}
/-- the gaps contain the fact, if it is one of those that they have to -/
def CTD (most : Int) (m : vm_M) (t : fc_T) : Prop := match t with
  | (f, a, b, c, x, e) => (f = 5 → ∀ k : Int, 0 ≤ k → k < 3 → m 23 ((k * 4 + a) * 4 + b) ≤ 0) ∧ (f = 6 → b = x → m 23 ((b * 4 + c) * 4 + a) ≤ -e ∨ m 23 ((b * 4 + c) * 4 + a) < -most)
theorem CTD.mono {t : fc_T} (h : CTD most m t) (hl : ∀ x, m1 23 x ≤ m 23 x) : CTD most m1 t := by
  obtain ⟨f, a, b, c, x, e⟩ := t
  exact ⟨fun hf k k0 k1 => Int.le_trans (hl _) (h.1 hf k k0 k1), fun hf hb => (h.2 hf hb).elim (fun z => Or.inl (Int.le_trans (hl _) z)) (fun z => Or.inr (Int.lt_of_le_of_lt (hl _) z))⟩
theorem cs_apply {i : Int} {Q : vm_M → Prop} (hi : 0 ≤ i ∧ i ≤ 10) (h : GI S most m) (hB : ∀ g, S g → ∀ v : Int, 0 ≤ v → v < 12 → 0 ≤ g v ∧ g v ≤ most) (ht : fc_v (rf_tup (m 9) (i * 6))) (hS : ∀ g, S g → fc_holds (rf_tup (m 9) (i * 6)) g) (hQ : ∀ m', GI S most m' → GF m m' → CTD most m' (rf_tup (m 9) (i * 6)) → Q m') : vm_cn G (d + 2) mX1_apply [.inr (.inr 7), .inr (.inr 1), .inl i] m Q := by
  have ha := ht.1
  have hv := ht.2
  have hl := low2_bd most (m 9 (i * 6 + 2)) m
  have fin : ∀ m1, GI S most m1 → GF m m1 → (m 9 (i * 6 + 0) = 6 → m 9 (i * 6 + 2) = m 9 (i * 6 + 4) → m1 23 ((m 9 (i * 6 + 2) * 4 + m 9 (i * 6 + 3)) * 4 + m 9 (i * 6 + 1)) ≤ -m 9 (i * 6 + 5) ∨ m1 23 ((m 9 (i * 6 + 2) * 4 + m 9 (i * 6 + 3)) * 4 + m 9 (i * 6 + 1)) < -most) → vm_ex G (d + 2) mX1_apply 68 [some (.inr (.inr 7)), some (.inr (.inr 1)), some (.inl i), some (.inl (m 9 (i * 6 + 0))), some (.inl (m 9 (i * 6 + 1))), some (.inl (m 9 (i * 6 + 2))), some (.inl (m 9 (i * 6 + 3))), some (.inl 0), none] [] m1 (vm_qn Q) := fun m1 g1 f1 c1 =>
    cs_apply_68 (d := d + 1) (m := m1) hB ht hS (fun m2 q => hQ m2 q.1 (f1.trans q.2.1) ⟨fun hf => q.2.2 hf, fun hf hb => (c1 hf hb).elim (fun z => Or.inl (Int.le_trans (q.2.1.2 _) z)) (fun z => Or.inr (Int.lt_of_le_of_lt (q.2.1.2 _) z))⟩) 3 0 m1 (by decide) (by decide) ⟨g1, GF.refl m1, fun _ k' k0 k1 => by omega⟩
  refine qX1_apply (cs_number hi (by decide) (cs_number hi (by decide) (cs_number hi (by decide) (cs_number hi (by decide) ⟨⟨by omega, by omega⟩, fun h6 => fin m h (GF.refl m) (fun z => absurd z h6), fun h6 => cs_number hi (by decide) ⟨⟨by omega, by omega⟩, ⟨by omega, by omega⟩, fun hn => fin m h (GF.refl m) (fun _ z => absurd z hn), fun he => cs_number hi (by decide) ?_⟩⟩))))
  refine cs_narrow h (by omega) (by omega) (by omega) (by omega) (fun g hg => ?_) (fun m2 g2 f2 le => fin m2 g2 f2 (fun _ _ => le))
  have s := hS g hg 0 (by decide) (by decide)
  unfold rf_tup at s
  rw [h6] at s
  have s := fc6.mp s
  rw [← he] at s
  omega
def CF (m m' : vm_M) : Prop := ∀ (c : Nat) (i : Int), c ≠ 23 → ¬ (c = 7 ∧ (i = 1 ∨ i = 2)) → m' c i = m c i
theorem GF.cf (h : GF m m1) : CF m m1 := fun c i p q => h.1 c i p (fun z => q ⟨z.1, Or.inr z.2⟩)
theorem CF.trans {a b c : vm_M} (s : CF a b) (t : CF b c) : CF a c := fun x i p q => (t x i p q).trans (s x i p q)
theorem GI.flag (h : GI S most m) {x : Int} (hx : 0 ≤ x ∧ x ≤ 1) (e : m1 = vm_up m 7 2 x) : GI S most m1 ∧ ∀ y, m1 23 y = m 23 y := by
  have z : ∀ (c : Nat) (y : Int), ¬ (c = 7 ∧ y = 2) → m1 c y = m c y := fun c y p => by rw [e, zz_other p]
  have zf : ∀ k, low2 most k m1 = low2 most k m := fun k => by
    have : fz most k m1 = fz most k m := zz_sm_congr fun t _ _ => by rw [z 23 _ (by simp)]
    unfold low2; rw [this]
  refine ⟨⟨by rw [z 7 1 (by simp)]; exact h.1, h.2.1, by rw [e, zz_same]; exact hx, fun k k0 k1 => ⟨fun i j hi hj g hg => by rw [z 23 _ (by simp)]; exact (h.2.2.2 k k0 k1).1 i j hi hj g hg, fun t t0 t1 => by rw [z 23 _ (by simp), zf]; exact (h.2.2.2 k k0 k1).2 t t0 t1⟩⟩, fun y => z 23 y (by simp)⟩
/-- the facts of a set, and what solves them -/
def FA (S : fc_G → Prop) (m : vm_M) (s : Nat) : Prop := ∀ i : Nat, i ≤ 10 → s.testBit i = true → fc_v (rf_tup (m 9) ((i : Int) * 6)) ∧ ∀ g, S g → fc_holds (rf_tup (m 9) ((i : Int) * 6)) g
def CA (most : Int) (m : vm_M) (s : Nat) (n : Nat) : Prop := ∀ i : Nat, i < n → s.testBit i = true → CTD most m (rf_tup (m 9) ((i : Int) * 6))
theorem CA.next {m2 : vm_M} {s n : Nat} (h : CA most m1 s n) (f : CF m1 m2) (l : ∀ x, m2 23 x ≤ m1 23 x) : CA most m2 s n := fun i hi hb => by
  have : m2 9 = m1 9 := funext fun x => f 9 x (by decide) (by simp)
  rw [this]
  exact (h i hi hb).mono l
theorem FA.next {m2 : vm_M} {s : Nat} (h : FA S m1 s) (f : CF m1 m2) : FA S m2 s := fun i hi hb => by
  have : m2 9 = m1 9 := funext fun x => f 9 x (by decide) (by simp)
  rw [this]
  exact h i hi hb
theorem cs_close_111 {s : Nat} {pass : Int} {Q : vm_M → Prop} (hn : ∀ m', GI S most m' → CF m m' → CA most m' s 11 → vm_ex G (d + 3) mX1_close 57 [some (.inr (.inr 7)), some (.inr (.inr 1)), some (.inl (s : Int)), some (.inl (pass + 1)), none] [] m' (vm_qn Q)) :
    ∀ (n : Nat) (k : Int) (m1 : vm_M), k + (n : Int) = 3 → 0 ≤ k → GI S most m1 → CF m m1 → CA most m1 s 11 → vm_ex G (d + 3) mX1_close 111 [some (.inr (.inr 7)), some (.inr (.inr 1)), some (.inl (s : Int)), some (.inl pass), some (.inl k)] [] m1 (vm_qn Q) := by
  intro n
  induction n with
  | zero => exact fun k m1 hk k0 g f c => qX1_close_111 ⟨⟨by omega, by omega⟩, fun _ => hn m1 g f c, fun h => by omega⟩
  | succ n ih =>
    intro k m1 hk k0 g f c
    have g2 := g.2.2.1
    exact qX1_close_111 ⟨⟨by omega, by omega⟩, fun h => by omega, fun _ => ⟨⟨by omega, by omega⟩, fun _ => hn m1 g f c, fun _ => cs_chain (d := d + 1) g ⟨k0, by omega⟩ (fun m2 g2 f2 => ih (k + 1) m2 (by omega) (by omega) g2 (f.trans f2.cf) (c.next f2.cf f2.2))⟩⟩
theorem cs_close_79 {s : Nat} {pass : Int} {Q : vm_M → Prop} (hs : s < 2048) (hB : ∀ g, S g → ∀ v : Int, 0 ≤ v → v < 12 → 0 ≤ g v ∧ g v ≤ most) (hF : FA S m s) (hn : ∀ m', GI S most m' → CF m m' → CA most m' s 11 → vm_ex G (d + 3) mX1_close 57 [some (.inr (.inr 7)), some (.inr (.inr 1)), some (.inl (s : Int)), some (.inl (pass + 1)), none] [] m' (vm_qn Q)) :
    ∀ (n i : Nat) (m1 : vm_M), i + n = 11 → GI S most m1 → CF m m1 → CA most m1 s i → vm_ex G (d + 3) mX1_close 79 [some (.inr (.inr 7)), some (.inr (.inr 1)), some (.inl (s : Int)), some (.inl pass), some (.inl (i : Int))] [] m1 (vm_qn Q) := by
  intro n
  induction n with
  | zero =>
    intro i m1 hi g f c
    have : i = 11 := by omega
    subst this
    exact qX1_close_79 ⟨⟨by omega, by omega⟩, fun _ => cs_close_111 (m := m) hn 3 0 m1 (by decide) (by decide) g f c, fun h => by omega⟩
  | succ n ih =>
    intro i m1 hi g f c
    have bz := zz_bit2 s i (by omega) (by omega)
    have p1 : 2 ^ i < 2 ^ 16 := zz_pow_lt (by omega)
    have aR : vm_R (vm_and (s : Int) (vm_shl 1 (i : Int))) := by rw [zz_shl1 (by omega)]; exact and_R (by omega) (by omega)
    have grow : ∀ m2, CA most m2 s i → (s.testBit i = true → CTD most m2 (rf_tup (m2 9) ((i : Int) * 6))) → CA most m2 s (i + 1) := fun m2 c2 h u hu hb => by
      by_cases e : u = i
      · subst e; exact h hb
      · exact c2 u (by omega) hb
    refine qX1_close_79 ⟨⟨by omega, by omega⟩, fun h => by omega, fun _ => ⟨aR, fun hz => ih (i + 1) m1 (by omega) g f (grow m1 c (fun hb => by rw [bz, hb] at hz; simp at hz)), fun hz => ?_⟩⟩
    have hb : s.testBit i = true := by rw [bz] at hz; simpa using hz
    have q := (hF.next f) i (by omega) hb
    refine cs_apply (d := d) (by omega) g hB q.1 q.2 (fun m2 g2 f2 c2 => ih (i + 1) m2 (by omega) g2 (f.trans f2.cf) (grow m2 (c.next f2.cf f2.2) (fun _ => ?_)))
    have : m2 9 = m1 9 := funext fun x => f2.1 9 x (by decide) (by simp)
    rw [this]
    exact c2
theorem cs_close_57 {s : Nat} {Q : vm_M → Prop} (hs : s < 2048) (hB : ∀ g, S g → ∀ v : Int, 0 ≤ v → v < 12 → 0 ≤ g v ∧ g v ≤ most) (hF : FA S m s) (hQ : ∀ m', GI S most m' → CF m m' → CA most m' s 11 → Q m') :
    ∀ (n : Nat) (pass : Int) (m1 : vm_M), pass + (n : Int) = 1000 → 0 ≤ pass → GI S most m1 → CF m m1 → (CA most m1 s 11 ∨ (pass = 0 ∧ m1 7 2 = 1)) → vm_ex G (d + 3) mX1_close 57 [some (.inr (.inr 7)), some (.inr (.inr 1)), some (.inl (s : Int)), some (.inl pass), none] [] m1 (vm_qn Q) := by
  intro n
  induction n with
  | zero => exact fun pass m1 hp p0 g f c => qX1_close_57 ⟨⟨by omega, by omega⟩, fun _ => hQ m1 g f (c.resolve_right (by omega)), fun h => by omega⟩
  | succ n ih =>
    intro pass m1 hp p0 g f c
    have g2 := g.2.2.1
    refine qX1_close_57 ⟨⟨by omega, by omega⟩, fun h => by omega, fun _ => ⟨⟨by omega, by omega⟩, fun hz => hQ m1 g f (c.resolve_right (by omega)), fun hz m3 e3 => ?_⟩⟩
    obtain ⟨g3, l3⟩ := g.flag (x := 0) (by decide) e3
    have f3 : CF m1 m3 := fun c y p q => by rw [e3, zz_other (fun z => q ⟨z.1, Or.inr z.2⟩)]
    exact cs_close_79 (m := m) hs hB hF (fun m' g' f' c' => ih (pass + 1) m' (by omega) (by omega) g' f' (Or.inl c')) 11 0 m3 (by decide) g3 (f.trans f3) (fun i hi => by omega)
theorem cs_close {s : Nat} {Q : vm_M → Prop} (hm : m 1 2 = most ∧ 1 ≤ most ∧ most ≤ 6) (hs : s < 2048) (hB : ∀ g, S g → ∀ v : Int, 0 ≤ v → v < 12 → 0 ≤ g v ∧ g v ≤ most) (hF : FA S m s) (hQ : ∀ m', GI S most m' → CF m m' → CA most m' s 11 → Q m') : vm_cn G (d + 3) mX1_close [.inr (.inr 7), .inr (.inr 1), .inl (s : Int)] m Q := by
  refine qX1_close (fun m1 e1 => ?_)
  rw [hm.1] at e1
  have key : ∀ (n : Nat) (x : Int) (m2 : vm_M), x + (n : Int) = 48 → 0 ≤ x → CF m m2 → m2 7 1 = most → (∀ y : Int, 0 ≤ y → y < x → m2 23 y = if y / 4 % 4 = y % 4 then 0 else most) → vm_ex G (d + 3) mX1_close 10 [some (.inr (.inr 7)), some (.inr (.inr 1)), some (.inl (s : Int)), some (.inl x), none] [] m2 (vm_qn Q) := by
    intro n
    induction n with
    | zero =>
      intro x m2 hx x0 f e71 r
      refine qX1_close_10 ⟨⟨by omega, by omega⟩, fun _ m3 e3 => ?_, fun h => by omega⟩
      have z : ∀ (c : Nat) (y : Int), ¬ (c = 7 ∧ y = 2) → m3 c y = m2 c y := fun c y p => by rw [e3, zz_other p]
      have f3 : CF m2 m3 := fun c y p q => z c y (fun w => q ⟨w.1, Or.inr w.2⟩)
      refine cs_close_57 (m := m) hs hB hF hQ 1000 0 m3 (by decide) (by decide) ⟨by rw [z 7 1 (by simp)]; exact e71, hm.2, by rw [e3, zz_same]; decide, fun k k0 k1 => ⟨fun i j hi hj g hg => ?_, fun t t0 t1 => ?_⟩⟩ (f.trans f3) (Or.inr ⟨rfl, by rw [e3, zz_same]⟩)
      · rw [z 23 _ (by simp), r _ (by omega) (by omega)]
        have b1 := hB g hg (3 * i + k) (by omega) (by omega)
        have b2 := hB g hg (3 * j + k) (by omega) (by omega)
        split
        · rename_i e
          have q1 : ((k * 4 + i) * 4 + j) / 4 = k * 4 + i := by omega
          have q2 : ((k * 4 + i) * 4 + j) % 4 = j := by omega
          have q3 : (k * 4 + i) % 4 = i := by omega
          rw [q1, q2, q3] at e
          have : i = j := e
          subst this; omega
        · omega
      · rw [z 23 _ (by simp), r _ (by omega) (by omega)]
        have := low2_bd most k m3
        split <;> omega
    | succ n ih =>
      intro x m2 hx x0 f e71 r
      have e1 : vm_rem (vm_div x 4) 4 = x / 4 % 4 := by rw [zz_div x0 (by omega) (by decide) (by decide), zz_rem (by omega) (by omega) (by decide) (by decide)]
      have e2 : vm_rem x 4 = x % 4 := zz_rem x0 (by omega) (by decide) (by decide)
      have step : ∀ m3 w, m3 = vm_up m2 23 x w → w = (if x / 4 % 4 = x % 4 then 0 else most) → vm_ex G (d + 3) mX1_close 10 [some (.inr (.inr 7)), some (.inr (.inr 1)), some (.inl (s : Int)), some (.inl (x + 1)), none] [] m3 (vm_qn Q) := fun m3 w e3 hw =>
        ih (x + 1) m3 (by omega) (by omega) (fun c y p q => by rw [e3, zz_other (fun z => p z.1)]; exact f c y p q) (by rw [e3, zz_other (by simp)]; exact e71) (fun y y0 y1 => by
          rw [e3]
          by_cases e : y = x
          · subst e; rw [zz_same]; exact hw
          · rw [zz_other (by omega)]; exact r y y0 (by omega))
      refine qX1_close_10 ⟨⟨by omega, by omega⟩, fun h => by omega, fun _ => ?_⟩
      rw [e1, e2]
      refine ⟨⟨by omega, by omega⟩, ⟨by omega, by omega⟩, fun hn => ⟨⟨by omega, by omega⟩, fun m6 e6 => step m6 _ e6 ?_⟩, fun he => ⟨⟨by omega, by omega⟩, fun m8 e8 => step m8 _ e8 ?_⟩⟩
      · rw [if_neg hn, e71]
      · rw [if_pos he]
  exact key 48 0 m1 (by decide) (by decide) (fun c y p q => by rw [e1, zz_other (fun z => q ⟨z.1, Or.inl z.2⟩)]) (by rw [e1, zz_same]) (fun y y0 y1 => by omega)
end CLO
