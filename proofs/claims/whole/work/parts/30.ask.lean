/-! SOLUTIONS OF THE FACTS OF A STATE: most, how many facts, the facts six numbers each; and what the reference answers of them -/
def sl (st : Int → Int) (set : Nat) (g : fc_G) : Prop := (∀ v : Int, 0 ≤ v → v < 12 → 0 ≤ g v ∧ g v ≤ st 0) ∧ ∀ i : Nat, (i : Int) < st 1 → set.testBit i = true → fc_holds (rf_tup st (2 + 6 * (i : Int))) g
def st_ok (st : Int → Int) : Prop := (1 ≤ st 0 ∧ st 0 ≤ 6) ∧ (0 ≤ st 1 ∧ st 1 ≤ 10) ∧ ∀ i : Int, 0 ≤ i → i < st 1 → fc_wf (rf_tup st (2 + 6 * i))
/-- all facts -/
def st_all (st : Int → Int) : Nat := 2 ^ (st 1).toNat - 1
theorem st_all_bit (st : Int → Int) (i : Nat) : (st_all st).testBit i = decide (i < (st 1).toNat) := Nat.testBit_two_pow_sub_one _ _
/-- what the reference's questions may change -/
def rf_F (m m' : vm_M) : Prop := ∀ (c : Nat) (i : Int), ¬ (29 ≤ c ∧ c ≤ 34) → ¬ (c = 24 ∧ 9 ≤ i ∧ i ≤ 12) → m' c i = m c i
theorem rf_F.refl (m : vm_M) : rf_F m m := fun _ _ _ _ => rfl
theorem rf_F.trans {a b c : vm_M} (h1 : rf_F a b) (h2 : rf_F b c) : rf_F a c := fun x i p q => (h2 x i p q).trans (h1 x i p q)
theorem rf_k.F {m m' : vm_M} (h : rf_k m m') : rf_F m m' := fun c i a b => h c i (fun z => a (by omega)) (fun z => b (by omega))
theorem rf_F.st {m m' : vm_M} (h : rf_F m m') : m' 25 = m 25 := funext fun i => h 25 i (by decide) (by simp)
def ex_ok (m : vm_M) : Prop := (m 24 9 = 0 ∨ m 24 9 = 1 ∨ (m 24 9 = 2 ∧ m 31 (6 * 0 + 0) = 6 ∧ m 31 (6 * 1 + 0) = 6)) ∧ (∀ j : Int, 0 ≤ j → j < m 24 9 → fc_wf (rf_tup (m 31) (6 * j)))
def ex_T (m : vm_M) (g : fc_G) : Prop := ∀ j : Int, 0 ≤ j → j < m 24 9 → fc_holds (rf_tup (m 31) (6 * j)) g
section AK
variable {G : vm_G} {d : Nat} {m : vm_M}
theorem cm_isSolvedByParts {Q : vm_M → Bool → Prop} (ok : rf_ok m) (D : nr_D (fun _ => True) 20 m) (hQ : ∀ (m' : vm_M) (b : Bool), rf_k m m' → (b = true ↔ ∃ g, rf_T m g ∧ nr_B m g) → Q m' b) : vm_cb G (d + 9) mX8_isSolvedByParts [.inr (.inr 24)] m Q := by
  refine qX8_isSolvedByParts (cm_narrow (d := d + 2) ok D (fun m1 b hW hT hF => ?_))
  have := cm_isSolvedByParts_9 (G := G) (d := d) ok D hQ 12 0 m1 0 b rfl hW.k (by decide) (fun hb => ⟨(hT hb).2.2, fun v _ _ => hW.2.1 v, fun ⟨g, a1, a2⟩ => ⟨g, a1, hW.2.2 g a1 a2⟩, fun v hv => absurd hv (by omega), fun v u _ hz => by simp at hz, fun _ => 0, fun v _ hb => by simp at hb, fun t _ k _ _ ⟨v, _, hb, _⟩ => by simp at hb⟩) (fun hb ⟨g, a1, a2⟩ => by
    obtain ⟨v, v0, v1, v2⟩ := hF hb
    have := hW.2.2 g a1 a2 v v0 v1
    omega)
  exact this
theorem cm_layAll_2 {Q : vm_M → Prop} (hQ : ∀ m' : vm_M, (∀ (c : Nat) (i : Int), ¬ ((c = 29 ∨ c = 30) ∧ 0 ≤ i ∧ i < 12) → m' c i = m c i) → (∀ v : Int, 0 ≤ v → v < 12 → m' 29 v = 0 ∧ m' 30 v = m 25 0) → Q m') :
    ∀ (n : Nat) (j : Int) (m' : vm_M), 12 = j + (n : Int) → 0 ≤ j → (∀ (c : Nat) (i : Int), ¬ ((c = 29 ∨ c = 30) ∧ 0 ≤ i ∧ i < 12) → m' c i = m c i) → (∀ v : Int, 0 ≤ v → v < j → m' 29 v = 0 ∧ m' 30 v = m 25 0) →
    vm_ex G d mX8_layAll 2 [some (.inr (.inr 24)), some (.inl j)] [] m' (vm_qn Q) := by
  intro n
  induction n with
  | zero =>
    intro j m' hj _ hf hr
    have : j = 12 := by omega
    subst this
    exact qX8_layAll_2 ⟨⟨by omega, by omega⟩, fun _ => hQ m' hf hr, fun h => absurd h (by omega)⟩
  | succ n ih =>
    intro j m' hj h0 hf hr
    refine qX8_layAll_2 ⟨⟨by omega, by omega⟩, fun h => absurd h (by omega), fun _ => ⟨by omega, fun m4 e4 m5 e5 => ?_⟩⟩
    have e25 : m4 25 0 = m 25 0 := by rw [e4, zz_other (by simp)]; exact hf 25 0 (by simp)
    refine ih (j + 1) m5 (by omega) (by omega) (fun c i h => ?_) (fun v v0 v1 => ?_)
    · rw [e5, zz_other (by rintro ⟨rfl, rfl⟩; exact h ⟨Or.inr rfl, by omega, by omega⟩), e4, zz_other (by rintro ⟨rfl, rfl⟩; exact h ⟨Or.inl rfl, by omega, by omega⟩)]
      exact hf c i h
    · by_cases hv : v = j
      · subst hv
        rw [e5, zz_other (by simp), zz_same, e25, e4, zz_same]
        exact ⟨rfl, rfl⟩
      · have := hr v v0 (by omega)
        rw [e5, zz_other (by simp), zz_other (by omega), e4, zz_other (by omega), zz_other (by simp)]
        exact this
theorem cm_layAll {Q : vm_M → Prop} (hQ : ∀ m' : vm_M, (∀ (c : Nat) (i : Int), ¬ ((c = 29 ∨ c = 30) ∧ 0 ≤ i ∧ i < 12) → m' c i = m c i) → (∀ v : Int, 0 ≤ v → v < 12 → m' 29 v = 0 ∧ m' 30 v = m 25 0) → Q m') : vm_cn G d mX8_layAll [.inr (.inr 24)] m Q :=
  qX8_layAll (cm_layAll_2 hQ 12 0 m (by decide) (by decide) (fun _ _ _ => rfl) (fun v v0 v1 => absurd v1 (by omega)))
/-- what is asked, of the whole -/
theorem rf_T_sl {m' : vm_M} {set : Nat} (h10 : m' 24 10 = (set : Int)) {g : fc_G} (hb : ∀ v : Int, 0 ≤ v → v < 12 → 0 ≤ g v ∧ g v ≤ m' 25 0) : rf_T m' g ↔ sl (m' 25) set g ∧ ex_T m' g := by
  have e : (m' 24 10).toNat = set := by rw [h10]; exact Int.toNat_natCast _
  constructor
  · rintro ⟨h0, h⟩
    exact ⟨⟨hb, fun i hi hbit => h _ (Or.inl ⟨i, hi, by rw [e]; exact hbit, rfl⟩)⟩, fun j j0 j1 => h _ (Or.inr ⟨j, j0, j1, rfl⟩)⟩
  · rintro ⟨h1, h2⟩
    refine ⟨fun v v0 v1 => (hb v v0 v1).1, fun t ht => ?_⟩
    rcases ht with ⟨i, hi, hbit, rfl⟩ | ⟨j, j0, j1, rfl⟩
    · exact h1.2 i hi (by rw [← e]; exact hbit)
    · exact h2 j j0 j1
theorem cm_isSolvedX {set : Nat} {Q : vm_M → Bool → Prop} (hs : set < 2147483648) (ok : st_ok (m 25)) (ex : ex_ok m) (hQ : ∀ (m' : vm_M) (b : Bool), rf_F m m' → m' 24 9 = m 24 9 → (b = true ↔ ∃ g, sl (m 25) set g ∧ ex_T m g) → Q m' b) : vm_cb G (d + 10) mX8_isSolved [.inr (.inr 24), .inl (set : Int)] m Q := by
  refine qX8_isSolved (fun m1 e1 => cm_layAll (fun m2 f2 b2 => ?_))
  have k2 : ∀ (c : Nat) (i : Int), ¬ (c = 29 ∨ c = 30) → ¬ (c = 24 ∧ i = 10) → m2 c i = m c i := fun c i h1 h2 => by
    rw [f2 c i (fun z => h1 z.1), e1, zz_other h2]
  have e25 : m2 25 = m 25 := funext fun i => k2 25 i (by simp) (by simp)
  have e31 : m2 31 = m 31 := funext fun i => k2 31 i (by simp) (by simp)
  have e9 : m2 24 9 = m 24 9 := k2 24 9 (by simp) (by simp)
  have e10 : m2 24 10 = (set : Int) := by rw [f2 24 10 (by simp), e1, zz_same]
  have e250 : m1 25 0 = m 25 0 := by rw [e1, zz_other (by simp)]
  rw [e250] at b2
  have ok2 : rf_ok m2 := by
    refine ⟨by rw [e25]; exact ok.2.1, by rw [e10]; omega, by rw [e25]; exact ok.2.2, ?_, ?_⟩
    · rw [e9, e31]; exact ex.1
    · rw [e9, e31]; exact ex.2
  have D2 : nr_D (fun _ => True) 20 m2 := fun v v0 v1 _ => by
    have := b2 v v0 v1
    have := ok.1
    omega
  refine cm_isSolvedByParts ok2 D2 (fun m' b k' hb => hQ m' b (fun c i h1 h2 => ?_) ((k' 24 9 (by simp) (by simp)).trans e9) (hb.trans ⟨fun ⟨g, a1, a2⟩ => ?_, fun ⟨g, a1, a2⟩ => ?_⟩))
  · rw [k'.F c i h1 h2, k2 c i (by omega) (by omega)]
  · have hbx : ∀ v : Int, 0 ≤ v → v < 12 → 0 ≤ g v ∧ g v ≤ m2 25 0 := fun v v0 v1 => by
      have h1 := a2 v v0 v1
      have h2 := b2 v v0 v1
      rw [e25]; omega
    have := (rf_T_sl e10 hbx).mp a1
    rw [e25] at this
    exact ⟨g, this.1, fun j j0 j1 => by rw [← e31]; exact this.2 j j0 (by rw [e9]; exact j1)⟩
  · have hbx : ∀ v : Int, 0 ≤ v → v < 12 → 0 ≤ g v ∧ g v ≤ m2 25 0 := fun v v0 v1 => by rw [e25]; exact a1.1 v v0 v1
    refine ⟨g, (rf_T_sl e10 hbx).mpr ⟨by rw [e25]; exact a1, fun j j0 j1 => by rw [e31]; exact a2 j j0 (by rw [← e9]; exact j1)⟩, fun v v0 v1 => ?_⟩
    have h1 := hbx v v0 v1
    have h2 := b2 v v0 v1
    rw [e25] at h1; omega
theorem cm_isSolved {set : Nat} {Q : vm_M → Bool → Prop} (hs : set < 2147483648) (ok : st_ok (m 25)) (ex : ex_ok m) (hQ : ∀ (m' : vm_M) (b : Bool), rf_F m m' → (b = true ↔ ∃ g, sl (m 25) set g ∧ ex_T m g) → Q m' b) : vm_cb G (d + 10) mX8_isSolved [.inr (.inr 24), .inl (set : Int)] m Q :=
  cm_isSolvedX hs ok ex (fun m' b F _ h => hQ m' b F h)
theorem st_all_int {st : Int → Int} (h : 0 ≤ st 1 ∧ st 1 ≤ 10) : vm_shl 1 (st 1) - 1 = ((st_all st : Nat) : Int) ∧ st_all st < 1024 := by
  have h1 := zz_shlI (x := st 1) h.1 (by omega)
  have h2 : 2 ^ (st 1).toNat ≤ 2 ^ 10 := Nat.pow_le_pow_right (by decide) (by omega)
  have h3 : 1 ≤ 2 ^ (st 1).toNat := Nat.one_le_pow _ _ (by decide)
  unfold st_all
  omega
theorem cm_allFacts {Q : vm_M → Int → Prop} (h : 0 ≤ m 25 1 ∧ m 25 1 ≤ 10) (hQ : Q m ((st_all (m 25) : Nat) : Int)) : vm_ci G d mX8_allFacts [.inr (.inr 24)] m Q := by
  refine qX8_allFacts ?_
  rw [(st_all_int h).1]
  exact hQ
/-- there is a solution -/
theorem cm_isSolvedNowX {Q : vm_M → Bool → Prop} (ok : st_ok (m 25)) (hQ : ∀ (m' : vm_M) (b : Bool), rf_F m m' → m' 24 9 = 0 → (b = true ↔ ∃ g, sl (m 25) (st_all (m 25)) g) → Q m' b) : vm_cb G (d + 11) mX8_isSolvedNow [.inr (.inr 24)] m Q := by
  refine qX8_isSolvedNow (fun m1 e1 => ?_)
  have e25 : m1 25 = m 25 := by rw [e1]; exact zz_cell (by decide)
  have e9 : m1 24 9 = 0 := by rw [e1, zz_same]
  refine cm_allFacts (by rw [e25]; exact ok.2.1) ?_
  rw [e25]
  have := (st_all_int ok.2.1).2
  refine cm_isSolvedX (by omega) (by rw [e25]; exact ok) ⟨Or.inl e9, fun j j0 j1 => by omega⟩ (fun m' b hF h9 hb => hQ m' b (fun c i h1 h2 => ?_) (h9.trans e9) (hb.trans ?_))
  · rw [hF c i h1 h2, e1, zz_other (by omega)]
  · rw [e25]
    exact ⟨fun ⟨g, a, _⟩ => ⟨g, a⟩, fun ⟨g, a⟩ => ⟨g, a, fun j j0 j1 => by omega⟩⟩
theorem cm_isSolvedNow {Q : vm_M → Bool → Prop} (ok : st_ok (m 25)) (hQ : ∀ (m' : vm_M) (b : Bool), rf_F m m' → (b = true ↔ ∃ g, sl (m 25) (st_all (m 25)) g) → Q m' b) : vm_cb G (d + 11) mX8_isSolvedNow [.inr (.inr 24)] m Q :=
  cm_isSolvedNowX ok (fun m' b F _ h => hQ m' b F h)
theorem cm_add {j : Int} {f a b c d' e : Int} {Q : vm_M → Prop} (hj : m 24 9 = j) (h01 : j = 0 ∨ j = 1) (hQ : ∀ m' : vm_M, (∀ (c : Nat) (i : Int), ¬ (c = 31 ∧ 6 * j ≤ i ∧ i < 6 * j + 6) → ¬ (c = 24 ∧ i = 9) → m' c i = m c i) → m' 24 9 = j + 1 → rf_tup (m' 31) (6 * j) = (f, a, b, c, d', e) → Q m') :
    vm_cn G d mX8_add [.inr (.inr 24), .inl f, .inl a, .inl b, .inl c, .inl d', .inl e] m Q := by
  refine qX8_add ?_
  rw [hj]
  refine ⟨by omega, fun m2 e2 => ⟨by omega, fun m4 e4 => ⟨by omega, fun m6 e6 => ⟨by omega, fun m8 e8 => ⟨by omega, fun m10 e10 => ⟨by omega, fun m12 e12 m13 e13 => ?_⟩⟩⟩⟩⟩⟩
  have h9 : m12 24 9 = j := by
    rw [e12, zz_other (by simp), e10, zz_other (by simp), e8, zz_other (by simp), e6, zz_other (by simp), e4, zz_other (by simp), e2, zz_other (by simp)]
    exact hj
  refine hQ m13 (fun x i h1 h2 => ?_) ?_ ?_
  · rw [e13, zz_other h2, e12, zz_other (fun z => h1 (by omega)), e10, zz_other (fun z => h1 (by omega)), e8, zz_other (fun z => h1 (by omega)), e6, zz_other (fun z => h1 (by omega)), e4, zz_other (fun z => h1 (by omega)), e2, zz_other (fun z => h1 (by omega))]
  · rw [e13, zz_same, h9]
  · have e31 : m13 31 = m12 31 := by rw [e13]; exact zz_cell (by decide)
    rw [e31]
    unfold rf_tup
    have q : ∀ x : Int, m12 31 x = if x = 6 * j + 5 then e else if x = 6 * j + 4 then d' else if x = 6 * j + 3 then c else if x = 6 * j + 2 then b else if x = 6 * j + 1 then a else if x = 6 * j then f else m 31 x := by
      intro x
      rw [e12, e10, e8, e6, e4, e2]
      simp only [vm_up, true_and]
    have q0 : m12 31 (6 * j + 0) = f := by rw [q, if_neg (by omega), if_neg (by omega), if_neg (by omega), if_neg (by omega), if_neg (by omega), if_pos (by omega)]
    have q1 : m12 31 (6 * j + 1) = a := by rw [q, if_neg (by omega), if_neg (by omega), if_neg (by omega), if_neg (by omega), if_pos rfl]
    have q2 : m12 31 (6 * j + 2) = b := by rw [q, if_neg (by omega), if_neg (by omega), if_neg (by omega), if_pos rfl]
    have q3 : m12 31 (6 * j + 3) = c := by rw [q, if_neg (by omega), if_neg (by omega), if_pos rfl]
    have q4 : m12 31 (6 * j + 4) = d' := by rw [q, if_neg (by omega), if_pos rfl]
    have q5 : m12 31 (6 * j + 5) = e := by rw [q, if_pos rfl]
    rw [q0, q1, q2, q3, q4, q5]
/-- there is a solution with one fact more -/
theorem cm_isSolvedWith {set : Nat} {f a b c d' e : Int} {Q : vm_M → Bool → Prop} (hs : set < 2147483648) (ok : st_ok (m 25)) (hw : fc_wf (f, a, b, c, d', e)) (hQ : ∀ (m' : vm_M) (r : Bool), rf_F m m' → (r = true ↔ ∃ g, sl (m 25) set g ∧ fc_holds (f, a, b, c, d', e) g) → Q m' r) :
    vm_cb G (d + 11) mX8_isSolvedWith [.inr (.inr 24), .inl (set : Int), .inl f, .inl a, .inl b, .inl c, .inl d', .inl e] m Q := by
  refine qX8_isSolvedWith (fun m1 e1 => cm_add (j := 0) (by rw [e1, zz_same]) (Or.inl rfl) (fun m2 f2 h9 ht => ?_))
  have k2 : ∀ (c : Nat) (i : Int), ¬ c = 31 → ¬ (c = 24 ∧ i = 9) → m2 c i = m c i := fun c i h1 h2 => by
    rw [f2 c i (fun z => h1 z.1) h2, e1, zz_other h2]
  have e25 : m2 25 = m 25 := funext fun i => k2 25 i (by simp) (by simp)
  refine cm_isSolved hs (by rw [e25]; exact ok) ⟨Or.inr (Or.inl h9), fun j j0 j1 => ?_⟩ (fun m' r hF hr => hQ m' r (fun c i h1 h2 => ?_) (hr.trans ?_))
  · have : j = 0 := by omega
    subst this
    rw [ht]; exact hw
  · rw [hF c i h1 h2, k2 c i (by omega) (by omega)]
  · rw [e25]
    constructor
    · rintro ⟨g, a1, a2⟩
      have := a2 0 (by decide) (by omega)
      rw [ht] at this
      exact ⟨g, a1, this⟩
    · rintro ⟨g, a1, a2⟩
      refine ⟨g, a1, fun j j0 j1 => ?_⟩
      have : j = 0 := by omega
      subst this
      rw [ht]; exact a2
/-- there is a solution with two comparisons more -/
theorem cm_isSolvedWithBoth {set : Nat} {a k b c : Int} {ab : Bool} {Q : vm_M → Bool → Prop} (hs : set < 2147483648) (ok : st_ok (m 25)) (ha : 0 ≤ a ∧ a ≤ 3) (hk : 0 ≤ k ∧ k ≤ 2) (hb : 0 ≤ b ∧ b ≤ 3) (hc : 0 ≤ c ∧ c ≤ 3) (hQ : ∀ (m' : vm_M) (r : Bool), rf_F m m' → (r = true ↔ ∃ g, sl (m 25) set g ∧ fc_holds (6, if ab then a else b, k, if ab then b else a, k, 1) g ∧ fc_holds (6, if ab then a else c, k, if ab then c else a, k, 1) g) → Q m' r) :
    vm_cb G (d + 11) mX8_isSolvedWithBoth [.inr (.inr 24), .inl (set : Int), .inl a, .inl k, .inl b, .inl c, .inl (vm_b2i ab)] m Q := by
  have main : ∀ (m1 m2 m3 : vm_M) (x1 y1 x2 y2 : Int), (0 ≤ x1 ∧ x1 ≤ 3) → (0 ≤ y1 ∧ y1 ≤ 3) → (0 ≤ x2 ∧ x2 ≤ 3) → (0 ≤ y2 ∧ y2 ≤ 3) → m1 = vm_up m 24 9 0 → (∀ (c : Nat) (i : Int), ¬ (c = 31 ∧ 6 * 0 ≤ i ∧ i < 6 * 0 + 6) → ¬ (c = 24 ∧ i = 9) → m2 c i = m1 c i) → m2 24 9 = 0 + 1 → rf_tup (m2 31) (6 * 0) = (6, x1, k, y1, k, 1) → (∀ (c : Nat) (i : Int), ¬ (c = 31 ∧ 6 * 1 ≤ i ∧ i < 6 * 1 + 6) → ¬ (c = 24 ∧ i = 9) → m3 c i = m2 c i) → m3 24 9 = 1 + 1 → rf_tup (m3 31) (6 * 1) = (6, x2, k, y2, k, 1) →
      (∀ (m' : vm_M) (r : Bool), rf_F m m' → (r = true ↔ ∃ g, sl (m 25) set g ∧ fc_holds (6, x1, k, y1, k, 1) g ∧ fc_holds (6, x2, k, y2, k, 1) g) → Q m' r) → vm_cb G (d + 10) mX8_isSolved [.inr (.inr 24), .inl (set : Int)] m3 (fun m4 r5 => Q m4 r5) := by
    intro m1 m2 m3 x1 y1 x2 y2 hx1 hy1 hx2 hy2 e1 f2 n2 t2 f3 n3 t3 hQ
    have k3 : ∀ (c : Nat) (i : Int), ¬ c = 31 → ¬ (c = 24 ∧ i = 9) → m3 c i = m c i := fun c i h1 h2 => by
      rw [f3 c i (fun z => h1 z.1) h2, f2 c i (fun z => h1 z.1) h2, e1, zz_other h2]
    have e25 : m3 25 = m 25 := funext fun i => k3 25 i (by simp) (by simp)
    have t2' : rf_tup (m3 31) (6 * 0) = (6, x1, k, y1, k, 1) := by
      rw [← t2]
      unfold rf_tup
      rw [f3 31 _ (by omega) (by simp), f3 31 _ (by omega) (by simp), f3 31 _ (by omega) (by simp), f3 31 _ (by omega) (by simp), f3 31 _ (by omega) (by simp), f3 31 _ (by omega) (by simp)]
    have w1 : fc_wf (6, x1, k, y1, k, 1) := by simp [fc_wf]; omega
    have w2 : fc_wf (6, x2, k, y2, k, 1) := by simp [fc_wf]; omega
    have p0 : m3 31 (6 * 0 + 0) = 6 := by have := congrArg (fun z => z.1) t2'; exact this
    have p1 : m3 31 (6 * 1 + 0) = 6 := by have := congrArg (fun z => z.1) t3; exact this
    refine cm_isSolved hs (by rw [e25]; exact ok) ⟨Or.inr (Or.inr ⟨n3, p0, p1⟩), fun j j0 j1 => ?_⟩ (fun m' r hF hr => hQ m' r (fun c i h1 h2 => ?_) (hr.trans ?_))
    · have : j = 0 ∨ j = 1 := by omega
      rcases this with rfl | rfl
      · rw [t2']; exact w1
      · rw [t3]; exact w2
    · rw [hF c i h1 h2, k3 c i (by omega) (by omega)]
    · rw [e25]
      constructor
      · rintro ⟨g, a1, a2⟩
        have q1 := a2 0 (by decide) (by omega)
        have q2 := a2 1 (by decide) (by omega)
        rw [t2'] at q1
        rw [t3] at q2
        exact ⟨g, a1, q1, q2⟩
      · rintro ⟨g, a1, q1, q2⟩
        refine ⟨g, a1, fun j j0 j1 => ?_⟩
        have : j = 0 ∨ j = 1 := by omega
        rcases this with rfl | rfl
        · rw [t2']; exact q1
        · rw [t3]; exact q2
  refine qX8_isSolvedWithBoth (fun m1 e1 => ?_)
  have n1 : m1 24 9 = 0 := by rw [e1, zz_same]
  cases ab with
  | false =>
    refine ⟨fun _ => ⟨fun _ => cm_add (j := 0) n1 (Or.inl rfl) (fun m2 f2 h2 t2 => ⟨fun _ => ⟨fun _ => cm_add (j := 1) h2 (Or.inr rfl) (fun m3 f3 h3 t3 => main m1 m2 m3 b a c a hb ha hc ha e1 f2 h2 t2 f3 h3 t3 hQ), fun h => Bool.noConfusion h⟩, fun h => Bool.noConfusion h⟩), fun h => Bool.noConfusion h⟩, fun h => Bool.noConfusion h⟩
  | true =>
    refine ⟨fun h => Bool.noConfusion h, fun _ => ⟨fun h => Bool.noConfusion h, fun _ => cm_add (j := 0) n1 (Or.inl rfl) (fun m2 f2 h2 t2 => ⟨fun h => Bool.noConfusion h, fun _ => ⟨fun h => Bool.noConfusion h, fun _ => cm_add (j := 1) h2 (Or.inr rfl) (fun m3 f3 h3 t3 => main m1 m2 m3 a b a c ha hb ha hc e1 f2 h2 t2 f3 h3 t3 hQ)⟩⟩)⟩⟩
end AK
