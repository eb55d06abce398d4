/-! THE CLASS: what a loaded set says, of the counts -/
section LSM
variable {m : vm_M}
/-- counts that the facts of a set allow -/
def kS (m : vm_M) (s : Nat) (g : fc_G) : Prop := (∀ v : Int, 0 ≤ v → v < 12 → 0 ≤ g v ∧ g v ≤ m 1 2) ∧ ∀ i : Nat, i ≤ 10 → s.testBit i = true → fc_holds (rf_tup (m 9) ((i : Int) * 6)) g
def gh (h : fc_G) : fc_G := fun v => h (4 * (v / 3) + v % 3)
def hg (s : Bool) (g : fc_G) : fc_G := fun v => if v % 4 = 3 then (if s = true then g (3 * (v / 4)) + g (3 * (v / 4) + 1) + g (3 * (v / 4) + 2) else 0) else g (3 * (v / 4) + v % 4)
theorem gh_at {h : fc_G} {b k : Int} (hk : 0 ≤ k ∧ k < 3) : gh h (3 * b + k) = h (4 * b + k) := by
  unfold gh
  have e1 : (3 * b + k) / 3 = b := by omega
  have e2 : (3 * b + k) % 3 = k := by omega
  rw [e1, e2]
theorem gh_0 {h : fc_G} {b : Int} : gh h (3 * b) = h (4 * b) := by
  have := gh_at (h := h) (b := b) (k := 0) (by decide)
  rwa [Int.add_zero, Int.add_zero] at this
theorem hg_at {s : Bool} {g : fc_G} {b k : Int} (hk : 0 ≤ k ∧ k < 3) : hg s g (4 * b + k) = g (3 * b + k) := by
  unfold hg
  have e1 : (4 * b + k) / 4 = b := by omega
  have e2 : (4 * b + k) % 4 = k := by omega
  rw [if_neg (by omega), e1, e2]
theorem hg_size {g : fc_G} {b : Int} : hg true g (4 * b + 3) = g (3 * b) + g (3 * b + 1) + g (3 * b + 2) := by
  unfold hg
  have e1 : (4 * b + 3) / 4 = b := by omega
  rw [if_pos (by omega), if_pos rfl, e1]
theorem hg_none {g : fc_G} {b : Int} : hg false g (4 * b + 3) = 0 := by
  unfold hg
  rw [if_pos (by omega), if_neg (by decide)]
theorem hg_0 {s : Bool} {g : fc_G} {b : Int} : hg s g (4 * b) = g (3 * b) := by
  have := hg_at (s := s) (g := g) (b := b) (k := 0) (by decide)
  rwa [Int.add_zero, Int.add_zero] at this
/-- the counts of a bag and a column -/
theorem v12 {v : Int} (h0 : 0 ≤ v) (h1 : v < 12) : ∃ b k : Int, (0 ≤ b ∧ b < 4) ∧ (0 ≤ k ∧ k < 3) ∧ v = 3 * b + k := ⟨v / 3, v % 3, by omega, by omega, by omega⟩
theorem v16 {v : Int} (h0 : 0 ≤ v) (h1 : v < 16) : ∃ b k : Int, (0 ≤ b ∧ b < 4) ∧ (0 ≤ k ∧ k < 4) ∧ v = 4 * b + k := ⟨v / 4, v % 4, by omega, by omega, by omega⟩
theorem gh_hg {s : Bool} {g : fc_G} {v : Int} (h0 : 0 ≤ v) (h1 : v < 12) : gh (hg s g) v = g v := by
  obtain ⟨b, k, hb, hk, rfl⟩ := v12 h0 h1
  rw [gh_at hk, hg_at hk]
def kL (m : vm_M) (s : Nat) (hs : Bool) (h : fc_G) : Prop := (∀ v : Int, 0 ≤ v → v < 16 → 0 ≤ h v ∧ h v ≤ bg_hi (m 1 2) hs v) ∧ (hs = true → ∀ b : Int, 0 ≤ b → b < 4 → bg_sum h b) ∧ kS m s (gh h)
theorem kL.hb {s : Nat} {hs : Bool} {h : fc_G} (p : ∀ v : Int, 0 ≤ v → v < 16 → 0 ≤ h v ∧ h v ≤ bg_hi (m 1 2) hs v) : HB (m 1 2) h := fun b k hb hk => by
  have q := p (4 * b + k) (by omega) (by omega)
  unfold bg_hi at q
  rw [if_neg (by omega)] at q
  exact q
theorem kL.h18 {s : Nat} {hs : Bool} {h : fc_G} (hm : 1 ≤ m 1 2 ∧ m 1 2 ≤ 6) (p : kL m s hs h) : H18 h := fun v v0 v1 => by
  have q := p.1 v v0 v1
  unfold bg_hi at q
  by_cases e : v % 4 = 3
  · rw [if_pos e] at q
    by_cases e2 : hs = true
    · rw [if_pos e2] at q; exact ⟨by omega, fun z => absurd e z⟩
    · rw [if_neg e2] at q; exact ⟨by omega, fun z => absurd e z⟩
  · rw [if_neg e] at q; exact ⟨by omega, fun _ => by omega⟩
/-- the sizes are told by the counts -/
theorem kL.back {s : Nat} {hs : Bool} {h : fc_G} (p : kL m s hs h) {v : Int} (v0 : 0 ≤ v) (v1 : v < 16) : hg hs (gh h) v = h v := by
  obtain ⟨b, k, hb, hk, rfl⟩ := v16 v0 v1
  by_cases e : k = 3
  · subst e
    cases hs with
    | true =>
      rw [hg_size, gh_0, gh_at (by decide), gh_at (by decide)]
      exact (p.2.1 rfl b hb.1 hb.2).symm
    | false =>
      rw [hg_none]
      have q := p.1 (4 * b + 3) v0 v1
      unfold bg_hi at q
      rw [if_pos (by omega), if_neg (by decide)] at q
      omega
  · rw [hg_at (by omega), gh_at (by omega)]
theorem kS_congr {s : Nat} {g g' : fc_G} (hv : ∀ i : Nat, i ≤ 10 → s.testBit i = true → fc_v (rf_tup (m 9) ((i : Int) * 6))) (he : ∀ v : Int, 0 ≤ v → v < 12 → g v = g' v) (h : kS m s g) : kS m s g' := by
  refine ⟨fun v v0 v1 => by rw [← he v v0 v1]; exact h.1 v v0 v1, fun i hi hb k k0 k1 => fc_at_congr (fun x hx => ?_) (h.2 i hi hb k k0 k1)⟩
  have := (fc_av_mod (fc_v_wf (hv i hi hb)) ⟨k0, k1⟩ hx).1
  exact he x this.1 this.2
theorem kL_hg {s : Nat} {hs : Bool} {g : fc_G} (hm : 1 ≤ m 1 2 ∧ m 1 2 ≤ 6) (hv : ∀ i : Nat, i ≤ 10 → s.testBit i = true → fc_v (rf_tup (m 9) ((i : Int) * 6))) (p : kS m s g) : kL m s hs (hg hs g) := by
  have sz : ∀ b : Int, 0 ≤ b → b < 4 → (0 ≤ g (3 * b) ∧ g (3 * b) ≤ m 1 2) ∧ (0 ≤ g (3 * b + 1) ∧ g (3 * b + 1) ≤ m 1 2) ∧ (0 ≤ g (3 * b + 2) ∧ g (3 * b + 2) ≤ m 1 2) := fun b b0 b1 => ⟨p.1 _ (by omega) (by omega), p.1 _ (by omega) (by omega), p.1 _ (by omega) (by omega)⟩
  refine ⟨fun v v0 v1 => ?_, fun e b b0 b1 => ?_, kS_congr hv (fun v v0 v1 => (gh_hg v0 v1).symm) p⟩
  · obtain ⟨b, k, hb, hk, rfl⟩ := v16 v0 v1
    have q := sz b hb.1 hb.2
    unfold bg_hi
    by_cases e : k = 3
    · subst e
      rw [if_pos (by omega)]
      cases hs with
      | true => rw [hg_size, if_pos rfl]; omega
      | false => rw [hg_none, if_neg (by decide)]; omega
    · rw [hg_at (by omega), if_neg (by omega)]
      exact p.1 (3 * b + k) (by omega) (by omega)
  · subst e
    unfold bg_sum
    rw [hg_size, hg_0, hg_at (by decide), hg_at (by decide)]
theorem h44 (h : fc_G) (y z : Int) : h (y * 4 + z) = h (4 * y + z) := by rw [Int.mul_comm y 4]
/-- from what is added for a fact, and the gaps, to the fact -/
theorem FC_holds {t : fc_T} {hs : Bool} {h : fc_G} {most : Int} {mg : vm_M} (hv : fc_v t) (hF : FC hs t h) (h1 : t.1 = 1 → hs = true) (hsum : hs = true → ∀ b : Int, 0 ≤ b → b < 4 → bg_sum h b) (hbox : HB most h) (hc : CTD most mg t)
    (hgap : ∀ k i j : Int, (0 ≤ k ∧ k < 3) → (0 ≤ i ∧ i < 4) → (0 ≤ j ∧ j < 4) → h (4 * i + k) - h (4 * j + k) ≤ mg 23 ((k * 4 + i) * 4 + j)) : fc_holds t (gh h) := by
  obtain ⟨f, a, b, c, x, e⟩ := t
  obtain ⟨ha, hv⟩ := hv
  obtain ⟨F0, F1, F6, F2⟩ := hF
  intro k k0 k1
  rcases hv with ⟨rfl, v1, v2, v3⟩ | ⟨rfl, v1, v2, v3⟩ | ⟨hf, v1, v2, v3, v4⟩ | ⟨rfl, v1, v2, v3, v4⟩ | ⟨rfl, v1, v2, v3, v4⟩
  · have q := F0 rfl
    rw [h44 h] at q
    simp only [fc_at, if_true]
    rw [gh_at (by omega)]
    exact q
  · have q := F1 rfl
    have q2 := hsum (h1 rfl) a (by omega) (by omega)
    unfold bg_sum at q2
    rw [h44 h] at q
    simp only [fc_at, show ¬ (1 : Int) = 0 by decide, if_true, if_false]
    rw [gh_0, gh_at (by decide), gh_at (by decide)]
    omega
  · have q := F2 hf k k0 (by split <;> omega)
    unfold colP at q
    simp only [h44 h] at q
    rcases hf with rfl | rfl | rfl
    · rw [if_pos rfl] at q
      rw [fc2, gh_at ⟨k0, k1⟩, gh_at ⟨k0, k1⟩, gh_at ⟨k0, k1⟩]
      exact q
    · rw [if_neg (by decide), if_pos rfl] at q
      rw [fc3, gh_at ⟨k0, k1⟩, gh_at ⟨k0, k1⟩, gh_at ⟨k0, k1⟩]
      exact q.resolve_left (by omega)
    · rw [if_neg (by decide), if_neg (by decide)] at q
      rw [fc4, gh_at ⟨k0, k1⟩, gh_at ⟨k0, k1⟩, gh_at ⟨k0, k1⟩]
      exact q.resolve_left (by omega)
  · rw [fc5, gh_at ⟨k0, k1⟩, gh_at ⟨k0, k1⟩]
    have q1 := hc.1 rfl k k0 k1
    have q2 := hgap k a b ⟨k0, k1⟩ (by omega) (by omega)
    omega
  · rw [fc6, gh_at (by omega), gh_at (by omega)]
    by_cases hbx : b = x
    · subst hbx
      have q1 := hc.2 rfl rfl
      have q2 := hgap b c a (by omega) (by omega) (by omega)
      have q3 := hbox c b (by omega) (by omega)
      have q4 := hbox a b (by omega) (by omega)
      omega
    · have q := F6 rfl hbx
      rw [h44 h, h44 h] at q
      omega
theorem holds_FC {t : fc_T} {hs : Bool} {h : fc_G} {most : Int} (hv : fc_v t) (hh : fc_holds t (gh h)) (h1 : t.1 = 1 → hs = true) (hsum : hs = true → ∀ b : Int, 0 ≤ b → b < 4 → bg_sum h b) (hbox : HB most h) (hm : most ≤ 6) : FC hs t h := by
  obtain ⟨f, a, b, c, x, e⟩ := t
  obtain ⟨ha, hv⟩ := hv
  have hk := fun k k0 k1 => hh k k0 k1
  rcases hv with ⟨rfl, v1, v2, v3⟩ | ⟨rfl, v1, v2, v3⟩ | ⟨hf, v1, v2, v3, v4⟩ | ⟨rfl, v1, v2, v3, v4⟩ | ⟨rfl, v1, v2, v3, v4⟩
  · have q := hk 0 (by decide) (by decide)
    simp only [fc_at, if_true] at q
    rw [gh_at (by omega)] at q
    exact ⟨fun _ => by rw [h44 h]; exact q, fun z => by omega, fun z => by omega, fun z => by omega⟩
  · have q := hk 0 (by decide) (by decide)
    simp only [fc_at, show ¬ (1 : Int) = 0 by decide, if_true, if_false] at q
    rw [gh_0, gh_at (by decide), gh_at (by decide)] at q
    refine ⟨fun z => by omega, fun _ => ?_, fun z => by omega, fun z => by omega⟩
    rw [h44 h]
    have q2 := hsum (h1 rfl) a (by omega) (by omega)
    unfold bg_sum at q2
    omega
  · refine ⟨fun z => by omega, fun z => by omega, fun z => by omega, fun _ k k0 k1 => ?_⟩
    unfold colP
    simp only [h44 h]
    by_cases hk3 : k = 3
    · subst hk3
      by_cases hf2 : f = 2
      · rw [if_pos hf2]
        have hst : hs = true := by
          cases hs with
          | true => rfl
          | false => rw [if_neg (by decide)] at k1; omega
        have q0 := hk 0 (by decide) (by decide)
        have q1 := hk 1 (by decide) (by decide)
        have q2 := hk 2 (by decide) (by decide)
        subst hf2
        rw [fc2, gh_at (by decide), gh_at (by decide), gh_at (by decide)] at q0 q1 q2
        rw [Int.add_zero, Int.add_zero, Int.add_zero] at q0
        have s1 := hsum hst a (by omega) (by omega)
        have s2 := hsum hst b (by omega) (by omega)
        have s3 := hsum hst c (by omega) (by omega)
        unfold bg_sum at s1 s2 s3
        omega
      · rw [if_neg hf2]; exact Or.inl rfl
    · have k3 : k < 3 := by split at k1 <;> omega
      have q := hk k k0 k3
      rcases hf with rfl | rfl | rfl
      · rw [fc2, gh_at ⟨k0, k3⟩, gh_at ⟨k0, k3⟩, gh_at ⟨k0, k3⟩] at q
        rw [if_pos rfl]; exact q
      · rw [fc3, gh_at ⟨k0, k3⟩, gh_at ⟨k0, k3⟩, gh_at ⟨k0, k3⟩] at q
        rw [if_neg (by decide), if_pos rfl]; exact Or.inr q
      · rw [fc4, gh_at ⟨k0, k3⟩, gh_at ⟨k0, k3⟩, gh_at ⟨k0, k3⟩] at q
        rw [if_neg (by decide), if_neg (by decide)]; exact Or.inr q
  · exact ⟨fun z => by omega, fun z => by omega, fun z => by omega, fun z => by omega⟩
  · have q := hk 0 (by decide) (by decide)
    rw [fc6, gh_at (by omega), gh_at (by omega)] at q
    refine ⟨fun z => by omega, fun z => by omega, fun _ _ => ?_, fun z => by omega⟩
    rw [h44 h, h44 h]
    have q3 := hbox c x (by omega) (by omega)
    have q4 := hbox a b (by omega) (by omega)
    omega
/-- A LOADED SET: the first row and the rules say kL -/
theorem LDD_iff {s : Nat} {hs as : Bool} {m' mg : vm_M} (hm : 1 ≤ m 1 2 ∧ m 1 2 ≤ 6) (hv : ∀ i : Nat, i ≤ 10 → s.testBit i = true → fc_v (rf_tup (m 9) ((i : Int) * 6))) (hh : hs = true ↔ as = true ∨ ∃ i : Nat, i ≤ 10 ∧ s.testBit i = true ∧ m 9 ((i : Int) * 6 + 0) = 1) (L : LDD (kS m s) (m 1 2) s hs m m' mg) :
    RB m' ∧ vm_R (m' 6 3) ∧ ∃ N P', RU m' N P' ∧ N ≤ 116 ∧ ∀ h, (box 0 m' h ∧ P' h) ↔ kL m s hs h := by
  obtain ⟨l1, l2, ⟨N, P', r, hN, q1, q2⟩, gi, ca, n9⟩ := L
  have sz : ∀ i : Nat, i ≤ 10 → s.testBit i = true → (rf_tup (m 9) ((i : Int) * 6)).1 = 1 → hs = true := fun i hi hb e => hh.mpr (Or.inr ⟨i, hi, hb, e⟩)
  refine ⟨l1, by rw [l2]; exact vm_b2i_R hs, N, P', r, hN, fun h => ⟨fun p => ?_, fun p => ?_⟩⟩
  · obtain ⟨a, b, c, e⟩ := q1 h p
    have hb := kL.hb (s := s) (m := m) a
    refine ⟨a, b, fun v v0 v1 => ?_, fun i hi hbt => ?_⟩
    · obtain ⟨x, k, hx, hk, rfl⟩ := v12 v0 v1
      rw [gh_at hk]
      exact hb x k hx hk
    · have cc := ca i (by omega) hbt
      rw [n9] at cc
      exact FC_holds (hv i hi hbt) (e i hi hbt) (sz i hi hbt) b hb cc (c hb)
  · obtain ⟨a, b, c⟩ := p
    have hb := kL.hb (s := s) (m := m) a
    refine q2 h a b ⟨hb, fun k i j hk hi hj => ?_, b⟩ (fun i hi hbt => holds_FC (hv i hi hbt) (c.2 i hi hbt) (sz i hi hbt) b hb hm.2)
    have q := (gi.2.2.2 k hk.1 hk.2).1 i j hi hj (gh h) c
    rw [gh_at hk, gh_at hk] at q
    exact q
end LSM
