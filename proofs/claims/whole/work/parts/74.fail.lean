/-! THE CLASS: can a fact fail -/
section CFL
variable {G : vm_G} {d : Nat} {m m1 m2 : vm_M}
/-- in how many ways a fact can fail -/
def opN (f : Int) : Int := if f = 0 then 2 else if f = 1 then 2 else if f = 2 then 6 else if f = 3 then 9 else if f = 4 then 9 else if f = 5 then 3 else 1
def opsG (G : vm_G) : Prop := (G.len 38 : Int) = 7 ∧ ∀ f : Int, 0 ≤ f → f < 7 → G.rom 38 f = opN f
theorem OP_bag {f a b c x e j k : Int} {h : fc_G} (hf : 2 ≤ f ∧ f ≤ 5) (hk : 0 ≤ k ∧ k < 3) : OP (f, a, b, c, x, e) (3 * j + k) h ↔ opP f j (4 * a + k) (4 * b + k) (4 * c + k) h := by
  have e1 : (3 * j + k) / 3 = j := by omega
  have e2 : (3 * j + k) % 3 = k := by omega
  simp only [OP, e1, e2, show ¬ f = 0 by omega, show ¬ f = 1 by omega, show ¬ f = 6 by omega, if_false]
  rw [Int.mul_comm a 4, Int.mul_comm b 4, Int.mul_comm c 4]
theorem OP_not {t : fc_T} {h : fc_G} (hv : fc_v t) (hh : H18 h) (hsz : t.1 = 1 → ∀ b : Int, 0 ≤ b → b < 4 → bg_sum h b) : (∃ w : Int, (0 ≤ w ∧ w < opN t.1) ∧ OP t w h) ↔ ¬ fc_holds t (gh h) := by
  obtain ⟨f, a, b, c, x, e⟩ := t
  obtain ⟨ha, hv⟩ := hv
  have bag : (2 ≤ f ∧ f ≤ 5) → (∀ k : Int, 0 ≤ k → k < 3 → ((∃ j : Int, (0 ≤ j ∧ 3 * j < opN f) ∧ opP f j (4 * a + k) (4 * b + k) (4 * c + k) h) ↔ ¬ fc_at (f, a, b, c, x, e) k (gh h))) → (opN f = 6 ∨ opN f = 9 ∨ opN f = 3) → ((∃ w : Int, (0 ≤ w ∧ w < opN f) ∧ OP (f, a, b, c, x, e) w h) ↔ ¬ fc_holds (f, a, b, c, x, e) (gh h)) := fun hf hk hn => by
    constructor
    · rintro ⟨w, hw, hp⟩ hh2
      have e1 : w = 3 * (w / 3) + w % 3 := by omega
      rw [e1, OP_bag hf ⟨by omega, by omega⟩] at hp
      exact (hk (w % 3) (by omega) (by omega)).mp ⟨w / 3, ⟨by omega, by omega⟩, hp⟩ (hh2 (w % 3) (by omega) (by omega))
    · intro hn2
      refine Classical.byContradiction fun hno => hn2 fun k k0 k1 => Classical.byContradiction fun hf2 => ?_
      obtain ⟨j, hj, hp⟩ := (hk k k0 k1).mpr hf2
      exact hno ⟨3 * j + k, ⟨by omega, by omega⟩, (OP_bag hf ⟨k0, k1⟩).mpr hp⟩
  rcases hv with ⟨rfl, v1, v2, v3⟩ | ⟨rfl, v1, v2, v3⟩ | ⟨hf, v1, v2, v3, v4⟩ | ⟨rfl, v1, v2, v3, v4⟩ | ⟨rfl, v1, v2, v3, v4⟩
  · rw [fc_holds_one (by decide)]
    have q := hh (4 * a + b) (by omega) (by omega)
    unfold OP fc_at opN
    simp only [h44 h, if_true]
    rw [gh_at (by omega)]
    constructor
    · rintro ⟨w, hw, hp⟩
      split at hp <;> omega
    · intro hn
      by_cases z : h (4 * a + b) < c
      · exact ⟨0, by omega, by rw [if_pos rfl]; omega⟩
      · exact ⟨1, by omega, by rw [if_neg (by decide)]; omega⟩
  · rw [fc_holds_one (by decide)]
    have q := hh (4 * a + 3) (by omega) (by omega)
    have q2 := hsz rfl a (by omega) (by omega)
    unfold bg_sum at q2
    unfold OP fc_at opN
    simp only [h44 h, show ¬ (1 : Int) = 0 by decide, if_true, if_false]
    rw [gh_0, gh_at (by decide), gh_at (by decide), ← q2]
    constructor
    · rintro ⟨w, hw, hp⟩
      split at hp <;> omega
    · intro hn
      by_cases z : h (4 * a + 3) < b
      · exact ⟨0, by omega, by rw [if_pos rfl]; omega⟩
      · exact ⟨1, by omega, by rw [if_neg (by decide)]; omega⟩
  · refine bag (by omega) (fun k k0 k1 => ?_) (by rcases hf with rfl | rfl | rfl <;> decide)
    rcases hf with rfl | rfl | rfl
    · rw [fc2, gh_at ⟨k0, k1⟩, gh_at ⟨k0, k1⟩, gh_at ⟨k0, k1⟩]
      unfold opP opN
      simp only [show ¬ (2 : Int) = 0 by decide, show ¬ (2 : Int) = 1 by decide, show ¬ (2 : Int) = 5 by decide, if_true, if_false]
      constructor
      · rintro ⟨w, hw, hp⟩
        split at hp <;> omega
      · intro hn
        by_cases z : h (4 * b + k) + h (4 * c + k) < h (4 * a + k)
        · exact ⟨0, by omega, by rw [if_pos rfl]; omega⟩
        · exact ⟨1, by omega, by rw [if_neg (by decide)]; omega⟩
    · rw [fc3, gh_at ⟨k0, k1⟩, gh_at ⟨k0, k1⟩, gh_at ⟨k0, k1⟩]
      unfold opP opN
      simp only [show ¬ (3 : Int) = 0 by decide, show ¬ (3 : Int) = 1 by decide, show ¬ (3 : Int) = 2 by decide, show ¬ (3 : Int) = 5 by decide, if_true, if_false]
      constructor
      · rintro ⟨w, hw, hp⟩
        split at hp
        · omega
        · split at hp <;> omega
      · intro hn
        by_cases z : h (4 * a + k) < h (4 * b + k)
        · exact ⟨0, by omega, by rw [if_pos rfl]; omega⟩
        · by_cases z2 : h (4 * a + k) < h (4 * c + k)
          · exact ⟨1, by omega, by rw [if_neg (by decide), if_pos rfl]; omega⟩
          · exact ⟨2, by omega, by rw [if_neg (by decide), if_neg (by decide)]; omega⟩
    · rw [fc4, gh_at ⟨k0, k1⟩, gh_at ⟨k0, k1⟩, gh_at ⟨k0, k1⟩]
      unfold opP opN
      simp only [show ¬ (4 : Int) = 0 by decide, show ¬ (4 : Int) = 1 by decide, show ¬ (4 : Int) = 2 by decide, show ¬ (4 : Int) = 3 by decide, show ¬ (4 : Int) = 5 by decide, if_true, if_false]
      constructor
      · rintro ⟨w, hw, hp⟩
        split at hp
        · omega
        · split at hp <;> omega
      · intro hn
        by_cases z : h (4 * b + k) < h (4 * a + k)
        · exact ⟨0, by omega, by rw [if_pos rfl]; omega⟩
        · by_cases z2 : h (4 * c + k) < h (4 * a + k)
          · exact ⟨1, by omega, by rw [if_neg (by decide), if_pos rfl]; omega⟩
          · exact ⟨2, by omega, by rw [if_neg (by decide), if_neg (by decide)]; omega⟩
  · refine bag (by decide) (fun k k0 k1 => ?_) (by decide)
    rw [fc5, gh_at ⟨k0, k1⟩, gh_at ⟨k0, k1⟩]
    unfold opP opN
    simp only [show ¬ (5 : Int) = 0 by decide, show ¬ (5 : Int) = 1 by decide, show ¬ (5 : Int) = 2 by decide, show ¬ (5 : Int) = 3 by decide, show ¬ (5 : Int) = 4 by decide, if_true, if_false]
    constructor
    · rintro ⟨w, hw, hp⟩; omega
    · intro hn; exact ⟨0, by omega, by omega⟩
  · rw [fc_holds_one (by decide), fc6, gh_at (by omega), gh_at (by omega)]
    unfold OP opN
    simp only [h44 h, show ¬ (6 : Int) = 0 by decide, show ¬ (6 : Int) = 1 by decide, show ¬ (6 : Int) = 2 by decide, show ¬ (6 : Int) = 3 by decide, show ¬ (6 : Int) = 4 by decide, show ¬ (6 : Int) = 5 by decide, if_true, if_false]
    constructor
    · rintro ⟨w, hw, hp⟩; omega
    · intro hn; exact ⟨0, by omega, by omega⟩
theorem fc_holds_ext {t : fc_T} {g g' : fc_G} (hv : fc_v t) (he : ∀ v : Int, 0 ≤ v → v < 12 → g v = g' v) (h : fc_holds t g) : fc_holds t g' := fun k k0 k1 => fc_at_congr (fun x hx => by
  have := (fc_av_mod (fc_v_wf hv) ⟨k0, k1⟩ hx).1
  exact he x this.1 this.2) (h k k0 k1)
/-- no way is left: the fact can't fail -/
theorem OP_none {i : Int} {s : Nat} (h : kq m s) (ht : fc_v (rf_tup (m 9) (i * 6))) (hno : ∀ u : Int, 0 ≤ u → u < opN (m 9 (i * 6 + 0)) → ∀ hs : Bool, (hs = true ↔ m 9 (i * 6 + 0) = 1 ∨ SZ m s) → ∀ x, kL m s hs x → ¬ OP (rf_tup (m 9) (i * 6)) u x) : ¬ ∃ g, kS m s g ∧ ¬ fc_holds (rf_tup (m 9) (i * 6)) g := by
  rintro ⟨g, g1, g2⟩
  have main : ∀ hs : Bool, (hs = true ↔ m 9 (i * 6 + 0) = 1 ∨ SZ m s) → False := fun hs hh => by
    have hx := kL_hg (hs := hs) h.2.1 h.2.2.2 g1
    have e := OP_not (h := hg hs g) ht (hx.h18 h.2.1) (fun z => hx.2.1 (hh.mpr (Or.inl z)))
    obtain ⟨w, hw, hp⟩ := e.mpr (fun z => g2 (fc_holds_ext ht (fun v v0 v1 => gh_hg v0 v1) z))
    exact hno w hw.1 hw.2 hs hh _ hx hp
  by_cases z : m 9 (i * 6 + 0) = 1 ∨ SZ m s
  · exact main true ⟨fun _ => z, fun _ => rfl⟩
  · exact main false ⟨fun w => by simp at w, fun w => absurd w z⟩
theorem cs_canFail_34 {i : Int} {s : Nat} {Q : vm_M → Bool → Prop} (hi : 0 ≤ i ∧ i ≤ 10) (h : kq m s) (ht : fc_v (rf_tup (m 9) (i * 6))) (hQ : ∀ (m' : vm_M) (b : Bool), CQ m m' → (b = true ↔ ∃ g, kS m s g ∧ ¬ fc_holds (rf_tup (m 9) (i * 6)) g) → Q m' b) :
    ∀ (n : Nat) (w : Int) (mk : vm_M), w + (n : Int) = opN (m 9 (i * 6 + 0)) → 0 ≤ w → CQ m mk → (∀ u : Int, 0 ≤ u → u < w → ∀ hs : Bool, (hs = true ↔ m 9 (i * 6 + 0) = 1 ∨ SZ m s) → ∀ x, kL m s hs x → ¬ OP (rf_tup (m 9) (i * 6)) u x) →
    vm_ex G (d + 23) mX2_canFail 34 [some (.inr (.inr 2)), some (.inr (.inr 1)), some (.inl i), some (.inl (s : Int)), some (.inl (m 9 (i * 6 + 0))), some (.inl (opN (m 9 (i * 6 + 0)))), some (.inl w)] [] mk (vm_qb Q) := by
  have hf : 0 ≤ m 9 (i * 6 + 0) ∧ m 9 (i * 6 + 0) ≤ 6 := by have := ht.2; omega
  have hN : 0 ≤ opN (m 9 (i * 6 + 0)) ∧ opN (m 9 (i * 6 + 0)) ≤ 9 := by
    unfold opN
    repeat' split
    all_goals omega
  intro n
  induction n with
  | zero =>
    intro w mk hw w0 c hno
    refine qX2_canFail_34 ⟨⟨by omega, by omega⟩, ⟨by omega, by omega⟩, fun _ => hQ mk false c ⟨fun z => by simp at z, fun z => ?_⟩, fun z => absurd (by omega) z⟩
    exact absurd z (OP_none h ht (fun u u0 u1 => hno u u0 (by omega)))
  | succ n ih =>
    intro w mk hw w0 c hno
    have hk := c.q h
    have e9 : mk 9 = m 9 := c.nine
    have e1 : mk 1 = m 1 := c.one
    have eL : ∀ hs x, kL mk s hs x ↔ kL m s hs x := fun hs x => by unfold kL; rw [c.eS, e1]
    have step : ∀ as : Bool, (as = true ↔ m 9 (i * 6 + 0) = 1) → vm_cn G (d + 22) mX2_load [.inr (.inr 2), .inr (.inr 1), .inl (s : Int), .inl (vm_b2i as)] mk (fun m4 => vm_cn G (d + 22) mX2_addOpposite [.inr (.inr 2), .inr (.inr 1), .inl i, .inl w] m4 (fun m6 => vm_ci G (d + 22) mX5_howMany [.inr (.inr 6), .inl 1] m6 (fun m8 r9 => (vm_R r9) ∧ ((r9 = 0 → vm_ex G (d + 23) mX2_canFail 34 [some (.inr (.inr 2)), some (.inr (.inr 1)), some (.inl i), some (.inl (s : Int)), some (.inl (m 9 (i * 6 + 0))), some (.inl (opN (m 9 (i * 6 + 0)))), some (.inl (w + 1))] [] m8 (vm_qb Q)) ∧ (¬ r9 = 0 → Q m8 true))))) := fun as has => by
      refine cs_loadLS (d := d + 17) hk (fun m4 hs N P' hh c4 hB hS hR hN2 hP => ?_)
      have e49 : m4 9 = m 9 := c4.nine.trans e9
      refine cs_addOpposite (d := d + 18) hi (by omega) hB hR (by omega) (by rw [e49]; exact ht) (fun m6 N6 P6 f6 b6 r6 hN6 s6 hP6 => ?_)
      rw [e49] at hP6
      have hS6 : vm_R (m6 6 3) := by rw [f6 6 3 (by simp) (by simp) (by simp)]; exact hS
      have c6 : CQ m4 m6 := ⟨fun x y p q => f6 x y (by omega) (by omega) (by omega), b6.2⟩
      refine cs_some (d := d) b6 r6 hS6 (fun m8 r c8 hr h0 _ => ⟨⟨by omega, by omega⟩, fun z => ?_, fun z => ?_⟩)
      · refine ih (w + 1) m8 (by omega) (by omega) (((c.trans c4).trans c6).trans c8) (fun u u0 u1 hs2 hh2 x hx => ?_)
        by_cases eu : u = w
        · subst eu
          intro hp
          have ehs : hs2 = hs := by
            rw [Bool.eq_iff_iff, hh2, hh, has, c.sz]
          subst ehs
          have hx4 := (hP x).mpr ((eL _ x).mpr hx)
          have := (hP6 x (kL.h18 h.2.1 hx)).mpr ⟨hx4, hp⟩
          exact h0.mp z ⟨x, this⟩
        · exact hno u u0 (by omega) hs2 hh2 x hx
      · have : ¬ ¬ ∃ x, box 0 m6 x ∧ P6 x := fun w => z (h0.mpr w)
        obtain ⟨x, hx⟩ := Classical.not_not.mp this
        refine hQ m8 true (((c.trans c4).trans c6).trans c8) ⟨fun _ => ?_, fun _ => rfl⟩
        have hx4 := (hP x).mp (s6 x hx)
        have h18 := kL.h18 hk.2.1 hx4
        have hp := ((hP6 x h18).mp hx).2
        refine ⟨gh x, by rw [← c.eS]; exact hx4.2.2, (OP_not ht h18 (fun q => hx4.2.1 (hh.mpr (Or.inl (has.mpr q))))).mp ⟨w, ⟨w0, ?_⟩, hp⟩⟩
        show w < opN (m 9 (i * 6 + 0))
        omega
    refine qX2_canFail_34 ⟨⟨by omega, by omega⟩, ⟨by omega, by omega⟩, fun z => absurd z (by omega), fun _ => ⟨⟨by omega, by omega⟩, fun z => step false ⟨fun q => by simp at q, fun q => absurd q z⟩, fun z => step true ⟨fun _ => z, fun _ => rfl⟩⟩⟩
theorem cs_canFail {i : Int} {s : Nat} {Q : vm_M → Bool → Prop} (hG : opsG G) (hi : 0 ≤ i ∧ i ≤ 10) (h : kq m s) (ht : fc_v (rf_tup (m 9) (i * 6))) (hQ : ∀ (m' : vm_M) (b : Bool), CQ m m' → (b = true ↔ ∃ g, kS m s g ∧ ¬ fc_holds (rf_tup (m 9) (i * 6)) g) → Q m' b) : vm_cb G (d + 23) mX2_canFail [.inr (.inr 2), .inr (.inr 1), .inl i, .inl (s : Int)] m Q := by
  have hf : 0 ≤ m 9 (i * 6 + 0) ∧ m 9 (i * 6 + 0) ≤ 6 := by have := ht.2; omega
  have hN : 0 ≤ opN (m 9 (i * 6 + 0)) := by
    unfold opN
    repeat' split
    all_goals omega
  refine qX2_canFail (cs_number (d := d + 21) hi (by decide) (cs_isWithin ⟨by omega, by omega⟩ ⟨by decide, by decide⟩ ⟨by decide, by decide⟩ (fun r hr => ⟨fun z => ?_, fun _ => ⟨by rw [hG.1]; omega, ?_⟩⟩)))
  · have := hr.mpr hf
    rw [z] at this; simp at this
  · rw [hG.2 _ hf.1 (by omega)]
    exact cs_canFail_34 hi h ht hQ (opN (m 9 (i * 6 + 0))).toNat 0 m (by omega) (by decide) (CQ.refl h.2.2.1) (fun u u0 u1 => by omega)
end CFL
