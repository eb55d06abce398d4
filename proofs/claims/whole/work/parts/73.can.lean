/-! THE CLASS: can a set hold, can a fact fail -/
section CAN
variable {G : vm_G} {d : Nat} {m m1 m2 : vm_M}
/-- what the class's questions may change -/
def CQ (m m' : vm_M) : Prop := (∀ (c : Nat) (i : Int), ¬ (13 ≤ c ∧ c ≤ 23) → ¬ (6 ≤ c ∧ c ≤ 8) → m' c i = m c i) ∧ (0 ≤ m' 6 4 ∧ m' 6 4 < 65536)
theorem CQ.refl (h : 0 ≤ m 6 4 ∧ m 6 4 < 65536) : CQ m m := ⟨fun _ _ _ _ => rfl, h⟩
theorem CQ.trans (a : CQ m m1) (b : CQ m1 m2) : CQ m m2 := ⟨fun c i p q => (b.1 c i p q).trans (a.1 c i p q), b.2⟩
theorem SE.cq (a : SE m m1) : CQ m m1 := ⟨fun c i p q => a.1 c i (by omega) (by omega), a.2⟩
theorem WF.cq {L : Int} (a : WF L m m1) : CQ m m1 := ⟨fun c i p q => a.1 c i (by omega) (by omega), a.2⟩
theorem CQ.nine (a : CQ m m1) : m1 9 = m 9 := funext fun x => a.1 9 x (by decide) (by decide)
theorem CQ.one (a : CQ m m1) : m1 1 = m 1 := funext fun x => a.1 1 x (by decide) (by decide)
theorem CQ.eS (a : CQ m m1) : kS m1 = kS m := by
  funext s g
  unfold kS
  rw [a.nine, a.one]
/-- the class may be asked of a set -/
def kq (m : vm_M) (s : Nat) : Prop := s < 2048 ∧ (1 ≤ m 1 2 ∧ m 1 2 ≤ 6) ∧ (0 ≤ m 6 4 ∧ m 6 4 < 65536) ∧ ∀ i : Nat, i ≤ 10 → s.testBit i = true → fc_v (rf_tup (m 9) ((i : Int) * 6))
theorem CQ.q {s : Nat} (a : CQ m m1) (h : kq m s) : kq m1 s := ⟨h.1, by rw [a.one]; exact h.2.1, a.2, fun i hi hb => by rw [a.nine]; exact h.2.2.2 i hi hb⟩
theorem kq.fa {s : Nat} (h : kq m s) : FA (kS m s) m s := fun i hi hb => ⟨h.2.2.2 i hi hb, fun g hg => hg.2 i hi hb⟩
theorem RU.rw' {n : Int} {P : fc_G → Prop} (h : RU m n P) : RW m n := ⟨h.1, h.2.1, h.2.2.1⟩
theorem RU.wg {n : Int} {P : fc_G → Prop} (h : RU m n P) : WG m := fun v v0 v1 => by
  have a := h.2.2.2.2 v v0 v1
  have b := h.2.1
  omega
theorem RU.fs {n : Int} {P : fc_G → Prop} (h : RU m n P) (x : fc_G) : FS 0 n m x ↔ box 0 m x ∧ P x := by
  unfold FS
  rw [h.2.2.2.1 x]
/-- a fact about a size is in the set -/
def SZ (m : vm_M) (s : Nat) : Prop := ∃ i : Nat, i ≤ 10 ∧ s.testBit i = true ∧ m 9 ((i : Int) * 6 + 0) = 1
theorem CQ.sz {s : Nat} (a : CQ m m1) : SZ m1 s ↔ SZ m s := by unfold SZ; rw [a.nine]
/-- a set is loaded: kL is what the first row and the rules say -/
theorem cs_loadLS {s : Nat} {as : Bool} {Q : vm_M → Prop} (h : kq m s)
    (hQ : ∀ m' hs N P', (hs = true ↔ as = true ∨ SZ m s) → CQ m m' → RB m' → vm_R (m' 6 3) → RU m' N P' → N ≤ 116 → (∀ x, (box 0 m' x ∧ P' x) ↔ kL m s hs x) → Q m') :
    vm_cn G (d + 5) mX2_load [.inr (.inr 2), .inr (.inr 1), .inl (s : Int), .inl (vm_b2i as)] m Q := by
  refine cs_load (most := m 1 2) (S := kS m s) h.1 ⟨rfl, h.2.1⟩ h.2.2.1 (fun g hg => hg.1) h.fa (fun m' mg hs hh L f => ?_)
  obtain ⟨a, b, N, P', c, e, g⟩ := LDD_iff h.2.1 h.2.2.2 hh L
  exact hQ m' hs N P' hh ⟨fun c i p q => f c i (by omega) (by omega) (by omega) (by omega) (by omega), a.2⟩ a b c e g
theorem cnt_one {α : Type} {S : α → Prop} {r : Nat} (h : cnt S 1 r) : (r = 0 ↔ ¬ ∃ u, S u) := by
  obtain ⟨l, n1, s1, e1, le1, c1⟩ := h
  constructor
  · rintro rfl ⟨u, hu⟩
    have := c1 (by decide) u hu
    rw [List.length_eq_zero_iff.mp e1] at this
    cases this
  · intro hno
    rcases Nat.eq_zero_or_pos r with q | q
    · exact q
    · exfalso
      have : 0 < l.length := by omega
      obtain ⟨u, hu⟩ := List.exists_mem_of_length_pos this
      exact hno ⟨u, s1 u hu⟩
/-- is there a solution of the first row and the rules? -/
theorem cs_some {n : Int} {P : fc_G → Prop} {Q : vm_M → Int → Prop} (hB : RB m) (hR : RU m n P) (hS : vm_R (m 6 3)) (hQ : ∀ (m' : vm_M) (r : Int), CQ m m' → (0 ≤ r ∧ r ≤ 1) → (r = 0 ↔ ¬ ∃ h, box 0 m h ∧ P h) → (r ≠ 0 → SD n m' (FS 0 n m)) → Q m' r) : vm_ci G (d + 22) mX5_howMany [.inr (.inr 6), .inl 1] m Q := by
  refine cs_howMany (lim := 1) (n := n) hB hR.rw' hR.wg hS (by decide) (fun m' r se c sd => hQ m' (r : Int) se.cq (by have := cnt_le c; omega) ?_ (fun z => sd (by omega)))
  have e := cnt_one c
  constructor
  · intro z ⟨h, hh⟩
    exact e.mp (by omega) ⟨nrm h, FS.cs hR.rw' ((hR.fs h).mpr hh)⟩
  · intro z
    have : r = 0 := e.mpr (fun ⟨u, hu⟩ => z ⟨u, (hR.fs u).mp hu.1⟩)
    omega
theorem kL_some {s : Nat} {hs : Bool} (h : kq m s) : (∃ x, kL m s hs x) ↔ ∃ g, kS m s g :=
  ⟨fun ⟨x, hx⟩ => ⟨gh x, hx.2.2⟩, fun ⟨g, hg⟩ => ⟨_, kL_hg h.2.1 h.2.2.2 hg⟩⟩
theorem cs_canHold {s : Nat} {Q : vm_M → Bool → Prop} (h : kq m s) (hQ : ∀ (m' : vm_M) (b : Bool), CQ m m' → (b = true ↔ ∃ g, kS m s g) → Q m' b) : vm_cb G (d + 23) mX2_canHold [.inr (.inr 2), .inr (.inr 1), .inl (s : Int)] m Q := by
  refine qX2_canHold (cs_loadLS (d := d + 17) (as := false) h (fun m1 hs N P' _ cq hB hS hR hN hP => cs_some (d := d) hB hR hS (fun m3 r c3 hr h0 _ => ⟨⟨by omega, by omega⟩, fun z => hQ m3 false (cq.trans c3) ⟨fun w => by simp at w, fun w => ?_⟩, fun z => hQ m3 true (cq.trans c3) ⟨fun _ => ?_, fun _ => rfl⟩⟩)))
  · obtain ⟨x, hx⟩ := (kL_some (hs := hs) h).mpr w
    exact absurd ⟨x, (hP x).mpr hx⟩ (h0.mp z)
  · have : ¬ ¬ ∃ x, box 0 m1 x ∧ P' x := fun w => z (h0.mpr w)
    obtain ⟨x, hx⟩ := Classical.not_not.mp this
    exact (kL_some (hs := hs) h).mp ⟨x, (hP x).mp hx⟩
end CAN
