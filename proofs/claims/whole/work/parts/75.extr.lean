/-! THE CLASS: the state as the answers tell it, and the greatest or least value -/
section EXT
variable {G : vm_G} {d : Nat} {m m1 m2 : vm_M}
def kst (m : vm_M) : Int → Int := fun x => if x = 0 then m 1 2 else if x = 1 then m 1 1 else m 9 (x - 2)
theorem kst_0 : kst m 0 = m 1 2 := rfl
theorem kst_1 : kst m 1 = m 1 1 := rfl
theorem kst_2 {x : Int} (h : 0 ≤ x) : kst m (2 + x) = m 9 x := by
  unfold kst
  rw [if_neg (by omega), if_neg (by omega), show 2 + x - 2 = x by omega]
theorem kst_tup {i : Int} (h : 0 ≤ i) : rf_tup (kst m) (2 + 6 * i) = rf_tup (m 9) (i * 6) := by
  have e : ∀ j : Int, 0 ≤ j → kst m (2 + 6 * i + j) = m 9 (i * 6 + j) := fun j hj => by
    rw [show 2 + 6 * i + j = 2 + (i * 6 + j) by omega, kst_2 (by omega)]
  unfold rf_tup
  rw [e 0 (by decide), e 1 (by decide), e 2 (by decide), e 3 (by decide), e 4 (by decide), e 5 (by decide)]
theorem CQ.kst (a : CQ m m1) : kst m1 = kst m := by
  funext x
  show (if x = 0 then m1 1 2 else if x = 1 then m1 1 1 else m1 9 (x - 2)) = _
  rw [a.one, a.nine]
  rfl
/-- a set of facts that there are -/
def kin (m : vm_M) (s : Nat) : Prop := ∀ i : Nat, s.testBit i = true → (i : Int) < m 1 1
theorem kS_sl {s : Nat} (hk : m 1 1 ≤ 10) (h : kin m s) (g : fc_G) : kS m s g ↔ sl (kst m) s g := by
  unfold kS sl
  rw [kst_0, kst_1]
  constructor
  · rintro ⟨a, b⟩
    exact ⟨a, fun i hi hb => by rw [kst_tup (by omega)]; exact b i (by omega) hb⟩
  · rintro ⟨a, b⟩
    refine ⟨a, fun i hi hb => ?_⟩
    have := b i (h i hb) hb
    rwa [kst_tup (by omega)] at this
/-- the class is in order -/
def kok (m : vm_M) : Prop := st_v (kst m) ∧ (0 ≤ m 6 4 ∧ m 6 4 < 65536)
theorem CQ.ok (a : CQ m m1) (h : kok m) : kok m1 := ⟨by rw [a.kst]; exact h.1, a.2⟩
theorem kin_all : kin m (st_all (kst m)) := fun i hb => by
  rw [st_all_bit] at hb
  have := of_decide_eq_true hb
  rw [kst_1] at this
  omega
theorem kok.q {s : Nat} (h : kok m) (hs : s < 2048) (hi : kin m s) : kq m s := ⟨hs, h.1.1, h.2, fun i _ hb => by
  have := h.1.2.2 i (by omega) (hi i hb)
  rwa [kst_tup (by omega)] at this⟩
theorem kok.k (h : kok m) : 0 ≤ m 1 1 ∧ m 1 1 ≤ 10 := h.1.2.1
theorem kok.all (h : kok m) : st_all (kst m) < 1024 := (st_all_int h.1.2.1).2
theorem cs_all {Q : vm_M → Int → Prop} (h : kok m) (hQ : Q m ((st_all (kst m) : Nat) : Int)) : vm_ci G d mX0_all [.inr (.inr 1)] m Q := by
  refine qX0_all ?_
  have := (st_all_int (st := kst m) h.1.2.1).1
  rw [kst_1] at this
  rw [this]
  exact hQ
/-- a count, or a size -/
def val (b k : Int) (g : fc_G) : Int := if k = 3 then g (3 * b) + g (3 * b + 1) + g (3 * b + 2) else g (3 * b + k)
def kP (m : vm_M) (s : Nat) (b k x : Int) : Prop := ∃ g, kS m s g ∧ val b k g = x
theorem val_kL {s : Nat} {hs : Bool} {b k : Int} {h : fc_G} (hb : 0 ≤ b ∧ b < 4) (hk : 0 ≤ k ∧ k < 4) (h3 : k = 3 → hs = true) (p : kL m s hs h) : val b k (gh h) = h (b * 4 + k) := by
  unfold val
  rw [h44 h]
  by_cases e : k = 3
  · rw [if_pos e, e, gh_0, gh_at (by decide), gh_at (by decide)]
    exact (p.2.1 (h3 e) b hb.1 hb.2).symm
  · rw [if_neg e, gh_at (by omega)]
theorem val_hg {hs : Bool} {b k : Int} {g : fc_G} (hk : 0 ≤ k ∧ k < 4) (h3 : k = 3 → hs = true) : hg hs g (b * 4 + k) = val b k g := by
  unfold val
  rw [h44 (hg hs g)]
  by_cases e : k = 3
  · rw [if_pos e, e, h3 e, hg_size]
  · rw [if_neg e, hg_at (by omega)]
theorem kP_iff {s : Nat} {hs : Bool} {b k x : Int} (h : kq m s) (hb : 0 ≤ b ∧ b < 4) (hk : 0 ≤ k ∧ k < 4) (h3 : k = 3 → hs = true) : kP m s b k x ↔ ∃ y, kL m s hs y ∧ y (b * 4 + k) = x := by
  constructor
  · rintro ⟨g, g1, g2⟩
    exact ⟨_, kL_hg h.2.1 h.2.2.2 g1, by rw [val_hg hk h3]; exact g2⟩
  · rintro ⟨y, y1, y2⟩
    exact ⟨gh y, y1.2.2, by rw [val_kL hb hk h3 y1]; exact y2⟩
theorem kP_bd {s : Nat} {b k x : Int} (h : kq m s) (hb : 0 ≤ b ∧ b < 4) (hk : 0 ≤ k ∧ k < 4) (hx : kP m s b k x) : 0 ≤ x ∧ x ≤ 18 := by
  obtain ⟨y, y1, y2⟩ := (kP_iff (hs := true) h hb hk (fun _ => rfl)).mp hx
  have := (kL.h18 h.2.1 y1) (b * 4 + k) (by omega) (by omega)
  omega
theorem cs_extreme_55 {s : Nat} {hs : Bool} {b k N p1 : Int} {gr : Bool} {Q : vm_M → Int → Prop} (h : kq m s) (hb : 0 ≤ b ∧ b < 4) (hk : 0 ≤ k ∧ k < 4) (h3 : k = 3 → hs = true) (hQ : ∀ (m' : vm_M) (r : Int), CQ m m' → bdd (kP m s b k) (vm_b2i gr) r → Q m' r) {m4 : vm_M} (c4 : CQ m m4) (sd : SD N m4 (kL m s hs)) :
    ∀ (n : Nat) (i : Int) (mk : vm_M), i + (n : Int) = m4 14 (b * 4 + k) - m4 13 (b * 4 + k) + 1 → 0 ≤ i → WF 0 m4 mk → (∀ j : Int, 0 ≤ j → j < i → ¬ kP m s b k (if gr = true then m4 14 (b * 4 + k) - j else m4 13 (b * 4 + k) + j)) →
    vm_ex G (d + 23) mX2_extreme 56 [some (.inr (.inr 2)), some (.inr (.inr 1)), some (.inl p1), some (.inl (b * 4 + k)), some (.inl (vm_b2i gr)), some (.inl (m4 13 (b * 4 + k))), some (.inl (m4 14 (b * 4 + k))), some (.inl i), none] [] mk (vm_qi Q) := by
  have ne := sd.1.1 (b * 4 + k) (by omega) (by omega)
  rw [row0] at ne
  have rng : ∀ x, kP m s b k x → m4 13 (b * 4 + k) ≤ x ∧ x ≤ m4 14 (b * 4 + k) := fun x hx => by
    obtain ⟨y, y1, y2⟩ := (kP_iff h hb hk h3).mp hx
    have := ((sd.2.2.2.2.2 y).mpr y1).1 (b * 4 + k) (by omega) (by omega)
    rw [row0] at this
    omega
  intro n
  induction n with
  | zero =>
    intro i mk hi i0 w hno
    refine qX2_extreme_56 ⟨⟨by omega, by omega⟩, ⟨by omega, by omega⟩, fun _ => hQ mk _ (c4.trans w.cq) (Or.inl ⟨rfl, fun x hx => ?_⟩), fun z => absurd (by omega) z⟩
    have r := rng x hx
    cases gr with
    | true => exact hno (m4 14 (b * 4 + k) - x) (by omega) (by omega) (by rw [if_pos rfl, show m4 14 (b * 4 + k) - (m4 14 (b * 4 + k) - x) = x by omega]; exact hx)
    | false => exact hno (x - m4 13 (b * 4 + k)) (by omega) (by omega) (by rw [if_neg (by decide), show m4 13 (b * 4 + k) + (x - m4 13 (b * 4 + k)) = x by omega]; exact hx)
  | succ n ih =>
    intro i mk hi i0 w hno
    have sk := sd.wf w
    have e13 : mk 13 (b * 4 + k) = m4 13 (b * 4 + k) := w.1 13 _ (by omega) (by omega)
    have e14 : mk 14 (b * 4 + k) = m4 14 (b * 4 + k) := w.1 14 _ (by omega) (by omega)
    refine qX2_extreme_56 ⟨⟨by omega, by omega⟩, ⟨by omega, by omega⟩, fun z => absurd z (by omega), fun _ => ⟨fun e => ?_, fun e => ?_⟩⟩
    · subst e
      refine cs_canBe (d := d + 1) sk (by omega) (by omega) (fun m3 r w3 hr => ⟨fun z => ih (i + 1) m3 (by omega) (by omega) (w.trans w3) (fun j j0 j1 => ?_), fun z => hQ m3 _ (c4.trans (w.trans w3).cq) (Or.inr ⟨(kP_iff h hb hk h3).mpr (hr.mp z), fun x hx => ⟨fun _ => ?_, fun q => by simp [vm_b2i] at q⟩⟩)⟩)
      · by_cases ej : j = i
        · subst ej
          rw [if_neg (by decide)]
          intro hx
          have := hr.mpr ((kP_iff h hb hk h3).mp hx)
          rw [z] at this; simp at this
        · exact hno j j0 (by omega)
      · rcases Int.lt_or_le x (m4 13 (b * 4 + k) + i) with q | q
        · have r := rng x hx
          have := hno (x - m4 13 (b * 4 + k)) (by omega) (by omega)
          rw [if_neg (by decide), show m4 13 (b * 4 + k) + (x - m4 13 (b * 4 + k)) = x by omega] at this
          exact absurd hx this
        · exact q
    · subst e
      refine cs_canBe (d := d + 1) sk (by omega) (by omega) (fun m3 r w3 hr => ⟨fun z => ih (i + 1) m3 (by omega) (by omega) (w.trans w3) (fun j j0 j1 => ?_), fun z => hQ m3 _ (c4.trans (w.trans w3).cq) (Or.inr ⟨(kP_iff h hb hk h3).mpr (hr.mp z), fun x hx => ⟨fun q => by simp [vm_b2i] at q, fun _ => ?_⟩⟩)⟩)
      · by_cases ej : j = i
        · subst ej
          rw [if_pos rfl]
          intro hx
          have := hr.mpr ((kP_iff h hb hk h3).mp hx)
          rw [z] at this; simp at this
        · exact hno j j0 (by omega)
      · rcases Int.lt_or_le (m4 14 (b * 4 + k) - i) x with q | q
        · have r := rng x hx
          have := hno (m4 14 (b * 4 + k) - x) (by omega) (by omega)
          rw [if_pos rfl, show m4 14 (b * 4 + k) - (m4 14 (b * 4 + k) - x) = x by omega] at this
          exact absurd hx this
        · exact q
theorem cs_extreme {s : Nat} {b k : Int} {gr : Bool} {Q : vm_M → Int → Prop} (h : kq m s) (hb : 0 ≤ b ∧ b < 4) (hk : 0 ≤ k ∧ k < 4) (hQ : ∀ (m' : vm_M) (r : Int), CQ m m' → bdd (kP m s b k) (vm_b2i gr) r → Q m' r) : vm_ci G (d + 23) mX2_extreme [.inr (.inr 2), .inr (.inr 1), .inl (s : Int), .inl (b * 4 + k), .inl (vm_b2i gr)] m Q := by
  have er : vm_rem (b * 4 + k) 4 = k := by rw [zz_rem (by omega) (by omega) (by decide) (by decide)]; omega
  have step : ∀ as : Bool, (k = 3 → as = true) → vm_cn G (d + 22) mX2_load [.inr (.inr 2), .inr (.inr 1), .inl (s : Int), .inl (vm_b2i as)] m (fun m2 => vm_cb G (d + 22) mX5_settleAll [.inr (.inr 6)] m2 (fun m4 r5 => (r5 = true → (0 ≤ b * 4 + k ∧ b * 4 + k < 272) ∧ vm_ex G (d + 23) mX2_extreme 56 [some (.inr (.inr 2)), some (.inr (.inr 1)), some (.inl (s : Int)), some (.inl (b * 4 + k)), some (.inl (vm_b2i gr)), some (.inl (m4 13 (b * 4 + k))), some (.inl (m4 14 (b * 4 + k))), some (.inl 0), none] [] m4 (vm_qi Q)) ∧ (r5 = false → Q m4 (-6)))) := fun as has => by
    refine cs_loadLS (d := d + 17) h (fun m2 hs N P' hh c2 hB hS hR _ hP => ?_)
    have h3 : k = 3 → hs = true := fun e => hh.mpr (Or.inl (has e))
    refine cs_settleAll (d := d + 18) hB hR.rw' hR.wg hS (fun m4 r se no yes => ⟨fun z => ⟨by omega, ?_⟩, fun z => hQ m4 _ (c2.trans se.cq) (Or.inl ⟨rfl, fun x hx => ?_⟩)⟩)
    · obtain ⟨s1, s2, s3, s4, s5, s6⟩ := yes z
      have sd : SD N m4 (kL m s hs) := ⟨s1, s2, s3, s4, s5, fun y => (s6 y).trans ((hR.fs y).trans (hP y))⟩
      have ne := s1.1 (b * 4 + k) (by omega) (by omega)
      rw [row0] at ne
      exact cs_extreme_55 h hb hk h3 hQ (c2.trans se.cq) sd (m4 14 (b * 4 + k) - m4 13 (b * 4 + k) + 1).toNat 0 m4 (by omega) (by decide) (WF.refl s1) (fun j j0 j1 => by omega)
    · obtain ⟨y, y1, _⟩ := (kP_iff h hb hk h3).mp hx
      exact no z y ((hR.fs y).mpr ((hP y).mpr y1))
  refine qX2_extreme ?_
  rw [er]
  exact ⟨⟨by omega, by omega⟩, fun hne => step false (fun e => absurd e hne), fun he => step true (fun _ => rfl)⟩
end EXT
