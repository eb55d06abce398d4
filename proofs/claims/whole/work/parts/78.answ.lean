/-! THE CLASS'S ANSWERS -/
section CAN2
variable {G : vm_G} {d : Nat} {m m1 m2 : vm_M}
theorem kP_c {s : Nat} {b k : Int} (hk1 : m 1 1 ≤ 10) (h : kin m s) (hk : k ≠ 3) : kP m s b k = bd_c (kst m) s (3 * b + k) := by
  funext x
  unfold kP bd_c val
  apply propext
  constructor
  · rintro ⟨g, g1, g2⟩
    rw [if_neg hk] at g2
    exact ⟨g, (kS_sl hk1 h g).mp g1, g2⟩
  · rintro ⟨g, g1, g2⟩
    exact ⟨g, (kS_sl hk1 h g).mpr g1, by rw [if_neg hk]; exact g2⟩
theorem kP_s {s : Nat} {b : Int} (hk1 : m 1 1 ≤ 10) (h : kin m s) : kP m s b 3 = bd_s (kst m) s b := by
  funext x
  unfold kP bd_s val
  apply propext
  constructor
  · rintro ⟨g, g1, g2⟩
    rw [if_pos rfl] at g2
    exact ⟨g, (kS_sl hk1 h g).mp g1, g2⟩
  · rintro ⟨g, g1, g2⟩
    exact ⟨g, (kS_sl hk1 h g).mpr g1, by rw [if_pos rfl]; exact g2⟩
theorem cs_refusal {bag kind what : Int} {Q : vm_M → Int → Prop} (h1 : vm_R bag) (h2 : vm_R kind) (h3 : vm_R what) (hQ : ∀ r : Int, (an_bad bag kind ∧ r = -1) ∨ (¬ an_bad bag kind ∧ ¬ (what = 0 ∨ what = 1) ∧ r = -2) ∨ (¬ an_bad bag kind ∧ (what = 0 ∨ what = 1) ∧ r = 0) → Q m r) : vm_ci G (d + 2) mX7_refusalOfBound [.inl bag, .inl kind, .inl what] m Q :=
  qX7_refusalOfBound (cs_isBag2 h1 (fun n => ⟨fun _ => hQ _ (Or.inl ⟨fun w => n w.1, rfl⟩), fun z => Bool.noConfusion z⟩) (fun q => ⟨fun z => Bool.noConfusion z, fun _ => cs_isKind2 h2 (fun n => ⟨fun z => Bool.noConfusion z, fun _ => hQ _ (Or.inl ⟨fun w => n w.2, rfl⟩)⟩) (fun q2 => ⟨fun _ => cs_in2 h3 ⟨by decide, by decide⟩ ⟨by decide, by decide⟩ (fun n => ⟨fun _ => hQ _ (Or.inr (Or.inl ⟨fun w => w ⟨q, q2⟩, by omega, rfl⟩)), fun z => Bool.noConfusion z⟩) (fun q3 => ⟨fun z => Bool.noConfusion z, fun _ => hQ _ (Or.inr (Or.inr ⟨fun w => w ⟨q, q2⟩, by omega, rfl⟩))⟩), fun z => Bool.noConfusion z⟩)⟩))
/-- both ways of asking for a bound -/
theorem cs_extreme2 {s : Nat} {b k what : Int} {Q : vm_M → Int → Prop} (h : kq m s) (hb : 0 ≤ b ∧ b < 4) (hk : 0 ≤ k ∧ k < 4) (hw : what = 0 ∨ what = 1) (hQ : ∀ (m' : vm_M) (r : Int), CQ m m' → bdd (kP m s b k) what r → Q m' r) : (vm_R what) ∧ ((¬ what = 1 → vm_ci G (d + 23) mX2_extreme [.inr (.inr 2), .inr (.inr 1), .inl (s : Int), .inl (b * 4 + k), .inl 0] m Q) ∧ (what = 1 → vm_ci G (d + 23) mX2_extreme [.inr (.inr 2), .inr (.inr 1), .inl (s : Int), .inl (b * 4 + k), .inl 1] m Q)) := by
  refine ⟨⟨by omega, by omega⟩, fun z => ?_, fun z => ?_⟩
  · have e : what = 0 := by omega
    subst e
    exact cs_extreme (gr := false) h hb hk hQ
  · subst z
    exact cs_extreme (gr := true) h hb hk hQ
theorem bdd_R {P : Int → Prop} {what r : Int} (h : ∀ x, P x → 0 ≤ x ∧ x ≤ 18) (hb : bdd P what r) : vm_R r := by
  rcases hb with ⟨rfl, _⟩ | ⟨h1, _⟩
  · exact ⟨by decide, by decide⟩
  · have := h r h1; exact ⟨by omega, by omega⟩
theorem kok.qall (h : kok m) : kq m (st_all (kst m)) := h.q (by have := h.all; omega) kin_all
theorem cs_bound {bag kind what : Int} {Q : vm_M → Int → Prop} (h1 : vm_R bag) (h2 : vm_R kind) (h3 : vm_R what) (h : kok m) (hQ : ∀ (m' : vm_M) (r : Int), CQ m m' → an_bound (kst m) bag kind what r → Q m' r) : vm_ci G (d + 24) mX7_bound [.inr (.inr 0), .inl bag, .inl kind, .inl what] m Q := by
  refine qX7_bound (cs_refusal (d := d + 21) h1 h2 h3 (fun r hr => ?_))
  rcases hr with ⟨a, rfl⟩ | ⟨a, b, rfl⟩ | ⟨a, b, rfl⟩
  · exact ⟨⟨by decide, by decide⟩, fun z => absurd z (by decide), fun _ => hQ m _ (CQ.refl h.2) (Or.inl ⟨a, rfl⟩)⟩
  · exact ⟨⟨by decide, by decide⟩, fun z => absurd z (by decide), fun _ => hQ m _ (CQ.refl h.2) (Or.inr (Or.inl ⟨a, b, rfl⟩))⟩
  · obtain ⟨q1, q2⟩ := an_bad_not a
    exact ⟨⟨by decide, by decide⟩, fun _ => cs_all h (cm_variable (cs_extreme2 h.qall (by omega) (by omega) b (fun m' r c hb => hQ m' r c (Or.inr (Or.inr ⟨a, b, by rw [kP_c h.k.2 kin_all (by omega)] at hb; exact hb⟩))))), fun z => absurd rfl z⟩
theorem cs_sizeOf {bag what : Int} {Q : vm_M → Int → Prop} (h1 : vm_R bag) (h3 : vm_R what) (h : kok m) (hQ : ∀ (m' : vm_M) (r : Int), CQ m m' → an_size (kst m) bag what r → Q m' r) : vm_ci G (d + 24) mX7_sizeOf [.inr (.inr 0), .inl bag, .inl what] m Q := by
  refine qX7_sizeOf (cs_refusal (d := d + 21) h1 ⟨by decide, by decide⟩ h3 (fun r hr => ?_))
  rcases hr with ⟨a, rfl⟩ | ⟨a, b, rfl⟩ | ⟨a, b, rfl⟩
  · exact ⟨⟨by decide, by decide⟩, fun z => absurd z (by decide), fun _ => hQ m _ (CQ.refl h.2) (Or.inl ⟨fun w => a ⟨w, by decide⟩, rfl⟩)⟩
  · exact ⟨⟨by decide, by decide⟩, fun z => absurd z (by decide), fun _ => hQ m _ (CQ.refl h.2) (Or.inr (Or.inl ⟨(an_bad_not a).1, b, rfl⟩))⟩
  · obtain ⟨q1, q2⟩ := an_bad_not a
    exact ⟨⟨by decide, by decide⟩, fun _ => cs_all h (cm_variable (cs_extreme2 h.qall (by omega) (by decide) b (fun m' r c hb => hQ m' r c (Or.inr (Or.inr ⟨q1, b, by rw [kP_s h.k.2 kin_all] at hb; exact hb⟩))))), fun z => absurd rfl z⟩
theorem cs_least {bag kind : Int} {Q : vm_M → Int → Prop} (h1 : vm_R bag) (h2 : vm_R kind) (h : kok m) (hQ : ∀ (m' : vm_M) (r : Int), CQ m m' → an_least (kst m) bag kind r → Q m' r) : vm_ci G (d + 25) mX7_least [.inr (.inr 0), .inl bag, .inl kind] m Q := by
  refine qX7_least (cs_isBag2 h1 (fun n => ⟨fun _ => hQ m _ (CQ.refl h.2) (Or.inl ⟨fun w => n w.1, rfl⟩), fun z => Bool.noConfusion z⟩) (fun q => ⟨fun z => Bool.noConfusion z, fun _ => cs_isKind2 h2 (fun n => ⟨fun z => Bool.noConfusion z, fun _ => hQ m _ (CQ.refl h.2) (Or.inl ⟨fun w => n w.2, rfl⟩)⟩) (fun q2 => ⟨fun _ => cm_variable (cs_inLeastSolution h q q2 (fun m' r c hr => hQ m' r c ?_)), fun z => Bool.noConfusion z⟩)⟩))
  have nb : ¬ an_bad bag kind := fun w => w ⟨q, q2⟩
  rcases hr with ⟨a, b⟩ | a
  · exact Or.inr (Or.inl ⟨nb, a, b⟩)
  · exact Or.inr (Or.inr ⟨nb, a⟩)
theorem cs_solutions {lim : Int} {Q : vm_M → Int → Prop} (hl : vm_R lim) (h : kok m) (hQ : ∀ (m' : vm_M) (r : Int), CQ m m' → an_solutions (kst m) lim r → Q m' r) : vm_ci G (d + 24) mX7_solutions [.inr (.inr 0), .inl lim] m Q := by
  refine qX7_solutions (cs_in2 hl ⟨by decide, by decide⟩ ⟨by decide, by decide⟩ (fun n => ⟨fun z => Bool.noConfusion z, fun _ => hQ m _ (CQ.refl h.2) (Or.inl ⟨n, rfl⟩)⟩) (fun q => ⟨fun _ => ?_, fun z => Bool.noConfusion z⟩))
  have e : lim = ((lim.toNat : Nat) : Int) := by omega
  have := cs_logicHowMany (G := G) (d := d) (lim := lim.toNat) (Q := Q) h (by omega) (fun m' r c hc => hQ m' _ c (Or.inr ⟨q, r, hc, rfl⟩))
  rw [← e] at this
  exact this
theorem has_kS (h : kok m) : (∃ g, kS m (st_all (kst m)) g) ↔ an_has (kst m) := by
  unfold an_has
  exact ⟨fun ⟨g, hg⟩ => ⟨g, (kS_sl h.k.2 kin_all g).mp hg⟩, fun ⟨g, hg⟩ => ⟨g, (kS_sl h.k.2 kin_all g).mpr hg⟩⟩
theorem cs_isPossible {Q : vm_M → Int → Prop} (h : kok m) (hQ : ∀ (m' : vm_M) (r : Int), CQ m m' → ((an_has (kst m) ∧ r = 1) ∨ (¬ an_has (kst m) ∧ r = 0)) → Q m' r) : vm_ci G (d + 24) mX7_isPossible [.inr (.inr 0)] m Q :=
  qX7_isPossible (cs_all h (cs_canHold h.qall (fun m' b c hb => ⟨fun z => hQ m' _ c (Or.inr ⟨fun w => (by have := hb.mpr ((has_kS h).mpr w); rw [z] at this; cases this), rfl⟩), fun z => hQ m' _ c (Or.inl ⟨(has_kS h).mp (hb.mp z), rfl⟩)⟩)))
theorem red_sub {B : Nat → Prop} {s : Nat} : ∀ (n i : Nat), (red B s n).testBit i = true → s.testBit i = true
  | 0, _, h => h
  | n + 1, i, h => by
    by_cases z : B (clr (red B s n) n)
    · rw [red_yes z, clr_bit, Bool.and_eq_true] at h
      exact red_sub n i h.1
    · rw [red_no z] at h
      exact red_sub n i h
theorem kin_clr {s n : Nat} (h : kin m s) : kin m (clr s n) := fun i hb => by
  rw [clr_bit, Bool.and_eq_true] at hb
  exact h i hb.1
theorem kin_red {B : Nat → Prop} {n : Nat} : kin m (red B (st_all (kst m)) n) := fun i hb => kin_all i (red_sub n i hb)
theorem CQ.kin {s : Nat} (c : CQ m m1) (h : kin m s) : kin m1 s := fun i hb => by rw [c.one]; exact h i hb
theorem cs_contradiction_24 {Q : vm_M → Int → Prop} (h : kok m) (hno : ¬ an_has (kst m)) (hQ : ∀ (m' : vm_M) (r : Int), CQ m m' → an_contra (kst m) r → Q m' r) :
    ∀ (n k : Nat) (mk : vm_M), (m 1 1).toNat = k + n → CQ m mk → vm_ex G (d + 24) mX7_contradiction 28 [some (.inr (.inr 0)), some (.inl ((red (fun s => ¬ ∃ g, sl (kst m) s g) (st_all (kst m)) k : Nat) : Int)), some (.inl (k : Int)), none] [] mk (vm_qi Q) := by
  have hs := h.all
  have hK := h.k
  intro n
  induction n with
  | zero =>
    intro k mk hk c
    have e1 : mk 1 1 = m 1 1 := by rw [c.one]
    have : k = (m 1 1).toNat := by omega
    subst this
    exact qX7_contradiction_28 ⟨⟨by omega, by omega⟩, ⟨by omega, by omega⟩, fun _ => hQ mk _ c (Or.inr ⟨hno, rfl⟩), fun z => absurd (by omega) z⟩
  | succ n ih =>
    intro k mk hk c
    have e1 : mk 1 1 = m 1 1 := by rw [c.one]
    have hr := red_le (fun s => ¬ ∃ g, sl (kst m) s g) (st_all (kst m)) k
    have hc := clr_le (red (fun s => ¬ ∃ g, sl (kst m) s g) (st_all (kst m)) k) k
    have hkin : kin m (clr (red (fun s => ¬ ∃ g, sl (kst m) s g) (st_all (kst m)) k) k) := kin_clr kin_red
    refine qX7_contradiction_28 ⟨⟨by omega, by omega⟩, ⟨by omega, by omega⟩, fun z => absurd z (by omega), fun _ => ?_⟩
    rw [zz_clrI _ k (by omega) (by omega)]
    refine cs_canHold (c.q (h.q (by omega) hkin)) (fun m3 b c3 hb => ⟨fun z => ?_, fun z => ?_⟩)
    · have hy : ¬ (¬ ∃ g, sl (kst m) (clr (red (fun s => ¬ ∃ g, sl (kst m) s g) (st_all (kst m)) k) k) g) := fun w => by
        obtain ⟨g, g1⟩ := hb.mp z
        rw [c.eS] at g1
        exact w ⟨g, (kS_sl hK.2 hkin g).mp g1⟩
      have := ih (k + 1) m3 (by omega) (c.trans c3)
      rw [red_no (B := fun s => ¬ ∃ g, sl (kst m) s g) hy] at this
      exact this
    · have hy : ¬ ∃ g, sl (kst m) (clr (red (fun s => ¬ ∃ g, sl (kst m) s g) (st_all (kst m)) k) k) g := fun ⟨g, hg⟩ => by
        have := hb.mpr ⟨g, by rw [c.eS]; exact (kS_sl hK.2 hkin g).mpr hg⟩
        rw [z] at this; cases this
      have := ih (k + 1) m3 (by omega) (c.trans c3)
      rw [red_yes (B := fun s => ¬ ∃ g, sl (kst m) s g) hy] at this
      exact this
theorem cs_contradiction {Q : vm_M → Int → Prop} (h : kok m) (hQ : ∀ (m' : vm_M) (r : Int), CQ m m' → an_contra (kst m) r → Q m' r) : vm_ci G (d + 24) mX7_contradiction [.inr (.inr 0)] m Q := by
  refine qX7_contradiction (cs_all h (cs_canHold h.qall (fun m1 b c hb => ⟨fun z => ?_, fun z => hQ m1 _ c (Or.inl ⟨(has_kS h).mp (hb.mp z), rfl⟩)⟩)))
  exact cs_contradiction_24 h (fun w => by have := hb.mpr ((has_kS h).mpr w); rw [z] at this; cases this) hQ (m 1 1).toNat 0 m1 (by omega) c
theorem cs_reason_68 {bag kind what b x4 : Int} {Q : vm_M → Int → Prop} (h : kok m) (hb : 0 ≤ bag ∧ bag ≤ 3) (hk : 0 ≤ kind ∧ kind ≤ 2) (hw : what = 0 ∨ what = 1) (hbR : vm_R b) (hQ : ∀ (m' : vm_M) (r : Int), CQ m m' → r = ((red (fun s => bdd (bd_c (kst m) s (3 * bag + kind)) what b) (st_all (kst m)) (m 1 1).toNat : Nat) : Int) → Q m' r) :
    ∀ (n k : Nat) (mk : vm_M), (m 1 1).toNat = k + n → CQ m mk → vm_ex G (d + 24) mX7_reason 72 [some (.inr (.inr 0)), some (.inl bag), some (.inl kind), some (.inl what), some (.inl x4), some (.inl ((red (fun s => bdd (bd_c (kst m) s (3 * bag + kind)) what b) (st_all (kst m)) k : Nat) : Int)), some (.inl (bag * 4 + kind)), some (.inl b), some (.inl (k : Int)), none] [] mk (vm_qi Q) := by
  have hs := h.all
  have hK := h.k
  intro n
  induction n with
  | zero =>
    intro k mk hkk c
    have e1 : mk 1 1 = m 1 1 := by rw [c.one]
    have : k = (m 1 1).toNat := by omega
    subst this
    exact qX7_reason_72 ⟨⟨by omega, by omega⟩, ⟨by omega, by omega⟩, fun _ => hQ mk _ c rfl, fun z => absurd (by omega) z⟩
  | succ n ih =>
    intro k mk hkk c
    have e1 : mk 1 1 = m 1 1 := by rw [c.one]
    have hr := red_le (fun s => bdd (bd_c (kst m) s (3 * bag + kind)) what b) (st_all (kst m)) k
    have hc := clr_le (red (fun s => bdd (bd_c (kst m) s (3 * bag + kind)) what b) (st_all (kst m)) k) k
    have hkin : kin m (clr (red (fun s => bdd (bd_c (kst m) s (3 * bag + kind)) what b) (st_all (kst m)) k) k) := kin_clr kin_red
    have hq := c.q (h.q (by omega) hkin)
    refine qX7_reason_72 ⟨⟨by omega, by omega⟩, ⟨by omega, by omega⟩, fun z => absurd z (by omega), fun _ => ?_⟩
    rw [zz_clrI _ k (by omega) (by omega)]
    refine cs_extreme2 hq (by omega) (by omega) hw (fun m3 r c3 h3 => ?_)
    have hrR := bdd_R (fun x hx => kP_bd hq (by omega) (by omega) hx) h3
    rw [kP_c (by omega) (c.kin hkin) (by omega), c.kst] at h3
    refine ⟨hrR, hbR, fun hne => ?_, fun he => ?_⟩
    · have := ih (k + 1) m3 (by omega) (c.trans c3)
      rw [red_no (B := fun s => bdd (bd_c (kst m) s (3 * bag + kind)) what b) (fun w => hne (bdd_unique hw h3 w))] at this
      exact this
    · have := ih (k + 1) m3 (by omega) (c.trans c3)
      rw [red_yes (B := fun s => bdd (bd_c (kst m) s (3 * bag + kind)) what b) (by rw [he] at h3; exact h3)] at this
      exact this
theorem cs_reason {bag kind what : Int} {Q : vm_M → Int → Prop} (h1 : vm_R bag) (h2 : vm_R kind) (h3 : vm_R what) (h : kok m) (hQ : ∀ (m' : vm_M) (r : Int), CQ m m' → an_reason (kst m) bag kind what r → Q m' r) : vm_ci G (d + 24) mX7_reason [.inr (.inr 0), .inl bag, .inl kind, .inl what] m Q := by
  refine qX7_reason (cs_refusal (d := d + 21) h1 h2 h3 (fun r hr => ?_))
  rcases hr with ⟨a, rfl⟩ | ⟨a, b, rfl⟩ | ⟨a, b, rfl⟩
  · exact ⟨⟨by decide, by decide⟩, fun z => absurd z (by decide), fun _ => hQ m _ (CQ.refl h.2) (Or.inl ⟨a, rfl⟩)⟩
  · exact ⟨⟨by decide, by decide⟩, fun z => absurd z (by decide), fun _ => hQ m _ (CQ.refl h.2) (Or.inr (Or.inl ⟨a, b, rfl⟩))⟩
  · obtain ⟨q1, q2⟩ := an_bad_not a
    refine ⟨⟨by decide, by decide⟩, fun _ => cs_all h (cm_variable (cs_extreme2 h.qall (by omega) (by omega) b (fun m1 r c hb => ?_))), fun z => absurd rfl z⟩
    have hrR := bdd_R (fun x hx => kP_bd h.qall (by omega) (by omega) hx) hb
    have hbd := fun x hx => kP_bd (x := x) h.qall (b := bag) (k := kind) (by omega) (by omega) hx
    rw [kP_c h.k.2 kin_all (by omega)] at hb hbd
    refine ⟨hrR, fun z => ?_, fun z => ?_⟩
    · rcases hb with ⟨e, _⟩ | hyes
      · exact absurd e z
      · obtain ⟨g, g1, g2⟩ := id hyes.1
        exact cs_reason_68 h q1 q2 b hrR (fun m' r' c' e => hQ m' r' c' (Or.inr (Or.inr ⟨a, b, Or.inr ⟨r, ⟨g, g1⟩, Or.inr hyes, e⟩⟩))) (m 1 1).toNat 0 m1 (by omega) c
    · rcases hb with ⟨_, hno⟩ | hyes
      · exact hQ m1 _ c (Or.inr (Or.inr ⟨a, b, Or.inl ⟨fun ⟨g, hg⟩ => hno _ ⟨g, hg, rfl⟩, rfl⟩⟩))
      · have := hbd r hyes.1
        omega
theorem cs_needless_26 {Q : vm_M → Int → Prop} (hG : opsG G) (h : kok m) (hhas : an_has (kst m)) (hQ : ∀ (m' : vm_M) (r : Int), CQ m m' → an_needless (kst m) r → Q m' r) :
    ∀ (n k : Nat) (mk : vm_M) (s : Nat), (m 1 1).toNat = k + n → CQ m mk → s < 1024 → (∀ i : Nat, s.testBit i = true ↔ i < k ∧ ¬ ∃ g, sl (kst m) (clr (st_all (kst m)) i) g ∧ ¬ fc_holds (rf_tup (kst m) (2 + 6 * (i : Int))) g) →
    vm_ex G (d + 24) mX7_needless 30 [some (.inr (.inr 0)), some (.inl ((st_all (kst m) : Nat) : Int)), some (.inl (s : Int)), some (.inl (k : Int))] [] mk (vm_qi Q) := by
  have hs := h.all
  have hK := h.k
  intro n
  induction n with
  | zero =>
    intro k mk s hk c hs1 hb
    have e1 : mk 1 1 = m 1 1 := by rw [c.one]
    have : k = (m 1 1).toNat := by omega
    subst this
    exact qX7_needless_30 ⟨⟨by omega, by omega⟩, ⟨by omega, by omega⟩, fun _ => hQ mk _ c (Or.inr ⟨hhas, s, rfl, hb⟩), fun z => absurd (by omega) z⟩
  | succ n ih =>
    intro k mk s hk c hs1 hb
    have e1 : mk 1 1 = m 1 1 := by rw [c.one]
    have hc := clr_le (st_all (kst m)) k
    have hkin : kin m (clr (st_all (kst m)) k) := kin_clr kin_all
    have hv := h.1.2.2 (k : Int) (by omega) (by rw [kst_1]; omega)
    rw [kst_tup (by omega)] at hv
    refine qX7_needless_30 ⟨⟨by omega, by omega⟩, ⟨by omega, by omega⟩, fun z => absurd z (by omega), fun _ => ?_⟩
    rw [zz_clrI _ k (by omega) (by omega)]
    refine cs_canFail hG (by omega) (c.q (h.q (by omega) hkin)) (by rw [c.nine]; exact hv) (fun m1 r c1 h1 => ?_)
    have h2 : r = true ↔ ∃ g, sl (kst m) (clr (st_all (kst m)) k) g ∧ ¬ fc_holds (rf_tup (kst m) (2 + 6 * (k : Int))) g := by
      rw [h1, c.eS, c.nine, kst_tup (by omega)]
      exact ⟨fun ⟨g, g1, g2⟩ => ⟨g, (kS_sl hK.2 hkin g).mp g1, g2⟩, fun ⟨g, g1, g2⟩ => ⟨g, (kS_sl hK.2 hkin g).mpr g1, g2⟩⟩
    have p2 : 2 ^ k < 2 ^ 10 := zz_pow_lt (by omega)
    refine ⟨fun z => ?_, fun z => ?_⟩
    · refine ih (k + 1) m1 s (by omega) (c.trans c1) hs1 (fun i => ?_)
      rw [hb i]
      constructor
      · rintro ⟨a, w⟩; exact ⟨by omega, w⟩
      · rintro ⟨a, w⟩
        by_cases e : i = k
        · subst e; exact absurd (h2.mp z) w
        · exact ⟨by omega, w⟩
    · rw [zz_orbit s k (by omega) (by omega)]
      refine ih (k + 1) m1 (s ||| 2 ^ k) (by omega) (c.trans c1) (zz_or_lt 10 hs1 p2) (fun i => ?_)
      rw [zz_tb_or, Bool.or_eq_true, hb i, decide_eq_true_eq]
      constructor
      · rintro (a | rfl)
        · exact ⟨by omega, a.2⟩
        · exact ⟨by omega, fun w => by have := h2.mpr w; rw [z] at this; cases this⟩
      · rintro ⟨a, w⟩
        by_cases e : i = k
        · exact Or.inr e.symm
        · exact Or.inl ⟨by omega, w⟩
theorem cs_needless {Q : vm_M → Int → Prop} (hG : opsG G) (h : kok m) (hQ : ∀ (m' : vm_M) (r : Int), CQ m m' → an_needless (kst m) r → Q m' r) : vm_ci G (d + 24) mX7_needless [.inr (.inr 0)] m Q := by
  refine qX7_needless (cs_all h (cs_canHold h.qall (fun m1 b c hb => ⟨fun z => ?_, fun z => hQ m1 _ c (Or.inl ⟨fun w => (by have := hb.mpr ((has_kS h).mpr w); rw [z] at this; cases this), rfl⟩)⟩)))
  exact cs_needless_26 hG h ((has_kS h).mp (hb.mp z)) hQ (m 1 1).toNat 0 m1 0 (by omega) c (by decide) (fun i => by simp)
end CAN2
