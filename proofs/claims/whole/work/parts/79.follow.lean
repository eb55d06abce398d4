/-! THE CLASS'S ANSWERS: what follows. And: an answer speaks of the facts that there are alone -/
section FOL
variable {G : vm_G} {d : Nat} {m m1 m2 : vm_M}
/-- two states that tell the same -/
def ste (st st' : Int → Int) : Prop := st 0 = st' 0 ∧ st 1 = st' 1 ∧ ∀ x : Int, 0 ≤ x → x < 6 * st 1 → st (2 + x) = st' (2 + x)
theorem ste.symm {st st' : Int → Int} (h : ste st st') : ste st' st := ⟨h.1.symm, h.2.1.symm, fun x x0 x1 => (h.2.2 x x0 (by rw [h.2.1]; exact x1)).symm⟩
theorem ste.trans {a b c : Int → Int} (h : ste a b) (k : ste b c) : ste a c := ⟨h.1.trans k.1, h.2.1.trans k.2.1, fun x x0 x1 => (h.2.2 x x0 x1).trans (k.2.2 x x0 (by rw [← h.2.1]; exact x1))⟩
theorem ste.refl (a : Int → Int) : ste a a := ⟨rfl, rfl, fun _ _ _ => rfl⟩
theorem ste.tup {st st' : Int → Int} (h : ste st st') {i : Int} (h0 : 0 ≤ i) (h1 : i < st 1) : rf_tup st (2 + 6 * i) = rf_tup st' (2 + 6 * i) := by
  have e : ∀ j : Int, 0 ≤ j → j ≤ 5 → st (2 + 6 * i + j) = st' (2 + 6 * i + j) := fun j j0 j1 => by
    rw [show 2 + 6 * i + j = 2 + (6 * i + j) by omega]
    exact h.2.2 _ (by omega) (by omega)
  unfold rf_tup
  rw [e 0 (by decide) (by decide), e 1 (by decide) (by decide), e 2 (by decide) (by decide), e 3 (by decide) (by decide), e 4 (by decide) (by decide), e 5 (by decide) (by decide)]
theorem ste.slE {st st' : Int → Int} (h : ste st st') : sl st = sl st' := by
  funext s g
  unfold sl
  rw [h.1, h.2.1]
  apply propext
  constructor
  · rintro ⟨a, b⟩
    exact ⟨a, fun i hi hb => by rw [← h.tup (by omega) (by rw [h.2.1]; exact hi)]; exact b i hi hb⟩
  · rintro ⟨a, b⟩
    exact ⟨a, fun i hi hb => by rw [h.tup (by omega) (by rw [h.2.1]; exact hi)]; exact b i hi hb⟩
theorem ste.allE {st st' : Int → Int} (h : ste st st') : st_all st = st_all st' := by unfold st_all; rw [h.2.1]
theorem ste.hasE {st st' : Int → Int} (h : ste st st') : an_has st ↔ an_has st' := by unfold an_has; rw [h.slE, h.allE]
theorem ste.bcE {st st' : Int → Int} (h : ste st st') : bd_c st = bd_c st' := by
  funext s v x
  unfold bd_c
  rw [h.slE]
theorem ste.bsE {st st' : Int → Int} (h : ste st st') : bd_s st = bd_s st' := by
  funext s v x
  unfold bd_s
  rw [h.slE]
theorem ste.lxE {st st' : Int → Int} (h : ste st st') : ∀ n : Nat, lx st n = lx st' n
  | 0 => by
    funext g
    simp only [lx]
    rw [h.slE, h.allE]
  | n + 1 => by
    funext g
    simp only [lx]
    rw [ste.lxE h n]
theorem ste.SE {st st' : Int → Int} (h : ste st st') : an_S st = an_S st' := by
  funext g
  unfold an_S
  rw [h.slE, h.allE]
theorem un_bound {st st' : Int → Int} (h : ste st st') {bag kind what r r' : Int} (a : an_bound st bag kind what r) (b : an_bound st' bag kind what r') : r = r' := by
  unfold an_bound at a b
  rw [h.bcE, h.allE] at a
  rcases a with ⟨a1, a2⟩ | ⟨a1, a2, a3⟩ | ⟨a1, a2, a3⟩ <;> rcases b with ⟨b1, b2⟩ | ⟨b1, b2, b3⟩ | ⟨b1, b2, b3⟩
  · omega
  · exact absurd a1 b1
  · exact absurd a1 b1
  · exact absurd b1 a1
  · omega
  · exact absurd b2 a2
  · exact absurd b1 a1
  · exact absurd a2 b2
  · exact bdd_unique a2 a3 b3
theorem un_size {st st' : Int → Int} (h : ste st st') {bag what r r' : Int} (a : an_size st bag what r) (b : an_size st' bag what r') : r = r' := by
  unfold an_size at a b
  rw [h.bsE, h.allE] at a
  rcases a with ⟨a1, a2⟩ | ⟨a1, a2, a3⟩ | ⟨a1, a2, a3⟩ <;> rcases b with ⟨b1, b2⟩ | ⟨b1, b2, b3⟩ | ⟨b1, b2, b3⟩
  · omega
  · exact absurd b1 a1
  · exact absurd b1 a1
  · exact absurd a1 b1
  · omega
  · exact absurd b2 a2
  · exact absurd a1 b1
  · exact absurd a2 b2
  · exact bdd_unique a2 a3 b3
theorem un_least {st st' : Int → Int} (h : ste st st') {bag kind r r' : Int} (a : an_least st bag kind r) (b : an_least st' bag kind r') : r = r' := by
  unfold an_least at a b
  rw [h.lxE, h.hasE] at a
  have has : ∀ g n, lx st' n g → an_has st' := fun g n hg => ⟨g, lx_has hg⟩
  rcases a with ⟨a1, a2⟩ | ⟨a1, a2, a3⟩ | ⟨a1, g, a2, a3⟩ <;> rcases b with ⟨b1, b2⟩ | ⟨b1, b2, b3⟩ | ⟨b1, g', b2, b3⟩
  · omega
  · exact absurd a1 b1
  · exact absurd a1 b1
  · exact absurd b1 a1
  · omega
  · exact absurd (has _ _ b2) a2
  · exact absurd b1 a1
  · exact absurd (has _ _ a2) b2
  · rw [a3, b3]
    have := an_bad_not a1
    exact lx_same a2 b2 _ (by omega) (by omega)
theorem un_solutions {st st' : Int → Int} (h : ste st st') {lim r r' : Int} (a : an_solutions st lim r) (b : an_solutions st' lim r') : r = r' := by
  unfold an_solutions at a b
  rw [h.SE] at a
  rcases a with ⟨a1, a2⟩ | ⟨a1, n, a2, a3⟩ <;> rcases b with ⟨b1, b2⟩ | ⟨b1, n', b2, b3⟩
  · omega
  · exact absurd b1 a1
  · exact absurd a1 b1
  · rw [a3, b3, cnt_unique a2 b2]
theorem un_follows {st st' : Int → Int} (h : ste st st') {t : fc_T} {r r' : Int} (a : an_follows st t r) (b : an_follows st' t r') : r = r' := by
  unfold an_follows at a b
  rw [h.slE, h.allE, h.hasE] at a
  rcases a with ⟨a1, a2⟩ | ⟨a1, a2, a3⟩ | ⟨a1, ⟨g0, hg0⟩, a3⟩ <;> rcases b with ⟨b1, b2⟩ | ⟨b1, b2, b3⟩ | ⟨b1, b2, b3⟩
  · omega
  · exact absurd b1 a1
  · exact absurd b1 a1
  · exact absurd a1 b1
  · omega
  · exact absurd b2 a2
  · exact absurd a1 b1
  · exact absurd ⟨g0, hg0⟩ b2
  · rcases a3 with ⟨p, p2⟩ | ⟨p, p2⟩ | ⟨⟨x, x1, x2⟩, ⟨y, y1, y2⟩, p2⟩ <;> rcases b3 with ⟨q, q2⟩ | ⟨q, q2⟩ | ⟨⟨x', x3, x4⟩, ⟨y', y3, y4⟩, q2⟩
    · omega
    · exact absurd (q g0 hg0) (p g0 hg0)
    · exact absurd x4 (p x' x3)
    · exact absurd (p g0 hg0) (q g0 hg0)
    · omega
    · exact absurd (p y' y3) y4
    · exact absurd x2 (q x x1)
    · exact absurd (q y y1) y2
    · omega
theorem un_contra {st st' : Int → Int} (h : ste st st') {r r' : Int} (a : an_contra st r) (b : an_contra st' r') : r = r' := by
  unfold an_contra at a b
  rw [h.slE, h.allE, h.hasE, h.2.1] at a
  rcases a with ⟨a1, a2⟩ | ⟨a1, a2⟩ <;> rcases b with ⟨b1, b2⟩ | ⟨b1, b2⟩
  · omega
  · exact absurd a1 b1
  · exact absurd b1 a1
  · rw [a2, b2]
theorem un_reason {st st' : Int → Int} (h : ste st st') {bag kind what r r' : Int} (a : an_reason st bag kind what r) (b : an_reason st' bag kind what r') : r = r' := by
  unfold an_reason at a b
  rw [h.bcE, h.allE, h.hasE, h.2.1] at a
  rcases a with ⟨a1, a2⟩ | ⟨a1, a2, a3⟩ | ⟨a1, a2, a3⟩ <;> rcases b with ⟨b1, b2⟩ | ⟨b1, b2, b3⟩ | ⟨b1, b2, b3⟩
  · omega
  · exact absurd a1 b1
  · exact absurd a1 b1
  · exact absurd b1 a1
  · omega
  · exact absurd b2 a2
  · exact absurd b1 a1
  · exact absurd a2 b2
  · rcases a3 with ⟨p1, p2⟩ | ⟨x, p1, p2, p3⟩ <;> rcases b3 with ⟨q1, q2⟩ | ⟨y, q1, q2, q3⟩
    · omega
    · exact absurd q1 p1
    · exact absurd p1 q1
    · have e := bdd_unique a2 p2 q2
      subst e
      rw [p3, q3]
theorem un_needless {st st' : Int → Int} (h : ste st st') {r r' : Int} (a : an_needless st r) (b : an_needless st' r') : r = r' := by
  unfold an_needless at a b
  rw [h.slE, h.allE, h.hasE] at a
  rcases a with ⟨a1, a2⟩ | ⟨a1, n, a2, a3⟩ <;> rcases b with ⟨b1, b2⟩ | ⟨b1, n', b2, b3⟩
  · omega
  · exact absurd b1 a1
  · exact absurd a1 b1
  · rw [a2, b2]
    have : n = n' := by
      apply Nat.eq_of_testBit_eq
      intro i
      rw [Bool.eq_iff_iff, a3, b3, h.2.1]
      constructor
      · rintro ⟨p, q⟩
        exact ⟨p, by rw [← h.tup (by omega) (by rw [h.2.1]; omega)]; exact q⟩
      · rintro ⟨p, q⟩
        exact ⟨p, by rw [h.tup (by omega) (by rw [h.2.1]; omega)]; exact q⟩
    rw [this]
/-- what the class's questions may change, with the row that is asked about -/
def CQ9 (m m' : vm_M) : Prop := (∀ (c : Nat) (i : Int), ¬ (13 ≤ c ∧ c ≤ 23) → ¬ (6 ≤ c ∧ c ≤ 8) → ¬ (c = 9 ∧ 60 ≤ i ∧ i < 66) → m' c i = m c i) ∧ (0 ≤ m' 6 4 ∧ m' 6 4 < 65536)
theorem CQ.n (a : CQ m m1) : CQ9 m m1 := ⟨fun c i p q _ => a.1 c i p q, a.2⟩
theorem CQ9.trans (a : CQ9 m m1) (b : CQ9 m1 m2) : CQ9 m m2 := ⟨fun c i p q r => (b.1 c i p q r).trans (a.1 c i p q r), b.2⟩
theorem AK10.cq9 (a : AK10 m m1) (h : 0 ≤ m 6 4 ∧ m 6 4 < 65536) : CQ9 m m1 := ⟨fun c i _ _ r => a c i r, by rw [a 6 4 (by simp)]; exact h⟩
theorem CQ9.ste (a : CQ9 m m1) (h : m 1 1 ≤ 10) : ste (kst m) (kst m1) := by
  refine ⟨(a.1 1 2 (by decide) (by decide) (by simp)).symm, (a.1 1 1 (by decide) (by decide) (by simp)).symm, fun x x0 x1 => ?_⟩
  rw [kst_1] at x1
  rw [kst_2 x0, kst_2 x0]
  exact (a.1 9 x (by decide) (by decide) (by omega)).symm
theorem ste.v {st st' : Int → Int} (h : ste st st') (v : st_v st) : st_v st' := ⟨by rw [← h.1]; exact v.1, by rw [← h.2.1]; exact v.2.1, fun i i0 i1 => by
  rw [← h.2.1] at i1
  rw [← h.tup i0 i1]
  exact v.2.2 i i0 i1⟩
theorem CQ9.ok (a : CQ9 m m1) (h : kok m) : kok m1 := ⟨(a.ste h.k.2).v h.1, a.2⟩
theorem AK10.ok (a : AK10 m m1) (h : kok m) : kok m1 := (a.cq9 h.2).ok h
theorem ste.followsE {st st' : Int → Int} (h : ste st st') {t : fc_T} {r : Int} (a : an_follows st t r) : an_follows st' t r := by
  unfold an_follows at a ⊢
  rw [h.slE, h.allE, h.hasE] at a
  exact a
theorem kS_or {s : Nat} (g : fc_G) : kS m (s ||| 1024) g ↔ kS m s g ∧ fc_holds (rf_tup (m 9) 60) g := by
  have tb : ∀ i : Nat, (s ||| 1024).testBit i = (s.testBit i || decide (10 = i)) := fun i => zz_tb_or s 10 i
  constructor
  · rintro ⟨a, b⟩
    exact ⟨⟨a, fun i hi hb => b i hi (by rw [tb, hb]; rfl)⟩, b 10 (by decide) (by rw [tb]; simp)⟩
  · rintro ⟨⟨a, b⟩, c⟩
    refine ⟨a, fun i hi hb => ?_⟩
    rw [tb, Bool.or_eq_true, decide_eq_true_eq] at hb
    rcases hb with hb | rfl
    · exact b i hi hb
    · exact c
theorem cs_follows {f a b c e' e : Int} {Q : vm_M → Int → Prop} (hG : opsG G) (hf : vm_R f) (ha : vm_R a) (hb : vm_R b) (hc : vm_R c) (hd : vm_R e') (he : vm_R e) (h : kok m) (hQ : ∀ (m' : vm_M) (r : Int), CQ9 m m' → an_follows (kst m) (f, a, b, c, e', e) r → Q m' r) : vm_ci G (d + 24) mX7_follows [.inr (.inr 0), .inl f, .inl a, .inl b, .inl c, .inl e', .inl e] m Q := by
  refine qX7_follows (cs_ask (d := d + 20) hf ha hb hc hd he (fun n => ⟨fun z => Bool.noConfusion z, fun _ => hQ m _ (CQ.refl h.2).n (Or.inl ⟨n, rfl⟩)⟩) (fun m1 hv k1 ht => ⟨fun _ => ?_, fun z => Bool.noConfusion z⟩))
  have h1 := k1.ok h
  have c1 := k1.cq9 h.2
  have s1 := (c1.ste h.k.2).symm
  have done : ∀ (m' : vm_M) (r : Int), CQ m1 m' → an_follows (kst m1) (f, a, b, c, e', e) r → Q m' r := fun m' r cc an => hQ m' r (c1.trans cc.n) (s1.followsE an)
  have hs := h1.all
  refine cs_all h1 (cs_canHold h1.qall (fun m5 b5 c5 hb5 => ⟨fun z => ?_, fun z => done m5 _ c5 (Or.inr (Or.inl ⟨hv, fun w => (by have := hb5.mpr ((has_kS h1).mpr w); rw [z] at this; cases this), rfl⟩))⟩))
  have hhas := (has_kS h1).mp (hb5.mp z)
  have h5 := c5.ok h1
  have ks : ∀ g, kS m1 (st_all (kst m1)) g ↔ sl (kst m1) (st_all (kst m1)) g := kS_sl h1.k.2 kin_all
  refine cs_all h5 ?_
  rw [c5.kst]
  have e10 : ((10 : Int) * 6) = 60 := rfl
  refine cs_canFail (i := 10) hG (by decide) (c5.q h1.qall) (by rw [c5.nine, e10, ht]; exact hv) (fun m9 b9 c9 hb9 => ⟨fun z9 => ?_, fun z9 => ?_⟩)
  · rw [c5.eS, c5.nine, e10, ht] at hb9
    have c59 := c5.trans c9
    refine cs_all (c59.ok h1) ?_
    rw [c59.kst]
    have eo := zz_or (st_all (kst m1)) 1024 (by omega) (by decide)
    rw [show ((1024 : Nat) : Int) = 1024 from rfl] at eo
    rw [eo]
    have lt : st_all (kst m1) ||| 1024 < 2 ^ 11 := zz_or_lt 11 (by omega) (by decide)
    have hq : kq m9 (st_all (kst m1) ||| 1024) := c59.q ⟨by omega, h1.1.1, h1.2, fun i hi hb => by
      have tb : (st_all (kst m1) ||| 1024).testBit i = ((st_all (kst m1)).testBit i || decide (10 = i)) := zz_tb_or _ 10 i
      rw [tb, Bool.or_eq_true, decide_eq_true_eq] at hb
      rcases hb with hb | rfl
      · exact h1.qall.2.2.2 i hi hb
      · show fc_v (rf_tup (m1 9) 60)
        rw [ht]; exact hv⟩
    refine cs_canHold hq (fun m13 b13 c13 hb13 => ⟨fun z13 => done m13 _ (c59.trans c13) (Or.inr (Or.inr ⟨hv, hhas, Or.inl ⟨fun g hg w => ?_, rfl⟩⟩)), fun z13 => done m13 _ (c59.trans c13) (Or.inr (Or.inr ⟨hv, hhas, Or.inr (Or.inr ⟨?_, ?_, rfl⟩)⟩))⟩)
    · have := hb13.mpr ⟨g, by rw [c59.eS]; exact (kS_or g).mpr ⟨(ks g).mpr hg, by rw [ht]; exact w⟩⟩
      rw [z13] at this; cases this
    · obtain ⟨g, hg⟩ := hb13.mp z13
      rw [c59.eS] at hg
      obtain ⟨g1, g2⟩ := (kS_or g).mp hg
      rw [ht] at g2
      exact ⟨g, (ks g).mp g1, g2⟩
    · obtain ⟨g, g1, g2⟩ := hb9.mp z9
      exact ⟨g, (ks g).mp g1, g2⟩
  · rw [c5.eS, c5.nine, e10, ht] at hb9
    refine done m9 _ (c5.trans c9) (Or.inr (Or.inr ⟨hv, hhas, Or.inr (Or.inl ⟨fun g hg => Classical.byContradiction fun w => ?_, rfl⟩)⟩))
    have := hb9.mpr ⟨g, (ks g).mpr hg, w⟩
    rw [z9] at this; cases this
end FOL
