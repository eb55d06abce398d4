/-! THE CLASS: how many solutions, and the least one -/
section LEA
variable {G : vm_G} {d : Nat} {m m1 m2 : vm_M}
theorem sl_congr {st : Int → Int} {s : Nat} {g g' : fc_G} (hv : st_v st) (he : ∀ v : Int, 0 ≤ v → v < 12 → g v = g' v) (h : sl st s g) : sl st s g' :=
  ⟨fun v v0 v1 => by rw [← he v v0 v1]; exact h.1 v v0 v1, fun i hi hb => fc_holds_ext (hv.2.2 (i : Int) (by omega) hi) he (h.2 i hi hb)⟩
theorem lx_congr {st : Int → Int} (hv : st_v st) {g g' : fc_G} (he : ∀ v : Int, 0 ≤ v → v < 12 → g v = g' v) : ∀ {n : Nat}, n ≤ 12 → lx st n g → lx st n g'
  | 0, _, h => sl_congr hv he h
  | n + 1, hn, h => ⟨lx_congr hv he (by omega) h.1, fun g2 h2 => by rw [← he (n : Int) (by omega) (by omega)]; exact h.2 g2 h2⟩
theorem lx_same {st : Int → Int} {g g' : fc_G} : ∀ {n : Nat}, lx st n g → lx st n g' → ∀ j : Int, 0 ≤ j → j < (n : Int) → g j = g' j
  | 0, _, _, j, j0, j1 => absurd j1 (by omega)
  | n + 1, h, h', j, j0, j1 => by
    by_cases e : j = (n : Int)
    · subst e
      exact Int.le_antisymm (h.2 g' h'.1) (h'.2 g h.1)
    · exact lx_same h.1 h'.1 j j0 (by omega)
/-- how many counts come ahead of a variable -/
def cix (v : Int) : Nat := (3 * (v / 4) + min (v % 4) 3).toNat
theorem hg_congr {hs : Bool} {g g' : fc_G} (he : ∀ v : Int, 0 ≤ v → v < 12 → g v = g' v) {v : Int} (v0 : 0 ≤ v) (v1 : v < 16) : hg hs g v = hg hs g' v := by
  unfold hg
  by_cases e : v % 4 = 3
  · rw [if_pos e, if_pos e, he _ (by omega) (by omega), he _ (by omega) (by omega), he _ (by omega) (by omega)]
  · rw [if_neg e, if_neg e, he _ (by omega) (by omega)]
theorem tb4095 {v : Nat} (hv : v < 12) : (4095 : Nat).testBit v = true := by
  rw [show (4095 : Nat) = 2 ^ 12 - 1 from rfl, Nat.testBit_two_pow_sub_one]; simp [hv]
theorem rs_all {g : fc_G} {v : Int} (v0 : 0 ≤ v) (v1 : v < 12) : rs_U 4095 g v = g v := by
  have := rs_U_in (g := g) (U := 4095) (v := v.toNat) (by omega) (tb4095 (by omega))
  rwa [Int.toNat_of_nonneg v0] at this
/-- what the search counts, as the reference does -/
theorem cnt_an {hs : Bool} {N : Int} {P' : fc_G → Prop} {lim r : Nat} (h : kok m) (hR : RU m1 N P') (hP : ∀ x, (box 0 m1 x ∧ P' x) ↔ kL m (st_all (kst m)) hs x) (c : cnt (CS 0 N m1) lim r) : cnt (an_S (kst m)) lim r := by
  have hq := h.q (by have := h.all; omega) (kin_all (m := m))
  have key : ∀ x, CS 0 N m1 x ↔ kL m (st_all (kst m)) hs x ∧ ∀ v : Int, ¬ (0 ≤ v ∧ v < 16) → x v = 0 := fun x => by
    unfold CS
    rw [hR.fs x, hP x]
  have ks : ∀ g, kS m (st_all (kst m)) g ↔ sl (kst m) (st_all (kst m)) g := kS_sl h.k.2 kin_all
  refine cnt_map (fun x => rs_U 4095 (gh x)) c (fun a ha => ⟨?_, rs_U_idem _ _⟩) (fun a b ha hb e => ?_) (fun g hg2 => ?_)
  · exact sl_congr h.1 (fun v v0 v1 => (rs_all v0 v1).symm) ((ks _).mp ((key a).mp ha).1.2.2)
  · obtain ⟨a1, a2⟩ := (key a).mp ha
    obtain ⟨b1, b2⟩ := (key b).mp hb
    funext v
    by_cases hv : 0 ≤ v ∧ v < 16
    · rw [← a1.back hv.1 hv.2, ← b1.back hv.1 hv.2]
      refine hg_congr (fun u u0 u1 => ?_) hv.1 hv.2
      have : rs_U 4095 (gh a) u = rs_U 4095 (gh b) u := congrFun e u
      rwa [rs_all u0 u1, rs_all u0 u1] at this
    · rw [a2 v hv, b2 v hv]
  · obtain ⟨g1, g2⟩ := hg2
    refine ⟨nrm (hg hs g), (key _).mpr ⟨?_, fun v hv => by unfold nrm; rw [if_neg hv]⟩, ?_⟩
    · have hx := kL_hg (hs := hs) hq.2.1 hq.2.2.2 ((ks g).mpr g1)
      have en : ∀ v : Int, 0 ≤ v → v < 16 → nrm (hg hs g) v = hg hs g v := fun v v0 v1 => nrm_in v0 v1
      refine ⟨fun v v0 v1 => by rw [en v v0 v1]; exact hx.1 v v0 v1, fun e b b0 b1 => ?_, kS_congr hq.2.2.2 (fun v v0 v1 => ?_) ((ks g).mpr g1)⟩
      · have := hx.2.1 e b b0 b1
        unfold bg_sum at this ⊢
        rw [en _ (by omega) (by omega), en _ (by omega) (by omega), en _ (by omega) (by omega), en _ (by omega) (by omega)]
        exact this
      · obtain ⟨b, k, hb, hk, rfl⟩ := v12 v0 v1
        rw [gh_at hk, en _ (by omega) (by omega), hg_at hk]
    · show rs_U 4095 (gh (nrm (hg hs g))) = g
      rw [← g2]
      refine rs_U_ext fun v hv _ => ?_
      obtain ⟨b, k, hb, hk, e⟩ := v12 (v := (v : Int)) (by omega) (by omega)
      rw [e, gh_at hk, nrm_in (by omega) (by omega), hg_at hk, ← e, rs_all (by omega) (by omega)]
theorem cs_logicHowMany {lim : Nat} {Q : vm_M → Int → Prop} (h : kok m) (hl : 1 ≤ lim ∧ lim ≤ 500) (hQ : ∀ (m' : vm_M) (r : Nat), CQ m m' → cnt (an_S (kst m)) lim r → Q m' (r : Int)) : vm_ci G (d + 23) mX2_howMany [.inr (.inr 2), .inr (.inr 1), .inl (lim : Int)] m Q := by
  have hq := h.q (by have := h.all; omega) (kin_all (m := m))
  refine qX2_howMany (cs_all h (cs_loadLS (d := d + 17) (as := false) hq (fun m1 hs N P' _ c1 hB hS hR _ hP => cs_howMany (d := d) hB hR.rw' hR.wg hS hl (fun m3 r se c _ => hQ m3 r (c1.trans se.cq) (cnt_an h hR hP c)))))
/-- the least solutions so far -/
def kX (m : vm_M) (hs : Bool) (v : Int) (x : fc_G) : Prop := kL m (st_all (kst m)) hs x ∧ lx (kst m) (cix v) (gh x)
theorem kX_next {hs : Bool} {v y : Int} (h : kok m) (hv : 0 ≤ v ∧ v < 16) (h1 : ∃ x, kX m hs v x ∧ x v = y) (h2 : ∀ x, kX m hs v x → y ≤ x v) (x : fc_G) : kX m hs v x ∧ x v = y ↔ kX m hs (v + 1) x := by
  have hq := h.q (by have := h.all; omega) (kin_all (m := m))
  obtain ⟨x0, ⟨p0, q0⟩, e0⟩ := h1
  obtain ⟨b, k, hb, hk, rfl⟩ := v16 hv.1 hv.2
  have ks : ∀ g, kS m (st_all (kst m)) g ↔ sl (kst m) (st_all (kst m)) g := kS_sl h.k.2 kin_all
  by_cases e : k = 3
  · subst e
    have c1 : cix (4 * b + 3 + 1) = cix (4 * b + 3) := by unfold cix; omega
    have c2 : ((cix (4 * b + 3) : Nat) : Int) = 3 * b + 3 := by unfold cix; omega
    unfold kX
    rw [c1]
    refine ⟨fun z => z.1, fun z => ⟨z, ?_⟩⟩
    have sm := lx_same z.2 q0
    rw [← e0, ← z.1.back hv.1 hv.2, ← p0.back hv.1 hv.2]
    cases hs with
    | false => rw [hg_none, hg_none]
    | true => rw [hg_size, hg_size, sm _ (by omega) (by omega), sm _ (by omega) (by omega), sm _ (by omega) (by omega)]
  · have c1 : cix (4 * b + k + 1) = cix (4 * b + k) + 1 := by unfold cix; omega
    have c2 : ((cix (4 * b + k) : Nat) : Int) = 3 * b + k := by unfold cix; omega
    have at_ : ∀ z : fc_G, gh z ((cix (4 * b + k) : Nat) : Int) = z (4 * b + k) := fun z => by rw [c2, gh_at (by omega)]
    unfold kX
    rw [c1]
    constructor
    · rintro ⟨⟨z1, z2⟩, z3⟩
      refine ⟨z1, z2, fun g' hg' => ?_⟩
      rw [at_, z3]
      have hx := kL_hg (hs := hs) hq.2.1 hq.2.2.2 ((ks g').mpr (lx_has hg'))
      have q := h2 _ ⟨hx, lx_congr h.1 (fun u u0 u1 => (gh_hg u0 u1).symm) (by omega) hg'⟩
      rw [hg_at (by omega), ← c2] at q
      exact q
    · rintro ⟨z1, z2, z3⟩
      refine ⟨⟨z1, z2⟩, ?_⟩
      have q1 := h2 x ⟨z1, z2⟩
      have q2 := z3 (gh x0) q0
      rw [at_, at_] at q2
      omega
theorem cs_least_54 {hs : Bool} {N v asked : Int} {Q : vm_M → Int → Prop} (h : kok m) (hv : 0 ≤ v ∧ v < 16)
    (hN : ∀ mk : vm_M, CQ m mk → SD N mk (kX m hs (v + 1)) → (∃ x, kX m hs (v + 1) x ∧ x v = mk 13 v) → vm_ex G (d + 23) mX2_inLeastSolution 26 [some (.inr (.inr 2)), some (.inr (.inr 1)), some (.inl asked), some (.inl (v + 1)), none, none] [] mk (vm_qi Q)) :
    ∀ (n : Nat) (y last : Int) (mk : vm_M), mk 14 v - y + 1 = (n : Int) → CQ m mk → SD N mk (kX m hs v) → (∃ x, kX m hs v x) → mk 13 v ≤ y → last ≤ mk 14 v → mk 13 v ≤ last → ((y ≤ last ∧ last = mk 14 v ∧ ∀ x, kX m hs v x → y ≤ x v) ∨ (y = last + 1 ∧ (∃ x, kX m hs v x ∧ x v = last) ∧ ∀ x, kX m hs v x → last ≤ x v)) →
    vm_ex G (d + 23) mX2_inLeastSolution 53 [some (.inr (.inr 2)), some (.inr (.inr 1)), some (.inl asked), some (.inl v), some (.inl last), some (.inl y)] [] mk (vm_qi Q) := by
  have fin : ∀ (last : Int) (mk : vm_M), CQ m mk → SD N mk (kX m hs v) → mk 13 v ≤ last → last ≤ mk 14 v → (∃ x, kX m hs v x ∧ x v = last) → (∀ x, kX m hs v x → last ≤ x v) → vm_cn G (d + 22) mX5_settleOn [.inr (.inr 6), .inl v, .inl last] mk (fun m3 => vm_ex G (d + 22 + 1) mX2_inLeastSolution 26 [some (.inr (.inr 2)), some (.inr (.inr 1)), some (.inl asked), some (.inl (v + 1)), none, none] [] m3 (vm_qi Q)) := fun last mk c sd l1 l2 hx hmin => by
    refine cs_settleOn (d := d + 18) sd hv ⟨l1, l2⟩ hx (fun m' se sd' e13 => hN m' (c.trans se.cq) ⟨sd'.1, sd'.2.1, sd'.2.2.1, sd'.2.2.2.1, sd'.2.2.2.2.1, fun x => (sd'.2.2.2.2.2 x).trans (kX_next h hv hx hmin x)⟩ ?_)
    obtain ⟨x, x1, x2⟩ := hx
    exact ⟨x, (kX_next h hv ⟨x, x1, x2⟩ hmin x).mp ⟨x1, x2⟩, by rw [e13]; exact x2⟩
  intro n
  induction n with
  | zero =>
    intro y last mk hn c sd hne hy hl hl2 hor
    have ne := sd.1.1 v hv.1 hv.2
    rw [row0] at ne
    rcases hor with ⟨a, b, _⟩ | ⟨a, b, e⟩
    · omega
    · exact qX2_inLeastSolution_53 ⟨⟨by omega, by omega⟩, ⟨by omega, by omega⟩, fun _ => fin last mk c sd hl2 hl b e, fun z => absurd (by omega) z⟩
  | succ n ih =>
    intro y last mk hn c sd hne hy hl hl2 hor
    have ne := sd.1.1 v hv.1 hv.2
    rw [row0] at ne
    have rng : ∀ x, kX m hs v x → mk 13 v ≤ x v ∧ x v ≤ mk 14 v := fun x hx => by
      have := ((sd.2.2.2.2.2 x).mpr hx).1 v hv.1 hv.2
      rwa [row0] at this
    refine qX2_inLeastSolution_53 ⟨⟨by omega, by omega⟩, ⟨by omega, by omega⟩, fun z => ?_, fun z => ?_⟩
    · rcases hor with ⟨a, b, e⟩ | ⟨a, b, e⟩
      · obtain ⟨x, hx⟩ := hne
        have r := rng x hx
        have q := e x hx
        exact fin last mk c sd hl2 hl ⟨x, hx, by omega⟩ (fun x' hx' => by have := e x' hx'; omega)
      · exact fin last mk c sd hl2 hl b e
    · have hA : y ≤ last ∧ last = mk 14 v ∧ ∀ x, kX m hs v x → y ≤ x v := by
        rcases hor with a | a
        · exact a
        · omega
      refine cs_canBe (d := d + 1) sd hv ⟨hy, by omega⟩ (fun m5 r w5 hr => ⟨fun e => ?_, fun e => ?_⟩)
      · have e14 : m5 14 v = mk 14 v := w5.1 14 v (by omega) (by omega)
        have e13 : m5 13 v = mk 13 v := w5.1 13 v (by omega) (by omega)
        refine ih (y + 1) last m5 (by omega) (c.trans w5.cq) (sd.wf w5) hne (by omega) (by omega) (by omega) (Or.inl ⟨by omega, by omega, fun x hx => ?_⟩)
        have q := hA.2.2 x hx
        by_cases ex : x v = y
        · have := hr.mpr ⟨x, hx, ex⟩
          rw [e] at this; simp at this
        · omega
      · have e14 : m5 14 v = mk 14 v := w5.1 14 v (by omega) (by omega)
        have e13 : m5 13 v = mk 13 v := w5.1 13 v (by omega) (by omega)
        exact ih (y + 1) y m5 (by omega) (c.trans w5.cq) (sd.wf w5) hne (by omega) (by omega) (by omega) (Or.inr ⟨rfl, hr.mp e, hA.2.2⟩)
theorem cs_least_28 {hs : Bool} {N asked : Int} {Q : vm_M → Int → Prop} (h : kok m) (ha : 0 ≤ asked ∧ asked < 16) (hQ : ∀ (mk : vm_M), CQ m mk → (∃ x, kX m hs (asked + 1) x ∧ x asked = mk 13 asked) → Q mk (mk 13 asked)) :
    ∀ (n : Nat) (v : Int) (mk : vm_M), asked + 1 - v = (n : Int) → 0 ≤ v → CQ m mk → SD N mk (kX m hs v) → (∃ x, kX m hs v x ∧ (1 ≤ v → x (v - 1) = mk 13 (v - 1))) →
    vm_ex G (d + 23) mX2_inLeastSolution 26 [some (.inr (.inr 2)), some (.inr (.inr 1)), some (.inl asked), some (.inl v), none, none] [] mk (vm_qi Q) := by
  intro n
  induction n with
  | zero =>
    intro v mk hn v0 c sd hx
    have e : v = asked + 1 := by omega
    subst e
    refine qX2_inLeastSolution_26 ⟨⟨by omega, by omega⟩, ⟨by omega, by omega⟩, fun _ => ⟨by omega, hQ mk c ?_⟩, fun z => absurd (by omega) z⟩
    obtain ⟨x, x1, x2⟩ := hx
    have := x2 (by omega)
    rw [show asked + 1 - 1 = asked by omega] at this
    exact ⟨x, x1, this⟩
  | succ n ih =>
    intro v mk hn v0 c sd hx
    have ne := sd.1.1 v v0 (by omega)
    rw [row0] at ne
    refine qX2_inLeastSolution_26 ⟨⟨by omega, by omega⟩, ⟨by omega, by omega⟩, fun z => absurd z (by omega), fun _ => ⟨by omega, ?_⟩⟩
    refine cs_least_54 h ⟨v0, by omega⟩ (fun m' c' sd' hx' => ih (v + 1) m' (by omega) (by omega) c' sd' ?_) (mk 14 v - mk 13 v + 1).toNat (mk 13 v) (mk 14 v) mk (by omega) c sd (by obtain ⟨x, x1, _⟩ := hx; exact ⟨x, x1⟩) (by omega) (by omega) (by omega) (Or.inl ⟨by omega, rfl, fun x hx => ?_⟩)
    · obtain ⟨x, x1, x2⟩ := hx'
      exact ⟨x, x1, fun _ => by rw [show v + 1 - 1 = v by omega]; exact x2⟩
    · have := ((sd.2.2.2.2.2 x).mpr hx).1 v v0 (by omega)
      rw [row0] at this
      exact this.1
theorem cs_inLeastSolution {b k : Int} {Q : vm_M → Int → Prop} (h : kok m) (hb : 0 ≤ b ∧ b ≤ 3) (hk : 0 ≤ k ∧ k ≤ 2) (hQ : ∀ (m' : vm_M) (r : Int), CQ m m' → ((¬ an_has (kst m) ∧ r = -6) ∨ ∃ g, lx (kst m) ((3 * b + k).toNat + 1) g ∧ r = g (3 * b + k)) → Q m' r) : vm_ci G (d + 24) mX2_inLeastSolution [.inr (.inr 2), .inr (.inr 1), .inl (b * 4 + k)] m Q := by
  have hq := h.q (by have := h.all; omega) (kin_all (m := m))
  have ks : ∀ g, kS m (st_all (kst m)) g ↔ sl (kst m) (st_all (kst m)) g := kS_sl h.k.2 kin_all
  refine qX2_inLeastSolution (cs_all h (cs_loadLS (d := d + 18) (as := false) hq (fun m1 hs N P' _ c1 hB hS hR _ hP => cs_some (d := d + 1) hB hR hS (fun m5 r c5 hr h0 sd => ⟨⟨by omega, by omega⟩, fun z => ?_, fun z => hQ m5 _ (c1.trans c5) (Or.inl ⟨fun w => ?_, rfl⟩)⟩))))
  · obtain ⟨s1, s2, s3, s4, s5, s6⟩ := sd z
    have e0 : cix 0 = 0 := by unfold cix; omega
    have sd0 : SD N m5 (kX m hs 0) := ⟨s1, s2, s3, s4, s5, fun y => (s6 y).trans ((hR.fs y).trans ((hP y).trans ⟨fun w => ⟨w, by rw [e0]; exact (ks _).mp w.2.2⟩, fun w => w.1⟩))⟩
    have hex : ¬ ¬ ∃ x, box 0 m1 x ∧ P' x := fun w => z (h0.mpr w)
    obtain ⟨x, hx⟩ := Classical.not_not.mp hex
    have hx2 := (hP x).mp hx
    refine cs_least_28 (d := d + 1) h (by omega) (fun mk ck hxk => hQ mk _ (ck) (Or.inr ?_)) (b * 4 + k + 1).toNat 0 m5 (by omega) (by decide) (c1.trans c5) sd0 ⟨x, ⟨hx2, by rw [e0]; exact (ks _).mp hx2.2.2⟩, fun w => by omega⟩
    obtain ⟨y, ⟨y1, y2⟩, y3⟩ := hxk
    have e1 : cix (b * 4 + k + 1) = (3 * b + k).toNat + 1 := by unfold cix; omega
    rw [e1] at y2
    exact ⟨gh y, y2, by rw [gh_at (by omega), ← y3, h44 y]⟩
  · obtain ⟨g, hg2⟩ := w
    have hx := kL_hg (hs := hs) hq.2.1 hq.2.2.2 ((ks g).mpr hg2)
    exact h0.mp z ⟨_, (hP _).mpr hx⟩
end LEA
