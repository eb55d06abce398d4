/-! THE REFERENCE'S ANSWERS -/
def st_v (st : Int → Int) : Prop := (1 ≤ st 0 ∧ st 0 ≤ 6) ∧ (0 ≤ st 1 ∧ st 1 ≤ 10) ∧ ∀ i : Int, 0 ≤ i → i < st 1 → fc_v (rf_tup st (2 + 6 * i))
theorem st_v.ok {st : Int → Int} (h : st_v st) : st_ok st := ⟨h.1, h.2.1, fun i h0 h1 => fc_v_wf (h.2.2 i h0 h1)⟩
section RA
variable {G : vm_G} {d : Nat} {m : vm_M}
theorem cm_boundBy_3 {set : Nat} {bag kind what : Int} {Q : vm_M → Int → Prop} (hs : set < 2147483648) (ok : st_ok (m 25)) (hb : 0 ≤ bag ∧ bag ≤ 3) (hk : 0 ≤ kind ∧ kind ≤ 2) (hw : what = 0 ∨ what = 1) (hQ : ∀ (m' : vm_M) (r : Int), rf_F m m' → bdd (bd_c (m 25) set (3 * bag + kind)) what r → Q m' r) :
    ∀ (n : Nat) (k : Int) (mk : vm_M), m 25 0 + 1 = k + (n : Int) → 0 ≤ k → rf_F m mk → (∀ j : Int, 0 ≤ j → j < k → ¬ bd_c (m 25) set (3 * bag + kind) (if what = 0 then j else m 25 0 - j)) →
    vm_ex G (d + 12) mX8_boundBy 3 [some (.inr (.inr 24)), some (.inl (set : Int)), some (.inl bag), some (.inl kind), some (.inl what), some (.inl k), none] [] mk (vm_qi Q) := by
  have hst := ok.1
  have hbox : ∀ v, bd_c (m 25) set (3 * bag + kind) v → 0 ≤ v ∧ v ≤ m 25 0 := fun v ⟨g, g1, g2⟩ => by
    have := g1.1 (3 * bag + kind) (by omega) (by omega)
    omega
  intro n
  induction n with
  | zero =>
    intro k mk hk h0 F hno
    have e0 : mk 25 0 = m 25 0 := by rw [F.st]
    refine qX8_boundBy_3 ⟨⟨by omega, by omega⟩, ⟨by omega, by omega⟩, fun _ => hQ mk (-6) F (Or.inl ⟨rfl, fun v hv => ?_⟩), fun h => absurd h (by omega)⟩
    have hb2 := hbox v hv
    rcases hw with rfl | rfl
    · exact hno v hb2.1 (by omega) hv
    · refine hno (m 25 0 - v) (by omega) (by omega) ?_
      rw [if_neg (by decide)]
      rw [show m 25 0 - (m 25 0 - v) = v by omega]; exact hv
  | succ n ih =>
    intro k mk hk h0 F hno
    have e0 : mk 25 0 = m 25 0 := by rw [F.st]
    have wf : ∀ x : Int, 0 ≤ x → x ≤ 6 → fc_wf (0, bag, kind, x, x, 0) := fun x x0 x1 => by simp only [fc_wf]; omega
    have hh : ∀ (x : Int) (g : fc_G), fc_holds (0, bag, kind, x, x, 0) g ↔ g (3 * bag + kind) = x := fun x g => by
      rw [fc_holds_one (by decide)]; simp [fc_at]; omega
    have next : ∀ (x : Int) (m4 : vm_M) (r5 : Bool), x = (if what = 0 then k else m 25 0 - k) → rf_F mk m4 → (r5 = true ↔ ∃ g, sl (mk 25) set g ∧ fc_holds (0, bag, kind, x, x, 0) g) → ((r5 = false → vm_ex G (d + 11 + 1) mX8_boundBy 3 [some (.inr (.inr 24)), some (.inl (set : Int)), some (.inl bag), some (.inl kind), some (.inl what), some (.inl (k + 1)), none] [] m4 (vm_qi Q)) ∧ (r5 = true → Q m4 x)) := by
      intro x m4 r5 hx F4 h4
      rw [F.st] at h4
      refine ⟨fun z => ih (k + 1) m4 (by omega) (by omega) (F.trans F4) (fun j j0 j1 hj => ?_), fun z => hQ m4 x (F.trans F4) (Or.inr ⟨?_, fun v hv => ?_⟩)⟩
      · by_cases e : j = k
        · subst e
          rw [← hx] at hj
          obtain ⟨g, g1, g2⟩ := hj
          have := h4.mpr ⟨g, g1, (hh x g).mpr g2⟩
          rw [z] at this; cases this
        · exact hno j j0 (by omega) hj
      · obtain ⟨g, g1, g2⟩ := h4.mp z
        exact ⟨g, g1, (hh x g).mp g2⟩
      · have hb2 := hbox v hv
        rcases hw with rfl | rfl
        · rw [if_pos rfl] at hx
          refine ⟨fun _ => ?_, fun h => absurd h (by decide)⟩
          rcases Int.lt_or_le v k with q | q
          · exact absurd hv (by have := hno v hb2.1 q; rwa [if_pos rfl] at this)
          · omega
        · rw [if_neg (by decide)] at hx
          refine ⟨fun h => absurd h (by decide), fun _ => ?_⟩
          rcases Int.lt_or_le (m 25 0 - k) v with q | q
          · have := hno (m 25 0 - v) (by omega) (by omega)
            rw [if_neg (by decide), show m 25 0 - (m 25 0 - v) = v by omega] at this
            exact absurd hv this
          · omega
    refine qX8_boundBy_3 ⟨⟨by omega, by omega⟩, ⟨by omega, by omega⟩, fun h => absurd h (by omega), fun _ => ⟨by rcases hw with rfl | rfl <;> exact ⟨by decide, by decide⟩, fun hne => ?_, fun he => ?_⟩⟩
    · rw [e0]
      exact cm_isSolvedWith hs (by rw [F.st]; exact ok) (wf _ (by omega) (by omega)) (fun m4 r5 F4 h4 => next _ m4 r5 (by rw [if_neg hne]) F4 h4)
    · exact cm_isSolvedWith hs (by rw [F.st]; exact ok) (wf _ (by omega) (by omega)) (fun m4 r5 F4 h4 => next _ m4 r5 (by rw [if_pos he]) F4 h4)
theorem cm_boundBy {set : Nat} {bag kind what : Int} {Q : vm_M → Int → Prop} (hs : set < 2147483648) (ok : st_ok (m 25)) (hb : 0 ≤ bag ∧ bag ≤ 3) (hk : 0 ≤ kind ∧ kind ≤ 2) (hw : what = 0 ∨ what = 1) (hQ : ∀ (m' : vm_M) (r : Int), rf_F m m' → bdd (bd_c (m 25) set (3 * bag + kind)) what r → Q m' r) : vm_ci G (d + 12) mX8_boundBy [.inr (.inr 24), .inl (set : Int), .inl bag, .inl kind, .inl what] m Q :=
  qX8_boundBy (cm_boundBy_3 hs ok hb hk hw hQ (m 25 0 + 1).toNat 0 m (by have := ok.1; omega) (by decide) (rf_F.refl m) (fun j j0 j1 => by omega))
theorem cm_whyNotBound {bag kind what : Int} {Q : vm_M → Int → Prop} (h1 : vm_R bag) (h2 : vm_R kind) (h3 : vm_R what) (hQ : ∀ r : Int, (an_bad bag kind ∧ r = -1) ∨ (¬ an_bad bag kind ∧ ¬ (what = 0 ∨ what = 1) ∧ r = -2) ∨ (¬ an_bad bag kind ∧ (what = 0 ∨ what = 1) ∧ r = 0) → Q m r) : vm_ci G (d + 2) mX8_whyNotBound [.inl bag, .inl kind, .inl what] m Q := by
  refine qX8_whyNotBound (cm_isBag h1 (fun b hb => ⟨fun z => hQ _ (Or.inl ⟨fun w => ?_, rfl⟩), fun z => cm_isKind h2 (fun b2 hb2 => ⟨fun z2 => cm_in h3 ⟨by decide, by decide⟩ ⟨by decide, by decide⟩ (fun b3 hb3 => ⟨fun z3 => hQ _ (Or.inr (Or.inl ⟨fun w => w ⟨hb.mp z, hb2.mp z2⟩, fun w => ?_, rfl⟩)), fun z3 => hQ _ (Or.inr (Or.inr ⟨fun w => w ⟨hb.mp z, hb2.mp z2⟩, ?_, rfl⟩))⟩), fun z2 => hQ _ (Or.inl ⟨fun w => ?_, rfl⟩)⟩)⟩))
  · have := hb.mpr w.1; rw [z] at this; cases this
  · have := hb3.mpr (by omega); rw [z3] at this; cases this
  · have := hb3.mp z3; omega
  · have := hb2.mpr w.2; rw [z2] at this; cases this
theorem an_bad_not {bag kind : Int} (h : ¬ an_bad bag kind) : (0 ≤ bag ∧ bag ≤ 3) ∧ (0 ≤ kind ∧ kind ≤ 2) := Classical.not_not.mp h
theorem cm_bound {bag kind what : Int} {Q : vm_M → Int → Prop} (h1 : vm_R bag) (h2 : vm_R kind) (h3 : vm_R what) (ok : st_ok (m 25)) (hQ : ∀ (m' : vm_M) (r : Int), rf_F m m' → an_bound (m 25) bag kind what r → Q m' r) : vm_ci G (d + 13) mX8_bound [.inr (.inr 24), .inl bag, .inl kind, .inl what] m Q := by
  refine qX8_bound (cm_whyNotBound (d := d + 10) h1 h2 h3 (fun r hr => ?_))
  rcases hr with ⟨a, rfl⟩ | ⟨a, b, rfl⟩ | ⟨a, b, rfl⟩
  · exact ⟨⟨by decide, by decide⟩, fun h => absurd h (by decide), fun _ => hQ m _ (rf_F.refl m) (Or.inl ⟨a, rfl⟩)⟩
  · exact ⟨⟨by decide, by decide⟩, fun h => absurd h (by decide), fun _ => hQ m _ (rf_F.refl m) (Or.inr (Or.inl ⟨a, b, rfl⟩))⟩
  · obtain ⟨q1, q2⟩ := an_bad_not a
    have := (st_all_int ok.2.1).2
    exact ⟨⟨by decide, by decide⟩, fun _ => cm_allFacts ok.2.1 (cm_boundBy (by omega) ok q1 q2 b (fun m' r F h => hQ m' r F (Or.inr (Or.inr ⟨a, b, h⟩)))), fun h => absurd (by decide) h⟩
theorem cm_sizeOf_33 {bag what : Int} {Q : vm_M → Int → Prop} (ok : st_ok (m 25)) (hb : 0 ≤ bag ∧ bag ≤ 3) (hw : what = 0 ∨ what = 1) (hQ : ∀ (m' : vm_M) (r : Int), rf_F m m' → bdd (bd_s (m 25) (st_all (m 25)) bag) what r → Q m' r) :
    ∀ (n : Nat) (k : Int) (mk : vm_M), 3 * m 25 0 + 1 = k + (n : Int) → 0 ≤ k → rf_F m mk → (∀ j : Int, 0 ≤ j → j < k → ¬ bd_s (m 25) (st_all (m 25)) bag (if what = 0 then j else 3 * m 25 0 - j)) →
    vm_ex G (d + 12) mX8_sizeOf 33 [some (.inr (.inr 24)), some (.inl bag), some (.inl what), some (.inl (3 * m 25 0)), some (.inl k), none] [] mk (vm_qi Q) := by
  have hst := ok.1
  have hs := (st_all_int ok.2.1).2
  have hbox : ∀ v, bd_s (m 25) (st_all (m 25)) bag v → 0 ≤ v ∧ v ≤ 3 * m 25 0 := fun v ⟨g, g1, g2⟩ => by
    have a0 := g1.1 (3 * bag) (by omega) (by omega)
    have a1 := g1.1 (3 * bag + 1) (by omega) (by omega)
    have a2 := g1.1 (3 * bag + 2) (by omega) (by omega)
    omega
  intro n
  induction n with
  | zero =>
    intro k mk hk h0 F hno
    refine qX8_sizeOf_33 ⟨⟨by omega, by omega⟩, ⟨by omega, by omega⟩, fun _ => hQ mk (-6) F (Or.inl ⟨rfl, fun v hv => ?_⟩), fun h => absurd h (by omega)⟩
    have hb2 := hbox v hv
    rcases hw with rfl | rfl
    · exact hno v hb2.1 (by omega) hv
    · refine hno (3 * m 25 0 - v) (by omega) (by omega) ?_
      rw [if_neg (by decide)]
      rw [show 3 * m 25 0 - (3 * m 25 0 - v) = v by omega]; exact hv
  | succ n ih =>
    intro k mk hk h0 F hno
    have wf : ∀ x : Int, 0 ≤ x → x ≤ 18 → fc_wf (1, bag, x, x, 0, 0) := fun x x0 x1 => by simp only [fc_wf]; omega
    have hh : ∀ (x : Int) (g : fc_G), fc_holds (1, bag, x, x, 0, 0) g ↔ g (3 * bag) + g (3 * bag + 1) + g (3 * bag + 2) = x := fun x g => by
      rw [fc_holds_one (by decide)]; simp [fc_at]; omega
    have next : ∀ (x : Int) (m4 : vm_M) (r5 : Bool), x = (if what = 0 then k else 3 * m 25 0 - k) → rf_F mk m4 → (r5 = true ↔ ∃ g, sl (mk 25) (st_all (m 25)) g ∧ fc_holds (1, bag, x, x, 0, 0) g) → ((r5 = false → vm_ex G (d + 11 + 1) mX8_sizeOf 33 [some (.inr (.inr 24)), some (.inl bag), some (.inl what), some (.inl (3 * m 25 0)), some (.inl (k + 1)), none] [] m4 (vm_qi Q)) ∧ (r5 = true → Q m4 x)) := by
      intro x m4 r5 hx F4 h4
      rw [F.st] at h4
      refine ⟨fun z => ih (k + 1) m4 (by omega) (by omega) (F.trans F4) (fun j j0 j1 hj => ?_), fun z => hQ m4 x (F.trans F4) (Or.inr ⟨?_, fun v hv => ?_⟩)⟩
      · by_cases e : j = k
        · subst e
          rw [← hx] at hj
          obtain ⟨g, g1, g2⟩ := hj
          have := h4.mpr ⟨g, g1, (hh x g).mpr g2⟩
          rw [z] at this; cases this
        · exact hno j j0 (by omega) hj
      · obtain ⟨g, g1, g2⟩ := h4.mp z
        exact ⟨g, g1, (hh x g).mp g2⟩
      · have hb2 := hbox v hv
        rcases hw with rfl | rfl
        · rw [if_pos rfl] at hx
          refine ⟨fun _ => ?_, fun h => absurd h (by decide)⟩
          rcases Int.lt_or_le v k with q | q
          · exact absurd hv (by have := hno v hb2.1 q; rwa [if_pos rfl] at this)
          · omega
        · rw [if_neg (by decide)] at hx
          refine ⟨fun h => absurd h (by decide), fun _ => ?_⟩
          rcases Int.lt_or_le (3 * m 25 0 - k) v with q | q
          · have := hno (3 * m 25 0 - v) (by omega) (by omega)
            rw [if_neg (by decide), show 3 * m 25 0 - (3 * m 25 0 - v) = v by omega] at this
            exact absurd hv this
          · omega
    have eall : st_all (mk 25) = st_all (m 25) := by rw [F.st]
    refine qX8_sizeOf_33 ⟨⟨by omega, by omega⟩, ⟨by omega, by omega⟩, fun h => absurd h (by omega), fun _ => ⟨by rcases hw with rfl | rfl <;> exact ⟨by decide, by decide⟩, fun hne => ?_, fun he => ?_⟩⟩
    · refine cm_allFacts (by rw [F.st]; exact ok.2.1) ?_
      rw [eall]
      exact cm_isSolvedWith (by omega) (by rw [F.st]; exact ok) (wf _ (by omega) (by omega)) (fun m4 r5 F4 h4 => next _ m4 r5 (by rw [if_neg hne]) F4 h4)
    · refine cm_allFacts (by rw [F.st]; exact ok.2.1) ?_
      rw [eall]
      exact cm_isSolvedWith (by omega) (by rw [F.st]; exact ok) (wf _ (by omega) (by omega)) (fun m4 r5 F4 h4 => next _ m4 r5 (by rw [if_pos he]) F4 h4)
theorem cm_sizeOf {bag what : Int} {Q : vm_M → Int → Prop} (h1 : vm_R bag) (h3 : vm_R what) (ok : st_ok (m 25)) (hQ : ∀ (m' : vm_M) (r : Int), rf_F m m' → an_size (m 25) bag what r → Q m' r) : vm_ci G (d + 12) mX8_sizeOf [.inr (.inr 24), .inl bag, .inl what] m Q := by
  refine qX8_sizeOf (cm_isBag (d := d + 10) h1 (fun b hb => ⟨fun z => cm_in h3 ⟨by decide, by decide⟩ ⟨by decide, by decide⟩ (fun b3 hb3 => ⟨fun z3 => ?_, fun z3 => hQ m _ (rf_F.refl m) (Or.inr (Or.inl ⟨hb.mp z, fun w => ?_, rfl⟩))⟩), fun z => hQ m _ (rf_F.refl m) (Or.inl ⟨fun w => ?_, rfl⟩)⟩))
  · have hw : what = 0 ∨ what = 1 := by have := hb3.mp z3; omega
    exact cm_sizeOf_33 ok (hb.mp z) hw (fun m' r F h => hQ m' r F (Or.inr (Or.inr ⟨hb.mp z, hw, h⟩))) (3 * m 25 0 + 1).toNat 0 m (by have := ok.1; omega) (by decide) (rf_F.refl m) (fun j j0 j1 => by omega)
  · have := hb3.mpr (by omega); rw [z3] at this; cases this
  · have := hb.mpr w; rw [z] at this; cases this
theorem cm_isPossible {Q : vm_M → Int → Prop} (ok : st_ok (m 25)) (hQ : ∀ (m' : vm_M) (r : Int), rf_F m m' → ((an_has (m 25) ∧ r = 1) ∨ (¬ an_has (m 25) ∧ r = 0)) → Q m' r) : vm_ci G (d + 12) mX8_isPossible [.inr (.inr 24)] m Q :=
  qX8_isPossible (cm_isSolvedNow ok (fun m' b F h => ⟨fun z => hQ m' 0 F (Or.inr ⟨fun w => (by have := h.mpr w; rw [z] at this; cases this), rfl⟩), fun z => hQ m' 1 F (Or.inl ⟨h.mp z, rfl⟩)⟩))
theorem cm_contradiction_17 {Q : vm_M → Int → Prop} (ok : st_ok (m 25)) (hno : ¬ an_has (m 25)) (hQ : ∀ (m' : vm_M) (r : Int), rf_F m m' → an_contra (m 25) r → Q m' r) :
    ∀ (n k : Nat) (mk : vm_M), (m 25 1).toNat = k + n → rf_F m mk → vm_ex G (d + 11) mX8_contradiction 17 [some (.inr (.inr 24)), some (.inl ((red (fun s => ¬ ∃ g, sl (m 25) s g) (st_all (m 25)) k : Nat) : Int)), some (.inl (k : Int))] [] mk (vm_qi Q) := by
  have hs := (st_all_int ok.2.1).2
  have hK := ok.2.1
  intro n
  induction n with
  | zero =>
    intro k mk hk F
    have e1 : mk 25 1 = m 25 1 := by rw [F.st]
    have : k = (m 25 1).toNat := by omega
    subst this
    exact qX8_contradiction_17 ⟨⟨by omega, by omega⟩, ⟨by omega, by omega⟩, fun _ => hQ mk _ F (Or.inr ⟨hno, rfl⟩), fun h => absurd h (by omega)⟩
  | succ n ih =>
    intro k mk hk F
    have e1 : mk 25 1 = m 25 1 := by rw [F.st]
    have hr := red_le (fun s => ¬ ∃ g, sl (m 25) s g) (st_all (m 25)) k
    have hc := clr_le (red (fun s => ¬ ∃ g, sl (m 25) s g) (st_all (m 25)) k) k
    refine qX8_contradiction_17 ⟨⟨by omega, by omega⟩, ⟨by omega, by omega⟩, fun h => absurd h (by omega), fun _ m3 e3 => ?_⟩
    have F3 : rf_F m m3 := F.trans (fun c i h1 h2 => by rw [e3, zz_other (by omega)])
    rw [zz_clrI _ k (by omega) (by omega)]
    refine cm_isSolved (by omega) (by rw [F3.st]; exact ok) ⟨Or.inl (by rw [e3, zz_same]), fun j j0 j1 => by rw [e3, zz_same] at j1; omega⟩ (fun m4 b F4 h4 => ⟨fun z => ?_, fun z => ?_⟩)
    · rw [F3.st] at h4
      have hy : ¬ ∃ g, sl (m 25) (clr (red (fun s => ¬ ∃ g, sl (m 25) s g) (st_all (m 25)) k) k) g := fun ⟨g, hg⟩ => by
        have := h4.mpr ⟨g, hg, fun j j0 j1 => by rw [e3, zz_same] at j1; omega⟩
        rw [z] at this; cases this
      have := ih (k + 1) m4 (by omega) (F3.trans F4)
      rw [red_yes (B := fun s => ¬ ∃ g, sl (m 25) s g) hy] at this
      exact this
    · rw [F3.st] at h4
      have hy : ¬ (¬ ∃ g, sl (m 25) (clr (red (fun s => ¬ ∃ g, sl (m 25) s g) (st_all (m 25)) k) k) g) := fun w => by
        obtain ⟨g, g1, _⟩ := h4.mp z
        exact w ⟨g, g1⟩
      have := ih (k + 1) m4 (by omega) (F3.trans F4)
      rw [red_no (B := fun s => ¬ ∃ g, sl (m 25) s g) hy] at this
      exact this
theorem cm_contradiction {Q : vm_M → Int → Prop} (ok : st_ok (m 25)) (hQ : ∀ (m' : vm_M) (r : Int), rf_F m m' → an_contra (m 25) r → Q m' r) : vm_ci G (d + 12) mX8_contradiction [.inr (.inr 24)] m Q := by
  refine qX8_contradiction (cm_isSolvedNow ok (fun m1 b F h => ⟨fun z => ?_, fun z => hQ m1 _ F (Or.inl ⟨h.mp z, rfl⟩)⟩))
  refine cm_allFacts (by rw [F.st]; exact ok.2.1) ?_
  rw [F.st]
  exact cm_contradiction_17 (d := d + 1) ok (fun w => by have := h.mpr w; rw [z] at this; cases this) hQ (m 25 1).toNat 0 m1 (by omega) F
theorem cm_reason_44 {bag kind what b x4 : Int} {Q : vm_M → Int → Prop} (ok : st_ok (m 25)) (hb : 0 ≤ bag ∧ bag ≤ 3) (hk : 0 ≤ kind ∧ kind ≤ 2) (hw : what = 0 ∨ what = 1) (hbR : vm_R b) (hQ : ∀ (m' : vm_M) (r : Int), rf_F m m' → r = ((red (fun s => bdd (bd_c (m 25) s (3 * bag + kind)) what b) (st_all (m 25)) (m 25 1).toNat : Nat) : Int) → Q m' r) :
    ∀ (n k : Nat) (mk : vm_M), (m 25 1).toNat = k + n → rf_F m mk → vm_ex G (d + 13) mX8_reason 44 [some (.inr (.inr 24)), some (.inl bag), some (.inl kind), some (.inl what), some (.inl x4), some (.inl ((red (fun s => bdd (bd_c (m 25) s (3 * bag + kind)) what b) (st_all (m 25)) k : Nat) : Int)), some (.inl b), some (.inl (k : Int))] [] mk (vm_qi Q) := by
  have hs := (st_all_int ok.2.1).2
  have hK := ok.2.1
  intro n
  induction n with
  | zero =>
    intro k mk hkk F
    have e1 : mk 25 1 = m 25 1 := by rw [F.st]
    have : k = (m 25 1).toNat := by omega
    subst this
    exact qX8_reason_44 ⟨⟨by omega, by omega⟩, ⟨by omega, by omega⟩, fun _ => hQ mk _ F rfl, fun h => absurd h (by omega)⟩
  | succ n ih =>
    intro k mk hkk F
    have e1 : mk 25 1 = m 25 1 := by rw [F.st]
    have hr := red_le (fun s => bdd (bd_c (m 25) s (3 * bag + kind)) what b) (st_all (m 25)) k
    have hc := clr_le (red (fun s => bdd (bd_c (m 25) s (3 * bag + kind)) what b) (st_all (m 25)) k) k
    refine qX8_reason_44 ⟨⟨by omega, by omega⟩, ⟨by omega, by omega⟩, fun h => absurd h (by omega), fun _ => ?_⟩
    rw [zz_clrI _ k (by omega) (by omega)]
    refine cm_boundBy (by omega) (by rw [F.st]; exact ok) hb hk hw (fun m3 r F3 h3 => ?_)
    rw [F.st] at h3
    have hrR : vm_R r := by
      rcases h3 with ⟨rfl, _⟩ | ⟨⟨g, g1, g2⟩, _⟩
      · exact ⟨by decide, by decide⟩
      · have := g1.1 (3 * bag + kind) (by omega) (by omega)
        have := ok.1
        exact ⟨by omega, by omega⟩
    refine ⟨hrR, hbR, fun hne => ?_, fun he => ?_⟩
    · have := ih (k + 1) m3 (by omega) (F.trans F3)
      rw [red_no (B := fun s => bdd (bd_c (m 25) s (3 * bag + kind)) what b) (fun w => hne (bdd_unique hw h3 w))] at this
      exact this
    · have := ih (k + 1) m3 (by omega) (F.trans F3)
      rw [red_yes (B := fun s => bdd (bd_c (m 25) s (3 * bag + kind)) what b) (by rw [he] at h3; exact h3)] at this
      exact this
theorem cm_reason {bag kind what : Int} {Q : vm_M → Int → Prop} (h1 : vm_R bag) (h2 : vm_R kind) (h3 : vm_R what) (ok : st_ok (m 25)) (hQ : ∀ (m' : vm_M) (r : Int), rf_F m m' → an_reason (m 25) bag kind what r → Q m' r) : vm_ci G (d + 13) mX8_reason [.inr (.inr 24), .inl bag, .inl kind, .inl what] m Q := by
  refine qX8_reason (cm_whyNotBound (d := d + 10) h1 h2 h3 (fun r hr => ?_))
  rcases hr with ⟨a, rfl⟩ | ⟨a, b, rfl⟩ | ⟨a, b, rfl⟩
  · exact ⟨⟨by decide, by decide⟩, fun h => absurd h (by decide), fun _ => hQ m _ (rf_F.refl m) (Or.inl ⟨a, rfl⟩)⟩
  · exact ⟨⟨by decide, by decide⟩, fun h => absurd h (by decide), fun _ => hQ m _ (rf_F.refl m) (Or.inr (Or.inl ⟨a, b, rfl⟩))⟩
  · obtain ⟨q1, q2⟩ := an_bad_not a
    have hs := (st_all_int ok.2.1).2
    refine ⟨⟨by decide, by decide⟩, fun _ => cm_allFacts ok.2.1 (cm_boundBy (by omega) ok q1 q2 b (fun m1 r F h => ?_)), fun h => absurd (by decide) h⟩
    rcases h with ⟨rfl, hno⟩ | hyes
    · refine ⟨⟨by decide, by decide⟩, fun h => absurd h (by decide), fun _ => hQ m1 _ F (Or.inr (Or.inr ⟨a, b, Or.inl ⟨fun ⟨g, hg⟩ => hno _ ⟨g, hg, rfl⟩, rfl⟩⟩))⟩
    · obtain ⟨g, g1, g2⟩ := id hyes.1
      have hbx := g1.1 (3 * bag + kind) (by omega) (by omega)
      have := ok.1
      have hrR : vm_R r := ⟨by omega, by omega⟩
      exact ⟨hrR, fun _ => cm_reason_44 (d := d) ok q1 q2 b hrR (fun m' r' F' e => hQ m' r' F' (Or.inr (Or.inr ⟨a, b, Or.inr ⟨r, ⟨g, g1⟩, Or.inr hyes, e⟩⟩))) (m 25 1).toNat 0 m1 (by omega) F, fun h => absurd (by omega) h⟩
theorem cm_needless_14 {Q : vm_M → Int → Prop} (ok : st_v (m 25)) (hhas : an_has (m 25)) (hQ : ∀ (m' : vm_M) (r : Int), rf_F m m' → an_needless (m 25) r → Q m' r) :
    ∀ (n k : Nat) (mk : vm_M) (s : Nat), (m 25 1).toNat = k + n → rf_F m mk → s < 1024 → (∀ i : Nat, s.testBit i = true ↔ i < k ∧ ¬ ∃ g, sl (m 25) (clr (st_all (m 25)) i) g ∧ ¬ fc_holds (rf_tup (m 25) (2 + 6 * (i : Int))) g) →
    vm_ex G (d + 14) mX8_needless 14 [some (.inr (.inr 24)), some (.inl (s : Int)), some (.inl (k : Int)), none] [] mk (vm_qi Q) := by
  have hs := (st_all_int ok.2.1).2
  have hK := ok.2.1
  intro n
  induction n with
  | zero =>
    intro k mk s hk F hs1 hb
    have e1 : mk 25 1 = m 25 1 := by rw [F.st]
    have : k = (m 25 1).toNat := by omega
    subst this
    exact qX8_needless_14 ⟨⟨by omega, by omega⟩, ⟨by omega, by omega⟩, fun _ => hQ mk _ F (Or.inr ⟨hhas, s, rfl, hb⟩), fun h => absurd h (by omega)⟩
  | succ n ih =>
    intro k mk s hk F hs1 hb
    have e1 : mk 25 1 = m 25 1 := by rw [F.st]
    have hc := clr_le (st_all (m 25)) k
    have hv := ok.2.2 (k : Int) (by omega) (by omega)
    refine qX8_needless_14 ⟨⟨by omega, by omega⟩, ⟨by omega, by omega⟩, fun h => absurd h (by omega), fun _ => ?_⟩
    refine cm_allFacts (by rw [F.st]; exact ok.2.1) ?_
    rw [F.st, zz_clrI _ k (by omega) (by omega)]
    refine cm_of (by omega) (cm_of (by omega) (cm_of (by omega) (cm_of (by omega) (cm_of (by omega) (cm_of (by omega) ?_)))))
    rw [F.st]
    refine cm_canFail (by omega) (by rw [F.st]; exact ok.ok) hv (fun m1 r F1 h1 => ?_)
    rw [F.st] at h1
    have p2 : 2 ^ k < 2 ^ 10 := zz_pow_lt (by omega)
    refine ⟨fun z => ?_, fun z => ?_⟩
    · rw [zz_orbit s k (by omega) (by omega)]
      refine ih (k + 1) m1 (s ||| 2 ^ k) (by omega) (F.trans F1) (zz_or_lt 10 hs1 p2) (fun i => ?_)
      rw [zz_tb_or, Bool.or_eq_true, hb i, decide_eq_true_eq]
      constructor
      · rintro (h | rfl)
        · exact ⟨by omega, h.2⟩
        · exact ⟨by omega, fun w => by have := h1.mpr w; rw [z] at this; cases this⟩
      · rintro ⟨h, w⟩
        by_cases e : i = k
        · exact Or.inr e.symm
        · exact Or.inl ⟨by omega, w⟩
    · have hz := zz_or s 0 (by omega) (by decide)
      rw [show ((0 : Nat) : Int) = 0 from rfl, Nat.or_zero] at hz
      rw [hz]
      refine ih (k + 1) m1 s (by omega) (F.trans F1) hs1 (fun i => ?_)
      rw [hb i]
      constructor
      · rintro ⟨h, w⟩; exact ⟨by omega, w⟩
      · rintro ⟨h, w⟩
        by_cases e : i = k
        · subst e; exact absurd (h1.mp z) w
        · exact ⟨by omega, w⟩
theorem cm_needless {Q : vm_M → Int → Prop} (ok : st_v (m 25)) (hQ : ∀ (m' : vm_M) (r : Int), rf_F m m' → an_needless (m 25) r → Q m' r) : vm_ci G (d + 14) mX8_needless [.inr (.inr 24)] m Q := by
  refine qX8_needless (cm_isSolvedNow (d := d + 2) ok.ok (fun m1 b F h => ⟨fun z => ?_, fun z => hQ m1 _ F (Or.inl ⟨fun w => (by have := h.mpr w; rw [z] at this; cases this), rfl⟩)⟩))
  exact cm_needless_14 (d := d) ok (h.mp z) hQ (m 25 1).toNat 0 m1 0 (by omega) F (by decide) (fun i => by simp)
end RA
