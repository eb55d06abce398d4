/-! THE REFERENCE READS THE PAD: the fault, tell -/
section RFA
variable {G : vm_G} {d : Nat} {m m1 m2 m3 : vm_M} {L : Int} {T : Int → Int} {p r w : Int} {S : aS}
theorem cm_takeBag {Q : vm_M → Prop} (h : QS L T m p r 0) (h0 : ∀ j : Int, 0 ≤ j → j ≤ 5 → m 37 (6 * r + j) = 0) (n35 : ¬ okc L T 35 35 p) (hQ : ∀ m', RX L T r m m' (rdF L T p) → Q m') : vm_cn G (d + 5) mX8_takeBag [.inr (.inr 24)] m Q := by
  refine qX8_takeBag (cm_takeOne (d := d + 3) h (by decide) (by decide) (fun hb m1 f1 s1 => ?_) (fun _ q65 m1 f1 v1 s1 => ?_))
  · have n65 : ¬ okc L T 65 68 p := hb.resolve_left (by decide)
    rw [s1.2.2.2.2.1]
    refine ⟨⟨by decide, by decide⟩, fun z => absurd z (by decide), fun _ => hQ m1 (RX.bad (q := p) f1.qr s1 ?_)⟩
    unfold rdF; rw [if_neg n35, if_neg n65]
  · have r1 : QR r m m1 := f1.qr (by omega)
    have g1 : ∀ j : Int, 0 ≤ j → j ≤ 5 → j ≠ 1 → m1 37 (6 * r + j) = 0 := fun j j0 j5 j1 => by rw [f1 37 (6 * r + j) (by simp) (by omega)]; exact h0 j j0 j5
    have three : ∀ f : Int, p + 1 < L → rSign L T (p + 1) = f → 0 ≤ f → ¬ okc L T 120 122 (p + 1) → ¬ okc L T 60 60 (p + 1) → vm_cn G (d + 4) mX8_takeBags [.inr (.inr 24), .inl f] m1 (fun m7 => Q m7) := fun f hL hf hf0 n120 n60 =>
      cm_takeBags (d := d + 2) s1 hL v1 (g1 4 (by decide) (by decide) (by decide)) (g1 5 (by decide) (by decide) (by decide)) hf hf0 (fun m' hr => hQ m' (by
        have e : rdF L T p = rThree L T (T p - 65) (p + 1) := by unfold rdF; rw [if_neg n35, if_pos q65, if_neg n120, if_neg n60]
        rw [e]
        exact ⟨r1.trans hr.1, hr.2⟩))
    have other : (¬ okc L T 43 43 (p + 1) ∧ ¬ okc L T 124 124 (p + 1) ∧ ¬ okc L T 38 38 (p + 1) ∧ ¬ okc L T 60 60 (p + 1)) → vm_cn G (d + 4) mX8_takeKind [.inr (.inr 24)] m1 (fun m18 => Q m18) := fun hn =>
      cm_takeKind (d := d) s1 v1 (g1 5 (by decide) (by decide) (by decide)) (fun m' hr => hQ m' (by
        have e : rdF L T p = (if okc L T 120 122 (p + 1) then rKind L T (T p - 65) (T (p + 1) - 120) (p + 1 + 1) else (false, p + 1, z6)) := by
          unfold rdF
          rw [if_neg n35, if_pos q65]
          by_cases z : okc L T 120 122 (p + 1)
          · rw [if_pos z, if_pos z, show p + 1 + 1 = p + 2 by omega]
          · rw [if_neg z, if_neg z, if_neg hn.2.2.2]
            unfold rThree rSign
            rw [if_neg hn.1, if_neg hn.2.1, if_neg hn.2.2.1, if_neg (by decide)]
        rw [e]
        exact ⟨r1.trans hr.1, hr.2⟩))
    rw [s1.2.2.2.2.1]
    refine ⟨⟨by decide, by decide⟩, fun _ => cm_next s1 (fun hE => ⟨⟨by decide, by decide⟩, fun z => absurd z (by decide), fun z => absurd z (by decide), fun z => absurd z (by decide), fun z => absurd z (by decide), fun _ _ _ _ => other ⟨fun y => by omega, fun y => by omega, fun y => by omega, fun y => by omega⟩⟩) (fun hL hb => ⟨⟨by omega, by omega⟩, fun z => ?_, fun z => ?_, fun z => ?_, fun z => ?_, fun z1 z2 z3 z4 => other ⟨fun y => by omega, fun y => by omega, fun y => by omega, fun y => by omega⟩⟩), fun z => absurd rfl z⟩
    · exact three 4 hL (by unfold rSign; rw [if_neg (fun y => by omega), if_neg (fun y => by omega), if_pos ⟨hL, by omega, by omega⟩]) (by decide) (fun y => by omega) (fun y => by omega)
    · exact three 2 hL (by unfold rSign; rw [if_pos ⟨hL, by omega, by omega⟩]) (by decide) (fun y => by omega) (fun y => by omega)
    · refine cm_enter s1 (by decide) (fun m11 f11 v11 s11 _ m13 e13 => ?_)
      have s13 := s11.mv hL e13
      have s13' := s13.1
      rw [show p + 1 + 1 = p + 2 by omega] at s13'
      have n120 : ¬ okc L T 120 122 (p + 1) := fun y => by omega
      have q60 : okc L T 60 60 (p + 1) := ⟨hL, by omega, by omega⟩
      have r13 : QR r m m13 := (r1.trans (f11.qr (by omega))).trans s13.2.qr
      refine cm_takeOne (d := d + 3) s13' (by decide) (by decide) (fun hb m14 f14 s14 => hQ m14 (RX.bad (q := p + 2) (r13.trans f14.qr) s14 ?_)) (fun _ q2 m14 f14 v14 s14 => ?_)
      · unfold rdF; rw [if_neg n35, if_pos q65, if_neg n120, if_pos q60, if_neg (hb.resolve_left (by decide))]
      · have e : rdF L T p = (true, p + 3, (5, T p - 65, T (p + 2) - 65, 0, 0, 0)) := by unfold rdF; rw [if_neg n35, if_pos q65, if_neg n120, if_pos q60, if_pos q2]
        rw [show p + 2 + 1 = p + 3 by omega] at s14
        refine hQ m14 ⟨r13.trans (f14.qr (by omega)), Or.inr ⟨by rw [e]; exact s14, by rw [e], ?_⟩⟩
        rw [e]
        have g : ∀ j : Int, j ≠ 2 → j ≠ 0 → m14 37 (6 * r + j) = m1 37 (6 * r + j) := fun j j2 j0 => by rw [f14 37 (6 * r + j) (by simp) (by omega), s13.2 37 (6 * r + j) (by simp), f11 37 (6 * r + j) (by simp) (by omega)]
        refine tup37 ?_ ?_ v14 ?_ ?_ ?_
        · rw [f14 37 (6 * r + 0) (by simp) (by omega), s13.2 37 (6 * r + 0) (by simp)]; exact v11
        · rw [g 1 (by decide) (by decide)]; exact v1
        · rw [g 3 (by decide) (by decide)]; exact g1 3 (by decide) (by decide) (by decide)
        · rw [g 4 (by decide) (by decide)]; exact g1 4 (by decide) (by decide) (by decide)
        · rw [g 5 (by decide) (by decide)]; exact g1 5 (by decide) (by decide) (by decide)
    · exact three 3 hL (by unfold rSign; rw [if_neg (fun y => by omega), if_pos ⟨hL, by omega, by omega⟩]) (by decide) (fun y => by omega) (fun y => by omega)
/-- what a fact comes to, with the row that is counted -/
def FXr (L : Int) (T : Int → Int) (r : Int) (m m' : vm_M) (R : rR) : Prop := QR r m m' ∧ ((QS L T m' R.2.1 r 1 ∧ (R.1 = false ∨ (R.2.1 < L ∧ T R.2.1 ≠ 59))) ∨ (QS L T m' R.2.1 (r + 1) 0 ∧ R.1 = true ∧ rf_tup (m' 37) (6 * r) = R.2.2))
theorem QS.rd (h : QS L T m p r w) (hr : r ≤ 20) (e : m1 = vm_up m 24 21 (m 24 21 + 1)) : QS L T m1 p (r + 1) w ∧ QN m m1 := by
  have f : ∀ (c : Nat) (i : Int), ¬ (c = 24 ∧ i = 21) → m1 c i = m c i := fun c i q => by rw [e, zz_other q]
  obtain ⟨h1, h2, h3, h4, h5⟩ := h
  exact ⟨⟨by rw [f 24 18 (by simp)]; exact h1, fun i i0 i1 => by rw [f 36 i (by simp)]; exact h2 i i0 i1, by rw [f 24 19 (by simp)]; exact h3, by rw [e, zz_same]; omega, by rw [f 24 20 (by simp)]; exact h5⟩, fun c i q => f c i (by omega)⟩
theorem QS.rs (h : QS L T m p r w) (e : m1 = vm_up m 24 21 (m 24 21 + 0)) : QS L T m1 p r w ∧ QN m m1 := by
  have f : ∀ (c : Nat) (i : Int), ¬ (c = 24 ∧ i = 21) → m1 c i = m c i := fun c i q => by rw [e, zz_other q]
  obtain ⟨h1, h2, h3, h4, h5⟩ := h
  exact ⟨⟨by rw [f 24 18 (by simp)]; exact h1, fun i i0 i1 => by rw [f 36 i (by simp)]; exact h2 i i0 i1, by rw [f 24 19 (by simp)]; exact h3, by rw [e, zz_same]; omega, by rw [f 24 20 (by simp)]; exact h5⟩, fun c i q => f c i (by omega)⟩
theorem FXr.of (hr : r ≤ 20) {R : rR} (h : RX L T r m m1 R) {Q : vm_M → Prop} (hQ : ∀ m', FXr L T r m m' R → Q m') : (vm_R (m1 24 20)) ∧ (((m1 24 20) = 0 → (∀ m8, m8 = vm_up m1 24 21 ((m1 24 21) + 1) → Q m8)) ∧ (¬ (m1 24 20) = 0 → (∀ m9, m9 = vm_up m1 24 21 ((m1 24 21) + 0) → Q m9))) := by
  obtain ⟨f, h⟩ := h
  rcases h with ⟨s, b⟩ | ⟨s, b, c⟩
  · rw [s.2.2.2.2.1]
    refine ⟨⟨by decide, by decide⟩, fun z => absurd z (by decide), fun _ m9 e9 => ?_⟩
    have s9 := s.rs e9
    exact hQ m9 ⟨f.trans s9.2.qr, Or.inl ⟨s9.1, b⟩⟩
  · rw [s.2.2.2.2.1]
    refine ⟨⟨by decide, by decide⟩, fun _ m8 e8 => ?_, fun z => absurd rfl z⟩
    have s8 := s.rd hr e8
    have e37 : m8 37 = m1 37 := funext fun i => s8.2 37 i (by simp)
    exact hQ m8 ⟨f.trans s8.2.qr, Or.inr ⟨s8.1, b, by rw [e37]; exact c⟩⟩
theorem cm_takeFact_2 {Q : vm_M → Prop} {m0 : vm_M} (hr : r ≤ 20) (hQ : ∀ m', FXr L T r m0 m' (rdF L T p) → Q m') :
    ∀ (n : Nat) (k : Int) (m : vm_M), k + (n : Int) = 6 → 0 ≤ k → QR r m0 m → QS L T m p r 0 → (∀ j : Int, 0 ≤ j → j < k → m 37 (6 * r + j) = 0) → vm_ex G (d + 6) mX8_takeFact 2 [some (.inr (.inr 24)), some (.inl k)] [] m (vm_qn Q) := by
  intro n
  induction n with
  | zero =>
    intro k m hk k0 f s hz
    have zz : ∀ j : Int, 0 ≤ j → j ≤ 5 → m 37 (6 * r + j) = 0 := fun j j0 j1 => hz j j0 (by omega)
    have bag : ¬ okc L T 35 35 p → vm_cn G (d + 5) mX8_takeBag [.inr (.inr 24)] m (fun m5 => (vm_R (m5 24 20)) ∧ (((m5 24 20) = 0 → (∀ m8, m8 = vm_up m5 24 21 ((m5 24 21) + 1) → Q m8)) ∧ (¬ (m5 24 20) = 0 → (∀ m9, m9 = vm_up m5 24 21 ((m5 24 21) + 0) → Q m9)))) := fun n35 =>
      cm_takeBag (d := d) s zz n35 (fun m' hx => FXr.of hr hx (fun m2 h2 => hQ m2 ⟨f.trans h2.1, h2.2⟩))
    refine qX8_takeFact_2 ⟨⟨by omega, by omega⟩, fun _ => cm_next s (fun hE => ⟨⟨by decide, by decide⟩, fun _ => bag (fun y => by omega), fun z => absurd z (by decide)⟩) (fun hL hb => ⟨⟨by omega, by omega⟩, fun z => bag (fun y => by omega), fun z m10 e10 => ?_⟩), fun z => absurd (by omega) z⟩
    have q35 : okc L T 35 35 p := ⟨hL, by omega, by omega⟩
    have eF : rdF L T p = rSize L T (p + 1) := by unfold rdF; rw [if_pos q35]
    have s10 := s.mv hL e10
    refine cm_enter s10.1 (by decide) (fun m11 f11 v11 s11 _ => ?_)
    have r11 : QR r m m11 := s10.2.qr.trans (f11.qr (by omega))
    have fin : ∀ m' , RX L T r m m' (rdF L T p) → (vm_R (m' 24 20)) ∧ (((m' 24 20) = 0 → (∀ m8, m8 = vm_up m' 24 21 ((m' 24 21) + 1) → Q m8)) ∧ (¬ (m' 24 20) = 0 → (∀ m9, m9 = vm_up m' 24 21 ((m' 24 21) + 0) → Q m9))) := fun m' hx => FXr.of hr hx (fun m2 h2 => hQ m2 ⟨f.trans h2.1, h2.2⟩)
    refine cm_takeOne (d := d + 4) s11 (by decide) (by decide) (fun hb m13 f13 s13 => ?_) (fun _ q65 m13 f13 v13 s13 => ?_)
    · refine cm_takeSign (d := d + 4) s13 (by decide) (fun _ m15 f15 s15 => cm_takeRange (d := d + 2) s15 (by decide) (fun m17 p' f17 s17 hw => ?_) (fun z => absurd z (by decide))) (fun z => absurd z (by decide))
      have ep : p' = p + 1 := by
        rcases hw with x | x | x
        · exact x.2
        · exact absurd x.1 (by decide)
        · exact absurd x.1 (by decide)
      subst ep
      refine fin m17 (RX.bad (q := p + 1) (((r11.trans f13.qr).trans f15.qr).trans f17) s17 ?_)
      rw [eF]; unfold rSize; rw [if_neg (hb.resolve_left (by decide))]
    · have r13 := r11.trans (f13.qr (r := r) (by omega))
      refine cm_takeSign (d := d + 4) s13 (by decide) (fun hb m15 f15 s15 => cm_takeRange (d := d + 2) s15 (by decide) (fun m17 p' f17 s17 hw => ?_) (fun z => absurd z (by decide))) (fun _ q61 m15 f15 s15 => ?_)
      · have ep : p' = p + 1 + 1 := by
          rcases hw with x | x | x
          · exact x.2
          · exact absurd x.1 (by decide)
          · exact absurd x.1 (by decide)
        subst ep
        refine fin m17 (RX.bad (q := p + 1 + 1) ((r13.trans f15.qr).trans f17) s17 ?_)
        rw [eF]; unfold rSize; rw [if_pos q65, if_neg (hb.resolve_left (by decide))]
      · have r15 := r13.trans (f15.qr (r := r))
        rw [show p + 1 + 1 + 1 = p + 1 + 2 by omega] at s15
        have e : rdF L T p = (decide (0 ≤ (rEnd L T (rNum L T (p + 1 + 2)).1 (rNum L T (p + 1 + 2)).2).1), (rEnd L T (rNum L T (p + 1 + 2)).1 (rNum L T (p + 1 + 2)).2).2, (1, T (p + 1) - 65, (rNum L T (p + 1 + 2)).1, (rEnd L T (rNum L T (p + 1 + 2)).1 (rNum L T (p + 1 + 2)).2).1, 0, 0)) := by rw [eF]; unfold rSize; rw [if_pos q65, if_pos q61]
        refine cm_takeRange (d := d + 2) s15 (by decide) (fun m17 p' f17 s17 hw => fin m17 ⟨r15.trans f17, Or.inl ?_⟩) (fun _ hn m17 f17 v3 v4 s17 => fin m17 ⟨r15.trans (fun c i p1 p2 => f17 c i p1 (by omega)), Or.inr ⟨by rw [e]; exact s17, by rw [e]; exact decide_eq_true hn, ?_⟩⟩)
        · rcases hw with x | ⟨_, x, ep⟩ | ⟨_, x, ep, y1, y2⟩
          · exact absurd x.1 (by decide)
          · subst ep
            exact ⟨by rw [e]; exact s17, Or.inl (by rw [e]; exact decide_eq_false (by omega))⟩
          · subst ep
            exact ⟨by rw [e]; exact s17, Or.inr (by rw [e]; exact ⟨y1, y2⟩)⟩
        · rw [e]
          have g : ∀ j : Int, j ≠ 1 → j ≠ 2 → j ≠ 3 → m17 37 (6 * r + j) = m11 37 (6 * r + j) := fun j j0 j3 j4 => by rw [f17 37 (6 * r + j) (by simp) (by omega), f15 37 (6 * r + j) (by simp), f13 37 (6 * r + j) (by simp) (by omega)]
          have g2 : ∀ j : Int, 0 ≤ j → j ≤ 5 → j ≠ 0 → m11 37 (6 * r + j) = 0 := fun j j0 j5 jn => by rw [f11 37 (6 * r + j) (by simp) (by omega), s10.2 37 (6 * r + j) (by simp)]; exact zz j j0 j5
          refine tup37 ?_ ?_ v3 v4 ?_ ?_
          · rw [g 0 (by decide) (by decide) (by decide)]; exact v11
          · rw [f17 37 (6 * r + 1) (by simp) (by omega), f15 37 (6 * r + 1) (by simp)]; exact v13
          · rw [g 4 (by decide) (by decide) (by decide)]; exact g2 4 (by decide) (by decide) (by decide)
          · rw [g 5 (by decide) (by decide) (by decide)]; exact g2 5 (by decide) (by decide) (by decide)
  | succ n ih =>
    intro k m hk k0 f s hz
    refine qX8_takeFact_2 ⟨⟨by omega, by omega⟩, fun z => absurd z (by omega), fun _ => cm_enter s (by omega) (fun m' f' v' s' _ => ih (k + 1) m' (by omega) (by omega) (f.trans (f'.qr (by omega))) s' (fun j j0 j1 => ?_))⟩
    by_cases e : j = k
    · subst e; exact v'
    · rw [f' 37 (6 * r + j) (by simp) (by omega)]; exact hz j j0 (by omega)
theorem cm_takeFact {Q : vm_M → Prop} (h : QS L T m p r 0) (hr : r ≤ 20) (hQ : ∀ m', FXr L T r m m' (rdF L T p) → Q m') : vm_cn G (d + 6) mX8_takeFact [.inr (.inr 24)] m Q :=
  qX8_takeFact (cm_takeFact_2 (d := d) hr hQ 6 0 m (by decide) (by decide) (QR.refl r m) h (fun j j0 j1 => by omega))
theorem rdF_3 (L : Int) (T : Int → Int) (p : Int) (h : (rdF L T p).1 = true) : p + 3 ≤ (rdF L T p).2.1 := by
  unfold rdF at h ⊢
  by_cases h1 : okc L T 35 35 p
  · rw [if_pos h1] at h ⊢
    unfold rSize at h ⊢
    by_cases h2 : okc L T 65 68 (p + 1)
    · rw [if_pos h2] at h ⊢
      by_cases h3 : okc L T 61 61 (p + 1 + 1)
      · rw [if_pos h3] at h ⊢
        have b1 := rNum_b L T (p + 1 + 2)
        have b2 := rEnd_b (L := L) (T := T) (p := (rNum L T (p + 1 + 2)).2) b1.1.2
        show p + 3 ≤ (rEnd L T (rNum L T (p + 1 + 2)).1 (rNum L T (p + 1 + 2)).2).2
        omega
      · rw [if_neg h3] at h; exact absurd (show false = true from h) (by decide)
    · rw [if_neg h2] at h; exact absurd (show false = true from h) (by decide)
  rw [if_neg h1] at h ⊢
  by_cases h2 : okc L T 65 68 p
  · rw [if_pos h2] at h ⊢
    by_cases h3 : okc L T 120 122 (p + 1)
    · rw [if_pos h3] at h ⊢
      unfold rKind at h ⊢
      by_cases h4 : okc L T 61 61 (p + 2)
      · rw [if_pos h4] at h ⊢
        have b1 := rNum_b L T (p + 2 + 1)
        have b2 := rEnd_b (L := L) (T := T) (p := (rNum L T (p + 2 + 1)).2) b1.1.2
        show p + 3 ≤ (rEnd L T (rNum L T (p + 2 + 1)).1 (rNum L T (p + 2 + 1)).2).2
        omega
      · rw [if_neg h4] at h ⊢
        by_cases h5 : okc L T 62 62 (p + 2)
        · rw [if_pos h5] at h ⊢
          by_cases h6 : okc L T 65 68 (p + 2 + 1)
          · rw [if_pos h6] at h ⊢
            by_cases h7 : okc L T 120 122 (p + 2 + 2)
            · rw [if_pos h7] at h ⊢
              have b3 := rDiff_b L T (p + 2 + 3)
              show p + 3 ≤ (rDiff L T (p + 2 + 3)).2.1
              omega
            · rw [if_neg h7] at h; exact absurd (show false = true from h) (by decide)
          · rw [if_neg h6] at h; exact absurd (show false = true from h) (by decide)
        · rw [if_neg h5] at h; exact absurd (show false = true from h) (by decide)
    · rw [if_neg h3] at h ⊢
      by_cases h4 : okc L T 60 60 (p + 1)
      · rw [if_pos h4] at h ⊢
        by_cases h5 : okc L T 65 68 (p + 2)
        · rw [if_pos h5]; show p + 3 ≤ p + 3; omega
        · rw [if_neg h5] at h; exact absurd (show false = true from h) (by decide)
      · rw [if_neg h4] at h ⊢
        unfold rThree at h ⊢
        by_cases h5 : 0 ≤ rSign L T (p + 1)
        · rw [if_pos h5] at h ⊢
          by_cases h6 : okc L T 65 68 (p + 1 + 1)
          · rw [if_pos h6] at h ⊢
            by_cases h7 : okc L T 61 61 (p + 1 + 2)
            · rw [if_pos h7] at h ⊢
              by_cases h8 : okc L T 65 68 (p + 1 + 3)
              · rw [if_pos h8]; show p + 3 ≤ p + 1 + 4; omega
              · rw [if_neg h8] at h; exact absurd (show false = true from h) (by decide)
            · rw [if_neg h7] at h; exact absurd (show false = true from h) (by decide)
          · rw [if_neg h6] at h; exact absurd (show false = true from h) (by decide)
        · rw [if_neg h5] at h; exact absurd (show false = true from h) (by decide)
  · rw [if_neg h2] at h; exact absurd (show false = true from h) (by decide)
end RFA
