/-! THE REFERENCE READS THE PAD: facts -/
section RR2
variable {G : vm_G} {d : Nat} {m m1 m2 m3 : vm_M} {L : Int} {T : Int → Int} {p r w : Int}
/-- what a reading comes to: it is wrong, or it has R -/
def RX (L : Int) (T : Int → Int) (r : Int) (m m' : vm_M) (R : rR) : Prop := QR r m m' ∧ ((QS L T m' R.2.1 r 1 ∧ (R.1 = false ∨ (R.2.1 < L ∧ T R.2.1 ≠ 59))) ∨ (QS L T m' R.2.1 r 0 ∧ R.1 = true ∧ rf_tup (m' 37) (6 * r) = R.2.2))
theorem RX.bad {R : rR} {q : Int} (f : QR r m m1) (s : QS L T m1 q r 1) (e : R = (false, q, z6)) : RX L T r m m1 R := by
  subst e
  exact ⟨f, Or.inl ⟨s, Or.inl rfl⟩⟩
theorem tup37 {f : Int → Int} {b a0 a1 a2 a3 a4 a5 : Int} (h0 : f (b + 0) = a0) (h1 : f (b + 1) = a1) (h2 : f (b + 2) = a2) (h3 : f (b + 3) = a3) (h4 : f (b + 4) = a4) (h5 : f (b + 5) = a5) : rf_tup f b = (a0, a1, a2, a3, a4, a5) := by
  unfold rf_tup
  rw [h0, h1, h2, h3, h4, h5]
theorem cm_takeMore {a b : Int} {Q : vm_M → Prop} (h : QS L T m p r 0) (hp : p < L) (h1 : m 37 (6 * r + 1) = a) (h2 : m 37 (6 * r + 2) = b) (h5 : m 37 (6 * r + 5) = 0) (n61 : ¬ okc L T 61 61 p) (q62 : okc L T 62 62 p) (hQ : ∀ m', RX L T r m m' (rKind L T a b p) → Q m') : vm_cn G (d + 2) mX8_takeMore [.inr (.inr 24)] m Q := by
  refine qX8_takeMore (cm_enter h (by decide) (fun m1 f1 v1 s1 e1 m3 e3 => ?_))
  have s3 := s1.mv hp e3
  have r1 : QR r m m1 := f1.qr (by omega)
  have r3 : QR r m m3 := r1.trans s3.2.qr
  refine cm_takeOne (d := d) s3.1 (by decide) (by decide) (fun hb m4 f4 s4 => ?_) (fun _ q65 m4 f4 v4 s4 => ?_)
  · have n65 : ¬ okc L T 65 68 (p + 1) := hb.resolve_left (by decide)
    refine cm_takeOne (d := d) s4 (by decide) (by decide) (fun _ m6 f6 s6 => ?_) (fun z => absurd z (by decide))
    rw [s6.2.2.2.2.1]
    refine ⟨⟨by decide, by decide⟩, fun _ => hQ m6 (RX.bad (q := p + 1) ((r3.trans f4.qr).trans f6.qr) s6 ?_), fun z => absurd z (by decide)⟩
    unfold rKind; rw [if_neg n61, if_pos q62, if_neg n65]
  · rw [show p + 1 + 1 = p + 2 by omega] at s4
    have r4 := r3.trans (f4.qr (by omega))
    refine cm_takeOne (d := d) s4 (by decide) (by decide) (fun hb m6 f6 s6 => ?_) (fun _ q120 m6 f6 v6 s6 => ?_)
    · have n120 : ¬ okc L T 120 122 (p + 2) := hb.resolve_left (by decide)
      rw [s6.2.2.2.2.1]
      refine ⟨⟨by decide, by decide⟩, fun _ => hQ m6 (RX.bad (q := p + 2) (r4.trans f6.qr) s6 ?_), fun z => absurd z (by decide)⟩
      unfold rKind; rw [if_neg n61, if_pos q62, if_pos q65, if_neg n120]
    · rw [show p + 2 + 1 = p + 3 by omega] at s6
      have r6 := r4.trans (f6.qr (by omega))
      have e : rKind L T a b p = ((rDiff L T (p + 3)).1, (rDiff L T (p + 3)).2.1, (6, a, b, T (p + 1) - 65, T (p + 2) - 120, (rDiff L T (p + 3)).2.2)) := by unfold rKind; rw [if_neg n61, if_pos q62, if_pos q65, if_pos q120]
      have g6 : ∀ j : Int, 0 ≤ j → j ≤ 5 → j ≠ 0 → j ≠ 3 → j ≠ 4 → m6 37 (6 * r + j) = m 37 (6 * r + j) := fun j j0 j1 jn0 jn3 jn4 => by rw [f6 37 (6 * r + j) (by simp) (by omega), f4 37 (6 * r + j) (by simp) (by omega), s3.2 37 (6 * r + j) (by simp), f1 37 (6 * r + j) (by simp) (by omega)]
      have w0 : m6 37 (6 * r + 0) = 6 := by rw [f6 37 (6 * r + 0) (by simp) (by omega), f4 37 (6 * r + 0) (by simp) (by omega), s3.2 37 (6 * r + 0) (by simp)]; exact v1
      have w3 : m6 37 (6 * r + 3) = T (p + 1) - 65 := by rw [f6 37 (6 * r + 3) (by simp) (by omega)]; exact v4
      have fin : ∀ (m' : vm_M) (x q : Int), QR r m m' → QS L T m' q r 0 → rDiff L T (p + 3) = (true, q, x) → (∀ j : Int, 0 ≤ j → j ≤ 4 → m' 37 (6 * r + j) = m6 37 (6 * r + j)) → m' 37 (6 * r + 5) = x → Q m' := fun m' x q rr ss ee gg vv => by
        refine hQ m' ⟨rr, Or.inr ⟨by rw [e, ee]; exact ss, by rw [e, ee], ?_⟩⟩
        rw [e, ee]
        exact tup37 (by rw [gg 0 (by decide) (by decide)]; exact w0) (by rw [gg 1 (by decide) (by decide), g6 1 (by decide) (by decide) (by decide) (by decide) (by decide)]; exact h1) (by rw [gg 2 (by decide) (by decide), g6 2 (by decide) (by decide) (by decide) (by decide) (by decide)]; exact h2) (by rw [gg 3 (by decide) (by decide)]; exact w3) (by rw [gg 4 (by decide) (by decide)]; exact v6) vv
      have none : ¬ okc L T 43 43 (p + 3) → ¬ okc L T 45 45 (p + 3) → Q m6 := fun n43 n45 => fin m6 0 (p + 3) r6 s6 (by unfold rDiff; rw [if_neg n43, if_neg n45]) (fun j _ _ => rfl) (by rw [g6 5 (by decide) (by decide) (by decide) (by decide) (by decide)]; exact h5)
      have wrong : ∀ (m' : vm_M), QR r m m' → QS L T m' (p + 4) r 1 → (rDiff L T (p + 3)) = (false, p + 4, 0) → Q m' := fun m' rr ss ee => hQ m' ⟨rr, Or.inl ⟨by rw [e, ee]; exact ss, Or.inl (by rw [e, ee])⟩⟩
      have plus : okc L T 43 43 (p + 3) → ∀ m15, m15 = vm_up m6 24 19 ((m6 24 19) + 1) → vm_cn G (d + 1) mX8_takeOne [.inr (.inr 24), .inl 5, .inl 48, .inl 54] m15 (fun m16 => (0 ≤ ((6 * (m16 24 21)) + 5) ∧ ((6 * (m16 24 21)) + 5) < 132) ∧ vm_cn G (d + 1) mX8_enter [.inr (.inr 24), .inl 5, .inl (m16 37 ((6 * (m16 24 21)) + 5))] m16 (fun m19 => Q m19)) := fun q43 m15 e15 => by
        have s15 := s6.mv q43.1 e15
        have s15' := s15.1
        rw [show p + 3 + 1 = p + 4 by omega] at s15'
        refine cm_takeOne (d := d) s15' (by decide) (by decide) (fun hb m16 f16 s16 => ?_) (fun _ q48 m16 f16 v16 s16 => ?_)
        · have hr := s16.2.2.2.1
          rw [hr.1]
          refine ⟨by omega, cm_enter s16 (by decide) (fun m19 f19 v19 s19 _ => wrong m19 (((r6.trans s15.2.qr).trans f16.qr).trans (f19.qr (by omega))) s19 ?_)⟩
          unfold rDiff; rw [if_pos q43, if_neg (by rw [show p + 3 + 1 = p + 4 by omega]; exact hb.resolve_left (by decide)), show p + 3 + 1 = p + 4 by omega]
        · have hr := s16.2.2.2.1
          rw [hr.1, v16]
          refine ⟨by omega, cm_enter s16 (by decide) (fun m19 f19 v19 s19 _ => fin m19 (T (p + 4) - 48) (p + 5) (((r6.trans s15.2.qr).trans (f16.qr (by omega))).trans (f19.qr (by omega))) (by rw [show p + 5 = p + 4 + 1 by omega]; exact s19) ?_ (fun j j0 j1 => by rw [f19 37 (6 * r + j) (by simp) (by omega), f16 37 (6 * r + j) (by simp) (by omega), s15.2 37 (6 * r + j) (by simp)]) v19)⟩
          unfold rDiff; rw [if_pos q43, if_pos (by rw [show p + 3 + 1 = p + 4 by omega]; exact q48), show p + 3 + 1 = p + 4 by omega, show p + 3 + 2 = p + 5 by omega]
      have minus : ¬ okc L T 43 43 (p + 3) → okc L T 45 45 (p + 3) → ∀ m15, m15 = vm_up m6 24 19 ((m6 24 19) + 1) → vm_cn G (d + 1) mX8_takeOne [.inr (.inr 24), .inl 5, .inl 48, .inl 54] m15 (fun m16 => (0 ≤ ((6 * (m16 24 21)) + 5) ∧ ((6 * (m16 24 21)) + 5) < 132) ∧ vm_cn G (d + 1) mX8_enter [.inr (.inr 24), .inl 5, .inl (-(m16 37 ((6 * (m16 24 21)) + 5)))] m16 (fun m19 => Q m19)) := fun n43 q45 m15 e15 => by
        have s15 := s6.mv q45.1 e15
        have s15' := s15.1
        rw [show p + 3 + 1 = p + 4 by omega] at s15'
        refine cm_takeOne (d := d) s15' (by decide) (by decide) (fun hb m16 f16 s16 => ?_) (fun _ q48 m16 f16 v16 s16 => ?_)
        · have hr := s16.2.2.2.1
          rw [hr.1]
          refine ⟨by omega, cm_enter s16 (by decide) (fun m19 f19 v19 s19 _ => wrong m19 (((r6.trans s15.2.qr).trans f16.qr).trans (f19.qr (by omega))) s19 ?_)⟩
          unfold rDiff; rw [if_neg n43, if_pos q45, if_neg (by rw [show p + 3 + 1 = p + 4 by omega]; exact hb.resolve_left (by decide)), show p + 3 + 1 = p + 4 by omega]
        · have hr := s16.2.2.2.1
          rw [hr.1, v16]
          refine ⟨by omega, cm_enter s16 (by decide) (fun m19 f19 v19 s19 _ => fin m19 (-(T (p + 4) - 48)) (p + 5) (((r6.trans s15.2.qr).trans (f16.qr (by omega))).trans (f19.qr (by omega))) (by rw [show p + 5 = p + 4 + 1 by omega]; exact s19) ?_ (fun j j0 j1 => by rw [f19 37 (6 * r + j) (by simp) (by omega), f16 37 (6 * r + j) (by simp) (by omega), s15.2 37 (6 * r + j) (by simp)]) v19)⟩
          unfold rDiff; rw [if_neg n43, if_pos q45, if_pos (by rw [show p + 3 + 1 = p + 4 by omega]; exact q48), show p + 3 + 1 = p + 4 by omega, show p + 3 + 2 = p + 5 by omega]
      rw [s6.2.2.2.2.1]
      refine ⟨⟨by decide, by decide⟩, fun z => absurd rfl z, fun _ => cm_next s6 (fun hE => ⟨⟨by decide, by decide⟩, fun z => absurd z (by decide), fun _ => cm_next s6 (fun _ => ⟨⟨by decide, by decide⟩, fun _ => none (fun y => by omega) (fun y => by omega), fun z => absurd z (by decide)⟩) (fun hT _ => by omega)⟩) (fun hL hb => ⟨⟨by omega, by omega⟩, fun z43 => cm_next s6 (fun hE => by omega) (fun _ _ => ⟨⟨by omega, by omega⟩, fun _ => plus ⟨hL, by omega, by omega⟩, fun z45 => by omega⟩), fun z43 => cm_next s6 (fun hE => by omega) (fun _ _ => ⟨⟨by omega, by omega⟩, fun z45 => none (fun y => by omega) (fun y => by omega), fun z45 => cm_next s6 (fun hE => by omega) (fun _ _ => ⟨⟨by omega, by omega⟩, fun zn => absurd z45 zn, fun _ => minus (fun y => by omega) ⟨hL, by omega, by omega⟩⟩)⟩)⟩)⟩
theorem cm_takeKind {a : Int} {Q : vm_M → Prop} (h : QS L T m p r 0) (h1 : m 37 (6 * r + 1) = a) (h5 : m 37 (6 * r + 5) = 0) (hQ : ∀ m', RX L T r m m' (if okc L T 120 122 p then rKind L T a (T p - 120) (p + 1) else (false, p, z6)) → Q m') : vm_cn G (d + 4) mX8_takeKind [.inr (.inr 24)] m Q := by
  refine qX8_takeKind (cm_takeOne (d := d + 2) h (by decide) (by decide) (fun hb m1 f1 s1 => ?_) (fun _ q120 m1 f1 v1 s1 => ?_))
  · have n120 : ¬ okc L T 120 122 p := hb.resolve_left (by decide)
    rw [s1.2.2.2.2.1]
    refine ⟨⟨by decide, by decide⟩, fun _ => cm_enter s1 (by decide) (fun m4 f4 v4 s4 _ => cm_takeSign (d := d + 2) s4 (by decide) (fun _ m6 f6 s6 => cm_takeRange (d := d) s6 (by decide) (fun m8 p' f8 s8 hw => ?_) (fun z => absurd z (by decide))) (fun z => absurd z (by decide))), fun z => absurd z (by decide)⟩
    have ep : p' = p := by
      rcases hw with x | x | x
      · exact x.2
      · exact absurd x.1 (by decide)
      · exact absurd x.1 (by decide)
    subst ep
    refine hQ m8 (RX.bad (q := p') (((f1.qr.trans (f4.qr (by omega))).trans f6.qr).trans f8) s8 ?_)
    rw [if_neg n120]
  · have r1 : QR r m m1 := f1.qr (by omega)
    rw [if_pos q120] at hQ
    have g1 : ∀ j : Int, j ≠ 2 → m1 37 (6 * r + j) = m 37 (6 * r + j) := fun j j2 => f1 37 (6 * r + j) (by simp) (by omega)
    have count : ¬ okc L T 62 62 (p + 1) → vm_cn G (d + 3) mX8_enter [.inr (.inr 24), .inl 0, .inl 0] m1 (fun m13 => vm_cn G (d + 3) mX8_takeSign [.inr (.inr 24), .inl 61] m13 (fun m15 => vm_cn G (d + 3) mX8_takeRange [.inr (.inr 24), .inl 3] m15 (fun m17 => Q m17))) := fun n62 => by
      refine cm_enter s1 (by decide) (fun m13 f13 v13 s13 _ => cm_takeSign (d := d + 2) s13 (by decide) (fun hb m15 f15 s15 => cm_takeRange (d := d) s15 (by decide) (fun m17 p' f17 s17 hw => ?_) (fun z => absurd z (by decide))) (fun _ q61 m15 f15 s15 => ?_))
      · have ep : p' = p + 1 := by
          rcases hw with x | x | x
          · exact x.2
          · exact absurd x.1 (by decide)
          · exact absurd x.1 (by decide)
        subst ep
        refine hQ m17 (RX.bad (q := p + 1) (((r1.trans (f13.qr (by omega))).trans f15.qr).trans f17) s17 ?_)
        unfold rKind; rw [if_neg (hb.resolve_left (by decide)), if_neg n62]
      · have r15 := (r1.trans (f13.qr (by omega))).trans (f15.qr (r := r))
        have e : rKind L T a (T p - 120) (p + 1) = (decide (0 ≤ (rEnd L T (rNum L T (p + 1 + 1)).1 (rNum L T (p + 1 + 1)).2).1), (rEnd L T (rNum L T (p + 1 + 1)).1 (rNum L T (p + 1 + 1)).2).2, (0, a, T p - 120, (rNum L T (p + 1 + 1)).1, (rEnd L T (rNum L T (p + 1 + 1)).1 (rNum L T (p + 1 + 1)).2).1, 0)) := by unfold rKind; rw [if_pos q61]
        refine cm_takeRange (d := d) s15 (by decide) (fun m17 p' f17 s17 hw => hQ m17 ⟨r15.trans f17, Or.inl ?_⟩) (fun _ hn m17 f17 v3 v4 s17 => hQ m17 ⟨r15.trans (fun c i p1 p2 => f17 c i p1 (by omega)), Or.inr ⟨by rw [e]; exact s17, by rw [e]; exact decide_eq_true hn, ?_⟩⟩)
        · rcases hw with x | ⟨_, x, ep⟩ | ⟨_, x, ep, y1, y2⟩
          · exact absurd x.1 (by decide)
          · subst ep
            exact ⟨by rw [e]; exact s17, Or.inl (by rw [e]; exact decide_eq_false (by omega))⟩
          · subst ep
            exact ⟨by rw [e]; exact s17, Or.inr (by rw [e]; exact ⟨y1, y2⟩)⟩
        · rw [e]
          have g : ∀ j : Int, j ≠ 0 → j ≠ 3 → j ≠ 4 → m17 37 (6 * r + j) = m1 37 (6 * r + j) := fun j j0 j3 j4 => by rw [f17 37 (6 * r + j) (by simp) (by omega), f15 37 (6 * r + j) (by simp), f13 37 (6 * r + j) (by simp) (by omega)]
          refine tup37 ?_ ?_ ?_ v3 v4 ?_
          · rw [f17 37 (6 * r + 0) (by simp) (by omega), f15 37 (6 * r + 0) (by simp)]; exact v13
          · rw [g 1 (by decide) (by decide) (by decide), g1 1 (by decide)]; exact h1
          · rw [g 2 (by decide) (by decide) (by decide)]; exact v1
          · rw [g 5 (by decide) (by decide) (by decide), g1 5 (by decide)]; exact h5
    rw [s1.2.2.2.2.1]
    refine ⟨⟨by decide, by decide⟩, fun z => absurd rfl z, fun _ => cm_next s1 (fun hE => ⟨⟨by decide, by decide⟩, fun _ => count (fun y => by omega), fun z => absurd z (by decide)⟩) (fun hL hb => ⟨⟨by omega, by omega⟩, fun z => count (fun y => by omega), fun z => ?_⟩)⟩
    refine cm_takeMore (d := d + 1) s1 hL (by rw [g1 1 (by decide)]; exact h1) v1 (by rw [g1 5 (by decide)]; exact h5) (fun y => by omega) ⟨hL, by omega, by omega⟩ (fun m' hr => hQ m' ⟨r1.trans hr.1, hr.2⟩)
theorem cm_takeBags {a f : Int} {Q : vm_M → Prop} (h : QS L T m p r 0) (hp : p < L) (h1 : m 37 (6 * r + 1) = a) (h4 : m 37 (6 * r + 4) = 0) (h5 : m 37 (6 * r + 5) = 0) (hf : rSign L T p = f) (hf0 : 0 ≤ f) (hQ : ∀ m', RX L T r m m' (rThree L T a p) → Q m') : vm_cn G (d + 2) mX8_takeBags [.inr (.inr 24), .inl f] m Q := by
  have hr := h.2.2.2.1
  have hs : 0 ≤ rSign L T p := by omega
  refine qX8_takeBags ?_
  rw [hr.1, h1]
  refine ⟨by omega, cm_enter h (by decide) (fun m2 f2 v2 s2 _ => cm_enter s2 (by decide) (fun m4 f4 v4 s4 _ m6 e6 => ?_))⟩
  have s6 := s4.mv hp e6
  have r6 : QR r m m6 := ((f2.qr (by omega)).trans (f4.qr (by omega))).trans s6.2.qr
  refine cm_takeOne (d := d) s6.1 (by decide) (by decide) (fun hb m7 f7 s7 => ?_) (fun _ q1 m7 f7 v7 s7 => ?_)
  · have n1 : ¬ okc L T 65 68 (p + 1) := hb.resolve_left (by decide)
    refine cm_takeSign (d := d) s7 (by decide) (fun _ m9 f9 s9 => cm_takeOne (d := d) s9 (by decide) (by decide) (fun _ m11 f11 s11 => hQ m11 (RX.bad (q := p + 1) (((r6.trans f7.qr).trans f9.qr).trans f11.qr) s11 ?_)) (fun z => absurd z (by decide))) (fun z => absurd z (by decide))
    unfold rThree; rw [if_pos hs, if_neg n1]
  · rw [show p + 1 + 1 = p + 2 by omega] at s7
    have r7 := r6.trans (f7.qr (r := r) (by omega))
    refine cm_takeSign (d := d) s7 (by decide) (fun hb m9 f9 s9 => ?_) (fun _ q2 m9 f9 s9 => ?_)
    · refine cm_takeOne (d := d) s9 (by decide) (by decide) (fun _ m11 f11 s11 => hQ m11 (RX.bad (q := p + 2) ((r7.trans f9.qr).trans f11.qr) s11 ?_)) (fun z => absurd z (by decide))
      unfold rThree; rw [if_pos hs, if_pos q1, if_neg (hb.resolve_left (by decide))]
    · rw [show p + 2 + 1 = p + 3 by omega] at s9
      have r9 := r7.trans (f9.qr (r := r))
      refine cm_takeOne (d := d) s9 (by decide) (by decide) (fun hb m11 f11 s11 => hQ m11 (RX.bad (q := p + 3) (r9.trans f11.qr) s11 ?_)) (fun _ q3 m11 f11 v11 s11 => ?_)
      · unfold rThree; rw [if_pos hs, if_pos q1, if_pos q2, if_neg (hb.resolve_left (by decide))]
      · have e : rThree L T a p = (true, p + 4, (rSign L T p, T (p + 3) - 65, a, T (p + 1) - 65, 0, 0)) := by unfold rThree; rw [if_pos hs, if_pos q1, if_pos q2, if_pos q3]
        rw [show p + 3 + 1 = p + 4 by omega] at s11
        refine hQ m11 ⟨r9.trans (f11.qr (by omega)), Or.inr ⟨by rw [e]; exact s11, by rw [e], ?_⟩⟩
        rw [e, hf]
        have g : ∀ j : Int, j ≠ 1 → j ≠ 3 → m11 37 (6 * r + j) = m4 37 (6 * r + j) := fun j j1 j3 => by rw [f11 37 (6 * r + j) (by simp) (by omega), f9 37 (6 * r + j) (by simp), f7 37 (6 * r + j) (by simp) (by omega), s6.2 37 (6 * r + j) (by simp)]
        refine tup37 ?_ v11 ?_ ?_ ?_ ?_
        · rw [g 0 (by decide) (by decide), f4 37 (6 * r + 0) (by simp) (by omega)]; exact v2
        · rw [g 2 (by decide) (by decide)]; exact v4
        · rw [f11 37 (6 * r + 3) (by simp) (by omega), f9 37 (6 * r + 3) (by simp)]; exact v7
        · rw [g 4 (by decide) (by decide), f4 37 (6 * r + 4) (by simp) (by omega), f2 37 (6 * r + 4) (by simp) (by omega)]; exact h4
        · rw [g 5 (by decide) (by decide), f4 37 (6 * r + 5) (by simp) (by omega), f2 37 (6 * r + 5) (by simp) (by omega)]; exact h5
end RR2
