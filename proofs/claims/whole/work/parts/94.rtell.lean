/-! THE REFERENCE: the fault, tell -/
section RTE
variable {G : vm_G} {d : Nat} {m m1 m2 m3 : vm_M} {L : Int} {T : Int → Int} {p r w : Int} {S : aS}
/-- what the reading of the rest may change -/
def QT (r : Int) (m m' : vm_M) : Prop := ∀ (c : Nat) (i : Int), ¬ (c = 24 ∧ 19 ≤ i ∧ i ≤ 21) → ¬ (c = 37 ∧ 6 * r ≤ i) → m' c i = m c i
theorem QR.qt (a : QR r m m1) : QT r m m1 := fun c i h k => a c i h (fun z => k ⟨z.1, z.2.1⟩)
theorem QT.trans {r' : Int} (hr : r ≤ r') (a : QT r m m1) (b : QT r' m1 m2) : QT r m m2 := fun c i h k => (b c i h (fun z => k ⟨z.1, by omega⟩)).trans (a c i h k)
/-- the text is read from row r on -/
def RLs (r : Int) (m' : vm_M) (l : List fc_T) : Prop := m' 24 21 = r + (l.length : Int) ∧ ∀ (j : Nat) (t : fc_T), l[j]? = some t → rf_tup (m' 37) (6 * (r + (j : Int))) = t
theorem cm_fault_from : ∀ (n : Nat) (r p : Int) (m : vm_M) (Q : vm_M → Int → Prop), r + (n : Int) = 80 → 0 ≤ r → 4 * r ≤ p → QS L T m p r 0 → (∀ m' v, QT r m m' → (∃ q r' w', QS L T m' q r' w') → v = (prL L T n p).1 → (v = -6 → RLs r m' (prL L T n p).2) → Q m' v) →
    vm_cn G (d + 6) mX8_takeFact [.inr (.inr 24)] m (fun m4 => vm_ex G (d + 7) mX8_fault 19 [some (.inr (.inr 24))] [] m4 (vm_qi Q)) := by
  intro n
  induction n with
  | zero =>
    intro r p m Q hn r0 hp s hQ
    have := s.2.2.1
    have := s.1.2
    omega
  | succ n ih =>
    intro r p m Q hn r0 hp s hQ
    have hL := s.1.2
    have hpL := s.2.2.1
    refine cm_takeFact (d := d) s (by omega) (fun m4 hx => ?_)
    obtain ⟨f4, hx⟩ := hx
    have hb := rdF_b L T p
    rw [prL_s] at hQ
    rcases hx with ⟨s4, bad⟩ | ⟨s4, ok, tup⟩
    · refine qX8_fault_19 ?_
      rw [s4.2.2.2.2.1]
      refine ⟨⟨by decide, by decide⟩, fun _ => ⟨fun z => absurd z (by decide), fun _ => ?_⟩, fun z => absurd z (by decide)⟩
      rw [s4.2.2.1.1]
      have q0 := s4.2.2.1
      refine hQ m4 _ f4.qt ⟨_, _, _, s4⟩ ?_ (fun z => by omega)
      by_cases hok : (rdF L T p).1 = true
      · rw [if_pos hok]
        have b : (rdF L T p).2.1 < L ∧ T (rdF L T p).2.1 ≠ 59 := bad.resolve_left (by rw [hok]; decide)
        rw [if_neg (by omega), if_neg (fun y => b.2 (by omega))]
      · rw [if_neg hok]
    · have b3 := rdF_3 L T p ok
      have q0 := s4.2.2.1
      rw [if_pos ok] at hQ
      refine qX8_fault_19 ?_
      rw [s4.2.2.2.2.1]
      refine ⟨⟨by decide, by decide⟩, fun z => absurd rfl z, fun _ => ?_⟩
      rw [s4.1.1, q0.1]
      refine ⟨⟨by omega, by omega⟩, ⟨by omega, by omega⟩, fun hle => ⟨fun _ => ?_, fun z => absurd rfl z⟩, fun hlt => ?_⟩
      · have e : (rdF L T p).2.1 = L := by omega
        rw [if_pos e] at hQ
        refine hQ m4 _ f4.qt ⟨_, _, _, s4⟩ rfl (fun _ => ⟨s4.2.2.2.1.1, fun j t hj => ?_⟩)
        cases j with
        | zero =>
          have : (rdF L T p).2.2 = t := by simpa using hj
          rw [← this, ← tup]
          simp
        | succ j => simp at hj
      · have e : ¬ (rdF L T p).2.1 = L := by omega
        rw [if_neg e] at hQ
        refine cm_takeSign (d := d + 5) s4 (by decide) (fun hb59 m5 f5 s5 => ?_) (fun _ q59 m5 f5 s5 => ?_)
        · have n59 : ¬ okc L T 59 59 (rdF L T p).2.1 := hb59.resolve_left (by decide)
          rw [if_neg n59] at hQ
          rw [s5.2.2.2.2.1]
          refine ⟨⟨by decide, by decide⟩, fun _ => qX8_fault_19 ?_, fun z => absurd z (by decide)⟩
          rw [s5.2.2.2.2.1]
          refine ⟨⟨by decide, by decide⟩, fun _ => ⟨fun z => absurd z (by decide), fun _ => ?_⟩, fun z => absurd z (by decide)⟩
          rw [s5.2.2.1.1]
          exact hQ m5 _ (f4.trans f5.qr).qt ⟨_, _, _, s5⟩ rfl (fun z => by omega)
        · rw [if_pos q59] at hQ
          rw [s5.2.2.2.2.1]
          refine ⟨⟨by decide, by decide⟩, fun z => absurd rfl z, fun _ => ?_⟩
          refine ih (r + 1) _ m5 Q (by omega) (by omega) (by omega) s5 (fun m' v f' q' hv hrl => hQ m' v (QT.trans (by omega) (f4.trans f5.qr).qt f') q' hv (fun hv6 => ?_))
          obtain ⟨l1, l2⟩ := hrl hv6
          refine ⟨by rw [l1]; simp only [List.length_cons]; omega, fun j t hj => ?_⟩
          cases j with
          | zero =>
            have et : (rdF L T p).2.2 = t := by simpa using hj
            rw [← et, ← tup]
            have e37 : ∀ i : Int, i < 6 * (r + 1) → m' 37 i = m4 37 i := fun i hi => by rw [f' 37 i (by simp) (by omega), f5 37 i (by simp)]
            unfold rf_tup
            rw [e37 _ (by omega), e37 _ (by omega), e37 _ (by omega), e37 _ (by omega), e37 _ (by omega), e37 _ (by omega)]
            simp
          | succ j =>
            have := l2 j t (by simpa using hj)
            rw [show r + 1 + (j : Int) = r + ((j + 1 : Nat) : Int) by omega] at this
            exact this
theorem KR.qs (h : KR m S) (hv : sV S) (e1 : m1 = vm_up m 24 19 0) (e2 : m2 = vm_up m1 24 20 0) (e3 : m3 = vm_up m2 24 21 0) : QS (sL S) (sT S) m3 0 0 0 ∧ QN m m3 := by
  have f : ∀ (c : Nat) (i : Int), ¬ (c = 24 ∧ 19 ≤ i ∧ i ≤ 21) → m3 c i = m c i := fun c i q => by rw [e3, zz_other (by omega), e2, zz_other (by omega), e1, zz_other (by omega)]
  refine ⟨⟨⟨by rw [f 24 18 (by simp)]; exact h.2.2.2.1, hv.2.2.2.1⟩, fun i i0 i1 => by rw [f 36 i (by simp)]; exact ⟨h.2.2.2.2 i i0 i1, hv.2.2.2.2 i i0 i1⟩, ⟨by rw [e3, zz_other (by simp), e2, zz_other (by simp), e1, zz_same], by decide, hv.2.2.2.1.1⟩, ⟨by rw [e3, zz_same], by decide, by decide⟩, by rw [e3, zz_other (by simp), e2, zz_same], Or.inl rfl⟩, f⟩
theorem KR.qt (h : KR m S) (f : QT 0 m m1) : KR m1 S :=
  h.same (funext fun i => f 25 i (by simp) (by simp)) (funext fun i => f 26 i (by simp) (by simp)) (funext fun i => f 27 i (by simp) (by simp)) (funext fun i => f 28 i (by simp) (by simp)) (funext fun i => f 36 i (by simp) (by simp)) (f 24 2 (by simp) (by simp)) (f 24 3 (by simp) (by simp)) (f 24 18 (by simp) (by simp))
theorem cm_faultX {Q : vm_M → Int → Prop} (hv : sV S) (h : KR m S) (hQ : ∀ m' v, RFr m m' → KR m' S → v = (prL (sL S) (sT S) 80 0).1 → (0 ≤ m' 24 21 ∧ m' 24 21 ≤ 21) → (v = -6 → RLs 0 m' (prL (sL S) (sT S) 80 0).2) → Q m' v) : vm_ci G (d + 7) mX8_fault [.inr (.inr 24)] m Q := by
  refine qX8_fault (fun m1 e1 m2 e2 m3 e3 => ?_)
  obtain ⟨s3, f3⟩ := h.qs hv e1 e2 e3
  refine cm_fault_from (d := d) 80 0 0 m3 Q (by decide) (by decide) (by decide) s3 (fun m' v f' q' hv' hrl => hQ m' v (fun c i hc => ?_) (h.qt (fun c i p1 p2 => ?_)) hv' ?_ hrl)
  · rw [f' c i (by omega) (by omega)]; exact f3 c i (by omega)
  · rw [f' c i p1 p2]; exact f3 c i p1
  · obtain ⟨q, r', w', qs⟩ := q'
    have := qs.2.2.2.1
    omega
theorem cm_fault {Q : vm_M → Int → Prop} (hv : sV S) (h : KR m S) (hQ : ∀ m' S' r, RFr m m' → KR m' S' → o_fault S S' r → Q m' r) : vm_ci G (d + 7) mX8_fault [.inr (.inr 24)] m Q :=
  cm_faultX hv h (fun m' v f k e _ _ => hQ m' S v f k ⟨rfl, e⟩)
theorem prL_S (L : Int) (T : Int → Int) : ∀ (n : Nat) (p : Int) (t : fc_T), t ∈ (prL L T n p).2 → tS t
  | 0, p, t, h => by simp [prL] at h
  | n + 1, p, t, h => by
    have b := (rdF_b L T p).1
    rw [prL_s] at h
    by_cases h1 : (rdF L T p).1 = true
    · rw [if_pos h1] at h
      by_cases h2 : (rdF L T p).2.1 = L
      · rw [if_pos h2] at h
        have : t = (rdF L T p).2.2 := by simpa using h
        rw [this]; exact b
      · rw [if_neg h2] at h
        by_cases h3 : okc L T 59 59 (rdF L T p).2.1
        · rw [if_pos h3] at h
          rcases List.mem_cons.mp h with h | h
          · rw [h]; exact b
          · exact prL_S L T n _ t h
        · rw [if_neg h3] at h
          simp at h
    · rw [if_neg h1] at h
      simp at h
theorem cm_tell_16 {Q : vm_M → Int → Prop} {m0 : vm_M} {X : Int → Int} :
    ∀ (l : List fc_T) (v : Int) (S : aS) (m : vm_M), 0 ≤ v → v + (l.length : Int) ≤ 21 → RFr m0 m → sV S → KR m S → sT S = X → RLs v m l → (∀ t ∈ l, tS t) → (∀ m', RFr m0 m' → KR m' (setP (tl S l).1 0 X) → Q m' (v + (tl S l).2)) →
    vm_ex G (d + 5) mX8_tell 16 [some (.inr (.inr 24)), some (.inl v)] [] m (vm_qi Q) := by
  intro l
  induction l with
  | nil =>
    intro v S m v0 v1 f hv k eX hl ht hQ
    have e21 : m 24 21 = v := by have := hl.1; simpa using this
    refine qX8_tell_16 ⟨⟨by omega, by omega⟩, ⟨by omega, by omega⟩, fun _ m3 e3 => ?_, fun z => absurd (by omega) z⟩
    have := hQ m3 (f.trans (fun c i hc => by rw [e3, zz_other (by omega)])) (by
      have := k.wipe e3
      rw [eX] at this
      exact this)
    simpa [tl] using this
  | cons t l ih =>
    intro v S m v0 v1 f hv k eX hl ht hQ
    simp only [List.length_cons] at v1
    have e21 : m 24 21 = v + ((l.length : Int) + 1) := by have := hl.1; simpa using this
    have et : rf_tup (m 37) (6 * v) = t := by
      have := hl.2 0 t rfl
      simpa using this
    have sm := ht t List.mem_cons_self
    have e6 : rf_tup (m 37) (6 * v) = (m 37 (6 * v), m 37 (6 * v + 1), m 37 (6 * v + 2), m 37 (6 * v + 3), m 37 (6 * v + 4), m 37 (6 * v + 5)) := by
      unfold rf_tup
      rw [Int.add_zero]
    rw [e6] at et
    rw [← et] at sm
    obtain ⟨q1, q2, q3, q4, q5, q6⟩ : (-100 ≤ m 37 (6 * v) ∧ m 37 (6 * v) ≤ 100) ∧ (-100 ≤ m 37 (6 * v + 1) ∧ m 37 (6 * v + 1) ≤ 100) ∧ (-100 ≤ m 37 (6 * v + 2) ∧ m 37 (6 * v + 2) ≤ 100) ∧ (-100 ≤ m 37 (6 * v + 3) ∧ m 37 (6 * v + 3) ≤ 100) ∧ (-100 ≤ m 37 (6 * v + 4) ∧ m 37 (6 * v + 4) ≤ 100) ∧ (-100 ≤ m 37 (6 * v + 5) ∧ m 37 (6 * v + 5) ≤ 100) := sm
    have kk := k.k hv
    refine qX8_tell_16 ⟨⟨by omega, by omega⟩, ⟨by omega, by omega⟩, fun z => absurd z (by omega), fun _ => qX8_tellOne ⟨by omega, by omega, by omega, by omega, by omega, by omega, ?_⟩⟩
    refine cm_tryFact (d := d) (ks := false) ⟨by omega, by omega⟩ ⟨by omega, by omega⟩ ⟨by omega, by omega⟩ ⟨by omega, by omega⟩ ⟨by omega, by omega⟩ ⟨by omega, by omega⟩ hv k (fun m4 S4 r5 f4 k4 o => ?_)
    rw [et] at o
    have f04 : RFr m0 m4 := f.trans (fun c i hc => f4 c i (by omega) (by omega) (by omega))
    have stop : ¬ (fc_v t ∧ sC S 1 ≠ 10) → S4 = S → ∀ m7, m7 = vm_up m4 24 18 0 → Q m7 v := fun hn e4 m7 e7 => by
      subst e4
      rw [tl_no hn] at hQ
      have := hQ m7 (f04.trans (fun c i hc => by rw [e7, zz_other (by omega)])) (by
        have := k4.wipe e7
        rw [eX] at this
        exact this)
      simpa using this
    rcases o with ⟨o1, o2, rfl⟩ | ⟨o1, o2, o3, rfl⟩ | ⟨o1, o2, o3, rfl⟩
    · exact ⟨⟨by decide, by decide⟩, fun _ => stop (fun z => o1 z.1) o2, fun z => absurd (by decide) z⟩
    · exact ⟨⟨by decide, by decide⟩, fun _ => stop (fun z => z.2 o2) o3, fun z => absurd (by decide) z⟩
    · refine ⟨⟨by omega, by omega⟩, fun z => absurd z (by omega), fun _ => ?_⟩
      rw [if_neg (by decide)] at o3
      subst o3
      have e37 : m4 37 = m 37 := funext fun i => f4 37 i (by decide) (by decide) (by simp)
      have e421 : m4 24 21 = m 24 21 := f4 24 21 (by decide) (by decide) (by simp)
      refine ih (v + 1) _ m4 (by omega) (by omega) f04 (setC_v hv (addC_v hv.1 o1 o2)) k4 eX ⟨by rw [e421]; omega, fun j t' hj => ?_⟩ (fun t' ht' => ht t' (List.mem_cons_of_mem _ ht')) (fun m' f' k' => ?_)
      · have := hl.2 (j + 1) t' (by simpa using hj)
        rw [e37, show v + 1 + (j : Int) = v + ((j + 1 : Nat) : Int) by omega]
        exact this
      · rw [tl_yes ⟨o1, o2⟩] at hQ
        have := hQ m' f' k'
        rw [show v + 1 + (tl (setC S (addC (sC S) t)) l).2 = v + ((tl (setC S (addC (sC S) t)) l).2 + 1) by omega]
        exact this
theorem cm_tell {Q : vm_M → Int → Prop} (hv : sV S) (h : KR m S) (hQ : ∀ m' S' r, RFr m m' → KR m' S' → o_tell S S' r → Q m' r) : vm_ci G (d + 8) mX8_tell [.inr (.inr 24)] m Q := by
  refine qX8_tell (cm_faultX (d := d) hv h (fun m1 v f1 k1 ev b21 hrl => ?_))
  have hL := hv.2.2.2.1
  have hb := prL_b (sL S) (sT S) 80 0 (by decide) hL.1
  refine ⟨⟨by omega, by omega⟩, fun z => ?_, fun z => hQ m1 S _ f1 k1 (Or.inl ⟨by omega, rfl, rfl⟩)⟩
  have h6 : (prL (sL S) (sT S) 80 0).1 = -6 := by omega
  have hl := hrl (by omega)
  have hlen := hl.1
  refine cm_keeps hv k1 (fun m4 f4 k4 => ?_)
  have e37 : m4 37 = m1 37 := funext fun i => f4 37 i (by decide) (by simp)
  have e421 : m4 24 21 = m1 24 21 := f4 24 21 (by decide) (by simp)
  refine cm_tell_16 (d := d + 3) (m0 := m) (X := sT S) (prL (sL S) (sT S) 80 0).2 0 (recS S) m4 (by decide) (by omega) (f1.trans (fun c i hc => f4 c i (by omega) (by omega))) (recS_v hv) k4 rfl ⟨by rw [e421]; exact hl.1, fun j t hj => by rw [e37]; exact hl.2 j t hj⟩ (fun t ht => prL_S _ _ _ _ t ht) (fun m' f' k' => ?_)
  rw [Int.zero_add]
  exact hQ m' _ _ f' k' (Or.inr ⟨h6, rfl, rfl⟩)
end RTE
