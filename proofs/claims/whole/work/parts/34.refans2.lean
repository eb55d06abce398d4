section RB
variable {G : vm_G} {d : Nat} {m : vm_M}
theorem cm_in2 {v l h : Int} {Q : vm_M → Bool → Prop} (hv : vm_R v) (hl : vm_R l) (hh : vm_R h) (hF : ¬ (l ≤ v ∧ v ≤ h) → Q m false) (hT : (l ≤ v ∧ v ≤ h) → Q m true) : vm_cb G d mX8_in [.inl v, .inl l, .inl h] m Q :=
  cm_in hv hl hh (fun b hb => by
    cases b with
    | false => exact hF (fun w => by have := hb.mpr w; cases this)
    | true => exact hT (hb.mp rfl))
theorem cm_isBag2 {v : Int} {Q : vm_M → Bool → Prop} (hv : vm_R v) (hF : ¬ (0 ≤ v ∧ v ≤ 3) → Q m false) (hT : (0 ≤ v ∧ v ≤ 3) → Q m true) : vm_cb G (d + 1) mX8_isBag [.inl v] m Q :=
  cm_isBag hv (fun b hb => by
    cases b with
    | false => exact hF (fun w => by have := hb.mpr w; cases this)
    | true => exact hT (hb.mp rfl))
theorem cm_isKind2 {v : Int} {Q : vm_M → Bool → Prop} (hv : vm_R v) (hF : ¬ (0 ≤ v ∧ v ≤ 2) → Q m false) (hT : (0 ≤ v ∧ v ≤ 2) → Q m true) : vm_cb G (d + 1) mX8_isKind [.inl v] m Q :=
  cm_isKind hv (fun b hb => by
    cases b with
    | false => exact hF (fun w => by have := hb.mpr w; cases this)
    | true => exact hT (hb.mp rfl))
theorem cm_isFact {f a b c e' e : Int} {Q : vm_M → Bool → Prop} (hf : vm_R f) (ha : vm_R a) (hb : vm_R b) (hc : vm_R c) (hd : vm_R e') (he : vm_R e) (hQ : ∀ r : Bool, (r = true ↔ fc_v (f, a, b, c, e', e)) → Q m r) : vm_cb G (d + 2) mX8_isFact [.inl f, .inl a, .inl b, .inl c, .inl e', .inl e] m Q := by
  have no : ¬ fc_v (f, a, b, c, e', e) → Q m false := fun h => hQ false ⟨fun z => Bool.noConfusion z, fun w => absurd w h⟩
  have yes : fc_v (f, a, b, c, e', e) → Q m true := fun h => hQ true ⟨fun _ => h, fun _ => rfl⟩
  refine qX8_isFact ⟨hf, fun h => ?_, fun h => ?_, fun h => ?_, fun h => ?_, fun h => ?_, fun h => ?_, fun h => ⟨fun h6 => no (by simp only [fc_v]; omega), fun h6 => ?_⟩⟩
  · refine cm_isBag2 ha (fun n => ⟨fun _ => no (by simp only [fc_v]; omega), fun h => Bool.noConfusion h⟩) (fun q1 => ⟨fun h => Bool.noConfusion h, fun _ => ?_⟩)
    refine cm_isKind2 hb (fun n => ⟨fun _ => no (by simp only [fc_v]; omega), fun h => Bool.noConfusion h⟩) (fun q2 => ⟨fun h => Bool.noConfusion h, fun _ => ?_⟩)
    refine cm_in2 hc ⟨by decide, by decide⟩ ⟨by decide, by decide⟩ (fun n => ⟨fun _ => no (by simp only [fc_v]; omega), fun h => Bool.noConfusion h⟩) (fun q3 => ⟨fun h => Bool.noConfusion h, fun _ => ?_⟩)
    refine cm_in2 hd hc ⟨by decide, by decide⟩ (fun n => ⟨fun _ => no (by simp only [fc_v]; omega), fun h => Bool.noConfusion h⟩) (fun q4 => ⟨fun h => Bool.noConfusion h, fun _ => ?_⟩)
    refine ⟨he, fun n => no (by simp only [fc_v]; omega), fun zhe => ?_⟩
    exact yes (by simp only [fc_v]; omega)
  · refine cm_isBag2 ha (fun n => ⟨fun _ => no (by simp only [fc_v]; omega), fun h => Bool.noConfusion h⟩) (fun q1 => ⟨fun h => Bool.noConfusion h, fun _ => ?_⟩)
    refine cm_in2 hb ⟨by decide, by decide⟩ ⟨by decide, by decide⟩ (fun n => ⟨fun _ => no (by simp only [fc_v]; omega), fun h => Bool.noConfusion h⟩) (fun q2 => ⟨fun h => Bool.noConfusion h, fun _ => ?_⟩)
    refine cm_in2 hc hb ⟨by decide, by decide⟩ (fun n => ⟨fun _ => no (by simp only [fc_v]; omega), fun h => Bool.noConfusion h⟩) (fun q3 => ⟨fun h => Bool.noConfusion h, fun _ => ?_⟩)
    refine ⟨hd, fun n => no (by simp only [fc_v]; omega), fun zhd => ?_⟩
    refine ⟨he, fun n => no (by simp only [fc_v]; omega), fun zhe => ?_⟩
    exact yes (by simp only [fc_v]; omega)
  · refine cm_isBag2 ha (fun n => ⟨fun _ => no (by simp only [fc_v]; omega), fun h => Bool.noConfusion h⟩) (fun q1 => ⟨fun h => Bool.noConfusion h, fun _ => ?_⟩)
    refine cm_isBag2 hb (fun n => ⟨fun _ => no (by simp only [fc_v]; omega), fun h => Bool.noConfusion h⟩) (fun q2 => ⟨fun h => Bool.noConfusion h, fun _ => ?_⟩)
    refine cm_isBag2 hc (fun n => ⟨fun _ => no (by simp only [fc_v]; omega), fun h => Bool.noConfusion h⟩) (fun q3 => ⟨fun h => Bool.noConfusion h, fun _ => ?_⟩)
    refine ⟨hd, fun n => no (by simp only [fc_v]; omega), fun zhd => ?_⟩
    refine ⟨he, fun n => no (by simp only [fc_v]; omega), fun zhe => ?_⟩
    exact yes (by simp only [fc_v]; omega)
  · refine cm_isBag2 ha (fun n => ⟨fun _ => no (by simp only [fc_v]; omega), fun h => Bool.noConfusion h⟩) (fun q1 => ⟨fun h => Bool.noConfusion h, fun _ => ?_⟩)
    refine cm_isBag2 hb (fun n => ⟨fun _ => no (by simp only [fc_v]; omega), fun h => Bool.noConfusion h⟩) (fun q2 => ⟨fun h => Bool.noConfusion h, fun _ => ?_⟩)
    refine cm_isBag2 hc (fun n => ⟨fun _ => no (by simp only [fc_v]; omega), fun h => Bool.noConfusion h⟩) (fun q3 => ⟨fun h => Bool.noConfusion h, fun _ => ?_⟩)
    refine ⟨hd, fun n => no (by simp only [fc_v]; omega), fun zhd => ?_⟩
    refine ⟨he, fun n => no (by simp only [fc_v]; omega), fun zhe => ?_⟩
    exact yes (by simp only [fc_v]; omega)
  · refine cm_isBag2 ha (fun n => ⟨fun _ => no (by simp only [fc_v]; omega), fun h => Bool.noConfusion h⟩) (fun q1 => ⟨fun h => Bool.noConfusion h, fun _ => ?_⟩)
    refine cm_isBag2 hb (fun n => ⟨fun _ => no (by simp only [fc_v]; omega), fun h => Bool.noConfusion h⟩) (fun q2 => ⟨fun h => Bool.noConfusion h, fun _ => ?_⟩)
    refine cm_isBag2 hc (fun n => ⟨fun _ => no (by simp only [fc_v]; omega), fun h => Bool.noConfusion h⟩) (fun q3 => ⟨fun h => Bool.noConfusion h, fun _ => ?_⟩)
    refine ⟨hd, fun n => no (by simp only [fc_v]; omega), fun zhd => ?_⟩
    refine ⟨he, fun n => no (by simp only [fc_v]; omega), fun zhe => ?_⟩
    exact yes (by simp only [fc_v]; omega)
  · refine cm_isBag2 ha (fun n => ⟨fun _ => no (by simp only [fc_v]; omega), fun h => Bool.noConfusion h⟩) (fun q1 => ⟨fun h => Bool.noConfusion h, fun _ => ?_⟩)
    refine cm_isBag2 hb (fun n => ⟨fun _ => no (by simp only [fc_v]; omega), fun h => Bool.noConfusion h⟩) (fun q2 => ⟨fun h => Bool.noConfusion h, fun _ => ?_⟩)
    refine ⟨hc, fun n => no (by simp only [fc_v]; omega), fun zhc => ?_⟩
    refine ⟨hd, fun n => no (by simp only [fc_v]; omega), fun zhd => ?_⟩
    refine ⟨he, fun n => no (by simp only [fc_v]; omega), fun zhe => ?_⟩
    exact yes (by simp only [fc_v]; omega)
  · refine cm_isBag2 ha (fun n => ⟨fun _ => no (by simp only [fc_v]; omega), fun h => Bool.noConfusion h⟩) (fun q1 => ⟨fun h => Bool.noConfusion h, fun _ => ?_⟩)
    refine cm_isKind2 hb (fun n => ⟨fun _ => no (by simp only [fc_v]; omega), fun h => Bool.noConfusion h⟩) (fun q2 => ⟨fun h => Bool.noConfusion h, fun _ => ?_⟩)
    refine cm_isBag2 hc (fun n => ⟨fun _ => no (by simp only [fc_v]; omega), fun h => Bool.noConfusion h⟩) (fun q3 => ⟨fun h => Bool.noConfusion h, fun _ => ?_⟩)
    refine cm_isKind2 hd (fun n => ⟨fun _ => no (by simp only [fc_v]; omega), fun h => Bool.noConfusion h⟩) (fun q4 => ⟨fun h => Bool.noConfusion h, fun _ => ?_⟩)
    refine cm_in2 he ⟨by decide, by decide⟩ ⟨by decide, by decide⟩ (fun n => ⟨fun _ => no (by simp only [fc_v]; omega), fun h => Bool.noConfusion h⟩) (fun q5 => ⟨fun h => Bool.noConfusion h, fun _ => ?_⟩)
    exact yes (by simp only [fc_v]; omega)
theorem cm_follows {f a b c e' e : Int} {Q : vm_M → Int → Prop} (hf : vm_R f) (ha : vm_R a) (hb : vm_R b) (hc : vm_R c) (hd : vm_R e') (he : vm_R e) (ok : st_ok (m 25)) (hQ : ∀ (m' : vm_M) (r : Int), rf_F m m' → an_follows (m 25) (f, a, b, c, e', e) r → Q m' r) : vm_ci G (d + 14) mX8_follows [.inr (.inr 24), .inl f, .inl a, .inl b, .inl c, .inl e', .inl e] m Q := by
  have hs := (st_all_int ok.2.1).2
  refine qX8_follows (cm_isFact (d := d + 11) hf ha hb hc hd he (fun r hr => ⟨fun z => ?_, fun z => hQ m _ (rf_F.refl m) (Or.inl ⟨fun w => (by have := hr.mpr w; rw [z] at this; cases this), rfl⟩)⟩))
  have hv := hr.mp z
  refine cm_isSolvedNow (d := d + 2) ok (fun m1 r1 F1 h1 => ⟨fun z1 => ?_, fun z1 => hQ m1 _ F1 (Or.inr (Or.inl ⟨hv, fun w => (by have := h1.mpr w; rw [z1] at this; cases this), rfl⟩))⟩)
  have hhas : an_has (m 25) := h1.mp z1
  refine cm_allFacts (by rw [F1.st]; exact ok.2.1) ?_
  rw [F1.st]
  refine cm_isSolvedWith (d := d + 2) (by omega) (by rw [F1.st]; exact ok) (fc_v_wf hv) (fun m2 r2 F2 h2 => ⟨fun z2 => ?_, fun z2 => hQ m2 _ (F1.trans F2) (Or.inr (Or.inr ⟨hv, hhas, Or.inl ⟨fun g hg w => ?_, rfl⟩⟩))⟩)
  · have F12 := F1.trans F2
    rw [F1.st] at h2
    refine cm_allFacts (by rw [F12.st]; exact ok.2.1) ?_
    rw [F12.st]
    refine cm_canFail (d := d) (by omega) (by rw [F12.st]; exact ok) hv (fun m3 r3 F3 h3 => ⟨fun z3 => hQ m3 _ (F12.trans F3) (Or.inr (Or.inr ⟨hv, hhas, Or.inr (Or.inl ⟨fun g hg => ?_, rfl⟩)⟩)), fun z3 => hQ m3 _ (F12.trans F3) (Or.inr (Or.inr ⟨hv, hhas, Or.inr (Or.inr ⟨h2.mp z2, ?_, rfl⟩)⟩))⟩)
    · rw [F12.st] at h3
      apply Classical.byContradiction
      intro w
      have := h3.mpr ⟨g, hg, w⟩
      rw [z3] at this; cases this
    · rw [F12.st] at h3
      exact h3.mp z3
  · rw [F1.st] at h2
    have := h2.mpr ⟨g, hg, w⟩
    rw [z2] at this; cases this
/-- what findFirst() besides changes -/
def rf_F2 (m m' : vm_M) : Prop := ∀ (c : Nat) (i : Int), ¬ (29 ≤ c ∧ c ≤ 35) → ¬ (c = 24 ∧ 9 ≤ i ∧ i ≤ 12) → m' c i = m c i
theorem rf_F.two {m m' : vm_M} (h : rf_F m m') : rf_F2 m m' := fun c i a b => h c i (fun z => a (by omega)) b
theorem rf_F2.trans {a b c : vm_M} (h1 : rf_F2 a b) (h2 : rf_F2 b c) : rf_F2 a c := fun x i p q => (h2 x i p q).trans (h1 x i p q)
theorem rf_F2.st {m m' : vm_M} (h : rf_F2 m m') : m' 25 = m 25 := funext fun i => h 25 i (by decide) (by simp)
theorem rf_F.first {m m' : vm_M} (h : rf_F m m') : m' 35 = m 35 := funext fun i => h 35 i (by decide) (by simp)
theorem cm_isSolvedFrom_19 {up : Int} {Q : vm_M → Bool → Prop} (ok : st_ok (m 25)) (hup : 0 ≤ up ∧ up < 12) (hfirst : ∀ j : Int, 0 ≤ j → j ≤ up → 0 ≤ m 35 j ∧ m 35 j ≤ m 25 0) (hQ : ∀ (m' : vm_M) (b : Bool), rf_F m m' → (b = true ↔ ∃ g, sl (m 25) (st_all (m 25)) g ∧ ∀ j : Int, 0 ≤ j → j ≤ up → g j = m 35 j) → Q m' b) :
    ∀ (n : Nat) (k : Int) (mk : vm_M), up + 1 = k + (n : Int) → 0 ≤ k → rf_F m mk → mk 24 10 = ((st_all (m 25) : Nat) : Int) → mk 24 9 = 0 → (∀ v : Int, 0 ≤ v → v < 12 → mk 29 v = (if v < k then m 35 v else 0) ∧ mk 30 v = (if v < k then m 35 v else m 25 0)) →
    vm_ex G (d + 10) mX8_isSolvedFrom 19 [some (.inr (.inr 24)), some (.inl up), some (.inl k)] [] mk (vm_qb Q) := by
  intro n
  induction n with
  | zero =>
    intro k mk hk h0 F h10 h9 hb
    have hs := (st_all_int ok.2.1).2
    have hst := ok.1
    refine qX8_isSolvedFrom_19 ⟨⟨by omega, by omega⟩, ⟨by omega, by omega⟩, fun _ => ?_, fun h => absurd (by omega) h⟩
    have okk : rf_ok mk := by
      refine ⟨by rw [F.st]; exact ok.2.1, by omega, by rw [F.st]; exact ok.2.2, Or.inl h9, fun j j0 j1 => by omega⟩
    have D : nr_D (fun _ => True) 20 mk := fun v v0 v1 _ => by
      obtain ⟨q1, q2⟩ := hb v v0 v1
      by_cases hv : v < k
      · rw [if_pos hv] at q1 q2
        have := hfirst v v0 (by omega)
        omega
      · rw [if_neg hv] at q1 q2
        omega
    refine cm_isSolvedByParts okk D (fun m' b k' h => hQ m' b (F.trans k'.F) (h.trans ⟨fun ⟨g, a1, a2⟩ => ?_, fun ⟨g, a1, a2⟩ => ?_⟩))
    · have hbx : ∀ v : Int, 0 ≤ v → v < 12 → 0 ≤ g v ∧ g v ≤ mk 25 0 := fun v v0 v1 => by
        have h1 := a2 v v0 v1
        obtain ⟨q1, q2⟩ := hb v v0 v1
        rw [F.st]
        by_cases hv : v < k
        · rw [if_pos hv] at q1 q2
          have := hfirst v v0 (by omega)
          omega
        · rw [if_neg hv] at q1 q2
          omega
      have := (rf_T_sl h10 hbx).mp a1
      rw [F.st] at this
      refine ⟨g, this.1, fun j j0 j1 => ?_⟩
      have h1 := a2 j j0 (by omega)
      obtain ⟨q1, q2⟩ := hb j j0 (by omega)
      rw [if_pos (by omega)] at q1 q2
      omega
    · have hbx : ∀ v : Int, 0 ≤ v → v < 12 → 0 ≤ g v ∧ g v ≤ mk 25 0 := fun v v0 v1 => by rw [F.st]; exact a1.1 v v0 v1
      refine ⟨g, (rf_T_sl h10 hbx).mpr ⟨by rw [F.st]; exact a1, fun j j0 j1 => by omega⟩, fun v v0 v1 => ?_⟩
      obtain ⟨q1, q2⟩ := hb v v0 v1
      have h1 := a1.1 v v0 v1
      by_cases hv : v < k
      · rw [if_pos hv] at q1 q2
        have := a2 v v0 (by omega)
        omega
      · rw [if_neg hv] at q1 q2
        omega
  | succ n ih =>
    intro k mk hk h0 F h10 h9 hb
    refine qX8_isSolvedFrom_19 ⟨⟨by omega, by omega⟩, ⟨by omega, by omega⟩, fun h => absurd h (by omega), fun _ => ⟨by omega, fun m6 e6 m7 e7 => ?_⟩⟩
    have e35 : mk 35 k = m 35 k := by rw [F.first]
    have e635 : m6 35 k = m 35 k := by rw [e6, zz_other (by simp)]; exact e35
    refine ih (k + 1) m7 (by omega) (by omega) (F.trans fun c i h1 h2 => ?_) ?_ ?_ (fun v v0 v1 => ?_)
    · rw [e7, zz_other (by omega), e6, zz_other (by omega)]
    · rw [e7, zz_other (by simp), e6, zz_other (by simp)]; exact h10
    · rw [e7, zz_other (by simp), e6, zz_other (by simp)]; exact h9
    · by_cases hv : v = k
      · subst hv
        rw [if_pos (by omega), if_pos (by omega), e7, zz_other (by simp), zz_same, e635, e6, zz_same, e35]
        exact ⟨rfl, rfl⟩
      · have hh := hb v v0 v1
        rw [e7, zz_other (by simp), zz_other (by omega), e6, zz_other (by omega), zz_other (by simp), hh.1, hh.2]
        by_cases hvk : v < k
        · rw [if_pos hvk, if_pos hvk, if_pos (by omega), if_pos (by omega)]; exact ⟨rfl, rfl⟩
        · rw [if_neg hvk, if_neg hvk, if_neg (by omega), if_neg (by omega)]; exact ⟨rfl, rfl⟩
theorem cm_isSolvedFrom {up : Int} {Q : vm_M → Bool → Prop} (ok : st_ok (m 25)) (hup : 0 ≤ up ∧ up < 12) (hfirst : ∀ j : Int, 0 ≤ j → j ≤ up → 0 ≤ m 35 j ∧ m 35 j ≤ m 25 0) (hQ : ∀ (m' : vm_M) (b : Bool), rf_F m m' → (b = true ↔ ∃ g, sl (m 25) (st_all (m 25)) g ∧ ∀ j : Int, 0 ≤ j → j ≤ up → g j = m 35 j) → Q m' b) : vm_cb G (d + 10) mX8_isSolvedFrom [.inr (.inr 24), .inl up] m Q := by
  refine qX8_isSolvedFrom (cm_allFacts ok.2.1 (fun m3 e3 m4 e4 => cm_layAll (fun m5 f5 b5 => ?_)))
  have F4 : rf_F m m4 := fun c i h1 h2 => by rw [e4, zz_other (by omega), e3, zz_other (by omega)]
  have F5 : rf_F m m5 := F4.trans (fun c i h1 h2 => f5 c i (by omega))
  have e250 : m4 25 0 = m 25 0 := by rw [F4.st]
  refine cm_isSolvedFrom_19 (d := d) ok hup hfirst hQ (up + 1).toNat 0 m5 (by omega) (by decide) F5 ?_ ?_ (fun v v0 v1 => ?_)
  · rw [f5 24 10 (by simp), e4, zz_other (by simp), e3, zz_same]
  · rw [f5 24 9 (by simp), e4, zz_same]
  · have := b5 v v0 v1
    rw [if_neg (by omega), if_neg (by omega), this.1, this.2, e250]
    exact ⟨rfl, rfl⟩
end RB
