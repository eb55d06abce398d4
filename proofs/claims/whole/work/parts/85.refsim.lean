/-! THE REFERENCE: the simple methods -/
/-- the reference's cells -/
def KRh (m : vm_M) (S : aS) : Prop := m 24 3 = sH S ∧ (0 ≤ m 24 2 ∧ m 24 2 < 6) ∧ ∀ i : Int, 0 ≤ i → i < sH S → ste (stV (m 26) (62 * ((m 24 2 + i) % 6))) (sHi S i)
def KRs (m : vm_M) (S : aS) : Prop := ∀ i : Int, 0 ≤ i → i < 2 → m 28 i = vm_b2i (sB S i) ∧ (sB S i = true → ste (stV (m 27) (62 * i)) (sSl S i))
def KRp (m : vm_M) (S : aS) : Prop := m 24 18 = sL S ∧ ∀ i : Int, 0 ≤ i → i < sL S → m 36 i = sT S i
def KR (m : vm_M) (S : aS) : Prop := ste (m 25) (sC S) ∧ KRh m S ∧ KRs m S ∧ KRp m S
section RSI
variable {G : vm_G} {d : Nat} {m m1 m2 : vm_M} {S : aS}
theorem KR.same (h : KR m S) (h25 : m1 25 = m 25) (h26 : m1 26 = m 26) (h27 : m1 27 = m 27) (h28 : m1 28 = m 28) (h36 : m1 36 = m 36) (f1 : m1 24 2 = m 24 2) (f2 : m1 24 3 = m 24 3) (f3 : m1 24 18 = m 24 18) : KR m1 S := by
  obtain ⟨h1, ⟨a1, a2, a3⟩, b, ⟨c1, c2⟩⟩ := h
  refine ⟨by rw [h25]; exact h1, ⟨by rw [f2]; exact a1, by rw [f1]; exact a2, by rw [f1, h26]; exact a3⟩, fun i i0 i1 => by rw [h28, h27]; exact b i i0 i1, ⟨by rw [f3]; exact c1, by rw [h36]; exact c2⟩⟩
theorem rf_F2.kr (f : rf_F2 m m1) (h : KR m S) : KR m1 S :=
  h.same (funext fun i => f 25 i (by decide) (by simp)) (funext fun i => f 26 i (by decide) (by simp)) (funext fun i => f 27 i (by decide) (by simp)) (funext fun i => f 28 i (by decide) (by simp)) (funext fun i => f 36 i (by decide) (by simp)) (f 24 2 (by decide) (by simp)) (f 24 3 (by decide) (by simp)) (f 24 18 (by decide) (by simp))
theorem rf_F2.rfr (f : rf_F2 m m1) : RFr m m1 := fun c i hc => f c i (by omega) (by omega)
theorem KR.k (h : KR m S) (hv : sV S) : m 25 1 = sC S 1 ∧ m 25 0 = sC S 0 ∧ (0 ≤ m 25 1 ∧ m 25 1 ≤ 10) ∧ (1 ≤ m 25 0 ∧ m 25 0 ≤ 6) := by
  have q1 := h.1.2.1
  have q0 := h.1.1
  have := hv.1.1
  have := hv.1.2.1
  omega
theorem KR.v (h : KR m S) (hv : sV S) : st_v (m 25) := h.1.symm.v hv.1
theorem cm_keeps_47 {P : Int} {Q : vm_M → Prop} (hP : 0 ≤ P ∧ P < 6) (hQ : ∀ m' : vm_M, (∀ (c : Nat) (i : Int), ¬ (c = 26 ∧ 62 * P ≤ i ∧ i < 62 * P + 62) → ¬ (c = 24 ∧ i = 3) → m' c i = m c i) → m' 24 3 = m 24 3 + 1 → (∀ x : Int, 0 ≤ x → x < 62 → m' 26 (62 * P + x) = m 25 x) → Q m') :
    ∀ (n : Nat) (k : Int) (mk : vm_M), k + (n : Int) = 62 → 0 ≤ k → (∀ (c : Nat) (i : Int), ¬ (c = 26 ∧ 62 * P ≤ i ∧ i < 62 * P + 62) → mk c i = m c i) → (∀ x : Int, 0 ≤ x → x < k → mk 26 (62 * P + x) = m 25 x) →
    vm_ex G d mX8_keep 47 [some (.inr (.inr 24)), some (.inl P), some (.inl k)] [] mk (vm_qn Q) := by
  intro n
  induction n with
  | zero =>
    intro k mk hk k0 f h
    refine qX8_keep_47 ⟨⟨by omega, by omega⟩, fun _ m2 e2 => hQ m2 (fun c i p q => by rw [e2, zz_other q]; exact f c i p) (by rw [e2, zz_same, f 24 3 (by simp)]) (fun x x0 x1 => by rw [e2, zz_other (by simp)]; exact h x x0 (by omega)), fun z => absurd (by omega) z⟩
  | succ n ih =>
    intro k mk hk k0 f h
    refine qX8_keep_47 ⟨⟨by omega, by omega⟩, fun z => absurd z (by omega), fun _ => ⟨by omega, by omega, fun m5 e5 => ih (k + 1) m5 (by omega) (by omega) (fun c i p => by rw [e5, zz_other (by omega)]; exact f c i p) (fun x x0 x1 => ?_)⟩⟩
    by_cases e : x = k
    · subst e
      rw [e5, zz_same, f 25 x (by simp)]
    · rw [e5, zz_other (by omega)]
      exact h x x0 (by omega)
theorem cm_keeps {Q : vm_M → Prop} (hv : sV S) (h : KR m S) (hQ : ∀ m' : vm_M, (∀ (c : Nat) (i : Int), c ≠ 26 → ¬ (c = 24 ∧ (i = 2 ∨ i = 3)) → m' c i = m c i) → KR m' (recS S) → Q m') : vm_cn G d mX8_keep [.inr (.inr 24)] m Q := by
  obtain ⟨h1, ⟨a1, a2, a3⟩, b, ⟨c1, c2⟩⟩ := id h
  have k := h.k hv
  have hH := hv.2.1.1
  have fin : ∀ m' : vm_M, (∀ (c : Nat) (i : Int), c ≠ 26 → ¬ (c = 24 ∧ (i = 2 ∨ i = 3)) → m' c i = m c i) → KRh m' (recS S) → Q m' := fun m' f hh => by
    have fc : ∀ c : Nat, c ≠ 26 → c ≠ 24 → m' c = m c := fun c p q => funext fun i => f c i p (by omega)
    refine hQ m' f ⟨by rw [fc 25 (by decide) (by decide)]; exact h1, hh, fun i i0 i1 => ?_, ⟨by rw [f 24 18 (by decide) (by simp)]; exact c1, by rw [fc 36 (by decide) (by decide)]; exact c2⟩⟩
    rw [fc 28 (by decide) (by decide), fc 27 (by decide) (by decide)]
    exact b i i0 i1
  refine qX8_keep ⟨⟨by omega, by omega⟩, fun hne => ?_, fun he m2 e2 m3 e3 => ?_⟩
  · rw [zz_rem (by omega) (by omega) (by decide) (by decide)]
    refine cm_keeps_47 (m := m) (by omega) (fun m4 f4 l4 t4 => ?_) 62 0 m (by decide) (by decide) (fun _ _ _ => rfl) (fun x x0 x1 => by omega)
    refine fin m4 (fun c i p q => f4 c i (fun z => p z.1) (fun z => q ⟨z.1, Or.inr z.2⟩)) ⟨?_, ?_, fun i i0 i1 => ?_⟩
    · show m4 24 3 = if sH S = 6 then 6 else sH S + 1
      rw [l4, a1, if_neg (by omega)]
    · rw [f4 24 2 (by simp) (by simp)]; exact a2
    · have i1' : i < (if sH S = 6 then 6 else sH S + 1) := i1
      rw [if_neg (by omega)] at i1'
      show ste (stV (m4 26) (62 * ((m4 24 2 + i) % 6))) (if sH S = 6 then (if i = 5 then sC S else sHi S (i + 1)) else (if i = sH S then sC S else sHi S i))
      rw [f4 24 2 (by simp) (by simp), if_neg (by omega)]
      by_cases e : i = sH S
      · rw [if_pos e]
        refine ste.trans (ste.symm (ste_view (fun x x0 x1 => ?_) (by omega))) h1
        rw [e, ← a1]
        exact (t4 x x0 x1).symm
      · rw [if_neg e]
        refine ste.trans (ste.symm (ste_view (fun x x0 x1 => ?_) ?_)) (a3 i i0 (by omega))
        · exact (f4 26 (62 * ((m 24 2 + i) % 6) + x) (by omega) (by simp)).symm
        · rw [(a3 i i0 (by omega)).2.1]
          exact (hv.2.1.2 i i0 (by omega)).2.1.2
  · rw [zz_rem (by omega) (by omega) (by decide) (by decide)] at e2
    have e32 : m3 24 2 = (m 24 2 + 1) % 6 := by rw [e3, zz_other (by simp), e2, zz_same]
    have e33 : m3 24 3 = 5 := by rw [e3, zz_same, e2, zz_other (by simp)]; omega
    have s3 : ∀ (c : Nat) (i : Int), ¬ (c = 24 ∧ (i = 2 ∨ i = 3)) → m3 c i = m c i := fun c i p => by rw [e3, zz_other (by omega), e2, zz_other (by omega)]
    have e26 : m3 26 = m 26 := funext fun i => s3 26 i (by simp)
    have e25 : m3 25 = m 25 := funext fun i => s3 25 i (by simp)
    rw [zz_rem (by omega) (by omega) (by decide) (by decide), e32, e33, show ((m 24 2 + 1) % 6 + 5) % 6 = m 24 2 by omega]
    refine cm_keeps_47 (m := m3) a2 (fun m4 f4 l4 t4 => ?_) 62 0 m3 (by decide) (by decide) (fun _ _ _ => rfl) (fun x x0 x1 => by omega)
    refine fin m4 (fun c i p q => by rw [f4 c i (fun z => p z.1) (fun z => q ⟨z.1, Or.inr z.2⟩)]; exact s3 c i q) ⟨?_, ?_, fun i i0 i1 => ?_⟩
    · show m4 24 3 = if sH S = 6 then 6 else sH S + 1
      rw [l4, e33, if_pos (by omega)]
      rfl
    · rw [f4 24 2 (by simp) (by simp), e32]; omega
    · have i1' : i < (if sH S = 6 then 6 else sH S + 1) := i1
      rw [if_pos (by omega)] at i1'
      show ste (stV (m4 26) (62 * ((m4 24 2 + i) % 6))) (if sH S = 6 then (if i = 5 then sC S else sHi S (i + 1)) else (if i = sH S then sC S else sHi S i))
      rw [f4 24 2 (by simp) (by simp), e32, if_pos (by omega)]
      by_cases e : i = 5
      · subst e
        rw [if_pos rfl, show ((m 24 2 + 1) % 6 + 5) % 6 = m 24 2 by omega]
        refine ste.trans (ste.symm (ste_view (fun x x0 x1 => ?_) (by omega))) h1
        rw [← e25]
        exact (t4 x x0 x1).symm
      · rw [if_neg e, show ((m 24 2 + 1) % 6 + i) % 6 = (m 24 2 + (i + 1)) % 6 by omega]
        refine ste.trans (ste.symm (ste_view (fun x x0 x1 => ?_) ?_)) (a3 (i + 1) (by omega) (by omega))
        · have := f4 26 (62 * ((m 24 2 + (i + 1)) % 6) + x) (by omega) (by simp)
          rw [e26] at this
          exact this.symm
        · rw [(a3 (i + 1) (by omega) (by omega)).2.1]
          exact (hv.2.1.2 (i + 1) (by omega) (by omega)).2.1.2
/-- another state is known -/
theorem KR.setC {f : Int → Int} (h : KR m S) (fr : ∀ (c : Nat) (i : Int), c ≠ 25 → m1 c i = m c i) (hs : ste (m1 25) f) : KR m1 (setC S f) := by
  obtain ⟨h1, ⟨a1, a2, a3⟩, b, ⟨c1, c2⟩⟩ := h
  have fc : ∀ c : Nat, c ≠ 25 → m1 c = m c := fun c p => funext fun i => fr c i p
  refine ⟨hs, ⟨by rw [fc 24 (by decide)]; exact a1, by rw [fc 24 (by decide)]; exact a2, by rw [fc 24 (by decide), fc 26 (by decide)]; exact a3⟩, fun i i0 i1 => by rw [fc 28 (by decide), fc 27 (by decide)]; exact b i i0 i1, ⟨by rw [fc 24 (by decide)]; exact c1, by rw [fc 36 (by decide)]; exact c2⟩⟩
theorem cm_most {p : Int} {Q : vm_M → Int → Prop} (hp : vm_R p) (hv : sV S) (h : KR m S) (hQ : ∀ m' S' r, RFr m m' → KR m' S' → o_most S p S' r → Q m' r) : vm_ci G (d + 1) mX8_most [.inr (.inr 24), .inl p] m Q := by
  refine qX8_most (cm_in2 hp ⟨by decide, by decide⟩ ⟨by decide, by decide⟩ (fun n => ⟨fun z => Bool.noConfusion z, fun _ => hQ m S _ (RFr.refl m) h (Or.inl ⟨n, rfl, rfl⟩)⟩) (fun q => ⟨fun _ => cm_keeps hv h (fun m3 f3 k3 m5 e5 => ?_), fun z => Bool.noConfusion z⟩))
  have k := h.k hv
  have k3' := k3.k (recS_v hv)
  have e30 : m3 25 0 = sC S 0 := k3'.2.1
  rw [e30]
  refine hQ m5 _ _ (fun c i hc => by rw [e5, zz_other (by omega)]; exact f3 c i (by omega) (by omega)) (k3.setC (f := fun x => if x = 0 then p else sC S x) (fun c i p => by rw [e5, zz_other (by omega)]) ?_) (Or.inr ⟨q, rfl, rfl⟩)
  have s3 : ste (m3 25) (sC S) := k3.1
  refine ⟨?_, ?_, fun x x0 x1 => ?_⟩
  · show m5 25 0 = p
    rw [e5, zz_same]
  · show m5 25 1 = sC S 1
    rw [e5, zz_other (by simp)]
    exact s3.2.1
  · have e1 : m5 25 1 = m3 25 1 := by rw [e5, zz_other (by simp)]
    rw [e1] at x1
    show m5 25 (2 + x) = if 2 + x = 0 then p else sC S (2 + x)
    rw [if_neg (by omega), ← s3.2.2 x x0 x1, e5, zz_other (by omega)]
def o_try (S : aS) (ks : Bool) (t : fc_T) (S' : aS) (r : Int) : Prop := (¬ fc_v t ∧ S' = S ∧ r = -2) ∨ (fc_v t ∧ sC S 1 = 10 ∧ S' = S ∧ r = -4) ∨ (fc_v t ∧ sC S 1 ≠ 10 ∧ S' = setC (if ks = true then recS S else S) (addC (sC S) t) ∧ r = sC S 1)
theorem cm_tryFact {f a b c e' e : Int} {ks : Bool} {Q : vm_M → Int → Prop} (hf : vm_R f) (ha : vm_R a) (hb : vm_R b) (hc : vm_R c) (hd : vm_R e') (he : vm_R e) (hv : sV S) (h : KR m S) (hQ : ∀ m' S' r, (∀ (x : Nat) (i : Int), x ≠ 25 → x ≠ 26 → ¬ (x = 24 ∧ (i = 2 ∨ i = 3)) → m' x i = m x i) → KR m' S' → o_try S ks (f, a, b, c, e', e) S' r → Q m' r) : vm_ci G (d + 3) mX8_tryFact [.inr (.inr 24), .inl f, .inl a, .inl b, .inl c, .inl e', .inl e, .inl (vm_b2i ks)] m Q := by
  have k := h.k hv
  refine qX8_tryFact (cm_isFact (d := d) hf ha hb hc hd he (fun r hr => ⟨fun z => ?_, fun z => hQ m S _ (fun _ _ _ _ _ => rfl) h (Or.inl ⟨fun w => (by have := hr.mpr w; rw [z] at this; cases this), rfl, rfl⟩)⟩))
  have ht := hr.mp z
  have main : ∀ (S4 : aS) (m4 : vm_M), (∀ (x : Nat) (i : Int), x ≠ 26 → ¬ (x = 24 ∧ (i = 2 ∨ i = 3)) → m4 x i = m x i) → sC S4 = sC S → KR m4 S4 → S4 = (if ks = true then recS S else S) → m 25 1 ≠ 10 → ((0 ≤ (2 + (6 * (m4 25 1))) ∧ (2 + (6 * (m4 25 1))) < 62) ∧ (∀ m7, m7 = vm_up m4 25 (2 + (6 * (m4 25 1))) f → (0 ≤ ((2 + (6 * (m4 25 1))) + 1) ∧ ((2 + (6 * (m4 25 1))) + 1) < 62) ∧ (∀ m9, m9 = vm_up m7 25 ((2 + (6 * (m4 25 1))) + 1) a → (0 ≤ ((2 + (6 * (m4 25 1))) + 2) ∧ ((2 + (6 * (m4 25 1))) + 2) < 62) ∧ (∀ m11, m11 = vm_up m9 25 ((2 + (6 * (m4 25 1))) + 2) b → (0 ≤ ((2 + (6 * (m4 25 1))) + 3) ∧ ((2 + (6 * (m4 25 1))) + 3) < 62) ∧ (∀ m13, m13 = vm_up m11 25 ((2 + (6 * (m4 25 1))) + 3) c → (0 ≤ ((2 + (6 * (m4 25 1))) + 4) ∧ ((2 + (6 * (m4 25 1))) + 4) < 62) ∧ (∀ m15, m15 = vm_up m13 25 ((2 + (6 * (m4 25 1))) + 4) e' → (0 ≤ ((2 + (6 * (m4 25 1))) + 5) ∧ ((2 + (6 * (m4 25 1))) + 5) < 62) ∧ (∀ m17, m17 = vm_up m15 25 ((2 + (6 * (m4 25 1))) + 5) e → (∀ m18, m18 = vm_up m17 25 1 ((m17 25 1) + 1) → Q m18 ((m18 25 1) - 1))))))))) := by
    intro S4 m4 f4 eC k4 eS hk10
    have e41 : m4 25 1 = m 25 1 := f4 25 1 (by decide) (by simp)
    rw [e41]
    refine ⟨by omega, fun m7 e7 => ⟨by omega, fun m9 e9 => ⟨by omega, fun m11 e11 => ⟨by omega, fun m13 e13 => ⟨by omega, fun m15 e15 => ⟨by omega, fun m17 e17 m18 e18 => ?_⟩⟩⟩⟩⟩⟩
    have e171 : m17 25 1 = m 25 1 := by
      rw [e17, zz_other (by omega), e15, zz_other (by omega), e13, zz_other (by omega), e11, zz_other (by omega), e9, zz_other (by omega), e7, zz_other (by omega), e41]
    have e181 : m18 25 1 = m 25 1 + 1 := by rw [e18, zz_same, e171]
    have er : m18 25 1 - 1 = sC S 1 := by omega
    rw [er]
    have fr : ∀ (x : Nat) (i : Int), x ≠ 25 → m18 x i = m4 x i := fun x i hx => by
      rw [e18, zz_other (by omega), e17, zz_other (by omega), e15, zz_other (by omega), e13, zz_other (by omega), e11, zz_other (by omega), e9, zz_other (by omega), e7, zz_other (by omega)]
    have q : ∀ x : Int, x ≠ 1 → m18 25 x = if x = 2 + 6 * m 25 1 + 5 then e else if x = 2 + 6 * m 25 1 + 4 then e' else if x = 2 + 6 * m 25 1 + 3 then c else if x = 2 + 6 * m 25 1 + 2 then b else if x = 2 + 6 * m 25 1 + 1 then a else if x = 2 + 6 * m 25 1 then f else m4 25 x := by
      intro x hx
      rw [e18, zz_other (by omega), e17, e15, e13, e11, e9, e7]
      simp only [vm_up, true_and]
    have s4 : ste (m4 25) (sC S) := by rw [← eC]; exact k4.1
    refine hQ m18 _ _ (fun x i p p2 p3 => (fr x i p).trans (f4 x i p2 p3)) (k4.setC (f := addC (sC S) (f, a, b, c, e', e)) fr ⟨?_, ?_, fun x x0 x1 => ?_⟩) (Or.inr (Or.inr ⟨ht, by omega, by rw [eS], rfl⟩))
    · unfold addC
      rw [if_neg (by decide), if_neg (by omega), q 0 (by decide), if_neg (by omega), if_neg (by omega), if_neg (by omega), if_neg (by omega), if_neg (by omega), if_neg (by omega)]
      exact s4.1
    · unfold addC
      rw [if_pos rfl, e181, k.1]
    · rw [e181] at x1
      unfold addC
      rw [if_neg (show ¬ 2 + x = 1 by omega)]
      by_cases ex : x < 6 * m 25 1
      · rw [if_neg (by omega), q _ (by omega), if_neg (by omega), if_neg (by omega), if_neg (by omega), if_neg (by omega), if_neg (by omega), if_neg (by omega)]
        exact s4.2.2 x x0 (by omega)
      · rw [if_pos (by omega), q _ (by omega)]
        unfold tA
        have : x = 6 * m 25 1 ∨ x = 6 * m 25 1 + 1 ∨ x = 6 * m 25 1 + 2 ∨ x = 6 * m 25 1 + 3 ∨ x = 6 * m 25 1 + 4 ∨ x = 6 * m 25 1 + 5 := by omega
        rcases this with w | w | w | w | w | w
        · rw [if_neg (by omega), if_neg (by omega), if_neg (by omega), if_neg (by omega), if_neg (by omega), if_pos (by omega), if_pos (by omega)]
        · rw [if_neg (by omega), if_neg (by omega), if_neg (by omega), if_neg (by omega), if_pos (by omega), if_neg (by omega), if_pos (by omega)]
        · rw [if_neg (by omega), if_neg (by omega), if_neg (by omega), if_pos (by omega), if_neg (by omega), if_neg (by omega), if_pos (by omega)]
        · rw [if_neg (by omega), if_neg (by omega), if_pos (by omega), if_neg (by omega), if_neg (by omega), if_neg (by omega), if_pos (by omega)]
        · rw [if_neg (by omega), if_pos (by omega), if_neg (by omega), if_neg (by omega), if_neg (by omega), if_neg (by omega), if_pos (by omega)]
        · rw [if_pos (by omega), if_neg (by omega), if_neg (by omega), if_neg (by omega), if_neg (by omega), if_neg (by omega)]
  refine ⟨⟨by omega, by omega⟩, fun hne => qX8_keepIf ⟨fun zk => ?_, fun zk => ?_⟩, fun he => hQ m S _ (fun _ _ _ _ _ => rfl) h (Or.inr (Or.inl ⟨ht, by omega, rfl, rfl⟩))⟩
  · exact main S m (fun _ _ _ _ => rfl) rfl h (by rw [if_neg (by rw [zk]; decide)]) hne
  · exact cm_keeps hv h (fun m3 f3 k3 => main (recS S) m3 f3 rfl k3 (by rw [if_pos zk]) hne)
theorem cm_fact {f a b c e' e : Int} {Q : vm_M → Int → Prop} (hf : vm_R f) (ha : vm_R a) (hb : vm_R b) (hc : vm_R c) (hd : vm_R e') (he : vm_R e) (hv : sV S) (h : KR m S) (hQ : ∀ m' S' r, RFr m m' → KR m' S' → o_fact S (f, a, b, c, e', e) S' r → Q m' r) : vm_ci G (d + 4) mX8_fact [.inr (.inr 24), .inl f, .inl a, .inl b, .inl c, .inl e', .inl e] m Q :=
  qX8_fact (cm_tryFact (d := d) (ks := true) hf ha hb hc hd he hv h (fun m' S' r fr k o => hQ m' S' r (fun c i hc => fr c i (by omega) (by omega) (by omega)) k (by
    rcases o with o | o | o
    · exact Or.inl o
    · exact Or.inr (Or.inl o)
    · exact Or.inr (Or.inr (by rw [if_pos rfl] at o; exact o)))))
theorem cm_drop_31 {p : Int} {Q : vm_M → Int → Prop} (hp : 0 ≤ p ∧ p ≤ m 25 1) (hk : 0 ≤ m 25 1 ∧ m 25 1 ≤ 9) (hQ : ∀ m' : vm_M, (∀ (c : Nat) (i : Int), ¬ (c = 25 ∧ 2 + 6 * p ≤ i) → m' c i = m c i) → (∀ x : Int, 2 + 6 * p ≤ x → x < 2 + 6 * m 25 1 → m' 25 x = m 25 (x + 6)) → Q m' (m 25 1)) :
    ∀ (n : Nat) (x : Int) (mk : vm_M), x + (n : Int) = 2 + 6 * m 25 1 → 2 + 6 * p ≤ x → (∀ (c : Nat) (i : Int), ¬ (c = 25 ∧ 2 + 6 * p ≤ i ∧ i < x) → mk c i = m c i) → (∀ y : Int, 2 + 6 * p ≤ y → y < x → mk 25 y = m 25 (y + 6)) →
    vm_ex G (d + 1) mX8_drop 31 [some (.inr (.inr 24)), some (.inl p), some (.inl x)] [] mk (vm_qi Q) := by
  intro n
  induction n with
  | zero =>
    intro x mk hx hx0 f h
    have e1 : mk 25 1 = m 25 1 := f 25 1 (by omega)
    refine qX8_drop_31 ⟨⟨by omega, by omega⟩, ⟨by omega, by omega⟩, fun _ => ?_, fun z => absurd (by omega) z⟩
    rw [e1]
    exact hQ mk (fun c i hc => f c i (fun z => hc ⟨z.1, z.2.1⟩)) (fun y y0 y1 => h y y0 (by omega))
  | succ n ih =>
    intro x mk hx hx0 f h
    have e1 : mk 25 1 = m 25 1 := f 25 1 (by omega)
    refine qX8_drop_31 ⟨⟨by omega, by omega⟩, ⟨by omega, by omega⟩, fun z => absurd z (by omega), fun _ => ⟨by omega, by omega, fun m5 e5 => ih (x + 1) m5 (by omega) (by omega) (fun c i hc => by rw [e5, zz_other (by omega)]; exact f c i (by omega)) (fun y y0 y1 => ?_)⟩⟩
    by_cases e : y = x
    · subst e
      rw [e5, zz_same, f 25 (y + 6) (by omega)]
    · rw [e5, zz_other (by omega)]
      exact h y y0 (by omega)
theorem cm_isToldFact2 {p : Int} {Q : vm_M → Bool → Prop} (hp : vm_R p) (hk : 0 ≤ m 25 1 ∧ m 25 1 ≤ 10) (hF : ¬ (0 ≤ p ∧ p < m 25 1) → Q m false) (hT : (0 ≤ p ∧ p < m 25 1) → Q m true) : vm_cb G (d + 1) mX8_isToldFact [.inr (.inr 24), .inl p] m Q :=
  qX8_isToldFact (cm_in2 hp ⟨by decide, by decide⟩ ⟨by omega, by omega⟩ (fun n => hF (by omega)) (fun q => hT (by omega)))
theorem cm_drop {p : Int} {Q : vm_M → Int → Prop} (hp : vm_R p) (hv : sV S) (h : KR m S) (hQ : ∀ m' S' r, RFr m m' → KR m' S' → o_drop S p S' r → Q m' r) : vm_ci G (d + 2) mX8_drop [.inr (.inr 24), .inl p] m Q := by
  have k := h.k hv
  refine qX8_drop (cm_isToldFact2 hp k.2.2.1 (fun n => ⟨fun z => Bool.noConfusion z, fun _ => hQ m S _ (RFr.refl m) h (Or.inl ⟨by omega, rfl, rfl⟩)⟩) (fun q => ⟨fun _ => cm_keeps hv h (fun m3 f3 k3 m5 e5 => ?_), fun z => Bool.noConfusion z⟩))
  have e31 : m3 25 1 = m 25 1 := f3 25 1 (by decide) (by simp)
  have e51 : m5 25 1 = m 25 1 - 1 := by rw [e5, zz_same, e31]
  have s3 : ste (m3 25) (sC S) := k3.1
  refine cm_drop_31 (d := d + 1) (m := m5) (by omega) (by omega) (fun m6 f6 t6 => ?_) (6 * (m 25 1 - 1 - p)).toNat (2 + 6 * p) m5 (by omega) (by omega) (fun _ _ _ => rfl) (fun y y0 y1 => by omega)
  rw [e51, k.1]
  refine hQ m6 _ _ (fun c i hc => by rw [f6 c i (by omega), e5, zz_other (by omega)]; exact f3 c i (by omega) (by omega)) (k3.setC (f := remC (sC S) p) (fun c i p => by rw [f6 c i (by omega), e5, zz_other (by omega)]) ⟨?_, ?_, fun x x0 x1 => ?_⟩) (Or.inr ⟨by omega, rfl, rfl⟩)
  · unfold remC
    rw [if_neg (by decide), if_neg (by omega), f6 25 0 (by omega), e5, zz_other (by simp)]
    exact s3.1
  · unfold remC
    rw [if_pos rfl, f6 25 1 (by omega), e51, k.1]
  · rw [f6 25 1 (by omega), e51] at x1
    unfold remC
    rw [if_neg (show ¬ 2 + x = 1 by omega)]
    by_cases e : x < 6 * p
    · rw [if_neg (by omega), f6 25 (2 + x) (by omega), e5, zz_other (by omega)]
      exact s3.2.2 x x0 (by omega)
    · rw [if_pos (by omega), t6 (2 + x) (by omega) (by omega), e5, zz_other (by omega)]
      have := s3.2.2 (x + 6) (by omega) (by omega)
      rw [show 2 + x + 6 = 2 + (x + 6) by omega]
      exact this
theorem cm_of2 {k w : Int} {Q : vm_M → Int → Prop} (hk : 0 ≤ k ∧ k < 10) (hw : 0 ≤ w ∧ w ≤ 5) (hQ : Q m (m 25 (2 + 6 * k + w))) : vm_ci G d mX8_of [.inr (.inr 24), .inl k, .inl w] m Q := qX8_of ⟨by omega, hQ⟩
theorem cm_ofFact {p w : Int} {Q : vm_M → Int → Prop} (hp : vm_R p) (hw : vm_R w) (hv : sV S) (h : KR m S) (hQ : ∀ m' S' r, RFr m m' → KR m' S' → o_ofFact S p w S' r → Q m' r) : vm_ci G (d + 2) mX8_ofFact [.inr (.inr 24), .inl p, .inl w] m Q := by
  have k := h.k hv
  have fin : ∀ r, ((¬ (0 ≤ p ∧ p < sC S 1) ∧ r = -1) ∨ ((0 ≤ p ∧ p < sC S 1) ∧ ¬ (0 ≤ w ∧ w ≤ 5) ∧ r = -2) ∨ ((0 ≤ p ∧ p < sC S 1) ∧ w = 5 ∧ r = 100 + sC S (2 + (6 * p + 5))) ∨ ((0 ≤ p ∧ p < sC S 1) ∧ (0 ≤ w ∧ w ≤ 4) ∧ r = sC S (2 + (6 * p + w)))) → Q m r := fun r hr => hQ m S r (RFr.refl m) h ⟨rfl, hr⟩
  refine qX8_ofFact (cm_isToldFact2 hp k.2.2.1 (fun n => ⟨fun z => Bool.noConfusion z, fun _ => fin _ (Or.inl ⟨by omega, rfl⟩)⟩) (fun q => ⟨fun _ => ⟨hw, fun hne => cm_in2 hw ⟨by decide, by decide⟩ ⟨by decide, by decide⟩ (fun n => ⟨fun _ => fin _ (Or.inr (Or.inl ⟨by omega, by omega, rfl⟩)), fun z => Bool.noConfusion z⟩) (fun q2 => ⟨fun z => Bool.noConfusion z, fun _ => cm_of2 (by omega) (by omega) (fin _ (Or.inr (Or.inr (Or.inr ⟨by omega, q2, ?_⟩))))⟩), fun he => cm_of2 (by omega) (by decide) (fin _ (Or.inr (Or.inr (Or.inl ⟨by omega, he, ?_⟩))))⟩, fun z => Bool.noConfusion z⟩))
  · have := h.1.2.2 (6 * p + w) (by omega) (by omega)
    rw [← this, show 2 + 6 * p + w = 2 + (6 * p + w) by omega]
  · have := h.1.2.2 (6 * p + 5) (by omega) (by omega)
    rw [← this, show 2 + 6 * p + 5 = 2 + (6 * p + 5) by omega]
theorem cm_count {w : Int} {Q : vm_M → Int → Prop} (hw : vm_R w) (hv : sV S) (h : KR m S) (hQ : ∀ m' S' r, RFr m m' → KR m' S' → o_count S w S' r → Q m' r) : vm_ci G d mX8_count [.inr (.inr 24), .inl w] m Q := by
  have k := h.k hv
  have fin : ∀ r, ((w = 0 ∧ r = sC S 1) ∨ (w = 1 ∧ r = sC S 0) ∨ (w = 2 ∧ r = sL S) ∨ (w = 3 ∧ r = sH S) ∨ ((w < 0 ∨ 3 < w) ∧ r = -2)) → Q m r := fun r hr => hQ m S r (RFr.refl m) h ⟨rfl, hr⟩
  exact qX8_count ⟨hw, fun z => fin _ (Or.inl ⟨z, k.1⟩), fun z => fin _ (Or.inr (Or.inl ⟨z, k.2.1⟩)), fun z => fin _ (Or.inr (Or.inr (Or.inl ⟨z, h.2.2.2.1⟩))), fun z => fin _ (Or.inr (Or.inr (Or.inr (Or.inl ⟨z, h.2.1.1⟩)))), fun z => fin _ (Or.inr (Or.inr (Or.inr (Or.inr ⟨z, rfl⟩))))⟩
theorem KR.wipe (h : KR m S) (e : m1 = vm_up m 24 18 0) : KR m1 (setP S 0 (sT S)) := by
  obtain ⟨h1, ⟨a1, a2, a3⟩, b, ⟨c1, c2⟩⟩ := h
  have f : ∀ (c : Nat) (i : Int), ¬ (c = 24 ∧ i = 18) → m1 c i = m c i := fun c i p => by rw [e, zz_other p]
  have fc : ∀ c : Nat, c ≠ 24 → m1 c = m c := fun c p => funext fun i => f c i (fun z => p z.1)
  refine ⟨by rw [fc 25 (by decide)]; exact h1, ⟨by rw [f 24 3 (by simp)]; exact a1, by rw [f 24 2 (by simp)]; exact a2, by rw [f 24 2 (by simp), fc 26 (by decide)]; exact a3⟩, fun i i0 i1 => by rw [fc 28 (by decide), fc 27 (by decide)]; exact b i i0 i1, ⟨by rw [e, zz_same]; rfl, fun i i0 i1 => absurd i1 (by show ¬ i < 0; omega)⟩⟩
theorem cm_wipe {Q : vm_M → Int → Prop} (h : KR m S) (hQ : ∀ m' S' r, RFr m m' → KR m' S' → o_wipe S S' r → Q m' r) : vm_ci G d mX8_wipe [.inr (.inr 24)] m Q :=
  qX8_wipe (fun m1 e1 => by
    rw [h.2.2.2.1]
    exact hQ m1 _ _ (fun c i hc => by rw [e1, zz_other (by omega)]) (h.wipe e1) ⟨rfl, rfl⟩)
end RSI
