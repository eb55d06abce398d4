/-! THE REFERENCE'S ANSWERS: how many solutions there are -/
section RD
variable {G : vm_G} {d : Nat} {m : vm_M}
/-- what the counts of a set can be -/
def cA_S (m : vm_M) (U : Nat) (u : fc_G) : Prop := rs_U U u = u ∧ (∀ v : Nat, v < 12 → U.testBit v = true → 0 ≤ u (v : Int) ∧ u (v : Int) ≤ m 25 0) ∧ sU m U u
theorem rs_U_out {U : Nat} {g : fc_G} {v : Int} (h : ¬ (0 ≤ v ∧ v < 12 ∧ U.testBit v.toNat = true)) : rs_U U g v = 0 := by
  unfold rs_U; rw [if_neg h]
theorem jn_cl_or {m : vm_M} {a b : Nat} (ha : jn_cl m (fun u => a.testBit u = true)) (hb : jn_cl m (fun u => b.testBit u = true)) : jn_cl m (fun u => (a ||| b).testBit u = true) := fun v u hv hz t ht h1 h2 => by
  have hz2 : (a ||| b).testBit v = true := hz
  show (a ||| b).testBit u = true
  rw [Nat.testBit_or, Bool.or_eq_true] at hz2 ⊢
  rcases hz2 with hz | hz
  · exact Or.inl (ha v u hv hz t ht h1 h2)
  · exact Or.inr (hb v u hv hz t ht h1 h2)
/-- the rest of a set that is closed is closed -/
theorem jn_cl_not {m : vm_M} (ok : rf_ok m) {a : Nat} (ha : jn_cl m (fun u => a.testBit u = true)) : jn_cl m (fun u => ¬ a.testBit u = true) := fun v u hv hz t ht h1 h2 hu => by
  have hw := rf_C_wf ok ht
  have hk : 0 ≤ (v : Int) % 3 ∧ (v : Int) % 3 < 3 := by omega
  obtain ⟨q1, q2, q3⟩ := fc_av_mod hw hk h2
  exact hz (ha u v (by omega) hu t ht q2 (q3 _ h1))
theorem cA_mix {m : vm_M} (ok : rf_ok m) {D r : Nat} {a b : fc_G} (hr : jn_cl m (fun u => r.testBit u = true)) (ha : cA_S m D a) (hb : cA_S m r b) : cA_S m (D ||| r) (mx_U r b a) := by
  obtain ⟨a1, a2, a3⟩ := ha
  obtain ⟨b1, b2, b3⟩ := hb
  refine ⟨?_, fun v hv hbit => ?_, fun t ht k k0 k1 ⟨v, hv, hbit, hav⟩ => mx_at ok hr b3 ht ⟨k0, k1⟩ (fun hno => ?_)⟩
  · funext v
    by_cases h : 0 ≤ v ∧ v < 12 ∧ (D ||| r).testBit v.toNat = true
    · unfold rs_U; rw [if_pos h]
    · rw [rs_U_out h]
      rw [Nat.testBit_or, Bool.or_eq_true] at h
      unfold mx_U
      rw [if_neg (fun z => h ⟨z.1, z.2.1, Or.inr z.2.2⟩), ← a1, rs_U_out (fun z => h ⟨z.1, z.2.1, Or.inl z.2.2⟩)]
  · by_cases hbr : r.testBit v = true
    · rw [mx_U_in hv hbr]; exact b2 v hv hbr
    · rw [mx_U_out (fun z => hbr z.2)]
      rw [Nat.testBit_or, Bool.or_eq_true] at hbit
      exact a2 v hv (hbit.resolve_right hbr)
  · rw [Nat.testBit_or, Bool.or_eq_true] at hbit
    exact a3 t ht k k0 k1 ⟨v, hv, hbit.resolve_right (hno v hv hav), hav⟩
theorem cA_cut {m : vm_M} (ok : rf_ok m) {U D : Nat} {c : fc_G} (hD : jn_cl m (fun u => D.testBit u = true)) (hsub : ∀ v : Nat, D.testBit v = true → U.testBit v = true) (hc : cA_S m U c) : cA_S m D (rs_U D c) := by
  obtain ⟨c1, c2, c3⟩ := hc
  refine ⟨rs_U_idem D c, fun v hv hb => by rw [rs_U_in hv hb]; exact c2 v hv (hsub v hb), fun t ht k k0 k1 ⟨v, hv, hb, ha⟩ => ?_⟩
  have h1 := c3 t ht k k0 k1 ⟨v, hv, hsub v hb, ha⟩
  have hw := rf_C_wf ok ht
  obtain ⟨-, h2, h3⟩ := fc_av_mod hw ⟨k0, k1⟩ ha
  refine fc_at_congr (fun x hx => ?_) h1
  obtain ⟨hx0, -, -⟩ := fc_av_mod hw ⟨k0, k1⟩ hx
  have hxe : ((x.toNat : Nat) : Int) = x := Int.toNat_of_nonneg hx0.1
  have hb2 := hD v x.toNat hv hb t ht h2 (by rw [hxe]; exact h3 x hx)
  have := rs_U_in (g := c) (show x.toNat < 12 by omega) hb2
  rw [hxe] at this
  exact this.symm
theorem cA_prod {m : vm_M} (ok : rf_ok m) {D r lim x y : Nat} (hD : jn_cl m (fun u => D.testBit u = true)) (hr : jn_cl m (fun u => r.testBit u = true)) (hdis : ∀ v : Nat, r.testBit v = true → ¬ D.testBit v = true) (h : cnt (cA_S m D) lim x) (h' : cnt (cA_S m r) lim y) (hx : 1 ≤ x) (hy : 1 ≤ y) : cnt (cA_S m (D ||| r)) lim (min lim (x * y)) := by
  refine cnt_prod (fun a b => mx_U r b a) h h' hx hy (fun a b ha hb => cA_mix ok hr ha hb) (fun a b a2 b2 ha hb ha2 hb2 e => ?_) (fun c hc => ?_)
  · have e2 : ∀ v : Int, mx_U r b a v = mx_U r b2 a2 v := fun v => congrFun e v
    constructor
    · rw [← ha.1, ← ha2.1]
      refine rs_U_ext fun v hv hbit => ?_
      have := e2 (v : Int)
      rwa [mx_U_out (fun z => hdis v z.2 hbit), mx_U_out (fun z => hdis v z.2 hbit)] at this
    · rw [← hb.1, ← hb2.1]
      refine rs_U_ext fun v hv hbit => ?_
      have := e2 (v : Int)
      rwa [mx_U_in hv hbit, mx_U_in hv hbit] at this
  · refine ⟨rs_U D c, rs_U r c, cA_cut ok hD (fun v hb => by rw [Nat.testBit_or, hb]; rfl) hc, cA_cut ok hr (fun v hb => by rw [Nat.testBit_or, hb, Bool.or_true]) hc, ?_⟩
    funext v
    show mx_U r (rs_U r c) (rs_U D c) v = c v
    unfold mx_U
    split
    · rename_i h1
      unfold rs_U; rw [if_pos h1]
    · rename_i h1
      by_cases h2 : 0 ≤ v ∧ v < 12 ∧ D.testBit v.toNat = true
      · unfold rs_U; rw [if_pos h2]
      · rw [rs_U_out h2, ← hc.1, rs_U_out (fun z => ?_)]
        have := z.2.2
        rw [Nat.testBit_or, Bool.or_eq_true] at this
        rcases this with q | q
        · exact h2 ⟨z.1, z.2.1, q⟩
        · exact h1 ⟨z.1, z.2.1, q⟩
theorem cm_countAll_15 {lim : Nat} {Q : vm_M → Int → Prop} (ok : rf_ok m) (h1 : 1 ≤ lim) (h2 : lim ≤ 500) (hmost : 0 ≤ m 25 0 ∧ m 25 0 ≤ 6) (hhas : ∃ g, rf_T m g ∧ ∀ v : Int, 0 ≤ v → v < 12 → 0 ≤ g v ∧ g v ≤ m 25 0) (hQ : ∀ (m' : vm_M) (r : Nat), rf_k m m' → cnt (cA_S m 4095) lim r → Q m' (r : Int)) :
    ∀ (n k : Nat) (mk : vm_M) (D x : Nat), 12 = k + n → rf_k m mk → D < 4096 → jn_cl m (fun u => D.testBit u = true) → (∀ v : Nat, v < k → D.testBit v = true) → cnt (cA_S m D) lim x → 1 ≤ x →
    vm_ex G (d + 9) mX8_countAll 15 [some (.inr (.inr 24)), some (.inl (lim : Int)), some (.inl (D : Int)), some (.inl (x : Int)), some (.inl (k : Int)), none] [] mk (vm_qi Q) := by
  obtain ⟨g0, hT0, hB0⟩ := hhas
  intro n
  induction n with
  | zero =>
    intro k mk D x hk km hD hcl hall hc hx
    have : k = 12 := by omega
    subst this
    have hDe : D = 4095 := by
      apply Nat.eq_of_testBit_eq
      intro i
      have h4 : (4095 : Nat) = 2 ^ 12 - 1 := rfl
      rw [h4, Nat.testBit_two_pow_sub_one]
      by_cases hi : i < 12
      · rw [hall i hi]; simp [hi]
      · rw [Nat.testBit_lt_two_pow (Nat.lt_of_lt_of_le hD (Nat.pow_le_pow_right (n := 2) (by decide) (show 12 ≤ i by omega)))]; simp [hi]
    subst hDe
    exact qX8_countAll_15 ⟨⟨by decide, by decide⟩, fun _ => hQ mk x km hc, fun h => absurd (by decide) h⟩
  | succ n ih =>
    intro k mk D x hk km hD hcl hall hc hx
    have hxl : x ≤ lim := by obtain ⟨_, _, _, _, q, _⟩ := hc; exact q
    have hbit := zz_bit D k (by omega) (by omega)
    refine qX8_countAll_15 ⟨⟨by omega, by omega⟩, fun h => absurd h (by omega), fun _ => ?_⟩
    rw [hbit]
    cases hbk : D.testBit k with
    | true =>
      simp only [if_true]
      refine ⟨⟨by decide, by decide⟩, fun _ => ?_, fun h => absurd h (by decide)⟩
      exact ih (k + 1) mk D x (by omega) km hD hcl (fun v hv => by
        by_cases e : v = k
        · subst e; exact hbk
        · exact hall v (by omega)) hc hx
    | false =>
      simp only [Bool.false_eq_true, if_false]
      refine ⟨⟨by decide, by decide⟩, fun h => absurd trivial h, fun _ => cm_layAll (fun m3 f3 b3 => ?_)⟩
      have k3 : rf_k m m3 := km.trans (fun c i a b => f3 c i (fun z => a (by rcases z.1 with e | e <;> simp [e])))
      have e250 : mk 25 0 = m 25 0 := by rw [km.eqv.1]
      rw [e250] at b3
      have ok3 := k3.eqv.ok ok
      have D3 : nr_D (fun _ => True) 20 m3 := fun v v0 v1 _ => by
        have := b3 v v0 v1
        omega
      have T3 : rf_T m3 = rf_T m := k3.eqv.T
      have g3 : nr_B m3 g0 := fun v v0 v1 => by
        have := b3 v v0 v1
        have := hB0 v v0 v1
        omega
      refine cm_narrow (d := d + 2) ok3 D3 (fun m5 b hW hbT hbF => ?_)
      have k5 : rf_k m m5 := k3.trans hW.k
      have ok5 := k5.eqv.ok ok
      have T5 : rf_T m5 = rf_T m := k5.eqv.T
      have C5 : rf_C m5 = rf_C m := k5.eqv.C
      have keep : ∀ g, rf_T m g → (∀ v : Int, 0 ≤ v → v < 12 → 0 ≤ g v ∧ g v ≤ m 25 0) → nr_B m5 g := fun g hg hb => hW.2.2 g (by rw [T3]; exact hg) (fun v v0 v1 => by
        have := b3 v v0 v1
        have := hb v v0 v1
        omega)
      have hbt : b = true := by
        cases hb : b with
        | true => rfl
        | false =>
          obtain ⟨v, v0, v1, v2⟩ := hbF hb
          have := keep g0 hT0 hB0 v v0 v1
          omega
      have D5 := (hbT hbt).2.2
      refine cm_part (d := d + 5) ok5 (by omega) (fun r hr => ?_)
      obtain ⟨r1, r2, r3, r4⟩ := hr
      have r3m : jn_cl m (fun u => r.testBit u = true) := fun v u hv hz t ht => r3 v u hv hz t (by rw [C5]; exact ht)
      have hdis : ∀ v : Nat, r.testBit v = true → ¬ D.testBit v = true := fun v hv => r4 (fun u => ¬ D.testBit u = true) (fun v u hv hz t ht => jn_cl_not ok hcl v u hv hz t (by rw [← C5]; exact ht)) (by rw [hbk]; exact Bool.false_ne_true) v hv
      refine cm_search (lim := lim) (d := d) ok5 D5 r1 r3 h1 (by omega) (fun m' lv k' hn hl hlt heq => ?_)
      have hcr : cnt (cA_S m r) lim lv.length := by
        refine ⟨lv, hn.1, fun u hu => ?_, rfl, hl, fun hlt2 u hu => ?_⟩
        · obtain ⟨i1, i2, i3⟩ := hn.2 u hu
          refine ⟨i3, fun v hv hb => ?_, fun t ht => i2 t (by rw [C5]; exact ht)⟩
          have q1 := i1 v hv hb
          have q2 := hW.2.1 (v : Int)
          have q3 := b3 (v : Int) (by omega) (by omega)
          omega
        · obtain ⟨u1, u2, u3⟩ := hu
          have hbx : ∀ v : Int, 0 ≤ v → v < 12 → 0 ≤ mx_U r u g0 v ∧ mx_U r u g0 v ≤ m 25 0 := fun v v0 v1 => by
            unfold mx_U
            split
            · rename_i h
              have := u2 v.toNat (by omega) h.2.2
              rwa [Int.toNat_of_nonneg v0] at this
            · exact hB0 v v0 v1
          have hmT : rf_T m (mx_U r u g0) := ⟨fun v v0 v1 => (hbx v v0 v1).1, fun t ht k k0 k1 => mx_at ok r3m u3 ht ⟨k0, k1⟩ (fun _ => hT0.2 t ht k k0 k1)⟩
          have := hlt hlt2 (mx_U r u g0) (by rw [T5]; exact hmT) (keep _ hmT hbx)
          have e : rs_U r (mx_U r u g0) = u := (rs_U_ext fun v hv hb => mx_U_in hv hb).trans u1
          rwa [e] at this
      have hl1 : 1 ≤ lv.length := by
        rcases Nat.eq_zero_or_pos lv.length with q | q
        · have := hlt (by omega) g0 (by rw [T5]; exact hT0) (keep g0 hT0 hB0)
          rw [List.length_eq_zero_iff.mp q] at this
          cases this
        · exact q
      have hpr := cA_prod ok hcl r3m hdis hc hcr hx hl1
      have hmul : (x : Int) * ((lv.length : Nat) : Int) = ((x * lv.length : Nat) : Int) := (Int.natCast_mul _ _).symm
      have hub : x * lv.length ≤ 250000 := Nat.le_trans (Nat.mul_le_mul (show x ≤ 500 by omega) (show lv.length ≤ 500 by omega)) (by decide)
      have hpos : 1 ≤ x * lv.length := Nat.mul_le_mul hx hl1
      have hall' : ∀ v : Nat, v < k + 1 → (D ||| r).testBit v = true := fun v hv => by
        rw [Nat.testBit_or, Bool.or_eq_true]
        by_cases e : v = k
        · subst e; exact Or.inr r2
        · exact Or.inl (hall v (by omega))
      rw [hmul, zz_or D r (by omega) (by omega)]
      refine ⟨⟨by omega, by omega⟩, ⟨by omega, by omega⟩, fun hle => ?_, fun hgt => ?_⟩
      · rw [show min lim (x * lv.length) = x * lv.length by omega] at hpr
        exact ih (k + 1) m' (D ||| r) (x * lv.length) (by omega) (k5.trans k') (zz_or_lt 12 hD r1) (jn_cl_or hcl r3m) hall' hpr hpos
      · rw [show min lim (x * lv.length) = lim by omega] at hpr
        exact ih (k + 1) m' (D ||| r) lim (by omega) (k5.trans k') (zz_or_lt 12 hD r1) (jn_cl_or hcl r3m) hall' hpr h1
theorem cm_solutions {lim : Int} {Q : vm_M → Int → Prop} (hl : vm_R lim) (ok : st_ok (m 25)) (hQ : ∀ (m' : vm_M) (r : Int), rf_F m m' → an_solutions (m 25) lim r → Q m' r) : vm_ci G (d + 12) mX8_solutions [.inr (.inr 24), .inl lim] m Q := by
  refine qX8_solutions (cm_in2 hl ⟨by decide, by decide⟩ ⟨by decide, by decide⟩ (fun n => ⟨fun h => Bool.noConfusion h, fun _ => hQ m _ (rf_F.refl m) (Or.inl ⟨n, rfl⟩)⟩) (fun q => ⟨fun _ => ?_, fun h => Bool.noConfusion h⟩))
  refine cm_isSolvedNowX ok (fun m1 b F1 h9 h1 => ⟨fun z => ?_, fun z => hQ m1 _ F1 (Or.inr ⟨q, 0, ⟨[], List.nodup_nil, fun u hu => (List.not_mem_nil hu).elim, rfl, Nat.zero_le _, fun _ u hu => absurd (h1.mpr ⟨u, hu.1⟩) (by rw [z]; exact Bool.false_ne_true)⟩, rfl⟩)⟩)
  have ek : lim = ((lim.toNat : Nat) : Int) := by omega
  have hs := (st_all_int ok.2.1).2
  refine qX8_countAll (cm_allFacts (by rw [F1.st]; exact ok.2.1) (fun m3 e3 => ?_))
  have F3 : rf_F m1 m3 := fun c i a b => by rw [e3, zz_other (by omega)]
  have F13 := F1.trans F3
  have e9 : m3 24 9 = 0 := by rw [e3, zz_other (by simp)]; exact h9
  have e10 : m3 24 10 = ((st_all (m 25) : Nat) : Int) := by rw [e3, zz_same, F1.st]
  have ok3 : rf_ok m3 := ⟨by rw [F13.st]; exact ok.2.1, by omega, by rw [F13.st]; exact ok.2.2, Or.inl e9, fun j j0 j1 => by omega⟩
  have hT : ∀ g : fc_G, (∀ v : Int, 0 ≤ v → v < 12 → 0 ≤ g v ∧ g v ≤ m 25 0) → (rf_T m3 g ↔ sl (m 25) (st_all (m 25)) g) := fun g hb => by
    have := rf_T_sl (m' := m3) e10 (g := g) (by rw [F13.st]; exact hb)
    rw [F13.st] at this
    exact this.trans ⟨fun h => h.1, fun h => ⟨h, fun j j0 j1 => by omega⟩⟩
  obtain ⟨g0, hg0⟩ := h1.mp z
  have hst := ok.1
  have := cm_countAll_15 (G := G) (d := d + 2) (m := m3) (lim := lim.toNat) (Q := Q) ok3 (by omega) (by omega) (by rw [F13.st]; omega) ⟨g0, (hT g0 hg0.1).mpr hg0, fun v v0 v1 => by rw [F13.st]; exact hg0.1 v v0 v1⟩ (fun m' r k' hc => hQ m' _ (F13.trans k'.F) (Or.inr ⟨q, r, ?_, rfl⟩)) 12 0 m3 0 1 rfl (rf_k.refl m3) (by decide) (fun v u _ hz => by simp at hz) (fun v hv => absurd hv (by omega)) ?_ (by decide)
  · rw [← ek] at this
    exact this
  · have heq : cA_S m3 4095 = an_S (m 25) := by
      funext g
      apply propext
      have tb : ∀ v : Nat, v < 12 → (4095 : Nat).testBit v = true := fun v hv => by
        rw [show (4095 : Nat) = 2 ^ 12 - 1 from rfl, Nat.testBit_two_pow_sub_one]; simp [hv]
      constructor
      · rintro ⟨a1, a2, a3⟩
        have hb : ∀ v : Int, 0 ≤ v → v < 12 → 0 ≤ g v ∧ g v ≤ m 25 0 := fun v v0 v1 => by
          have := a2 v.toNat (by omega) (tb v.toNat (by omega))
          rwa [Int.toNat_of_nonneg v0, F13.st] at this
        refine ⟨(hT g hb).mp ⟨fun v v0 v1 => (hb v v0 v1).1, fun t ht k k0 k1 => ?_⟩, a1⟩
        obtain ⟨v, hv, ha⟩ := fc_av_some (rf_C_wf ok3 ht) ⟨k0, k1⟩
        exact a3 t ht k k0 k1 ⟨v, hv, tb v hv, ha⟩
      · rintro ⟨b1, b2⟩
        refine ⟨b2, fun v hv _ => by rw [F13.st]; exact b1.1 (v : Int) (by omega) (by omega), fun t ht k k0 k1 _ => ((hT g b1.1).mpr b1).2 t ht k k0 k1⟩
    rw [heq] at hc
    exact hc
  · refine ⟨[fun _ => 0], by simp, fun u hu => ?_, rfl, by omega, fun _ u hu => ?_⟩
    · rw [List.mem_singleton] at hu
      subst hu
      exact ⟨by funext v; exact rs_U_out (by simp), fun v _ hb => by simp at hb, fun t _ k _ _ ⟨v, _, hb, _⟩ => by simp at hb⟩
    · rw [List.mem_singleton, ← hu.1]
      funext v
      exact rs_U_out (by simp)
end RD
