/-! THE REFERENCE: search(), and whether there is a solution -/
section SV
variable {G : vm_G} {d : Nat} {m : vm_M}
theorem cm_search {U lim : Nat} {Q : vm_M → Int → Prop} (ok : rf_ok m) (D : nr_D (fun _ => True) 20 m) (hU : U < 4096) (hcl : jn_cl m (fun u => U.testBit u = true)) (h1 : 1 ≤ lim) (h2 : lim ≤ 1000)
    (hQ : ∀ (m' : vm_M) (lv : List fc_G), rf_k m m' → rf_new m U lv → lv.length ≤ lim → (lv.length < lim → ∀ g, rf_T m g → nr_B m g → rs_U U g ∈ lv) → (lv.length = lim → (∃ u ∈ lv, ∀ g, rf_T m g → nr_B m g → rs_U U g = u → nr_B m' g) ∧ nr_D (fun _ => True) 20 m' ∧ ∀ v : Int, 0 ≤ v → v < 12 → m 29 v ≤ m' 29 v ∧ m' 30 v ≤ m 30 v) → Q m' ((lv.length : Nat) : Int)) : vm_ci G (d + 8) mX8_search [.inr (.inr 24), .inl (U : Int), .inl (lim : Int)] m Q := by
  refine qX8_search (fun m1 e1 => ?_)
  have e29 : m1 29 = m 29 := by rw [e1]; exact zz_cell (by decide)
  have e30 : m1 30 = m 30 := by rw [e1]; exact zz_cell (by decide)
  have k1 : rf_k m m1 := fun c i a b => by rw [e1]; exact zz_other (fun z => b ⟨z.1, Or.inr z.2⟩)
  have f1 : m1 24 12 = -6 := by rw [e1, zz_same]
  have ok1 := k1.eqv.ok ok
  have D1 : nr_D (fun _ => True) 20 m1 := fun v v0 v1 hv => by rw [e29, e30]; exact D v v0 v1 hv
  refine cm_narrow (d := d + 1) ok1 D1 (fun m2 b hW hT hF => ?_)
  have k2 := k1.trans hW.k
  have f2 : m2 24 12 = -6 := (hW.1 24 12 (by simp) (by simp)).trans f1
  have T2 : rf_T m2 = rf_T m := k2.eqv.T
  have C2 : rf_C m2 = rf_C m := k2.eqv.C
  have T1 : rf_T m1 = rf_T m := k1.eqv.T
  have sub2 : ∀ v : Int, m 29 v ≤ m2 29 v ∧ m2 30 v ≤ m 30 v := fun v => by rw [← e29, ← e30]; exact hW.2.1 v
  have keep2 : ∀ g, rf_T m g → nr_B m g → nr_B m2 g := fun g hg hb => hW.2.2 g (by rw [T1]; exact hg) (fun v v0 v1 => by rw [e29, e30]; exact hb v v0 v1)
  have lift : ∀ new, rf_new m2 U new → rf_new m U new := fun new hn => ⟨hn.1, fun u hu => by
    obtain ⟨i1, i2, i3⟩ := hn.2 u hu
    refine ⟨fun v hv hb => ?_, fun t ht => i2 t (by rw [C2]; exact ht), i3⟩
    have a1 := i1 v hv hb
    have a2 := sub2 (v : Int)
    omega⟩
  have hcu : rf_cu m2 ≤ 12 := by
    have h0 : zz_sm (fun _ => 1) 12 = 12 := by decide
    rw [← h0]
    exact zz_sm_le (fun v v0 v1 => by split <;> decide)
  have := cm_search_17 (G := G) (d := d + 1) (Q := Q) (lim := lim) hU h2 (rf_ms m2).toNat m2 b [] 0 (k2.eqv.ok ok) (fun v u hv hz t ht => hcl v u hv hz t (by rw [← C2]; exact ht)) (by omega) (by decide) (by omega) (by simp; omega) (fun hb => by
      obtain ⟨n1, n2, n3⟩ := hT hb
      exact ⟨by omega, n1, n2, n3⟩) hF (fun m' new v5 v6 k3 fr3 ff3 hn hl hc => by
      refine qX8_search_121 ⟨⟨by decide, by decide⟩, fun _ => ⟨⟨by decide, by decide⟩, fun h => absurd rfl h, fun _ => ?_⟩, fun h => absurd (by decide) h⟩
      exact hQ m' ([] ++ new) (k2.trans k3) (lift _ hn) (by omega) (fun _ g hg hb => hc g (by rw [T2]; exact hg) (keep2 g hg hb)) (fun h => by omega)) (fun m' new k3 ff3 hn hl hu hD => by
      have hl' : new.length = lim := by simpa using hl
      have := hQ m' new (k2.trans k3) (lift _ hn) (by omega) (fun h => by omega) (fun _ => ⟨by
        obtain ⟨u, hu1, hu2⟩ := hu
        exact ⟨u, hu1, fun g hg hb hgu => hu2 g (by rw [T2]; exact hg) (keep2 g hg hb) hgu⟩, hD.1, fun v v0 v1 => by have a1 := hD.2 v v0 v1; have a2 := sub2 v; omega⟩)
      rw [hl'] at this
      exact this)
  exact this
/-- u on U, g elsewhere -/
def mx_U (U : Nat) (u g : fc_G) : fc_G := fun v => if 0 ≤ v ∧ v < 12 ∧ U.testBit v.toNat = true then u v else g v
theorem mx_U_in {U : Nat} {u g : fc_G} {v : Nat} (hv : v < 12) (h : U.testBit v = true) : mx_U U u g (v : Int) = u (v : Int) := by
  unfold mx_U
  rw [if_pos ⟨by omega, by omega, by rw [Int.toNat_natCast]; exact h⟩]
theorem mx_U_out {U : Nat} {u g : fc_G} {v : Nat} (h : ¬ (v < 12 ∧ U.testBit v = true)) : mx_U U u g (v : Int) = g (v : Int) := by
  unfold mx_U
  rw [if_neg (fun z => h ⟨by omega, by rw [Int.toNat_natCast] at z; exact z.2.2⟩)]
theorem mx_at {U : Nat} {u g : fc_G} (ok : rf_ok m) (hcl : jn_cl m (fun x => U.testBit x = true)) (hu : sU m U u) {t : fc_T} (ht : rf_C m t) {k : Int} (hk : 0 ≤ k ∧ k < 3) (hg : (∀ v : Nat, v < 12 → fc_av t k (v : Int) → ¬ U.testBit v = true) → fc_at t k g) : fc_at t k (mx_U U u g) := by
  have hw := rf_C_wf ok ht
  by_cases h : ∃ v : Nat, v < 12 ∧ U.testBit v = true ∧ fc_av t k (v : Int)
  · have h1 := hu t ht k hk.1 hk.2 h
    obtain ⟨v, hv, hb, ha⟩ := h
    obtain ⟨-, h2, h3⟩ := fc_av_mod hw hk ha
    refine fc_at_congr (fun x hx => ?_) h1
    obtain ⟨hx0, -, -⟩ := fc_av_mod hw hk hx
    have hxe : ((x.toNat : Nat) : Int) = x := Int.toNat_of_nonneg hx0.1
    have hb2 := hcl v x.toNat hv hb t ht h2 (by rw [hxe]; exact h3 x hx)
    have := mx_U_in (u := u) (g := g) (show x.toNat < 12 by omega) hb2
    rw [hxe] at this
    exact this.symm
  · have hno : ∀ v : Nat, v < 12 → fc_av t k (v : Int) → ¬ U.testBit v = true := fun v hv ha hb => h ⟨v, hv, hb, ha⟩
    refine fc_at_congr (fun x hx => ?_) (hg hno)
    obtain ⟨hx0, -, -⟩ := fc_av_mod hw hk hx
    have hxe : ((x.toNat : Nat) : Int) = x := Int.toNat_of_nonneg hx0.1
    have := mx_U_out (u := u) (g := g) (U := U) (v := x.toNat) (fun z => hno x.toNat z.1 (by rw [hxe]; exact hx) z.2)
    rw [hxe] at this
    exact this.symm
/-- a solution, with one part's counts put in -/
theorem mx_T {U : Nat} {u g : fc_G} (ok : rf_ok m) (D : nr_D (fun _ => True) 20 m) (hcl : jn_cl m (fun x => U.testBit x = true)) (hu : sU m U u) (hi : iU m U u) (hg : rf_T m g) (hb : nr_B m g) : rf_T m (mx_U U u g) ∧ nr_B m (mx_U U u g) := by
  have box : nr_B m (mx_U U u g) := fun v v0 v1 => by
    unfold mx_U
    split
    · rename_i h
      have := hi v.toNat (by omega) h.2.2
      rwa [Int.toNat_of_nonneg v0] at this
    · exact hb v v0 v1
  refine ⟨⟨fun v v0 v1 => ?_, fun t ht k k0 k1 => mx_at ok hcl hu ht ⟨k0, k1⟩ (fun _ => hg.2 t ht k k0 k1)⟩, box⟩
  have := box v v0 v1
  have := D v v0 v1 trivial
  omega
theorem fc_av_some {t : fc_T} {k : Int} (hw : fc_wf t) (hk : 0 ≤ k ∧ k < 3) : ∃ v : Nat, v < 12 ∧ fc_av t k (v : Int) := by
  have : ∃ x : Int, fc_av t k x := by
    obtain ⟨f, a, b, c, d, e⟩ := t
    simp only [fc_av]
    by_cases h0 : f = 0
    · exact ⟨3 * a + b, by rw [if_pos h0]⟩
    by_cases h1 : f = 1
    · exact ⟨3 * a, by rw [if_neg h0, if_pos h1]; exact Or.inl rfl⟩
    by_cases h2 : f = 2 ∨ f = 3 ∨ f = 4
    · exact ⟨3 * a + k, by rw [if_neg h0, if_neg h1, if_pos h2]; exact Or.inl rfl⟩
    by_cases h5 : f = 5
    · exact ⟨3 * a + k, by rw [if_neg h0, if_neg h1, if_neg h2, if_pos h5]; exact Or.inl rfl⟩
    by_cases h6 : f = 6
    · exact ⟨3 * a + b, by rw [if_neg h0, if_neg h1, if_neg h2, if_neg h5, if_pos h6]; exact Or.inl rfl⟩
    · exact ⟨3 * a + d, by rw [if_neg h0, if_neg h1, if_neg h2, if_neg h5, if_neg h6]; exact Or.inl rfl⟩
  obtain ⟨x, hx⟩ := this
  have h0 := (fc_av_mod hw hk hx).1
  exact ⟨x.toNat, by omega, by rw [Int.toNat_of_nonneg h0.1]; exact hx⟩
theorem cm_isSolvedByParts_9 {Q : vm_M → Bool → Prop} (ok : rf_ok m) (D : nr_D (fun _ => True) 20 m) (hQ : ∀ (m' : vm_M) (b : Bool), rf_k m m' → (b = true ↔ ∃ g, rf_T m g ∧ nr_B m g) → Q m' b) :
    ∀ (n : Nat) (k : Nat) (mk : vm_M) (dn : Nat) (b : Bool), 12 = k + n → rf_k m mk → dn < 4096 →
    (b = true → nr_D (fun _ => True) 20 mk ∧ (∀ v : Int, 0 ≤ v → v < 12 → m 29 v ≤ mk 29 v ∧ mk 30 v ≤ m 30 v) ∧ ((∃ g, rf_T m g ∧ nr_B m g) → ∃ g, rf_T m g ∧ nr_B mk g) ∧ (∀ v : Nat, v < k → dn.testBit v = true) ∧ jn_cl m (fun u => dn.testBit u = true) ∧ ∃ g : fc_G, iU m dn g ∧ sU m dn g) →
    (b = false → ¬ ∃ g, rf_T m g ∧ nr_B m g) →
    vm_ex G (d + 9) mX8_isSolvedByParts 9 [some (.inr (.inr 24)), some (.inl (dn : Int)), some (.inl (vm_b2i b)), some (.inl (k : Int)), none] [] mk (vm_qb Q) := by
  have fins : ∀ (mk : vm_M), rf_k m mk → (¬ ∃ g, rf_T m g ∧ nr_B m g) → Q mk false := fun mk km h => hQ mk false km ⟨fun h => Bool.noConfusion h, fun z => absurd z h⟩
  intro n
  induction n with
  | zero =>
    intro k mk dn b hk km hdn hbt hbf
    have : k = 12 := by omega
    subst this
    refine qX8_isSolvedByParts_9 ⟨⟨by decide, by decide⟩, fun _ => ⟨b, rfl, hQ mk b km ⟨fun hb => ?_, fun h => ?_⟩⟩, fun h => absurd (by decide) h⟩
    · obtain ⟨h1, h2, h3, h4, h5, g, h6, h7⟩ := hbt hb
      have box : nr_B m g := fun v v0 v1 => by
        have a1 := h6 v.toNat (by omega) (h4 v.toNat (by omega))
        rwa [Int.toNat_of_nonneg v0] at a1
      refine ⟨g, ⟨fun v v0 v1 => ?_, fun t ht k k0 k1 => ?_⟩, box⟩
      · have a1 := box v v0 v1
        have a2 := D v v0 v1 trivial
        omega
      · obtain ⟨v, hv, ha⟩ := fc_av_some (rf_C_wf ok ht) ⟨k0, k1⟩
        exact h7 t ht k k0 k1 ⟨v, hv, h4 v hv, ha⟩
    · cases hb : b with
      | true => rfl
      | false => exact absurd h (hbf hb)
  | succ n ih =>
    intro k mk dn b hk km hdn hbt hbf
    refine qX8_isSolvedByParts_9 ⟨⟨by omega, by omega⟩, fun h => absurd h (by omega), fun _ => ⟨vm_b2i_R b, fun h0 => ⟨b, rfl, ?_⟩, fun h0 => ?_⟩⟩
    · have hb := vm_b2i_0.mp h0
      subst hb
      exact fins mk km (hbf rfl)
    · have hb := vm_b2i_n.mp h0
      subst hb
      obtain ⟨h1, h2, h3, h4, h5, g, h6, h7⟩ := hbt rfl
      have hbit := zz_bit dn k (by omega) (by omega)
      rw [hbit]
      cases hbk : dn.testBit k with
      | true =>
        simp only [if_true]
        refine ⟨⟨by decide, by decide⟩, fun _ => ?_, fun h => absurd h (by decide)⟩
        exact ih (k + 1) mk dn true (by omega) km hdn (fun _ => ⟨h1, h2, h3, fun v hv => by
          by_cases e : v = k
          · subst e; exact hbk
          · exact h4 v (by omega), h5, g, h6, h7⟩) hbf
      | false =>
        simp only [Bool.false_eq_true, if_false]
        refine ⟨⟨by decide, by decide⟩, fun h => absurd trivial h, fun _ => ?_⟩
        have okk := km.eqv.ok ok
        have Tk : rf_T mk = rf_T m := km.eqv.T
        have Ck : rf_C mk = rf_C m := km.eqv.C
        refine cm_part (d := d + 5) okk (by omega) (fun r hr => ?_)
        obtain ⟨r1, r2, r3, r4⟩ := hr
        have r3m : jn_cl m (fun u => r.testBit u = true) := fun v u hv hz t ht => r3 v u hv hz t (by rw [Ck]; exact ht)
        refine cm_search (lim := 1) okk h1 r1 r3 (by decide) (by decide) (fun m' lv k' hn hl hlt heq => ⟨⟨by omega, by omega⟩, fun hne => ?_, fun he => ?_⟩)
        · rw [zz_or dn r (by omega) (by omega)]
          have h0 : lv.length = 0 := by omega
          have hno : ¬ ∃ g, rf_T m g ∧ nr_B m g := fun z => by
            obtain ⟨g', a1, a2⟩ := h3 z
            have := hlt (by omega) g' (by rw [Tk]; exact a1) a2
            rw [List.length_eq_zero_iff.mp h0] at this
            cases this
          exact ih (k + 1) m' (dn ||| r) false (by omega) (km.trans k') (zz_or_lt 12 hdn r1) (fun h => Bool.noConfusion h) (fun _ => hno)
        · rw [zz_or dn r (by omega) (by omega)]
          obtain ⟨⟨u, hu1, hu2⟩, hD', hsub'⟩ := heq (by omega)
          obtain ⟨i1, i2, i3⟩ := hn.2 u hu1
          have i2m : sU m r u := fun t ht => i2 t (by rw [Ck]; exact ht)
          have i1m : iU m r u := fun v hv hb => by
            have a1 := i1 v hv hb
            have a2 := h2 (v : Int) (by omega) (by omega)
            omega
          refine ih (k + 1) m' (dn ||| r) true (by omega) (km.trans k') (zz_or_lt 12 hdn r1) (fun _ => ⟨hD', fun v v0 v1 => ?_, fun z => ?_, fun v hv => ?_, fun v w hv hz t ht ha hb => ?_, mx_U r u g, fun v hv hb => ?_, fun t ht k k0 k1 hx => ?_⟩) (fun h => Bool.noConfusion h)
          · have a1 := hsub' v v0 v1
            have a2 := h2 v v0 v1
            omega
          · obtain ⟨g', a1, a2⟩ := h3 z
            obtain ⟨b1, b2⟩ := mx_T okk h1 r3 i2 i1 (by rw [Tk]; exact a1) a2
            rw [Tk] at b1
            refine ⟨_, b1, hu2 _ (by rw [Tk]; exact b1) b2 ?_⟩
            exact (rs_U_ext fun v hv hb => mx_U_in hv hb).trans i3
          · rw [Nat.testBit_or, Bool.or_eq_true]
            by_cases e : v = k
            · subst e; exact Or.inr r2
            · exact Or.inl (h4 v (by omega))
          · have hz2 : (dn ||| r).testBit v = true := hz
            show (dn ||| r).testBit w = true
            rw [Nat.testBit_or, Bool.or_eq_true] at hz2 ⊢
            rcases hz2 with hz | hz
            · exact Or.inl (h5 v w hv hz t ht ha hb)
            · exact Or.inr (r3m v w hv hz t ht ha hb)
          · by_cases hbr : r.testBit v = true
            · rw [mx_U_in hv hbr]; exact i1m v hv hbr
            · rw [mx_U_out (fun z => hbr z.2)]
              rw [Nat.testBit_or, Bool.or_eq_true] at hb
              exact h6 v hv (hb.resolve_right hbr)
          · obtain ⟨v, hv, hb, ha⟩ := hx
            refine mx_at ok r3m i2m ht ⟨k0, k1⟩ (fun hno => ?_)
            rw [Nat.testBit_or, Bool.or_eq_true] at hb
            exact h7 t ht k k0 k1 ⟨v, hv, hb.resolve_right (hno v hv ha), ha⟩
end SV
