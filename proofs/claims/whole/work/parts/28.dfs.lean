/-! THE REFERENCE: the search -/
def rs_U (U : Nat) (g : fc_G) : fc_G := fun v => if 0 ≤ v ∧ v < 12 ∧ U.testBit v.toNat = true then g v else 0
theorem rs_U_in {U : Nat} {g : fc_G} {v : Nat} (hv : v < 12) (h : U.testBit v = true) : rs_U U g (v : Int) = g (v : Int) := by
  unfold rs_U
  rw [if_pos ⟨by omega, by omega, by rw [Int.toNat_natCast]; exact h⟩]
theorem rs_U_idem (U : Nat) (g : fc_G) : rs_U U (rs_U U g) = rs_U U g := by
  funext v
  unfold rs_U
  split <;> rfl
theorem rs_U_ext {U : Nat} {g g' : fc_G} (h : ∀ v : Nat, v < 12 → U.testBit v = true → g (v : Int) = g' (v : Int)) : rs_U U g = rs_U U g' := by
  funext v
  unfold rs_U
  split
  · rename_i hv
    have := h v.toNat (by omega) hv.2.2
    rwa [Int.toNat_of_nonneg hv.1] at this
  · rfl
/-- the facts hold, as far as they speak of counts of U -/
def sU (m : vm_M) (U : Nat) (u : fc_G) : Prop := ∀ t, rf_C m t → ∀ k : Int, 0 ≤ k → k < 3 → (∃ v : Nat, v < 12 ∧ U.testBit v = true ∧ fc_av t k (v : Int)) → fc_at t k u
def iU (m : vm_M) (U : Nat) (u : fc_G) : Prop := ∀ v : Nat, v < 12 → U.testBit v = true → m 29 (v : Int) ≤ u (v : Int) ∧ u (v : Int) ≤ m 30 (v : Int)
theorem fc_av_mod {t : fc_T} {k v : Int} (hw : fc_wf t) (hk : 0 ≤ k ∧ k < 3) (h : fc_av t k v) : (0 ≤ v ∧ v < 12) ∧ fc_av t (v % 3) v ∧ ∀ u, fc_av t k u → fc_av t (v % 3) u := by
  obtain ⟨f, a, b, c, d, e⟩ := t
  obtain ⟨w1, w2, w3, w4, w5, w6, w7, w8⟩ := hw
  by_cases h0 : f = 0
  · subst h0
    have := w3 rfl
    simp [fc_av] at h ⊢
    exact ⟨by omega, h⟩
  by_cases h1 : f = 1
  · subst h1
    simp [fc_av] at h ⊢
    exact ⟨by omega, h⟩
  by_cases h2 : f = 2 ∨ f = 3 ∨ f = 4
  · have := w5 h2
    simp only [fc_av, h0, h1, h2, if_false, if_true] at h ⊢
    have e : v % 3 = k := by omega
    rw [e]
    exact ⟨by omega, h, fun u hu => hu⟩
  by_cases h5 : f = 5
  · subst h5
    have := w6 rfl
    simp only [fc_av, show ¬ (5 : Int) = 0 by decide, show ¬ (5 : Int) = 1 by decide, show ¬ ((5 : Int) = 2 ∨ (5 : Int) = 3 ∨ (5 : Int) = 4) by decide, if_false, if_true] at h ⊢
    have e : v % 3 = k := by omega
    rw [e]
    exact ⟨by omega, h, fun u hu => hu⟩
  by_cases h6 : f = 6
  · subst h6
    have := w7 rfl
    simp [fc_av] at h ⊢
    exact ⟨by omega, h⟩
  have h7 : f = 7 ∨ f = 8 := by omega
  have := w8 h7
  simp only [fc_av, h0, h1, h2, h5, h6, if_false] at h ⊢
  exact ⟨by omega, h, fun u hu => hu⟩
theorem rf_C_wf {m : vm_M} (ok : rf_ok m) {t : fc_T} (h : rf_C m t) : fc_wf t := by
  rcases h with ⟨i, h1, _, rfl⟩ | ⟨j, j0, j1, rfl⟩
  · exact ok.2.2.1 (i : Int) (by omega) h1
  · exact ok.2.2.2.2 j j0 j1
theorem rf_leaf {m : vm_M} {U : Nat} (ok : rf_ok m) (hcl : jn_cl m (fun u => U.testBit u = true)) (hst : rf_st m) (hfix : ∀ v : Nat, v < 12 → U.testBit v = true → m 29 (v : Int) = m 30 (v : Int)) : sU m U (rs_U U (m 29)) := by
  intro t ht k k0 k1 ⟨v, hv, hb, ha⟩
  have hw := rf_C_wf ok ht
  refine hst t ht k k0 k1 _ (fun x hx => ?_)
  obtain ⟨hx0, -, -⟩ := fc_av_mod hw ⟨k0, k1⟩ hx
  obtain ⟨-, h2, h3⟩ := fc_av_mod hw ⟨k0, k1⟩ ha
  have hxe : ((x.toNat : Nat) : Int) = x := Int.toNat_of_nonneg hx0.1
  have hb2 := hcl v x.toNat hv hb t ht h2 (by rw [hxe]; exact h3 x hx)
  have := rs_U_in (g := m 29) (show x.toNat < 12 by omega) hb2
  have hf := hfix x.toNat (by omega) hb2
  rw [hxe] at this hf
  rw [this, ← hf]
  exact ⟨rfl, rfl⟩
/-- what the search may change -/
def rf_k (m m' : vm_M) : Prop := ∀ (c : Nat) (i : Int), ¬ (c = 29 ∨ c = 30 ∨ c = 32 ∨ c = 33 ∨ c = 34) → ¬ (c = 24 ∧ (i = 11 ∨ i = 12)) → m' c i = m c i
theorem rf_k.refl (m : vm_M) : rf_k m m := fun _ _ _ _ => rfl
theorem rf_k.trans {a b c : vm_M} (h1 : rf_k a b) (h2 : rf_k b c) : rf_k a c := fun x i p q => (h2 x i p q).trans (h1 x i p q)
theorem rf_k.eqv {m m' : vm_M} (h : rf_k m m') : rf_eq m m' := ⟨funext fun i => h 25 i (by simp) (by simp), funext fun i => h 31 i (by simp) (by simp), h 24 10 (by simp) (by simp), h 24 9 (by simp) (by simp)⟩
theorem nr_W.k {T : fc_G → Prop} {m m' : vm_M} (h : nr_W T m m') : rf_k m m' := fun c i h1 h2 => h.1 c i (fun z => h1 (by rcases z.1 with e | e <;> simp [e])) (fun z => h2 ⟨z.1, Or.inl z.2⟩)
def rf_fr (m m' : vm_M) (dep : Int) : Prop := (∀ i : Int, i < 12 * dep → m' 32 i = m 32 i ∧ m' 33 i = m 33 i) ∧ ∀ i : Int, i < dep → m' 34 i = m 34 i
theorem rf_fr.trans {a b c : vm_M} {dep : Int} (h1 : rf_fr a b dep) (h2 : rf_fr b c dep) : rf_fr a c dep := ⟨fun i h => ⟨(h2.1 i h).1.trans (h1.1 i h).1, (h2.1 i h).2.trans (h1.1 i h).2⟩, fun i h => (h2.2 i h).trans (h1.2 i h)⟩
theorem rf_fr.less {a b : vm_M} {d1 d2 : Int} (h : rf_fr a b d1) (hd : d2 ≤ d1) : rf_fr a b d2 := ⟨fun i hi => h.1 i (by omega), fun i hi => h.2 i (by omega)⟩
theorem nr_W.fr {T : fc_G → Prop} {m m' : vm_M} (h : nr_W T m m') (dep : Int) : rf_fr m m' dep := ⟨fun i _ => ⟨h.1 32 i (by simp) (by simp), h.1 33 i (by simp) (by simp)⟩, fun i _ => h.1 34 i (by simp) (by simp)⟩
def rf_cu (m : vm_M) : Int := zz_sm (fun v => if m 29 v < m 30 v then 1 else 0) 12
theorem rf_cu_le {m m' : vm_M} (h : ∀ v : Int, 0 ≤ v → v < 12 → m 29 v ≤ m' 29 v ∧ m' 30 v ≤ m 30 v) : rf_cu m' ≤ rf_cu m := by
  refine zz_sm_le (fun v v0 v1 => ?_)
  have := h v v0 v1
  split <;> split <;> omega
theorem rf_cu_lt {m m' : vm_M} (h : ∀ v : Int, 0 ≤ v → v < 12 → m 29 v ≤ m' 29 v ∧ m' 30 v ≤ m 30 v) {w : Int} (hw : 0 ≤ w ∧ w < 12) (h1 : m 29 w < m 30 w) (h2 : m' 30 w ≤ m' 29 w) : rf_cu m' < rf_cu m := by
  refine zz_sm_lt (fun v v0 v1 => ?_) ⟨w, hw.1, hw.2, ?_⟩
  · have := h v v0 v1
    split <;> split <;> omega
  · rw [if_neg (by omega), if_pos h1]; decide
theorem rf_cu_nn (m : vm_M) : 0 ≤ rf_cu m := zz_sm_nn (fun v _ _ => by split <;> decide)
theorem rf_ms_le2 {m m' : vm_M} (h : ∀ v : Int, 0 ≤ v → v < 12 → m 29 v ≤ m' 29 v ∧ m' 30 v ≤ m 30 v) : rf_ms m' ≤ rf_ms m := zz_sm_le (fun v v0 v1 => by have := h v v0 v1; omega)
theorem rf_ms_lt2 {m m' : vm_M} (h : ∀ v : Int, 0 ≤ v → v < 12 → m 29 v ≤ m' 29 v ∧ m' 30 v ≤ m 30 v) {w : Int} (hw : 0 ≤ w ∧ w < 12) (h1 : m 29 w < m' 29 w ∨ m' 30 w < m 30 w) : rf_ms m' < rf_ms m :=
  zz_sm_lt (fun v v0 v1 => by have := h v v0 v1; omega) ⟨w, hw.1, hw.2, by have := h w hw.1 hw.2; omega⟩
section DF
variable {G : vm_G} {d : Nat} {Q : vm_M → Int → Prop} {U : Nat} {lim : Nat}
/-- leaves that a node has brought -/
def rf_new (m : vm_M) (U : Nat) (new : List fc_G) : Prop := new.Nodup ∧ ∀ u ∈ new, iU m U u ∧ sU m U u ∧ rs_U U u = u
def rf_HB (G : vm_G) (d : Nat) (Q : vm_M → Int → Prop) (U lim : Nat) (m : vm_M) (lv : List fc_G) (dep : Int) : Prop :=
  ∀ (m' : vm_M) (new : List fc_G) (v5 v6 : Int), rf_k m m' → rf_fr m m' dep → (-6 ≤ m' 24 12 ∧ m' 24 12 < 12) → rf_new m U new → (lv ++ new).length < lim → (∀ g, rf_T m g → nr_B m g → rs_U U g ∈ new) →
    vm_ex G (d + 7) mX8_search 121 [some (.inr (.inr 24)), some (.inl (U : Int)), some (.inl (lim : Int)), some (.inl (((lv ++ new).length : Nat) : Int)), some (.inl dep), some (.inl v5), some (.inl v6), some (.inl 0), none] [] m' (vm_qi Q)
def rf_HL (Q : vm_M → Int → Prop) (U lim : Nat) (m : vm_M) (lv : List fc_G) : Prop :=
  ∀ (m' : vm_M) (new : List fc_G), rf_k m m' → (-6 ≤ m' 24 12 ∧ m' 24 12 < 12) → rf_new m U new → (lv ++ new).length = lim → (∃ u ∈ new, ∀ g, rf_T m g → nr_B m g → rs_U U g = u → nr_B m' g) → (nr_D (fun _ => True) 20 m' ∧ ∀ v : Int, 0 ≤ v → v < 12 → m 29 v ≤ m' 29 v ∧ m' 30 v ≤ m 30 v) → Q m' (lim : Int)
theorem cm_search_17 (hU : U < 4096) (hlim : lim ≤ 1000) : ∀ (n : Nat) (m : vm_M) (b : Bool) (lv : List fc_G) (dep : Int), rf_ok m → jn_cl m (fun u => U.testBit u = true) → (-6 ≤ m 24 12 ∧ m 24 12 < 12) → 0 ≤ dep → dep + rf_cu m ≤ 12 → lv.length < lim →
    (b = true → rf_ms m ≤ (n : Int) ∧ (∀ v : Int, 0 ≤ v → v < 12 → m 29 v ≤ m 30 v) ∧ rf_st m ∧ nr_D (fun _ => True) 20 m) → (b = false → ∃ v : Int, 0 ≤ v ∧ v < 12 ∧ m 30 v < m 29 v) →
    rf_HB G d Q U lim m lv dep → rf_HL Q U lim m lv →
    vm_ex G (d + 7) mX8_search 17 [some (.inr (.inr 24)), some (.inl (U : Int)), some (.inl (lim : Int)), some (.inl ((lv.length : Nat) : Int)), some (.inl dep), some (.inl (vm_b2i b)), none, none, none] [] m (vm_qi Q) := by
  intro n
  induction n using Nat.strongRecOn with
  | ind n ih =>
    intro m b lv dep ok hcl hf hd0 hcu hlv hb1 hb0 HB HL
    have hlvR : vm_R ((lv.length : Nat) : Int) ∧ vm_R (((lv.length : Nat) : Int) + 1) := ⟨⟨by omega, by omega⟩, ⟨by omega, by omega⟩⟩
    have hlimR : vm_R (lim : Int) := ⟨by omega, by omega⟩
    cases b with
    | false =>
      refine qX8_search_17 ⟨⟨by decide, by decide⟩, fun _ => ⟨fun _ => ⟨by rw [Int.add_zero]; exact hlvR.1, hlimR, fun _ => ?_, fun h => by omega⟩, fun h => absurd rfl h⟩, fun h => absurd rfl h⟩
      have := HB m [] (vm_b2i false) (-6) (rf_k.refl m) ⟨fun _ _ => ⟨rfl, rfl⟩, fun _ _ => rfl⟩ hf ⟨List.nodup_nil, fun u hu => by cases hu⟩ (by simpa using hlv) (fun g _ hB => by
        obtain ⟨v, v0, v1, v2⟩ := hb0 rfl
        have := hB v v0 v1
        omega)
      rw [List.append_nil] at this
      rw [Int.add_zero]
      exact this
    | true =>
      obtain ⟨hms, hne, hst, hD⟩ := hb1 rfl
      have hlo : ∀ v : Int, 0 ≤ v → v < 12 → -1000 ≤ m 29 v ∧ m 29 v ≤ 1000 ∧ -1000 ≤ m 30 v ∧ m 30 v ≤ 1000 := fun v v0 v1 => by
        have := hD v v0 v1 trivial
        omega
      refine qX8_search_17 ⟨⟨by decide, by decide⟩, fun h => absurd h (by decide), fun _ => cm_narrowest hU hf hlo (fun r hr => ?_)⟩
      rcases hr with ⟨rfl, hfix⟩ | ⟨hr0, hrU, hrlt⟩
      · refine ⟨⟨by decide, by decide⟩, fun _ => ⟨fun h => absurd h (by decide), fun _ => ?_⟩, fun h => absurd (by decide) h⟩
        have hfix2 : ∀ v : Nat, v < 12 → U.testBit v = true → m 29 (v : Int) = m 30 (v : Int) := fun v hv hb => by
          have h1 := hfix v hv hb
          have h2 := hne (v : Int) (by omega) (by omega)
          omega
        have hnew : rf_new m U [rs_U U (m 29)] := ⟨by simp, fun u hu => by
          rw [List.mem_singleton] at hu
          subst hu
          refine ⟨fun v hv hb => ?_, rf_leaf ok hcl hst hfix2, rs_U_idem U _⟩
          rw [rs_U_in hv hb]
          have := hfix2 v hv hb
          omega⟩
        have hcomp : ∀ g, rf_T m g → nr_B m g → rs_U U g = rs_U U (m 29) := fun g _ hB => rs_U_ext fun v hv hb => by
          have h1 := hB (v : Int) (by omega) (by omega)
          have h2 := hfix2 v hv hb
          omega
        have hlen : (lv ++ [rs_U U (m 29)]).length = lv.length + 1 := by simp
        refine ⟨hlvR.2, hlimR, fun h => ?_, fun h => ?_⟩
        · have := HB m [rs_U U (m 29)] (vm_b2i true) (-6) (rf_k.refl m) ⟨fun _ _ => ⟨rfl, rfl⟩, fun _ _ => rfl⟩ hf hnew (by rw [hlen]; omega) (fun g hT hB => by rw [hcomp g hT hB]; simp)
          rw [hlen] at this
          exact this
        · have := HL m [rs_U U (m 29)] (rf_k.refl m) hf hnew (by rw [hlen]; omega) ⟨_, List.mem_singleton.mpr rfl, fun g hT hB _ => hB⟩ ⟨hD, fun _ _ _ => ⟨Int.le_refl _, Int.le_refl _⟩⟩
          rw [h]
          exact this
      · refine ⟨⟨by omega, by omega⟩, fun h => absurd h (by omega), fun _ => ?_⟩
        have hcu1 : 0 < rf_cu m := by
          have h0 : zz_sm (fun _ => 0) 12 = 0 := by decide
          rw [← h0]
          exact zz_sm_lt (fun v v0 v1 => by split <;> decide) ⟨r, hr0.1, hr0.2, by rw [if_pos hrlt]; decide⟩
        have hms0 : 0 < rf_ms m := by
          have h0 : zz_sm (fun _ => 0) 12 = 0 := by decide
          rw [← h0]
          exact zz_sm_lt (fun v v0 v1 => by have := hne v v0 v1; omega) ⟨r, hr0.1, hr0.2, by omega⟩
        refine cm_push ⟨hd0, by omega⟩ (fun m13 f13 r13 => ⟨by omega, fun m16 e16 => ⟨hr0, fun m18 e18 => ?_⟩⟩)
        -- the first child: the count has its least value
        have a29 : m18 29 = m 29 := by
          funext v
          rw [e18, zz_other (by simp), e16, zz_other (by simp)]
          exact f13 29 v (by simp)
        have a30 : ∀ v : Int, m18 30 v = if v = r then m 29 r else m 30 v := by
          intro v
          have h1 : m16 30 v = m 30 v := by rw [e16, zz_other (by simp)]; exact f13 30 v (by simp)
          have h2 : m16 29 r = m 29 r := by rw [e16, zz_other (by simp)]; exact f13 29 r (by simp)
          rw [e18, zz_up]
          by_cases hv : v = r
          · subst hv; rw [if_pos ⟨rfl, rfl⟩, if_pos rfl, h2]
          · rw [if_neg (fun z => hv z.2), if_neg hv, h1]
        have k18 : rf_k m m18 := fun c i h1 h2 => by
          rw [e18, zz_other (fun z => h1 (by simp [z.1])), e16, zz_other (fun z => h1 (by simp [z.1]))]
          exact f13 c i (fun z => h1 (by rcases z.1 with e | e <;> simp [e]))
        have fr18 : rf_fr m m18 dep := ⟨fun i hi => by
          rw [e18, zz_other (by simp), zz_other (by simp), e16, zz_other (by simp), zz_other (by simp)]
          exact ⟨f13 32 i (fun z => by omega), f13 33 i (fun z => by omega)⟩, fun i hi => by
          rw [e18, zz_other (by simp), e16, zz_other (by omega)]
          exact f13 34 i (by simp)⟩
        have row18 : ∀ v : Int, 0 ≤ v → v < 12 → m18 32 (12 * dep + v) = m 29 v ∧ m18 33 (12 * dep + v) = m 30 v := fun v v0 v1 => by
          rw [e18, zz_other (by simp), zz_other (by simp), e16, zz_other (by simp), zz_other (by simp)]
          exact r13 v v0 v1
        have tr18 : m18 34 dep = r := by rw [e18, zz_other (by simp), e16, zz_same]
        have f18 : m18 24 12 = m 24 12 := by rw [e18, zz_other (by simp), e16, zz_other (by simp)]; exact f13 24 12 (by simp)
        have ok18 := k18.eqv.ok ok
        have D18 : nr_D (fun _ => True) 20 m18 := fun v v0 v1 _ => by
          have := hD v v0 v1 trivial
          have h2 := hD r hr0.1 hr0.2 trivial
          rw [a29, a30]
          split <;> omega
        have sub18 : ∀ v : Int, 0 ≤ v → v < 12 → m 29 v ≤ m18 29 v ∧ m18 30 v ≤ m 30 v := fun v v0 v1 => by
          rw [a29, a30]
          split
          · rename_i e; subst e; omega
          · exact ⟨Int.le_refl _, Int.le_refl _⟩
        have T18 : rf_T m18 = rf_T m := k18.eqv.T
        -- what comes of the first child, and then of the second
        have HB1 : ∀ mc : vm_M, (∀ v : Int, 0 ≤ v → v < 12 → m18 29 v ≤ mc 29 v ∧ mc 30 v ≤ m18 30 v) → (∀ g, rf_T m g → nr_B m18 g → nr_B mc g) → rf_k m mc → rf_fr m18 mc (dep + 1) → rf_HB G d Q U lim mc lv (dep + 1) := by
          intro mc msub mkeep mk mfr m' new1 v5 v6 k1 fr1 ff1 hn1 hl1 hc1
          have km' : rf_k m m' := mk.trans k1
          have Tc : rf_T mc = rf_T m := mk.eqv.T
          have Cc : rf_C mc = rf_C m := mk.eqv.C
          have row' : ∀ v : Int, 0 ≤ v → v < 12 → m' 32 (12 * dep + v) = m 29 v ∧ m' 33 (12 * dep + v) = m 30 v := fun v v0 v1 => by
            have h1 := fr1.1 (12 * dep + v) (by omega)
            have h2 := mfr.1 (12 * dep + v) (by omega)
            have h3 := row18 v v0 v1
            omega
          have tr' : m' 34 dep = r := by
            have h1 := fr1.2 dep (by omega)
            have h2 := mfr.2 dep (by omega)
            omega
          have frm' : rf_fr m m' dep := (fr18.trans (mfr.less (by omega))).trans (fr1.less (by omega))
          have hnew1 : rf_new m U new1 := ⟨hn1.1, fun u hu => by
            obtain ⟨i1, i2, i3⟩ := hn1.2 u hu
            refine ⟨fun v hv hb => ?_, fun t ht => i2 t (by rw [Cc]; exact ht), i3⟩
            have h1 := i1 v hv hb
            have h2 := msub (v : Int) (by omega) (by omega)
            have h3 := sub18 (v : Int) (by omega) (by omega)
            omega⟩
          have hr1 : ∀ u ∈ new1, u r = m 29 r := fun u hu => by
            have h1 := (hn1.2 u hu).1 r.toNat (by omega) hrU
            have h2 := msub r hr0.1 hr0.2
            rw [Int.toNat_of_nonneg hr0.1] at h1
            rw [a29, a30, if_pos rfl] at h2
            omega
          have hcomp1 : ∀ g, rf_T m g → nr_B m g → g r = m 29 r → rs_U U g ∈ new1 := fun g hT hB hg => by
            refine hc1 g (by rw [Tc]; exact hT) (mkeep g hT (fun v v0 v1 => ?_))
            have := hB v v0 v1
            rw [a29, a30]
            split
            · rename_i e; subst e; omega
            · exact this
          have edep : dep + 1 + -1 = dep := by omega
          have hlR : vm_R (((lv ++ new1).length : Nat) : Int) := ⟨by omega, by omega⟩
          refine qX8_search_121 ⟨⟨by omega, by omega⟩, fun h => by omega, fun _ => ⟨vm_R0, fun h => absurd rfl h, fun _ => ?_⟩⟩
          rw [edep]
          refine cm_pull ⟨hd0, by omega⟩ (fun m14 f14 b14 => ?_)
          have t14 : m14 34 dep = r := (f14 34 dep (by simp)).trans tr'
          rw [t14]
          have b29 : ∀ v : Int, 0 ≤ v → v < 12 → m14 29 v = m 29 v := fun v v0 v1 => (b14 v v0 v1).1.trans (row' v v0 v1).1
          have b30 : ∀ v : Int, 0 ≤ v → v < 12 → m14 30 v = m 30 v := fun v v0 v1 => (b14 v v0 v1).2.trans (row' v v0 v1).2
          refine ⟨by omega, hr0, fun m15 e15 => ?_⟩
          have hDr := hD r hr0.1 hr0.2 trivial
          have c29 : ∀ v : Int, 0 ≤ v → v < 12 → m15 29 v = if v = r then m 29 r + 1 else m 29 v := fun v v0 v1 => by
            rw [e15, zz_up]
            by_cases hv : v = r
            · subst hv; rw [if_pos ⟨rfl, rfl⟩, if_pos rfl, b29 v v0 v1]
            · rw [if_neg (fun z => hv z.2), if_neg hv, b29 v v0 v1]
          have c30 : ∀ v : Int, 0 ≤ v → v < 12 → m15 30 v = m 30 v := fun v v0 v1 => by rw [e15, zz_other (by simp), b30 v v0 v1]
          have c29r := c29 r hr0.1 hr0.2
          rw [if_pos rfl] at c29r
          have c30r := c30 r hr0.1 hr0.2
          have k15 : rf_k m m15 := fun c i h1 h2 => by
            rw [e15, zz_other (fun z => h1 (by simp [z.1])), f14 c i (fun z => h1 (by rcases z.1 with e | e <;> simp [e]))]
            exact km' c i h1 h2
          have fr15 : rf_fr m m15 dep := frm'.trans ⟨fun i hi => by
            rw [e15, zz_other (by simp), zz_other (by simp)]
            exact ⟨f14 32 i (by simp), f14 33 i (by simp)⟩, fun i hi => by
            rw [e15, zz_other (by simp)]
            exact f14 34 i (by simp)⟩
          have f15 : -6 ≤ m15 24 12 ∧ m15 24 12 < 12 := by
            have : m15 24 12 = m' 24 12 := by rw [e15, zz_other (by simp)]; exact f14 24 12 (by simp)
            omega
          have t15 : m15 34 dep = r := by rw [e15, zz_other (by simp)]; exact t14
          refine ⟨⟨by omega, by omega⟩, ⟨by omega, by omega⟩, fun h => by omega, fun _ => ?_⟩
          -- the second child: the count is greater
          have ok15 := k15.eqv.ok ok
          have T15 : rf_T m15 = rf_T m := k15.eqv.T
          have C15 : rf_C m15 = rf_C m := k15.eqv.C
          have sub15 : ∀ v : Int, 0 ≤ v → v < 12 → m 29 v ≤ m15 29 v ∧ m15 30 v ≤ m 30 v := fun v v0 v1 => by
            rw [c29 v v0 v1, c30 v v0 v1]
            split
            · rename_i e; subst e; omega
            · exact ⟨Int.le_refl _, Int.le_refl _⟩
          have D15 : nr_D (fun _ => True) 20 m15 := fun v v0 v1 _ => by
            have := hD v v0 v1 trivial
            rw [c29 v v0 v1, c30 v v0 v1]
            split <;> omega
          have node2 : ∀ (mc2 : vm_M) (b2 : Bool), nr_W (rf_T m15) m15 mc2 ∨ (∃ mm x, nr_W (rf_T m15) m15 mm ∧ mc2 = vm_up mm 24 12 x) → (-6 ≤ mc2 24 12 ∧ mc2 24 12 < 12) → (b2 = true → (∀ v : Int, 0 ≤ v → v < 12 → mc2 29 v ≤ mc2 30 v) ∧ rf_st mc2 ∧ nr_D (fun _ => True) 20 mc2) → (b2 = false → ∃ v : Int, 0 ≤ v ∧ v < 12 ∧ mc2 30 v < mc2 29 v) →
              vm_ex G (d + 7) mX8_search 17 [some (.inr (.inr 24)), some (.inl (U : Int)), some (.inl (lim : Int)), some (.inl (((lv ++ new1).length : Nat) : Int)), some (.inl dep), some (.inl (vm_b2i b2)), none, none, none] [] mc2 (vm_qi Q) := by
            intro mc2 b2 hW hff hbt hbf
            have kk : rf_k m15 mc2 ∧ rf_fr m15 mc2 dep ∧ (∀ v : Int, 0 ≤ v → v < 12 → m15 29 v ≤ mc2 29 v ∧ mc2 30 v ≤ m15 30 v) ∧ (∀ g, rf_T m15 g → nr_B m15 g → nr_B mc2 g) := by
              rcases hW with h | ⟨mm, x, h, rfl⟩
              · exact ⟨h.k, h.fr dep, fun v _ _ => h.2.1 v, h.2.2⟩
              · have e29 : vm_up mm 24 12 x 29 = mm 29 := zz_cell (by decide)
                have e30 : vm_up mm 24 12 x 30 = mm 30 := zz_cell (by decide)
                refine ⟨fun c i h1 h2 => ?_, ⟨fun i hi => ?_, fun i hi => ?_⟩, fun v _ _ => ?_, fun g hg hb v v0 v1 => ?_⟩
                · rw [zz_other (fun z => h2 ⟨z.1, Or.inr z.2⟩)]; exact h.k c i h1 h2
                · rw [zz_other (by simp), zz_other (by simp)]; exact (h.fr dep).1 i hi
                · rw [zz_other (by simp)]; exact (h.fr dep).2 i hi
                · rw [e29, e30]; exact h.2.1 v
                · rw [e29, e30]; exact h.2.2 g hg hb v v0 v1
            obtain ⟨k2, fr2, sub2, keep2⟩ := kk
            have km2 := k15.trans k2
            have subm : ∀ v : Int, 0 ≤ v → v < 12 → m 29 v ≤ mc2 29 v ∧ mc2 30 v ≤ m 30 v := fun v v0 v1 => by
              have h1 := sub15 v v0 v1
              have h2 := sub2 v v0 v1
              omega
            have hrr : m 29 r < mc2 29 r := by
              have h2 := sub2 r hr0.1 hr0.2
              omega
            have T2 : rf_T mc2 = rf_T m := km2.eqv.T
            have C2 : rf_C mc2 = rf_C m := km2.eqv.C
            have hless : rf_ms mc2 < rf_ms m := rf_ms_lt2 subm hr0 (Or.inl hrr)
            have lift : ∀ new2, rf_new mc2 U new2 → rf_new m U (new1 ++ new2) := fun new2 hn2 => by
              refine ⟨List.nodup_append.mpr ⟨hnew1.1, hn2.1, fun u hu u2 hu2 e => ?_⟩, fun u hu => ?_⟩
              · subst e
                have h1 := hr1 u hu
                have h2 := (hn2.2 u hu2).1 r.toNat (by omega) hrU
                rw [Int.toNat_of_nonneg hr0.1] at h2
                omega
              · rcases List.mem_append.mp hu with hu | hu
                · exact hnew1.2 u hu
                · obtain ⟨i1, i2, i3⟩ := hn2.2 u hu
                  refine ⟨fun v hv hb => ?_, fun t ht => i2 t (by rw [C2]; exact ht), i3⟩
                  have h1 := i1 v hv hb
                  have h2 := subm (v : Int) (by omega) (by omega)
                  omega
            have into : ∀ g, rf_T m g → nr_B m g → m 29 r < g r → nr_B mc2 g := fun g hT hB hg => by
              refine keep2 g (by rw [T15]; exact hT) (fun v v0 v1 => ?_)
              have := hB v v0 v1
              rw [c29 v v0 v1, c30 v v0 v1]
              split
              · rename_i e; subst e; omega
              · exact this
            refine ih (n - 1) (by omega) mc2 b2 (lv ++ new1) dep (km2.eqv.ok ok) (fun v u hv hz t ht => hcl v u hv hz t (by rw [← C2]; exact ht)) hff hd0 (by have := rf_cu_le subm; omega) hl1 (fun hb => ⟨by omega, hbt hb⟩) hbf ?_ ?_
            · intro m3 new2 v5' v6' k3 fr3 ff3 hn2 hl2 hc2
              have := HB m3 (new1 ++ new2) v5' v6' (km2.trans k3) ((fr15.trans fr2).trans fr3) ff3 (lift new2 hn2) (by rw [← List.append_assoc]; exact hl2) (fun g hT hB => by
                rw [List.mem_append]
                by_cases hg : g r = m 29 r
                · exact Or.inl (hcomp1 g hT hB hg)
                · refine Or.inr (hc2 g (by rw [T2]; exact hT) (into g hT hB ?_))
                  have := hB r hr0.1 hr0.2
                  omega)
              rw [← List.append_assoc] at this
              exact this
            · intro m3 new2 k3 ff3 hn2 hl2 hu hD3
              refine HL m3 (new1 ++ new2) (km2.trans k3) ff3 (lift new2 hn2) (by rw [← List.append_assoc]; exact hl2) ?_ ⟨hD3.1, fun v v0 v1 => by have h1 := hD3.2 v v0 v1; have h2 := subm v v0 v1; omega⟩
              obtain ⟨u, hu1, hu2⟩ := hu
              refine ⟨u, List.mem_append.mpr (Or.inr hu1), fun g hT hB hg => hu2 g (by rw [T2]; exact hT) (into g hT hB ?_) hg⟩
              have h2 := (hn2.2 u hu1).1 r.toNat (by omega) hrU
              have h3 := rs_U_in (g := g) (show r.toNat < 12 by omega) hrU
              rw [hg] at h3
              rw [Int.toNat_of_nonneg hr0.1] at h2 h3
              omega
          have last : vm_cb G (d + 6) mX8_narrow [.inr (.inr 24)] m15 (fun m3 r4 => (r4 = false → (0 ≤ dep ∧ dep < 13) ∧ (∀ m6, m6 = vm_up m3 24 12 (m3 34 dep) → vm_ex G (d + 6 + 1) mX8_search 17 [some (.inr (.inr 24)), some (.inl (U : Int)), some (.inl (lim : Int)), some (.inl (((lv ++ new1).length : Nat) : Int)), some (.inl dep), some (.inl (vm_b2i r4)), none, none, none] [] m6 (vm_qi Q))) ∧ (r4 = true → (∀ m7, m7 = vm_up m3 24 12 (m3 24 12) → vm_ex G (d + 6 + 1) mX8_search 17 [some (.inr (.inr 24)), some (.inl (U : Int)), some (.inl (lim : Int)), some (.inl (((lv ++ new1).length : Nat) : Int)), some (.inl dep), some (.inl (vm_b2i r4)), none, none, none] [] m7 (vm_qi Q)))) := by
            refine cm_narrow ok15 D15 (fun m3 r4 hW hT4 hF4 => ⟨fun h4 => ⟨by omega, fun m6 e6 => ?_⟩, fun h4 m7 e7 => ?_⟩)
            · have e29 : m6 29 = m3 29 := by rw [e6]; exact zz_cell (by decide)
              have e30 : m6 30 = m3 30 := by rw [e6]; exact zz_cell (by decide)
              have h34 : m3 34 dep = r := (hW.1 34 dep (by simp) (by simp)).trans t15
              refine node2 m6 r4 (Or.inr ⟨m3, _, hW, e6⟩) ?_ (fun h => by rw [h4] at h; cases h) (fun h => by rw [e29, e30]; exact hF4 h)
              rw [e6, zz_same, h34]; omega
            · have e29 : m7 29 = m3 29 := by rw [e7]; exact zz_cell (by decide)
              have e30 : m7 30 = m3 30 := by rw [e7]; exact zz_cell (by decide)
              have h12 : m3 24 12 = m15 24 12 := hW.1 24 12 (by simp) (by simp)
              have k7 : rf_k m3 m7 := fun c i h1 h2 => by rw [e7]; exact zz_other (fun z => h2 ⟨z.1, Or.inr z.2⟩)
              refine node2 m7 r4 (Or.inr ⟨m3, _, hW, e7⟩) ?_ (fun h => ?_) (fun h => by rw [h4] at h; cases h)
              · rw [e7, zz_same, h12]; exact f15
              · obtain ⟨n1, n2, n3⟩ := hT4 h
                refine ⟨fun v v0 v1 => by rw [e29, e30]; exact n1 v v0 v1, fun t ht => (n2 t (by rw [← k7.eqv.C]; exact ht)).congr e29 e30, fun v v0 v1 hv => by rw [e29, e30]; exact n3 v v0 v1 hv⟩
          refine qX8_search_121 ⟨⟨by omega, by omega⟩, fun h => ⟨⟨by decide, by decide⟩, fun _ => last, fun h => absurd h (by decide)⟩, fun h => ⟨⟨by decide, by decide⟩, fun _ => ⟨fun _ => last, fun h => absurd h (by decide)⟩, fun h => absurd h (by decide)⟩⟩
        have HL1 : ∀ mc : vm_M, (∀ v : Int, 0 ≤ v → v < 12 → m18 29 v ≤ mc 29 v ∧ mc 30 v ≤ m18 30 v) → (∀ g, rf_T m g → nr_B m18 g → nr_B mc g) → rf_k m mc → rf_HL Q U lim mc lv := by
          intro mc msub mkeep mk m' new1 k1 ff1 hn1 hl1 hu hD1
          have Tc : rf_T mc = rf_T m := mk.eqv.T
          have Cc : rf_C mc = rf_C m := mk.eqv.C
          refine HL m' new1 (mk.trans k1) ff1 ⟨hn1.1, fun u hu => ?_⟩ hl1 ?_ ⟨hD1.1, fun v v0 v1 => by have h1 := hD1.2 v v0 v1; have h2 := msub v v0 v1; have h3 := sub18 v v0 v1; omega⟩
          · obtain ⟨i1, i2, i3⟩ := hn1.2 u hu
            refine ⟨fun v hv hb => ?_, fun t ht => i2 t (by rw [Cc]; exact ht), i3⟩
            have h1 := i1 v hv hb
            have h2 := msub (v : Int) (by omega) (by omega)
            have h3 := sub18 (v : Int) (by omega) (by omega)
            omega
          · obtain ⟨u, hu1, hu2⟩ := hu
            refine ⟨u, hu1, fun g hT hB hg => hu2 g (by rw [Tc]; exact hT) (mkeep g hT (fun v v0 v1 => ?_)) hg⟩
            have hv := hB v v0 v1
            rw [a29, a30]
            split
            · rename_i e; subst e
              have h2 := (hn1.2 u hu1).1 v.toNat (by omega) hrU
              have h3 := rs_U_in (g := g) (show v.toNat < 12 by omega) hrU
              have h4 := msub v v0 v1
              rw [hg] at h3
              rw [Int.toNat_of_nonneg v0] at h2 h3
              rw [a29, a30, if_pos rfl] at h4
              omega
            · exact hv
        refine cm_narrow ok18 D18 (fun m19 b19 hW hT19 hF19 => ⟨fun hb m21 e21 => ?_, fun hb m22 e22 => ?_⟩)
        · have e29 : m21 29 = m19 29 := by rw [e21]; exact zz_cell (by decide)
          have e30 : m21 30 = m19 30 := by rw [e21]; exact zz_cell (by decide)
          have k21 : rf_k m m21 := (k18.trans hW.k).trans (fun c i h1 h2 => by rw [e21]; exact zz_other (fun z => h2 ⟨z.1, Or.inr z.2⟩))
          have fr21 : rf_fr m18 m21 (dep + 1) := (hW.fr (dep + 1)).trans ⟨fun i _ => by rw [e21, zz_other (by simp), zz_other (by simp)]; exact ⟨rfl, rfl⟩, fun i _ => by rw [e21, zz_other (by simp)]⟩
          have sub21 : ∀ v : Int, 0 ≤ v → v < 12 → m18 29 v ≤ m21 29 v ∧ m21 30 v ≤ m18 30 v := fun v v0 v1 => by rw [e29, e30]; exact hW.2.1 v
          have keep21 : ∀ g, rf_T m g → nr_B m18 g → nr_B m21 g := fun g hT hB v v0 v1 => by rw [e29, e30]; exact hW.2.2 g (by rw [T18]; exact hT) hB v v0 v1
          have subm : ∀ v : Int, 0 ≤ v → v < 12 → m 29 v ≤ m21 29 v ∧ m21 30 v ≤ m 30 v := fun v v0 v1 => by
            have h1 := sub18 v v0 v1
            have h2 := sub21 v v0 v1
            omega
          have hr21 := sub21 r hr0.1 hr0.2
          rw [a29, a30, if_pos rfl] at hr21
          have hcl1 := rf_cu_lt subm hr0 hrlt (by omega)
          exact ih (n - 1) (by omega) m21 b19 lv (dep + 1) (k21.eqv.ok ok) (fun v u hv hz t ht => hcl v u hv hz t (by rw [← k21.eqv.C]; exact ht)) (by rw [e21, zz_same]; omega) (by omega) (by omega) hlv (fun h => by rw [hb] at h; cases h) (fun h => by rw [e29, e30]; exact hF19 h) (HB1 m21 sub21 keep21 k21 fr21) (HL1 m21 sub21 keep21 k21)
        · have e29 : m22 29 = m19 29 := by rw [e22]; exact zz_cell (by decide)
          have e30 : m22 30 = m19 30 := by rw [e22]; exact zz_cell (by decide)
          have k22' : rf_k m19 m22 := fun c i h1 h2 => by rw [e22]; exact zz_other (fun z => h2 ⟨z.1, Or.inr z.2⟩)
          have k22 : rf_k m m22 := (k18.trans hW.k).trans k22'
          have fr22 : rf_fr m18 m22 (dep + 1) := (hW.fr (dep + 1)).trans ⟨fun i _ => by rw [e22, zz_other (by simp), zz_other (by simp)]; exact ⟨rfl, rfl⟩, fun i _ => by rw [e22, zz_other (by simp)]⟩
          have sub22 : ∀ v : Int, 0 ≤ v → v < 12 → m18 29 v ≤ m22 29 v ∧ m22 30 v ≤ m18 30 v := fun v v0 v1 => by rw [e29, e30]; exact hW.2.1 v
          have keep22 : ∀ g, rf_T m g → nr_B m18 g → nr_B m22 g := fun g hT hB v v0 v1 => by rw [e29, e30]; exact hW.2.2 g (by rw [T18]; exact hT) hB v v0 v1
          have subm : ∀ v : Int, 0 ≤ v → v < 12 → m 29 v ≤ m22 29 v ∧ m22 30 v ≤ m 30 v := fun v v0 v1 => by
            have h1 := sub18 v v0 v1
            have h2 := sub22 v v0 v1
            omega
          have hr22 := sub22 r hr0.1 hr0.2
          rw [a29, a30, if_pos rfl] at hr22
          have hcl1 := rf_cu_lt subm hr0 hrlt (by omega)
          have hless : rf_ms m22 < rf_ms m := rf_ms_lt2 subm hr0 (Or.inr (by omega))
          have h12 : m22 24 12 = m 24 12 := by rw [e22, zz_same, hW.1 24 12 (by simp) (by simp), f18]
          refine ih (n - 1) (by omega) m22 b19 lv (dep + 1) (k22.eqv.ok ok) (fun v u hv hz t ht => hcl v u hv hz t (by rw [← k22.eqv.C]; exact ht)) (by rw [h12]; exact hf) (by omega) (by omega) hlv (fun h => ?_) (fun h => by rw [hb] at h; cases h) (HB1 m22 sub22 keep22 k22 fr22) (HL1 m22 sub22 keep22 k22)
          obtain ⟨n1, n2, n3⟩ := hT19 h
          exact ⟨by omega, fun v v0 v1 => by rw [e29, e30]; exact n1 v v0 v1, fun t ht => (n2 t (by rw [← k22'.eqv.C]; exact ht)).congr e29 e30, fun v v0 v1 hv => by rw [e29, e30]; exact n3 v v0 v1 hv⟩
end DF
