/-! THE CLASS: the search from a level, and its answers -/
section ANW
variable {G : vm_G} {d : Nat} {m m1 : vm_M} {n : Int}
def CS (L n : Int) (m : vm_M) (h : fc_G) : Prop := FS L n m h ∧ ∀ v : Int, ¬ (0 ≤ v ∧ v < 16) → h v = 0
def nrm (h : fc_G) : fc_G := fun v => if 0 ≤ v ∧ v < 16 then h v else 0
theorem nrm_in {h : fc_G} {v : Int} (h0 : 0 ≤ v) (h1 : v < 16) : nrm h v = h v := by unfold nrm; rw [if_pos ⟨h0, h1⟩]
theorem FS.cs {L : Int} {h : fc_G} (hR : RW m n) (t : FS L n m h) : CS L n m (nrm h) :=
  ⟨⟨fun v v0 v1 => by rw [nrm_in v0 v1]; exact t.1 v v0 v1, fun i i0 i1 => (ru_loc (hR.2.2 i i0 i1) (fun u u1 _ => by rw [nrm_in (by omega) (by omega)])).mp (t.2 i i0 i1)⟩, fun v hv => by unfold nrm; rw [if_neg hv]⟩
theorem TS_all {L : Int} {O : Nat} (hK : ∀ i : Int, 0 ≤ i → i < n → OKR L m i) (hO : opn L m 65535 O) (h : fc_G) : TS L n m O h ↔ CS L n m h := by
  have all : ∀ u : Nat, u < 16 → (65535 : Nat).testBit u = true := by decide
  constructor
  · rintro ⟨h1, h2, h3, h4⟩
    refine ⟨⟨h1, fun i i0 i1 => ?_⟩, h2⟩
    by_cases ht : tch m i (bc O)
    · exact h4 i i0 i1 ht
    · refine hK i i0 i1 (fun u u1 hu => Classical.byContradiction fun z => ht ⟨u, u1, hu, (hO.2 u).mpr ⟨u1, z, all u u1⟩⟩) h h1
  · rintro ⟨⟨h1, h2⟩, h3⟩
    refine ⟨h1, h3, fun u u1 hu => ?_, fun i i0 i1 _ => h2 i i0 i1⟩
    have a := h1 (u : Int) (by omega) (by omega)
    have : m 13 (L * 16 + (u : Int)) = m 14 (L * 16 + (u : Int)) := Classical.byContradiction fun z => by
      have := (hO.2 u).mpr ⟨u1, z, all u u1⟩
      rw [hu] at this
      simp at this
    omega
theorem CL_every {L : Int} : CL L m n (bc 65535) := fun _ _ _ _ => Or.inr fun u u1 _ _ => by
  have all : ∀ u : Nat, u < 16 → (65535 : Nat).testBit u = true := by decide
  exact all u u1
theorem cs_waysFrom {e lim : Nat} {L : Int} {Q : vm_M → Int → Prop} (hw : WAYS G e L) (hf : FWAY G e L) (hL : 0 ≤ L ∧ L ≤ 16) (hN : NE L m) (hR : RW m n) (hG : WG m) (hK : ∀ i : Int, 0 ≤ i → i < n → OKR L m i) (hU : ufx L m ≤ 16 - L) (hS : vm_R (m 6 3)) (hlim : 1 ≤ lim ∧ lim ≤ 500) (hQ : ∀ (m' : vm_M) (r : Nat), WF L m m' → cnt (CS L n m) lim r → Q m' (r : Int)) : vm_ci G (e + 1) mX5_waysFrom [.inr (.inr 6), .inl L, .inl (lim : Int)] m Q := by
  refine qX5_waysFrom ?_
  have fin : ∀ m1, WF L m m1 → vm_ci G e mX5_ways [.inr (.inr 6), .inl L, .inl (65535 : Int), .inl (lim : Int)] m1 Q := fun m1 f =>
    hw m1 n 65535 lim Q (f.ne hN) (f.rw' hR) (f.wg hG) (fun i i0 i1 => f.okr hR i0 i1 (hK i i0 i1)) (by rw [f.ufx']; exact hU) (by decide) CL_every hlim (fun m2 O r f2 hO c => hQ m2 r (f.trans f2) (cnt_iff c fun h => by
      rw [TS_all (fun i i0 i1 => f.okr hR i0 i1 (hK i i0 i1)) hO]
      unfold CS
      rw [f.fs hR]))
  have key : ∀ (j k : Nat) (m1 : vm_M), k + j = 3 → WF L m m1 → vm_ex G (e + 1) mX5_waysFrom 2 [some (.inr (.inr 6)), some (.inl L), some (.inl (lim : Int)), some (.inl (k : Int))] [] m1 (vm_qi Q) := by
    intro j
    induction j with
    | zero =>
      intro k m1 hk f
      exact qX5_waysFrom_2 ⟨⟨by omega, by omega⟩, fun _ => fin m1 f, fun h => by omega⟩
    | succ j ih =>
      intro k m1 hk f
      have e63 : m1 6 3 = m 6 3 := f.1 6 3 (by omega) (by omega)
      refine qX5_waysFrom_2 ⟨⟨by omega, by omega⟩, fun h => by omega, fun _ => ⟨by rw [e63]; exact hS, fun _ => fin m1 f, fun _ => ?_⟩⟩
      have hp : 2 ^ k < 2 ^ 3 := Nat.pow_lt_pow_right (by decide) (by omega)
      rw [show vm_shl 4369 (k : Int) = ((4369 * 2 ^ k : Nat) : Int) from zz_shl 4369 k (by omega) (by omega) (by decide)]
      refine hf m1 n (4369 * 2 ^ k) 1 _ (f.ne hN) (f.rw' hR) (f.wg hG) (fun i i0 i1 => f.okr hR i0 i1 (hK i i0 i1)) (by rw [f.ufx']; exact hU) (by omega) (by decide) (fun m2 r f2 hr c => ⟨⟨by omega, by omega⟩, fun _ => ih (k + 1) m2 (by omega) (f.trans f2), fun hz => ?_⟩)
      exact hQ m2 0 (f.trans f2) (cnt_none fun h t => by have := c ⟨h, (f.fs hR h).mpr t.1⟩; omega)
  exact key 3 0 m (by decide) (WF.refl hN)
/-- only the ranges have changed -/
def SE (m m' : vm_M) : Prop := (∀ (c : Nat) (i : Int), ¬ (c = 13 ∨ c = 14) → ¬ (c = 6 ∧ i = 4) → m' c i = m c i) ∧ (0 ≤ m' 6 4 ∧ m' 6 4 < 65536)
theorem SE.trans {a b c : vm_M} (s : SE a b) (t : SE b c) : SE a c := ⟨fun x i p q => (t.1 x i p q).trans (s.1 x i p q), t.2⟩
theorem SW.se {L : Int} (s : SW L m m1) : SE m m1 := ⟨fun c i p q => s.1 c i (by omega) q, s.2.2⟩
theorem WF.se {L : Int} (s : WF L m m1) : SE m m1 := ⟨fun c i p q => s.1 c i (by omega) q, s.2⟩
theorem SE.cell (a : SE m m1) {c : Nat} (h : c ≠ 13 ∧ c ≠ 14 ∧ c ≠ 6) (i : Int) : m1 c i = m c i := a.1 c i (by omega) (by omega)
theorem SE.same (a : SE m m1) (n : Int) : ru_same m m1 n := fun i _ _ => ⟨a.cell (by decide) i, a.cell (by decide) i, a.cell (by decide) i, a.cell (by decide) i, a.cell (by decide) i, fun t _ _ => ⟨a.cell (by decide) _, a.cell (by decide) _⟩⟩
theorem SE.rw' (a : SE m m1) (h : RW m n) : RW m1 n := ⟨by rw [a.cell (by decide)]; exact h.1, h.2.1, fun i i0 i1 => (ru_wf_same (a.same n) i0 i1 (h.2.2 i i0 i1)).1⟩
theorem SE.holds (a : SE m m1) (hR : RW m n) {i : Int} (i0 : 0 ≤ i) (i1 : i < n) (h : fc_G) : ru_holds m1 i h ↔ ru_holds m i h := (ru_wf_same (a.same n) i0 i1 (hR.2.2 i i0 i1)).2 h
theorem SE.wg (a : SE m m1) (h : WG m) : WG m1 := fun v v0 v1 => by rw [a.cell (by decide)]; exact h v v0 v1
/-- the first row, as it may be before it is settled -/
def RB (m : vm_M) : Prop := (∀ v : Int, 0 ≤ v → v < 16 → (0 ≤ m 13 (0 * 16 + v) ∧ m 13 (0 * 16 + v) ≤ 19) ∧ (-1 ≤ m 14 (0 * 16 + v) ∧ m 14 (0 * 16 + v) ≤ 18)) ∧ (0 ≤ m 6 4 ∧ m 6 4 < 65536)
/-- the first row, settled, with P for what solves it -/
def SD (n : Int) (m : vm_M) (P : fc_G → Prop) : Prop := NE 0 m ∧ RW m n ∧ WG m ∧ (∀ i : Int, 0 ≤ i → i < n → OKR 0 m i) ∧ vm_R (m 6 3) ∧ ∀ h, FS 0 n m h ↔ P h
theorem SD.wf {P : fc_G → Prop} (s : SD n m P) (f : WF 0 m m1) : SD n m1 P :=
  ⟨f.ne s.1, f.rw' s.2.1, f.wg s.2.2.1, fun i i0 i1 => f.okr s.2.1 i0 i1 (s.2.2.2.1 i i0 i1), by rw [f.1 6 3 (by omega) (by omega)]; exact s.2.2.2.2.1, fun h => (f.fs s.2.1 h).trans (s.2.2.2.2.2 h)⟩
theorem row0 (v : Int) : 0 * 16 + v = v := by omega
theorem cs_settleAll {Q : vm_M → Bool → Prop} (hB : RB m) (hR : RW m n) (hG : WG m) (hS : vm_R (m 6 3)) (hQ : ∀ m' r, SE m m' → (r = false → ∀ h, ¬ FS 0 n m h) → (r = true → SD n m' (FS 0 n m)) → Q m' r) : vm_cb G (d + 4) mX5_settleAll [.inr (.inr 6)] m Q := by
  refine qX5_settleAll ?_
  have key : ∀ (j : Nat) (v : Int), v + (j : Int) = 16 → 0 ≤ v → (∀ u : Int, 0 ≤ u → u < v → m 13 (0 * 16 + u) ≤ m 14 (0 * 16 + u)) → vm_ex G (d + 4) mX5_settleAll 2 [some (.inr (.inr 6)), some (.inl v)] [] m (vm_qb Q) := by
    intro j
    induction j with
    | zero =>
      intro v hv v0 hu
      refine qX5_settleAll_2 ⟨⟨by omega, by omega⟩, fun _ => ?_, fun h => by omega⟩
      have hN : NE 0 m := ⟨fun u u0 u1 => by have := hB.1 u u0 u1; have := hu u u0 (by omega); omega, hB.2⟩
      refine cs_settle (L := 0) (n := n) (X := 65535) (C := TT) (by decide) hN hR CL_all (by decide) (fun u hu => trivial) (fun i i0 i1 => Or.inr ?_) (fun m2 r st => ?_)
      · obtain ⟨_, w1, ⟨k1, k2, k3, k4⟩, _⟩ := hR.2.2 i i0 i1
        have w := (k2 0 (by decide) (by omega)).1
        have all : ∀ u : Nat, u < 16 → (65535 : Nat).testBit u = true := by decide
        exact ⟨(m 20 (i * 4 + 0)).toNat, by omega, (k4 _).mpr ⟨0, by decide, by omega, by omega⟩, all _ (by omega)⟩
      · refine hQ m2 r st.1.se (fun e h t => st.2.1 e h t.1 (fun i i0 i1 _ => t.2 i i0 i1)) (fun e => ⟨st.1.ne hN, st.1.rw' hR, st.1.se.wg hG, (st.2.2 e).2.2, by rw [st.1.1 6 3 (by omega) (by omega)]; exact hS, fun h => ?_⟩)
        unfold FS
        constructor
        · rintro ⟨a, b⟩
          exact ⟨st.1.box a, fun i i0 i1 => (st.1.holds hR i0 i1 h).mp (b i i0 i1)⟩
        · rintro ⟨a, b⟩
          exact ⟨(st.2.2 e).1 h a (fun i i0 i1 _ => b i i0 i1), fun i i0 i1 => (st.1.holds hR i0 i1 h).mpr (b i i0 i1)⟩
    | succ j ih =>
      intro v hv v0 hu
      have b := hB.1 v v0 (by omega)
      rw [row0] at b
      refine qX5_settleAll_2 ⟨⟨by omega, by omega⟩, fun h => by omega, fun _ => ⟨⟨by omega, by omega⟩, ⟨by omega, by omega⟩, ⟨by omega, by omega⟩, fun hle => ih (v + 1) (by omega) (by omega) (fun u u0 u1 => ?_), fun hgt => ?_⟩⟩
      · by_cases e : u = v
        · subst e; rw [row0]; exact hle
        · exact hu u u0 (by omega)
      · refine hQ m false ⟨fun _ _ _ _ => rfl, hB.2⟩ (fun _ h t => ?_) (fun h => by simp at h)
        have := t.1 v v0 (by omega)
        rw [row0] at this
        omega
  exact key 16 0 (by decide) (by decide) (fun u u0 u1 => by omega)
theorem cs_howMany {lim : Nat} {Q : vm_M → Int → Prop} (hB : RB m) (hR : RW m n) (hG : WG m) (hS : vm_R (m 6 3)) (hlim : 1 ≤ lim ∧ lim ≤ 500) (hQ : ∀ (m' : vm_M) (r : Nat), SE m m' → cnt (CS 0 n m) lim r → (1 ≤ r → SD n m' (FS 0 n m)) → Q m' (r : Int)) : vm_ci G (d + 22) mX5_howMany [.inr (.inr 6), .inl (lim : Int)] m Q := by
  refine qX5_howMany (cs_settleAll (d := d + 17) hB hR hG hS (fun m1 r se no yes => ⟨fun e => ?_, fun e => ?_⟩))
  · exact hQ m1 0 se (cnt_none fun h t => no e h t.1) (fun h => by omega)
  · have s := yes e
    obtain ⟨s1, s2, s3, s4, s5, s6⟩ := id s
    refine cs_waysFrom (e := d + 20) (L := 0) (cs_ways (d := d) 16 0 (by decide) (by decide)) (fs_ways (d := d) 16 0 (by decide) (by decide)) (by decide) s1 s2 s3 s4 (by have := ufx_bd 0 m1; omega) s5 hlim (fun m2 r f c => hQ m2 r (se.trans f.se) (cnt_iff c fun h => ?_) (fun _ => s.wf f))
    unfold CS
    rw [s6]
theorem cs_canBe {P : fc_G → Prop} {v x : Int} {Q : vm_M → Bool → Prop} (s : SD n m P) (hv : 0 ≤ v ∧ v < 16) (hx : m 13 v ≤ x ∧ x ≤ m 14 v) (hQ : ∀ m' r, WF 0 m m' → (r = true ↔ ∃ h, P h ∧ h v = x) → Q m' r) : vm_cb G (d + 21) mX5_canBe [.inr (.inr 6), .inl v, .inl x] m Q := by
  obtain ⟨s1, s2, s3, s4, s5, s6⟩ := id s
  obtain ⟨w, rfl⟩ : ∃ w : Nat, v = (w : Int) := ⟨v.toNat, by omega⟩
  have hw : w < 16 := by omega
  have hx1 : m 13 (0 * 16 + (w : Int)) ≤ x ∧ x ≤ m 14 (0 * 16 + (w : Int)) := by rw [row0]; exact hx
  refine qX5_canBe (cs_fix (L := 0) (by decide) hv (fun mf fx => ?_))
  have Nf := fx.ne s1 hw hx1
  have Rf := fx.rw' s2
  have p1 : 2 ^ w < 2 ^ 16 := zz_pow_lt (by omega)
  have hfs : ∀ h, FS (0 + 1) n mf h ↔ P h ∧ h (w : Int) = x := fun h => by
    rw [← s6]
    unfold FS
    rw [fx.box hw hx1 h]
    constructor
    · rintro ⟨⟨a, b⟩, c⟩; exact ⟨⟨a, fun i i0 i1 => (fx.holds s2 i0 i1 h).mp (c i i0 i1)⟩, b⟩
    · rintro ⟨⟨a, c⟩, b⟩; exact ⟨⟨a, b⟩, fun i i0 i1 => (fx.holds s2 i0 i1 h).mpr (c i i0 i1)⟩
  rw [zz_shl1 (by omega)]
  refine cs_settle (L := 0 + 1) (n := n) (X := 2 ^ w) (C := TT) (by decide) Nf Rf CL_all (by omega) (fun u hu => trivial) (fun k k0 k1 => fx.okr s2 hw hx1 k0 k1 (s4 k k0 k1)) (fun m2 r st => ?_)
  have f2 : WF 0 m m2 := (WF.fx s1 fx).trans (WF.sw st.1)
  refine ⟨fun e => hQ m2 false f2 ⟨fun h => by simp at h, fun ⟨h, t⟩ => ?_⟩, fun e => ?_⟩
  · have := (hfs h).mpr t
    exact absurd (fun i i0 i1 _ => this.2 i i0 i1) (st.2.1 e h this.1)
  · have hfs2 : ∀ h, FS (0 + 1) n m2 h ↔ P h ∧ h (w : Int) = x := fun h => by
      rw [← hfs]
      unfold FS
      constructor
      · rintro ⟨a, b⟩
        exact ⟨st.1.box a, fun i i0 i1 => (st.1.holds Rf i0 i1 h).mp (b i i0 i1)⟩
      · rintro ⟨a, b⟩
        exact ⟨(st.2.2 e).1 h a (fun i i0 i1 _ => b i i0 i1), fun i i0 i1 => (st.1.holds Rf i0 i1 h).mpr (b i i0 i1)⟩
    have hu : ufx (0 + 1) m2 ≤ 16 - (0 + 1) := by
      have lt : zz_sm (fun v => if m2 13 ((0 + 1) * 16 + v) = m2 14 ((0 + 1) * 16 + v) then 0 else 1) 16 < zz_sm (fun _ => 1) 16 := zz_sm_lt (fun i _ _ => by split <;> omega) ⟨(w : Int), by omega, by omega, by
        have a := fx.2 (w : Int) (by omega) (by omega)
        have b := st.1.2.1 (w : Int) (by omega) (by omega)
        rw [if_pos rfl, if_pos rfl] at a
        rw [if_pos (by omega)]
        decide⟩
      have : zz_sm (fun _ => 1) 16 = 16 := by decide
      unfold ufx
      omega
    refine cs_waysFrom (e := d + 19) (n := n) (L := 0 + 1) (lim := 1) (cs_ways (d := d) 15 (0 + 1) (by decide) (by decide)) (fs_ways (d := d) 15 (0 + 1) (by decide) (by decide)) (by decide) (st.1.ne Nf) (st.1.rw' Rf) ?_ (st.2.2 e).2.2 hu ?_ (by decide) (fun m3 r f c => ?_)
    · intro z z0 z1; rw [f2.cell (by decide)]; exact s3 z z0 z1
    · rw [f2.1 6 3 (by omega) (by omega)]; exact s5
    · have hr := cnt_le c
      have f3 := f2.trans f.deep
      refine ⟨⟨by omega, by omega⟩, fun hz => hQ m3 false f3 ⟨fun h => by simp at h, fun ⟨h, t⟩ => ?_⟩, fun hz => hQ m3 true f3 ⟨fun _ => ?_, fun _ => rfl⟩⟩
      · have hz : r = 0 := by omega
        subst hz
        exact absurd (FS.cs (st.1.rw' Rf) ((hfs2 h).mpr t)) (cnt_zero c (by decide) _)
      · obtain ⟨h, t⟩ := cnt_some c (by omega)
        exact ⟨h, (hfs2 h).mp t.1⟩
end ANW
