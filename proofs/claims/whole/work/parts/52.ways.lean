/-! THE CLASS: the search goes deeper rows only -/
section WFS
variable {m m1 m2 : vm_M} {L n : Int}
def WF (L : Int) (m m' : vm_M) : Prop := (∀ (c : Nat) (i : Int), ¬ ((c = 13 ∨ c = 14) ∧ (L + 1) * 16 ≤ i) → ¬ (c = 6 ∧ i = 4) → m' c i = m c i) ∧ (0 ≤ m' 6 4 ∧ m' 6 4 < 65536)
theorem WF.refl (h : NE L m) : WF L m m := ⟨fun _ _ _ _ => rfl, h.2⟩
theorem WF.trans (a : WF L m m1) (b : WF L m1 m2) : WF L m m2 := ⟨fun c i p q => (b.1 c i p q).trans (a.1 c i p q), b.2⟩
theorem WF.deep (a : WF (L + 1) m m1) : WF L m m1 := ⟨fun c i p q => a.1 c i (by omega) q, a.2⟩
theorem WF.fx {v : Nat} {x : Int} {mf : vm_M} (h : NE L m) (f : FX L v x m mf) : WF L m mf := ⟨fun c i p _ => f.1 c i (by omega), by rw [f.cell (by decide)]; exact h.2⟩
theorem WF.sw (s : SW (L + 1) m m1) : WF L m m1 := ⟨fun c i p q => s.1 c i (by omega) q, s.2.2⟩
theorem WF.cell (a : WF L m m1) {c : Nat} (h : c ≠ 13 ∧ c ≠ 14 ∧ c ≠ 6) (i : Int) : m1 c i = m c i := a.1 c i (by omega) (by omega)
theorem WF.row (a : WF L m m1) {u : Int} (h : u < 16) : m1 13 (L * 16 + u) = m 13 (L * 16 + u) ∧ m1 14 (L * 16 + u) = m 14 (L * 16 + u) := ⟨a.1 13 _ (by omega) (by simp), a.1 14 _ (by omega) (by simp)⟩
theorem WF.same (a : WF L m m1) (n : Int) : ru_same m m1 n := fun i _ _ => ⟨a.cell (by decide) i, a.cell (by decide) i, a.cell (by decide) i, a.cell (by decide) i, a.cell (by decide) i, fun t _ _ => ⟨a.cell (by decide) _, a.cell (by decide) _⟩⟩
theorem WF.ne (a : WF L m m1) (h : NE L m) : NE L m1 := ⟨fun v v0 v1 => by rw [(a.row v1).1, (a.row v1).2]; exact h.1 v v0 v1, a.2⟩
theorem WF.rw' (a : WF L m m1) (h : RW m n) : RW m1 n := ⟨by rw [a.cell (by decide)]; exact h.1, h.2.1, fun i i0 i1 => (ru_wf_same (a.same n) i0 i1 (h.2.2 i i0 i1)).1⟩
theorem WF.holds (a : WF L m m1) (hR : RW m n) {i : Int} (i0 : 0 ≤ i) (i1 : i < n) (h : fc_G) : ru_holds m1 i h ↔ ru_holds m i h := (ru_wf_same (a.same n) i0 i1 (hR.2.2 i i0 i1)).2 h
theorem WF.box (a : WF L m m1) (h : fc_G) : box L m1 h ↔ box L m h := by
  constructor
  · intro hb v v0 v1
    have := hb v v0 v1
    rwa [(a.row v1).1, (a.row v1).2] at this
  · intro hb v v0 v1
    rw [(a.row v1).1, (a.row v1).2]
    exact hb v v0 v1
theorem WF.sr (a : WF L m m1) (hR : RW m n) {i : Int} (i0 : 0 ≤ i) (i1 : i < n) : SR L m1 i ↔ SR L m i :=
  ⟨fun q h hb => (a.holds hR i0 i1 h).mp (q h ((a.box h).mpr hb)), fun q h hb => (a.holds hR i0 i1 h).mpr (q h ((a.box h).mp hb))⟩
theorem WF.cl (a : WF L m m1) (hR : RW m n) {C : Nat → Prop} (h : CL L m n C) : CL L m1 n C := fun i i0 i1 ht => by
  have hm : m1 18 i = m 18 i := a.cell (by decide) i
  rw [tch_iff hm] at ht
  rcases h i i0 i1 ht with q | q
  · exact Or.inl ((a.sr hR i0 i1).mpr q)
  · refine Or.inr fun u u1 hu hn => q u u1 (by rw [← hm]; exact hu) ?_
    rw [(a.row (u := (u : Int)) (by omega)).1, (a.row (u := (u : Int)) (by omega)).2] at hn
    exact hn
theorem WF.okr (a : WF L m m1) (hR : RW m n) {i : Int} (i0 : 0 ≤ i) (i1 : i < n) (h : OKR L m i) : OKR L m1 i := fun hs x hx => by
  have hm : m1 18 i = m 18 i := a.cell (by decide) i
  refine (a.holds hR i0 i1 x).mpr (h (fun u u1 hu => ?_) x ((a.box x).mp hx))
  have := hs u u1 (by rw [hm]; exact hu)
  rwa [(a.row (u := (u : Int)) (by omega)).1, (a.row (u := (u : Int)) (by omega)).2] at this
theorem WF.ts (a : WF L m m1) (hR : RW m n) {O : Nat} (h : fc_G) : TS L n m1 O h ↔ TS L n m O h := by
  unfold TS
  rw [a.box]
  constructor
  · rintro ⟨h1, h2, h3, h4⟩
    refine ⟨h1, h2, fun u u1 hu => by have := h3 u u1 hu; rwa [(a.row (u := (u : Int)) (by omega)).1] at this, fun i i0 i1 ht => (a.holds hR i0 i1 h).mp (h4 i i0 i1 ((tch_iff (a.cell (by decide) i)).mpr ht))⟩
  · rintro ⟨h1, h2, h3, h4⟩
    refine ⟨h1, h2, fun u u1 hu => by rw [(a.row (u := (u : Int)) (by omega)).1]; exact h3 u u1 hu, fun i i0 i1 ht => (a.holds hR i0 i1 h).mpr (h4 i i0 i1 ((tch_iff (a.cell (by decide) i)).mp ht))⟩
theorem WF.ufx' (a : WF L m m1) : ufx L m1 = ufx L m := zz_sm_congr fun i i0 i1 => by rw [(a.row (u := i) (by omega)).1, (a.row (u := i) (by omega)).2]
theorem WF.wg (a : WF L m m1) (h : WG m) : WG m1 := fun v v0 v1 => by rw [a.cell (by decide)]; exact h v v0 v1
theorem WF.gd' (a : WF L m m1) (hR : RW m n) {O P : Nat} {i : Int} (i0 : 0 ≤ i) (i1 : i < n) (h : gd L m1 O P i) : gd L m O P i := by
  have hm : m1 18 i = m 18 i := a.cell (by decide) i
  unfold gd at *
  rw [hm] at h
  rcases h with h | h | h
  · exact Or.inl h
  · exact Or.inr (Or.inl h)
  · exact Or.inr (Or.inr ((a.sr hR i0 i1).mp h))
theorem WF.isopen' (a : WF L m m1) {O : Nat} (h : isopen L m O) : isopen L m1 O := fun u u1 hu => by
  rw [(a.row (u := (u : Int)) (by omega)).1, (a.row (u := (u : Int)) (by omega)).2]; exact h u u1 hu
theorem TS_zero {lim : Nat} (hl : 1 ≤ lim) (hN : NE L m) : cnt (TS L n m 0) lim 1 := by
  refine ⟨[ins L m 0 (fun _ => 0)], by simp, fun u hu => ?_, rfl, hl, fun _ u hu => ?_⟩
  · rw [List.mem_singleton] at hu
    subst hu
    refine ⟨fun v v0 v1 => ?_, fun v hv => ins_far hv, fun u u1 hu => ins_out u1 hu, fun i i0 i1 ⟨u, u1, hu, hb⟩ => by unfold bc at hb; simp at hb⟩
    unfold ins
    rw [if_pos ⟨v0, v1⟩]
    have := hN.1 v v0 v1
    simp
    omega
  · rw [List.mem_singleton]
    refine ext16 (fun w w1 => ?_) (fun v hv => ?_)
    · rw [ins_out w1 (by simp)]; exact hu.2.2.1 w w1 (by simp)
    · rw [ins_far hv]; exact hu.2.1 v hv
end WFS
