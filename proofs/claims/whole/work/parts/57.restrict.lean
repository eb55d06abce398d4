/-! THE CLASS: a range is cut down ahead of the search, or for good -/
section RST
variable {G : vm_G} {d : Nat} {m m1 : vm_M} {n : Int}
theorem cs_isWithin {a b c : Int} {Q : vm_M → Bool → Prop} (ha : vm_R a) (hb : vm_R b) (hc : vm_R c) (hQ : ∀ r, (r = true ↔ b ≤ a ∧ a ≤ c) → Q m r) : vm_cb G d mX7_isWithin [.inl a, .inl b, .inl c] m Q :=
  qX7_isWithin ⟨ha, hb, fun h => hQ false ⟨fun e => by simp at e, fun e => by omega⟩, fun h1 => ⟨hc, fun h => hQ false ⟨fun e => by simp at e, fun e => by omega⟩, fun h2 => hQ true ⟨fun _ => by omega, fun _ => rfl⟩⟩⟩
def RT (v l g : Int) (m m' : vm_M) : Prop := (∀ (c : Nat) (i : Int), ¬ ((c = 13 ∨ c = 14) ∧ i = v) → m' c i = m c i) ∧ m' 13 v = max (m 13 v) l ∧ m' 14 v = min (m 14 v) g
theorem cs_restrict {v l g : Int} {Q : vm_M → Prop} (hv : 0 ≤ v ∧ v < 16) (hl : vm_R l) (hg : vm_R g) (h1 : vm_R (m 13 v)) (h2 : vm_R (m 14 v)) (hQ : ∀ m', RT v l g m m' → Q m') : vm_cn G (d + 1) mX5_restrict [.inr (.inr 6), .inl v, .inl l, .inl g] m Q := by
  refine qX5_restrict (cs_isWithin ⟨by omega, by omega⟩ (by constructor <;> decide) (by constructor <;> decide) (fun r hr => ⟨fun e => ?_, fun _ => ⟨⟨by omega, by omega⟩, h1, hl, fun m6 e6 => ⟨?_, hg, fun m9 e9 => hQ m9 ?_⟩⟩⟩))
  · have := hr.mpr (by omega)
    rw [e] at this
    simp at this
  · rw [e6, zz_other (by simp)]; exact h2
  · have q14 : m6 14 v = m 14 v := by rw [e6, zz_other (by simp)]
    rw [q14] at e9
    refine ⟨fun c i h => by rw [e9, zz_other (by omega), e6, zz_other (by omega)], ?_, ?_⟩
    · rw [e9, zz_other (by simp), e6, zz_same]
      split <;> omega
    · rw [e9, zz_same]
      split <;> omega
theorem RT.se {v l g : Int} (t : RT v l g m m1) (h : 0 ≤ m 6 4 ∧ m 6 4 < 65536) : SE m m1 := ⟨fun c i p _ => t.1 c i (by omega), by rw [t.1 6 4 (by simp)]; exact h⟩
theorem RT.fs {v l g : Int} (t : RT v l g m m1) (hv : 0 ≤ v ∧ v < 16) (h64 : 0 ≤ m 6 4 ∧ m 6 4 < 65536) (hR : RW m n) (h : fc_G) : FS 0 n m1 h ↔ FS 0 n m h ∧ l ≤ h v ∧ h v ≤ g := by
  have se := t.se h64
  unfold FS
  constructor
  · rintro ⟨a, b⟩
    refine ⟨⟨fun u u0 u1 => ?_, fun i i0 i1 => (se.holds hR i0 i1 h).mp (b i i0 i1)⟩, ?_⟩
    · have q := a u u0 u1
      rw [row0] at q ⊢
      by_cases e : u = v
      · subst e; rw [t.2.1, t.2.2] at q; omega
      · rw [t.1 13 u (by omega), t.1 14 u (by omega)] at q; exact q
    · have q := a v hv.1 hv.2
      rw [row0, t.2.1, t.2.2] at q
      omega
  · rintro ⟨⟨a, b⟩, c⟩
    refine ⟨fun u u0 u1 => ?_, fun i i0 i1 => (se.holds hR i0 i1 h).mpr (b i i0 i1)⟩
    have q := a u u0 u1
    rw [row0] at q ⊢
    by_cases e : u = v
    · subst e; rw [t.2.1, t.2.2]; omega
    · rw [t.1 13 u (by omega), t.1 14 u (by omega)]; exact q
theorem cs_settleOn {P : fc_G → Prop} {v x : Int} {Q : vm_M → Prop} (s : SD n m P) (hv : 0 ≤ v ∧ v < 16) (hx : m 13 v ≤ x ∧ x ≤ m 14 v) (hP : ∃ h, P h ∧ h v = x) (hQ : ∀ m', SE m m' → SD n m' (fun h => P h ∧ h v = x) → m' 13 v = x → Q m') : vm_cn G (d + 4) mX5_settleOn [.inr (.inr 6), .inl v, .inl x] m Q := by
  obtain ⟨s1, s2, s3, s4, s5, s6⟩ := id s
  have b := s1.1 v hv.1 hv.2
  rw [row0] at b
  obtain ⟨w, rfl⟩ : ∃ w : Nat, v = (w : Int) := ⟨v.toNat, by omega⟩
  have hw : w < 16 := by omega
  have p1 : 2 ^ w < 2 ^ 16 := zz_pow_lt (by omega)
  refine qX5_settleOn (cs_restrict (d := d + 2) hv ⟨by omega, by omega⟩ ⟨by omega, by omega⟩ ⟨by omega, by omega⟩ ⟨by omega, by omega⟩ (fun m2 t => ?_))
  have se := t.se s1.2
  have R2 := se.rw' s2
  have r13 : m2 13 (w : Int) = x := by rw [t.2.1]; omega
  have r14 : m2 14 (w : Int) = x := by rw [t.2.2]; omega
  have N2 : NE 0 m2 := ⟨fun u u0 u1 => by
    have q := s1.1 u u0 u1
    rw [row0] at q ⊢
    by_cases e : u = (w : Int)
    · subst e; omega
    · rw [t.1 13 u (by omega), t.1 14 u (by omega)]; exact q, se.2⟩
  have hfs : ∀ h, FS 0 n m2 h ↔ P h ∧ h (w : Int) = x := fun h => by
    rw [t.fs hv s1.2 s2 h, s6]
    constructor <;> rintro ⟨a, c⟩ <;> exact ⟨a, by omega⟩
  rw [zz_shl1 (by omega)]
  refine cs_settle (L := 0) (n := n) (X := 2 ^ w) (C := TT) (by decide) N2 R2 CL_all (by omega) (fun u hu => trivial) (fun i i0 i1 => ?_) (fun m3 r st => ?_)
  · have hm : m2 18 i = m 18 i := se.cell (by decide) i
    by_cases hb : (m 18 i).toNat.testBit w = true
    · exact Or.inr ⟨w, hw, by rw [hm]; exact hb, Nat.testBit_two_pow_self⟩
    · refine Or.inl fun hs y hy => (se.holds s2 i0 i1 y).mpr (s4 i i0 i1 (fun u u1 hu => ?_) y ?_)
      · have a := hs u u1 (by rw [hm]; exact hu)
        rw [row0] at a ⊢
        have : ¬ (u : Int) = (w : Int) := fun e => hb (by have : u = w := by omega
                                                          rw [← this]; exact hu)
        rw [t.1 13 _ (by omega), t.1 14 _ (by omega)] at a
        exact a
      · intro u u0 u1
        have q := hy u u0 u1
        rw [row0] at q ⊢
        by_cases e : u = (w : Int)
        · subst e; omega
        · rw [t.1 13 u (by omega), t.1 14 u (by omega)] at q; exact q
  · obtain ⟨h0, t0⟩ := hP
    have hr : r = true := by
      cases r with
      | true => rfl
      | false =>
        have := (hfs h0).mpr t0
        exact absurd (fun i i0 i1 _ => this.2 i i0 i1) (st.2.1 rfl h0 this.1)
    subst hr
    refine hQ m3 (se.trans st.1.se) ⟨st.1.ne N2, st.1.rw' R2, st.1.se.wg (se.wg s3), (st.2.2 rfl).2.2, ?_, fun h => ?_⟩ ?_
    · rw [st.1.1 6 3 (by omega) (by omega), se.1 6 3 (by omega) (by omega)]; exact s5
    · show FS 0 n m3 h ↔ P h ∧ h (w : Int) = x
      rw [← hfs]
      unfold FS
      constructor
      · rintro ⟨a, b⟩
        exact ⟨st.1.box a, fun i i0 i1 => (st.1.holds R2 i0 i1 h).mp (b i i0 i1)⟩
      · rintro ⟨a, b⟩
        exact ⟨(st.2.2 rfl).1 h a (fun i i0 i1 _ => b i i0 i1), fun i i0 i1 => (st.1.holds R2 i0 i1 h).mpr (b i i0 i1)⟩
    · have a := st.1.2.1 (w : Int) (by omega) (by omega)
      rw [row0] at a
      omega
end RST
