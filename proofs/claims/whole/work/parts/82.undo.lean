/-! THE CLASS: undo, save, restore -/
section CUN
variable {G : vm_G} {d : Nat} {m m1 m2 : vm_M} {S : aS}
theorem cs_undo {Q : vm_M → Int → Prop} (hv : sV S) (h : KC m S) (hQ : ∀ m' S' r, CFr m m' → KC m' S' → o_undo S S' r → Q m' r) : vm_ci G (d + 3) mX7_undo [.inr (.inr 0)] m Q := by
  obtain ⟨⟨h1, h2⟩, ⟨a1, a2, a3⟩, ⟨b1, b2, b3⟩, ⟨c1, c2⟩⟩ := id h
  have hH := hv.2.1.1
  refine qX7_undo ⟨⟨by omega, by omega⟩, fun hne m2 e2 => ?_, fun he => hQ m S _ (CFr.refl m) h (Or.inl ⟨by omega, rfl, rfl⟩)⟩
  have e5 : m2 0 5 = m 0 5 - 1 := by rw [e2, zz_same]
  have f2 : ∀ (c : Nat) (i : Int), ¬ (c = 0 ∧ i = 5) → m2 c i = m c i := fun c i hc => by rw [e2, zz_other hc]
  have e40 : m2 4 0 = 6 := by rw [f2 4 0 (by simp)]; exact a1
  rw [e5]
  refine qX6_load_r4 (cs_in2 ⟨by omega, by omega⟩ ⟨by decide, by decide⟩ ⟨by omega, by omega⟩ (fun n => absurd n (by omega)) (fun q => ⟨fun z => Bool.noConfusion z, fun _ => cs_readFrom11 (d := d) (by omega) (fun m3 f3 r3 => ?_)⟩))
  have f23 : ∀ (c : Nat) (i : Int), ¬ (c = 0 ∧ i = 5) → ¬ (c = 1 ∧ (i = 1 ∨ i = 2)) → c ≠ 9 → m3 c i = m c i := fun c i p q r => (f3 c i q r).trans (f2 c i p)
  have e35 : m3 0 5 = sH S - 1 := by rw [f3 0 5 (by simp) (by decide), e5, a2]
  have e11 : m3 11 = m 11 := funext fun i => f23 11 i (by simp) (by simp) (by decide)
  have e12 : m3 12 = m 12 := funext fun i => f23 12 i (by simp) (by simp) (by decide)
  have e211 : m2 11 = m 11 := funext fun i => f2 11 i (by simp)
  rw [e35]
  have top := a3 (sH S - 1) (by omega) (by omega)
  refine hQ m3 _ _ (fun c i hc => f23 c i (by omega) (by omega) (by omega)) ⟨⟨?_, by rw [f23 6 4 (by simp) (by simp) (by decide)]; exact h2⟩, ⟨by rw [f23 4 0 (by simp) (by simp) (by decide)]; exact a1, e35, fun i i0 i1 => by rw [e11]; exact a3 i i0 (by have : i < sH S - 1 := i1; omega)⟩, ⟨by rw [f23 5 0 (by simp) (by simp) (by decide)]; exact b1, by rw [f23 0 6 (by simp) (by simp) (by decide)]; exact b2, by rw [e12]; exact b3⟩, ⟨by rw [f23 3 1 (by simp) (by simp) (by decide)]; exact c1, fun i i0 i1 => by rw [f23 10 i (by simp) (by simp) (by decide)]; exact c2 i i0 i1⟩⟩ (Or.inr ⟨by omega, rfl, rfl⟩)
  show ste (kst m3) (sHi S (sH S - 1))
  refine ste.trans (ste.symm (ste_view (fun x x0 x1 => ?_) ?_)) top
  · rw [r3 x x0 x1, e211, a2]; rfl
  · have q := top.2.1
    rw [q]
    exact (hv.2.1.2 (sH S - 1) (by omega) (by omega)).2.1.2
theorem cs_save {s : Int} {Q : vm_M → Int → Prop} (hs : vm_R s) (hv : sV S) (h : KC m S) (hQ : ∀ m' S' r, CFr m m' → KC m' S' → o_save S s S' r → Q m' r) : vm_ci G (d + 3) mX7_save [.inr (.inr 0), .inl s] m Q := by
  obtain ⟨⟨h1, h2⟩, ⟨a1, a2, a3⟩, ⟨b1, ⟨n, n1, n2, n3, n4⟩, b3⟩, ⟨c1, c2⟩⟩ := id h
  have k := h.k hv
  refine qX7_save (cs_in2 hs ⟨by decide, by decide⟩ ⟨by decide, by decide⟩ (fun n => ⟨fun z => Bool.noConfusion z, fun _ => hQ m S _ (CFr.refl m) h (Or.inl ⟨n, rfl, rfl⟩)⟩) (fun q => ⟨fun _ => ?_, fun z => Bool.noConfusion z⟩))
  refine qX6_store_r5 (cs_in2 hs ⟨by decide, by decide⟩ ⟨by omega, by omega⟩ (fun n => absurd n (by omega)) (fun q => ⟨fun z => Bool.noConfusion z, fun _ => cs_writeTo12 (d := d) (by omega) (fun m3 f3 w3 m5 e5 => ?_)⟩))
  have f5 : ∀ (c : Nat) (i : Int), c ≠ 12 → ¬ (c = 0 ∧ i = 6) → m5 c i = m c i := fun c i p q => by rw [e5, zz_other q]; exact f3 c i (by omega)
  have fc : ∀ c : Nat, c ≠ 12 → c ≠ 0 → m5 c = m c := fun c p q => funext fun i => f5 c i p (by omega)
  have e36 : m3 0 6 = (n : Int) := (f3 0 6 (by simp)).trans n1
  have es : s = ((s.toNat : Nat) : Int) := by omega
  have e56 : m5 0 6 = ((n ||| 2 ^ s.toNat : Nat) : Int) := by
    rw [e5, zz_same, e36, es, zz_orbit n s.toNat (by omega) (by omega), Int.toNat_natCast]
  have e512 : m5 12 = m3 12 := by rw [e5]; exact zz_cell (by decide)
  have e511 : m5 1 1 = sC S 1 := by rw [f5 1 1 (by decide) (by simp)]; exact k.1
  rw [e511]
  have ek : kst m5 = kst m := by
    funext x
    unfold kst
    rw [fc 1 (by decide) (by decide), fc 9 (by decide) (by decide)]
  have lt : n ||| 2 ^ s.toNat < 4 := zz_or_lt 2 n2 (by
    have : s.toNat = 0 ∨ s.toNat = 1 := by omega
    rcases this with e | e <;> rw [e] <;> decide)
  refine hQ m5 _ _ (fun c i hc => f5 c i (by omega) (by omega)) ⟨⟨by unfold KCc; rw [ek]; exact h1, by rw [f5 6 4 (by decide) (by simp)]; exact h2⟩, ⟨by rw [f5 4 0 (by decide) (by simp)]; exact a1, by rw [f5 0 5 (by decide) (by simp)]; exact a2, by rw [fc 11 (by decide) (by decide)]; exact a3⟩, ⟨by rw [f5 5 0 (by decide) (by simp)]; exact b1, ⟨_, e56, lt, ?_, ?_⟩, fun i i0 i1 hb => ?_⟩, ⟨by rw [f5 3 1 (by decide) (by simp)]; exact c1, fun i i0 i1 => by rw [f5 10 i (by decide) (by simp)]; exact c2 i i0 i1⟩⟩ (Or.inr ⟨by omega, rfl, rfl⟩)
  · show (n ||| 2 ^ s.toNat).testBit 0 = (decide (0 = s) || sB S 0)
    rw [zz_tb_or, n3, Bool.or_comm]
    have : decide (s.toNat = 0) = decide ((0 : Int) = s) := by rw [Bool.eq_iff_iff, decide_eq_true_eq, decide_eq_true_eq]; omega
    rw [this]
  · show (n ||| 2 ^ s.toNat).testBit 1 = (decide (1 = s) || sB S 1)
    rw [zz_tb_or, n4, Bool.or_comm]
    have : decide (s.toNat = 1) = decide ((1 : Int) = s) := by rw [Bool.eq_iff_iff, decide_eq_true_eq, decide_eq_true_eq]; omega
    rw [this]
  · show ste (stV (m5 12) (i * 62)) (if i = s then sC S else sSl S i)
    rw [e512]
    by_cases e : i = s
    · rw [if_pos e, e]
      exact ste.trans (ste.symm (ste_view (fun x x0 x1 => (w3 x x0 x1).symm) (by rw [kst_1]; omega))) h1
    · rw [if_neg e]
      have hb' : (decide (i = s) || sB S i) = true := hb
      rw [Bool.or_eq_true, decide_eq_true_eq] at hb'
      have b := b3 i i0 i1 (hb'.resolve_left e)
      refine ste.trans (ste.symm (ste_view (fun x x0 x1 => ?_) ?_)) b
      · exact (f3 12 (i * 62 + x) (by omega)).symm
      · rw [b.2.1]
        exact (hv.2.2.1 i i0 i1 (hb'.resolve_left e)).2.1.2
theorem cs_restore {s : Int} {Q : vm_M → Int → Prop} (hs : vm_R s) (hv : sV S) (h : KC m S) (hQ : ∀ m' S' r, CFr m m' → KC m' S' → o_restore S s S' r → Q m' r) : vm_ci G (d + 4) mX7_restore [.inr (.inr 0), .inl s] m Q := by
  obtain ⟨⟨h1, h2⟩, ⟨a1, a2, a3⟩, ⟨b1, ⟨n, n1, n2, n3, n4⟩, b3⟩, ⟨c1, c2⟩⟩ := id h
  refine qX7_restore (cs_in2 hs ⟨by decide, by decide⟩ ⟨by decide, by decide⟩ (fun n => ⟨fun z => Bool.noConfusion z, fun _ => hQ m S _ (CFr.refl m) h (Or.inl ⟨n, rfl, rfl⟩)⟩) (fun q => ⟨fun _ => ?_, fun z => Bool.noConfusion z⟩))
  have es : s = ((s.toNat : Nat) : Int) := by omega
  have hbit : vm_and (m 0 6) (vm_shl 1 s) = 0 ↔ sB S s = false := by
    rw [n1, es, zz_bit2 n s.toNat (by omega) (by omega)]
    have : s.toNat = 0 ∨ s.toNat = 1 := by omega
    rcases this with e | e
    · rw [e, n3]; rfl
    · rw [e, n4]; rfl
  have hR : vm_R (vm_and (m 0 6) (vm_shl 1 s)) := by
    have : s.toNat = 0 ∨ s.toNat = 1 := by omega
    rw [n1, es, zz_shl1 (by omega)]
    exact and_R (by omega) (by rcases this with e | e <;> rw [e] <;> decide)
  refine ⟨hR, fun hne => ?_, fun he => hQ m S _ (CFr.refl m) h (Or.inr (Or.inl ⟨q, hbit.mp he, rfl, rfl⟩))⟩
  have hb : sB S s = true := by
    cases e : sB S s with
    | true => rfl
    | false => exact absurd (hbit.mpr e) hne
  refine cs_record (d := d) hv h (fun m4 f4 k4 => ?_)
  have e50 : m4 5 0 = 2 := by rw [f4 5 0 (by decide) (by simp)]; exact b1
  refine qX6_load_r5 (cs_in2 hs ⟨by decide, by decide⟩ ⟨by omega, by omega⟩ (fun n => absurd n (by omega)) (fun q => ⟨fun z => Bool.noConfusion z, fun _ => cs_readFrom12 (d := d + 1) (by omega) (fun m6 f6 r6 => ?_)⟩))
  have b := b3 s q.1 (by omega) hb
  have e12 : m4 12 = m 12 := funext fun i => f4 12 i (by decide) (by simp)
  have st : ste (kst m6) (sSl S s) := by
    refine ste.trans (ste.symm (ste_view (fun x x0 x1 => ?_) ?_)) b
    · rw [r6 x x0 x1, e12]; rfl
    · rw [b.2.1]
      exact (hv.2.2.1 s q.1 (by omega) hb).2.1.2
  have e61 : m6 1 1 = sSl S s 1 := st.2.1
  rw [e61]
  exact hQ m6 _ _ (fun c i hc => (f6 c i (by omega) (by omega)).trans (f4 c i (by omega) (by omega))) (k4.setC f6 st) (Or.inr (Or.inr ⟨by omega, hb, rfl, rfl⟩))
end CUN
