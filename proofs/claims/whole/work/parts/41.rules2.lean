/-! THE CLASS: rules of a choice, of the sizes, none -/
section RLS2
variable {G : vm_G} {d : Nat} {m : vm_M} {Q : vm_M → Prop}
def RC (m : vm_M) (n : Int) (P : fc_G → Prop) (ty lo hi : Int) (k : Int) : Prop :=
  m 8 8 = n + 1 ∧ (0 ≤ n ∧ n < 128) ∧ (∀ i : Int, 0 ≤ i → i < n → ru_wf m i) ∧ (∀ h : fc_G, (∀ i : Int, 0 ≤ i → i < n → ru_holds m i h) ↔ P h) ∧ (∀ v : Int, 0 ≤ v → v < 16 → 0 ≤ m 22 v ∧ m 22 v ≤ 4 * n + k) ∧
  (m 15 n = ty ∧ m 16 n = lo ∧ m 17 n = hi) ∧ ru_tm m n ∧ m 19 n = k
theorem RO.rc {n ty lo hi : Int} {P : fc_G → Prop} {L : fc_G → Int} (h : RO m n P ty lo hi L 0) : RC m n P ty lo hi 0 :=
  ⟨h.1, h.2.1, h.2.2.1, h.2.2.2.1, h.2.2.2.2.1, h.2.2.2.2.2.1, h.2.2.2.2.2.2.1, by have := h.2.2.2.2.2.2.1.1.1; have := h.2.2.2.2.2.2.2.1; omega⟩
theorem cm_addTerm_RC {n ty lo hi k v : Int} {P : fc_G → Prop} (hR : RC m n P ty lo hi k) (hk : 0 ≤ k ∧ k < 4) (hv : 0 ≤ v ∧ v < 16) (hQ : ∀ m' : vm_M, ru_fr m m' → RC m' n P ty lo hi (k + 1) → m' 20 (n * 4 + k) = v → (∀ t : Int, t < k → m' 20 (n * 4 + t) = m 20 (n * 4 + t)) → Q m') : vm_cn G d mX4_addTerm [.inr (.inr 8), .inl 1, .inl v] m Q := by
  obtain ⟨r1, r2, r3, r4, r5, r6, ⟨w1, w2, w3, w4⟩, r8⟩ := hR
  refine cm_addTerm r1 r2 r8 hk hv (fun m' e => ?_)
  obtain ⟨e1, e20, e21, e19, e18, e22⟩ := e
  have hs : ru_same m m' n := fun i i0 i1 => ⟨e1 15 i (by simp), e1 16 i (by simp), e1 17 i (by simp), by rw [e18, if_neg (by omega)], by rw [e19, if_neg (by omega)], fun s s0 s1 => ⟨by rw [e20, if_neg (by omega)], by rw [e21, if_neg (by omega)]⟩⟩
  obtain ⟨q1, q2⟩ := RO_same hs r3 r4
  have a19 : m' 19 n = k + 1 := by rw [e19, if_pos rfl]
  have b20 : ∀ s : Int, s < k → m' 20 (n * 4 + s) = m 20 (n * 4 + s) := fun s hs => by rw [e20, if_neg (by omega)]
  have b21 : ∀ s : Int, s < k → m' 21 (n * 4 + s) = m 21 (n * 4 + s) := fun s hs => by rw [e21, if_neg (by omega)]
  have c20 : m' 20 (n * 4 + k) = v := by rw [e20, if_pos rfl]
  have c21 : m' 21 (n * 4 + k) = 1 := by rw [e21, if_pos rfl]
  have hmask : ∃ M M' : Nat, m 18 n = (M : Int) ∧ M < 65536 ∧ m' 18 n = (M' : Int) ∧ M' < 65536 ∧ ∀ u, M'.testBit u = (M.testBit u || decide (v.toNat = u)) := by
    have p1 : 2 ^ v.toNat < 2 ^ 16 := zz_pow_lt (by omega)
    refine ⟨(m 18 n).toNat, (m 18 n).toNat ||| 2 ^ v.toNat, by omega, by omega, ?_, zz_or_lt 16 (by omega) p1, fun u => zz_tb_or _ _ _⟩
    rw [e18, if_pos rfl, zz_shlI hv.1 (by omega)]
    have := zz_or (m 18 n).toNat (2 ^ v.toNat) (by omega) (by omega)
    rwa [Int.toNat_of_nonneg w3.1] at this
  obtain ⟨M, M', hM1, hM2, hM3, hM4, hM5⟩ := hmask
  refine hQ m' (fun c i p q => e1 c i (by omega)) ⟨by rw [e1 8 8 (by simp)]; exact r1, r2, q1, q2, fun u u0 u1 => ?_, ⟨by rw [e1 15 n (by simp)]; exact r6.1, by rw [e1 16 n (by simp)]; exact r6.2.1, by rw [e1 17 n (by simp)]; exact r6.2.2⟩, ⟨by omega, fun s s0 s1 => ?_, by omega, fun u => ?_⟩, a19⟩ c20 (fun t t1 => b20 t t1)
  · rw [e22]
    have := r5 u u0 u1
    split
    · rename_i e; subst e; omega
    · omega
  · by_cases hs : s = k
    · subst hs; rw [c20, c21]; omega
    · rw [b20 s (by omega), b21 s (by omega)]; exact w2 s s0 (by omega)
  · rw [hM3, Int.toNat_natCast, hM5, Bool.or_eq_true, decide_eq_true_eq]
    have := w4 u
    rw [hM1, Int.toNat_natCast] at this
    rw [this]
    constructor
    · rintro (⟨s, s0, s1, e⟩ | e)
      · exact ⟨s, s0, by omega, by rw [b20 s (by omega)]; exact e⟩
      · exact ⟨k, hk.1, by omega, by rw [c20]; omega⟩
    · rintro ⟨s, s0, s1, e⟩
      by_cases hs : s = k
      · subst hs; rw [c20] at e; exact Or.inr (by omega)
      · rw [b20 s (by omega)] at e; exact Or.inl ⟨s, s0, by omega, e⟩
theorem cm_choice {n ty a b c : Int} {P : fc_G → Prop} (hR : RU m n P) (h0 : n < 128) (ht : ty = 1 ∨ ty = 2) (ha : 0 ≤ a ∧ a < 16) (hb : 0 ≤ b ∧ b < 16) (hc : 0 ≤ c ∧ c < 16) (hQ : ∀ m' : vm_M, ru_fr m m' → RU m' (n + 1) (fun h => P h ∧ h a = if ty = 1 then max (h b) (h c) else min (h b) (h c)) → Q m') : vm_cn G (d + 1) mX4_choice [.inr (.inr 8), .inl ty, .inl a, .inl b, .inl c] m Q := by
  refine qX4_choice (cm_open_RO hR h0 (fun m1 f1 R1 => cm_addTerm_RC R1.rc (by decide) ha (fun m2 f2 R2 a2 _ => cm_addTerm_RC R2 (by decide) hb (fun m3 f3 R3 a3 b3 => cm_addTerm_RC R3 (by decide) hc (fun m4 f4 R4 a4 b4 => hQ m4 (((f1.trans f2).trans f3).trans f4) ?_)))))
  obtain ⟨r1, r2, r3, r4, r5, ⟨s1, s2, s3⟩, r7, r8⟩ := R4
  have e0 : m4 20 (n * 4) = a := by
    have := b4 0 (by decide)
    have := b3 0 (by decide)
    rw [Int.add_zero] at *
    omega
  have e1 : m4 20 (n * 4 + 1) = b := by rw [b4 1 (by decide)]; exact a3
  have e2 : m4 20 (n * 4 + 2) = c := a4
  refine ⟨r1, by omega, fun i i0 i1 => ?_, fun h => ?_, fun v v0 v1 => by have := r5 v v0 v1; omega⟩
  · by_cases e : i = n
    · subst e
      refine ⟨by omega, by omega, r7, by omega, by omega, fun h => by omega, fun _ => by omega⟩
    · exact r3 i i0 (by omega)
  · have hn : ru_holds m4 n h ↔ h a = if ty = 1 then max (h b) (h c) else min (h b) (h c) := by
      unfold ru_holds
      rw [s1, e0, e1, e2, if_neg (by omega)]
      split <;> exact Iff.rfl
    constructor
    · intro a
      exact ⟨(r4 h).mp fun i i0 i1 => a i i0 (by omega), hn.mp (a n r2.1 (by omega))⟩
    · rintro ⟨a, b⟩ i i0 i1
      by_cases e : i = n
      · subst e; exact hn.mpr b
      · exact (r4 h).mpr a i i0 (by omega)
theorem cm_variable {a b : Int} {Q : vm_M → Int → Prop} (hQ : Q m (a * 4 + b)) : vm_ci G d mX5_variable [.inl a, .inl b] m Q := qX5_variable hQ
theorem cm_total {n a : Int} {P : fc_G → Prop} (hR : RU m n P) (h0 : n < 128) (ha : 0 ≤ a ∧ a < 4) (hQ : ∀ m' : vm_M, ru_fr m m' → RU m' (n + 1) (fun h => P h ∧ h (4 * a + 3) = h (4 * a) + h (4 * a + 1) + h (4 * a + 2)) → Q m') : vm_cn G (d + 2) mX4_total [.inr (.inr 8), .inl a] m Q := by
  refine qX4_total (cm_open_RO hR h0 (fun m1 f1 R1 => ?_))
  refine qX4_total_9 ⟨⟨by decide, by decide⟩, fun h => absurd h (by decide), fun _ => cm_variable (cm_plus R1 (by decide) (by decide) (by omega) (fun m2 f2 R2 _ => ?_))⟩
  refine qX4_total_9 ⟨⟨by decide, by decide⟩, fun h => absurd h (by decide), fun _ => cm_variable (cm_plus R2 (by decide) (by decide) (by omega) (fun m3 f3 R3 _ => ?_))⟩
  refine qX4_total_9 ⟨⟨by decide, by decide⟩, fun h => absurd h (by decide), fun _ => cm_variable (cm_plus R3 (by decide) (by decide) (by omega) (fun m4 f4 R4 _ => ?_))⟩
  refine qX4_total_9 ⟨⟨by decide, by decide⟩, fun _ => cm_variable (cm_plus R4 (by decide) (by decide) (by omega) (fun m5 f5 R5 n5 => ?_)), fun h => absurd (by decide) h⟩
  refine hQ m5 ((((f1.trans f2).trans f3).trans f4).trans f5) ((R5.done (by decide) n5 (by decide) (by decide)).congr fun h => ?_)
  show P h ∧ 0 ≤ 0 + 1 * h (a * 4 + 0) + 1 * h (a * 4 + 1) + 1 * h (a * 4 + 2) + -1 * h (a * 4 + 3) ∧ 0 + 1 * h (a * 4 + 0) + 1 * h (a * 4 + 1) + 1 * h (a * 4 + 2) + -1 * h (a * 4 + 3) ≤ 0 ↔ _
  rw [Int.add_zero, Int.mul_comm a 4]
  constructor
  · rintro ⟨q, q1, q2⟩; exact ⟨q, by omega⟩
  · rintro ⟨q, q1⟩; exact ⟨q, by omega, by omega⟩
theorem cm_clear_7 (hz : m 8 8 = 0) (hQ : ∀ m' : vm_M, ru_fr m m' → RU m' 0 (fun _ => True) → Q m') :
    ∀ (j : Nat) (i : Int) (m1 : vm_M), i + (j : Int) = 16 → 0 ≤ i → ru_fr m m1 → m1 8 8 = 0 → (∀ v : Int, 0 ≤ v → v < i → m1 22 v = 0) →
    vm_ex G (d + 1) mX4_clear 7 [some (.inr (.inr 8)), some (.inl i)] [] m1 (vm_qn Q)
  | 0, i, m1, hi, i0, f, h8, h22 => by
    refine qX4_clear_7 ⟨⟨by omega, by omega⟩, fun _ => hQ m1 f ⟨h8, by decide, fun i a b => by omega, fun h => ⟨fun _ => trivial, fun _ i a b => by omega⟩, fun v v0 v1 => by rw [h22 v v0 (by omega)]; decide⟩, fun h => absurd (by omega) h⟩
  | j + 1, i, m1, hi, i0, f, h8, h22 => by
    refine qX4_clear_7 ⟨⟨by omega, by omega⟩, fun h => by omega, fun _ => ⟨by omega, fun m3 e3 => ?_⟩⟩
    refine cm_clear_7 hz hQ j (i + 1) m3 (by omega) (by omega) (fun c x p q => by rw [e3, zz_other (by omega)]; exact f c x p q) (by rw [e3, zz_other (by simp)]; exact h8) (fun v v0 v1 => ?_)
    rw [e3]
    by_cases hv : v = i
    · subst hv; rw [zz_same]
    · rw [zz_other (by omega)]; exact h22 v v0 (by omega)
theorem cm_clear (hQ : ∀ m' : vm_M, ru_fr m m' → RU m' 0 (fun _ => True) → Q m') : vm_cn G (d + 1) mX4_clear [.inr (.inr 8)] m Q := by
  refine qX4_clear (fun m1 e1 => ?_)
  have f1 : ru_fr m m1 := fun c i p q => by rw [e1, zz_other q]
  exact cm_clear_7 (m := m1) (by rw [e1, zz_same]) (fun m' f r => hQ m' (f1.trans f) r) 16 0 m1 (by decide) (by decide) (ru_fr.refl m1) (by rw [e1, zz_same]) (fun v v0 v1 => by omega)
end RLS2
