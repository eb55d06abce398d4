/-! THE REFERENCE: undo, save, restore, put -/
section RS2
variable {G : vm_G} {d : Nat} {m m1 m2 : vm_M} {S : aS}
theorem cm_undo_35 {P : Int} {Q : vm_M → Int → Prop} (hP : 0 ≤ P ∧ P < 6) (hQ : ∀ m' : vm_M, (∀ (c : Nat) (i : Int), c ≠ 25 → m' c i = m c i) → (∀ x : Int, 0 ≤ x → x < 62 → m' 25 x = m 26 (62 * P + x)) → Q m' (m 24 3)) :
    ∀ (n : Nat) (k : Int) (mk : vm_M), k + (n : Int) = 62 → 0 ≤ k → (∀ (c : Nat) (i : Int), c ≠ 25 → mk c i = m c i) → (∀ x : Int, 0 ≤ x → x < k → mk 25 x = m 26 (62 * P + x)) →
    vm_ex G d mX8_undo 35 [some (.inr (.inr 24)), some (.inl P), some (.inl k)] [] mk (vm_qi Q) := by
  intro n
  induction n with
  | zero =>
    intro k mk hk k0 f h
    refine qX8_undo_35 ⟨⟨by omega, by omega⟩, fun _ => ?_, fun z => absurd (by omega) z⟩
    rw [f 24 3 (by decide)]
    exact hQ mk f (fun x x0 x1 => h x x0 (by omega))
  | succ n ih =>
    intro k mk hk k0 f h
    refine qX8_undo_35 ⟨⟨by omega, by omega⟩, fun z => absurd z (by omega), fun _ => ⟨by omega, by omega, fun m5 e5 => ih (k + 1) m5 (by omega) (by omega) (fun c i p => by rw [e5, zz_other (by omega)]; exact f c i p) (fun x x0 x1 => ?_)⟩⟩
    by_cases e : x = k
    · subst e
      rw [e5, zz_same, f 26 _ (by decide)]
    · rw [e5, zz_other (by omega)]
      exact h x x0 (by omega)
theorem cm_undo {Q : vm_M → Int → Prop} (hv : sV S) (h : KR m S) (hQ : ∀ m' S' r, RFr m m' → KR m' S' → o_undo S S' r → Q m' r) : vm_ci G d mX8_undo [.inr (.inr 24)] m Q := by
  obtain ⟨h1, ⟨a1, a2, a3⟩, b, ⟨c1, c2⟩⟩ := id h
  have hH := hv.2.1.1
  refine qX8_undo ⟨⟨by omega, by omega⟩, fun hne m2 e2 => ?_, fun he => hQ m S _ (RFr.refl m) h (Or.inl ⟨by omega, rfl, rfl⟩)⟩
  have e3 : m2 24 3 = m 24 3 - 1 := by rw [e2, zz_same]
  have f2 : ∀ (c : Nat) (i : Int), ¬ (c = 24 ∧ i = 3) → m2 c i = m c i := fun c i hc => by rw [e2, zz_other hc]
  have e22 : m2 24 2 = m 24 2 := f2 24 2 (by simp)
  rw [e3, e22, zz_rem (by omega) (by omega) (by decide) (by decide)]
  refine cm_undo_35 (m := m2) (by omega) (fun m4 f4 t4 => ?_) 62 0 m2 (by decide) (by decide) (fun _ _ _ => rfl) (fun x x0 x1 => by omega)
  have fc : ∀ c : Nat, c ≠ 25 → c ≠ 24 → m4 c = m c := fun c p q => funext fun i => (f4 c i p).trans (f2 c i (fun z => q z.1))
  have e43 : m4 24 3 = sH S - 1 := by rw [f4 24 3 (by decide), e3, a1]
  have e42 : m4 24 2 = m 24 2 := by rw [f4 24 2 (by decide)]; exact e22
  have e26 : m2 26 = m 26 := funext fun i => f2 26 i (by simp)
  have top := a3 (sH S - 1) (by omega) (by omega)
  rw [e3, a1]
  refine hQ m4 _ _ (fun c i hc => (f4 c i (by omega)).trans (f2 c i (by omega))) ⟨?_, ⟨e43, by rw [e42]; exact a2, fun i i0 i1 => by rw [e42, fc 26 (by decide) (by decide)]; exact a3 i i0 (by have : i < sH S - 1 := i1; omega)⟩, fun i i0 i1 => by rw [fc 28 (by decide) (by decide), fc 27 (by decide) (by decide)]; exact b i i0 i1, ⟨by rw [f4 24 18 (by decide), f2 24 18 (by simp)]; exact c1, by rw [fc 36 (by decide) (by decide)]; exact c2⟩⟩ (Or.inr ⟨by omega, rfl, rfl⟩)
  show ste (m4 25) (sHi S (sH S - 1))
  refine ste.trans (ste.symm (ste_view (fun x x0 x1 => ?_) ?_)) top
  · rw [t4 x x0 x1, e26]
    show m 26 (62 * ((m 24 2 + (sH S - 1)) % 6) + x) = _
    rw [show m 24 2 + (sH S - 1) = m 24 2 + (m 24 3 - 1) by omega]
  · rw [top.2.1]
    exact (hv.2.1.2 (sH S - 1) (by omega) (by omega)).2.1.2
theorem cm_save_14 {s : Int} {Q : vm_M → Int → Prop} (hs : 0 ≤ s ∧ s < 2) (hQ : ∀ m' : vm_M, (∀ (c : Nat) (i : Int), ¬ (c = 27 ∧ 62 * s ≤ i ∧ i < 62 * s + 62) → ¬ (c = 28 ∧ i = s) → m' c i = m c i) → m' 28 s = 1 → (∀ x : Int, 0 ≤ x → x < 62 → m' 27 (62 * s + x) = m 25 x) → Q m' (m 25 1)) :
    ∀ (n : Nat) (k : Int) (mk : vm_M), k + (n : Int) = 62 → 0 ≤ k → (∀ (c : Nat) (i : Int), ¬ (c = 27 ∧ 62 * s ≤ i ∧ i < 62 * s + 62) → mk c i = m c i) → (∀ x : Int, 0 ≤ x → x < k → mk 27 (62 * s + x) = m 25 x) →
    vm_ex G (d + 1) mX8_save 14 [some (.inr (.inr 24)), some (.inl s), some (.inl k)] [] mk (vm_qi Q) := by
  intro n
  induction n with
  | zero =>
    intro k mk hk k0 f h
    refine qX8_save_14 ⟨⟨by omega, by omega⟩, fun _ => ⟨by omega, fun m3 e3 => ?_⟩, fun z => absurd (by omega) z⟩
    rw [show vm_bool 1 = 1 by decide] at e3
    have e1 : m3 25 1 = m 25 1 := by rw [e3, zz_other (by simp), f 25 1 (by simp)]
    rw [e1]
    exact hQ m3 (fun c i p q => by rw [e3, zz_other q]; exact f c i p) (by rw [e3, zz_same]) (fun x x0 x1 => by rw [e3, zz_other (by simp)]; exact h x x0 (by omega))
  | succ n ih =>
    intro k mk hk k0 f h
    refine qX8_save_14 ⟨⟨by omega, by omega⟩, fun z => absurd z (by omega), fun _ => ⟨by omega, by omega, fun m5 e5 => ih (k + 1) m5 (by omega) (by omega) (fun c i p => by rw [e5, zz_other (by omega)]; exact f c i p) (fun x x0 x1 => ?_)⟩⟩
    by_cases e : x = k
    · subst e
      rw [e5, zz_same, f 25 x (by simp)]
    · rw [e5, zz_other (by omega)]
      exact h x x0 (by omega)
theorem cm_save {s : Int} {Q : vm_M → Int → Prop} (hs : vm_R s) (hv : sV S) (h : KR m S) (hQ : ∀ m' S' r, RFr m m' → KR m' S' → o_save S s S' r → Q m' r) : vm_ci G (d + 1) mX8_save [.inr (.inr 24), .inl s] m Q := by
  obtain ⟨h1, ⟨a1, a2, a3⟩, b, ⟨c1, c2⟩⟩ := id h
  have k := h.k hv
  refine qX8_save (cm_in2 hs ⟨by decide, by decide⟩ ⟨by decide, by decide⟩ (fun n => ⟨fun z => Bool.noConfusion z, fun _ => hQ m S _ (RFr.refl m) h (Or.inl ⟨n, rfl, rfl⟩)⟩) (fun q => ⟨fun _ => ?_, fun z => Bool.noConfusion z⟩))
  refine cm_save_14 (m := m) (by omega) (fun m4 f4 l4 t4 => ?_) 62 0 m (by decide) (by decide) (fun _ _ _ => rfl) (fun x x0 x1 => by omega)
  rw [k.1]
  have fc : ∀ c : Nat, c ≠ 27 → c ≠ 28 → m4 c = m c := fun c p q => funext fun i => f4 c i (fun z => p z.1) (fun z => q z.1)
  refine hQ m4 _ _ (fun c i hc => f4 c i (by omega) (by omega)) ⟨by rw [fc 25 (by decide) (by decide)]; exact h1, ⟨by rw [fc 24 (by decide) (by decide)]; exact a1, by rw [fc 24 (by decide) (by decide)]; exact a2, by rw [fc 24 (by decide) (by decide), fc 26 (by decide) (by decide)]; exact a3⟩, fun i i0 i1 => ?_, ⟨by rw [fc 24 (by decide) (by decide)]; exact c1, by rw [fc 36 (by decide) (by decide)]; exact c2⟩⟩ (Or.inr ⟨q, rfl, rfl⟩)
  show m4 28 i = vm_b2i (decide (i = s) || sB S i) ∧ ((decide (i = s) || sB S i) = true → ste (stV (m4 27) (62 * i)) (if i = s then sC S else sSl S i))
  by_cases e : i = s
  · subst e
    rw [l4, if_pos rfl]
    refine ⟨by simp [vm_b2i], fun _ => ste.trans (ste.symm (ste_view (fun x x0 x1 => (t4 x x0 x1).symm) (by omega))) h1⟩
  · rw [if_neg e, f4 28 i (by simp) (fun z => e z.2)]
    have bb := b i i0 i1
    refine ⟨by rw [bb.1]; simp [e], fun hb => ?_⟩
    rw [Bool.or_eq_true, decide_eq_true_eq] at hb
    have hb' := hb.resolve_left e
    refine ste.trans (ste.symm (ste_view (fun x x0 x1 => ?_) ?_)) (bb.2 hb')
    · exact (f4 27 (62 * i + x) (by omega) (by simp)).symm
    · rw [(bb.2 hb').2.1]
      exact (hv.2.2.1 i i0 i1 hb').2.1.2
theorem cm_restore_30 {s : Int} {Q : vm_M → Int → Prop} (hs : 0 ≤ s ∧ s < 2) (hQ : ∀ m' : vm_M, (∀ (c : Nat) (i : Int), c ≠ 25 → m' c i = m c i) → (∀ x : Int, 0 ≤ x → x < 62 → m' 25 x = m 27 (62 * s + x)) → Q m' (m' 25 1)) :
    ∀ (n : Nat) (k : Int) (mk : vm_M), k + (n : Int) = 62 → 0 ≤ k → (∀ (c : Nat) (i : Int), c ≠ 25 → mk c i = m c i) → (∀ x : Int, 0 ≤ x → x < k → mk 25 x = m 27 (62 * s + x)) →
    vm_ex G (d + 1) mX8_restore 30 [some (.inr (.inr 24)), some (.inl s), some (.inl k)] [] mk (vm_qi Q) := by
  intro n
  induction n with
  | zero =>
    intro k mk hk k0 f h
    exact qX8_restore_30 ⟨⟨by omega, by omega⟩, fun _ => hQ mk f (fun x x0 x1 => h x x0 (by omega)), fun z => absurd (by omega) z⟩
  | succ n ih =>
    intro k mk hk k0 f h
    refine qX8_restore_30 ⟨⟨by omega, by omega⟩, fun z => absurd z (by omega), fun _ => ⟨by omega, by omega, fun m5 e5 => ih (k + 1) m5 (by omega) (by omega) (fun c i p => by rw [e5, zz_other (by omega)]; exact f c i p) (fun x x0 x1 => ?_)⟩⟩
    by_cases e : x = k
    · subst e
      rw [e5, zz_same, f 27 _ (by decide)]
    · rw [e5, zz_other (by omega)]
      exact h x x0 (by omega)
theorem cm_restore {s : Int} {Q : vm_M → Int → Prop} (hs : vm_R s) (hv : sV S) (h : KR m S) (hQ : ∀ m' S' r, RFr m m' → KR m' S' → o_restore S s S' r → Q m' r) : vm_ci G (d + 1) mX8_restore [.inr (.inr 24), .inl s] m Q := by
  have b := h.2.2.1
  refine qX8_restore (cm_in2 hs ⟨by decide, by decide⟩ ⟨by decide, by decide⟩ (fun n => ⟨fun z => Bool.noConfusion z, fun _ => hQ m S _ (RFr.refl m) h (Or.inl ⟨n, rfl, rfl⟩)⟩) (fun q => ⟨fun _ => ?_, fun z => Bool.noConfusion z⟩))
  have bs := b s q.1 (by omega)
  refine ⟨by omega, by rw [bs.1]; exact vm_b2i_R _, fun hne => ?_, fun he => hQ m S _ (RFr.refl m) h (Or.inr (Or.inl ⟨q, vm_b2i_0.mp (by rw [← bs.1]; exact he), rfl, rfl⟩))⟩
  have hb : sB S s = true := vm_b2i_n.mp (by rw [← bs.1]; exact hne)
  refine cm_keeps hv h (fun m5 f5 k5 => cm_restore_30 (m := m5) (by omega) (fun m6 f6 t6 => ?_) 62 0 m5 (by decide) (by decide) (fun _ _ _ => rfl) (fun x x0 x1 => by omega))
  have e27 : m5 27 = m 27 := funext fun i => f5 27 i (by decide) (by simp)
  have st : ste (m6 25) (sSl S s) := by
    refine ste.trans (ste.symm (ste_view (fun x x0 x1 => ?_) ?_)) (bs.2 hb)
    · rw [t6 x x0 x1, e27]; rfl
    · rw [(bs.2 hb).2.1]
      exact (hv.2.2.1 s q.1 (by omega) hb).2.1.2
  have e61 : m6 25 1 = sSl S s 1 := st.2.1
  rw [e61]
  exact hQ m6 _ _ (fun c i hc => (f6 c i (by omega)).trans (f5 c i (by omega) (by omega))) (k5.setC f6 st) (Or.inr (Or.inr ⟨q, hb, rfl, rfl⟩))
theorem cm_put_86 {p w : Int} {n : Nat} {Q : vm_M → Int → Prop} (hn : 1 ≤ n ∧ n ≤ 8) (hL : 0 ≤ m 24 18 ∧ m 24 18 + (n : Int) ≤ 80) (hQ : ∀ m' : vm_M, (∀ (c : Nat) (i : Int), ¬ (c = 36 ∧ m 24 18 ≤ i) → ¬ (c = 24 ∧ i = 18) → m' c i = m c i) → m' 24 18 = m 24 18 + (n : Int) → (∀ i : Int, m 24 18 ≤ i → i < m 24 18 + (n : Int) → m' 36 i = ((bX p / 256 ^ (m 24 18 + (n : Int) - 1 - i).toNat % 256 : Nat) : Int)) → Q m' (m 24 18 + (n : Int))) :
    ∀ (j : Nat) (k : Int) (mk : vm_M), k + (j : Int) = (n : Int) → 0 ≤ k → (∀ (c : Nat) (x : Int), ¬ (c = 36 ∧ m 24 18 ≤ x) → mk c x = m c x) → (∀ x : Int, m 24 18 ≤ x → x < m 24 18 + k → mk 36 x = ((bX p / 256 ^ (m 24 18 + (n : Int) - 1 - x).toNat % 256 : Nat) : Int)) →
    vm_ex G (d + 1) mX8_put 86 [some (.inr (.inr 24)), some (.inr (.inl p)), none, some (.inl (n : Int)), some (.inr (.inl w)), none, some (.inl k)] [] mk (vm_qi Q) := by
  intro j
  induction j with
  | zero =>
    intro k mk hk k0 f h
    have e1 : mk 24 18 = m 24 18 := f 24 18 (by simp)
    refine qX8_put_86 ⟨⟨by omega, by omega⟩, ⟨by omega, by omega⟩, fun _ m3 e3 => ?_, fun z => absurd (by omega) z⟩
    have e31 : m3 24 18 = m 24 18 + (n : Int) := by rw [e3, zz_same, e1]
    rw [e31]
    exact hQ m3 (fun c x h1 h2 => by rw [e3, zz_other h2]; exact f c x h1) e31 (fun x x0 x1 => by rw [e3, zz_other (by simp)]; exact h x x0 (by omega))
  | succ j ih =>
    intro k mk hk k0 f h
    have e1 : mk 24 18 = m 24 18 := f 24 18 (by simp)
    refine qX8_put_86 ⟨⟨by omega, by omega⟩, ⟨by omega, by omega⟩, fun z => absurd z (by omega), fun _ => ⟨by omega, fun m5 e5 => ?_⟩⟩
    have ek : (n : Int) - 1 - k = (((n : Int) - 1 - k).toNat : Nat) := by omega
    rw [ek, bX_land, bX_lshr p _ (by omega), l2i_nat _ (Nat.mod_lt _ (by decide)), e1] at e5
    refine ih (k + 1) m5 (by omega) (by omega) (fun c x hc => by rw [e5, zz_other (fun z => hc ⟨z.1, by omega⟩)]; exact f c x hc) (fun x x0 x1 => ?_)
    by_cases e : x = m 24 18 + k
    · subst e
      rw [e5, zz_same, show m 24 18 + (n : Int) - 1 - (m 24 18 + k) = (n : Int) - 1 - k by omega]
    · rw [e5, zz_other (fun z => e z.2)]
      exact h x x0 (by omega)
theorem cm_put_5 {p : Int} {Q : vm_M → Int → Prop} (hv : sV S) (h : KR m S) (hQ : ∀ m' S' r, RFr m m' → KR m' S' → o_put S (bX p) S' r → Q m' r) :
    ∀ (j i : Nat) (w : Int), i + j = 8 → bX w = bX p / 256 ^ i → (∀ u : Nat, u < i → 33 ≤ bX p / 256 ^ u % 256 ∧ bX p / 256 ^ u % 256 ≤ 126) →
    vm_ex G (d + 1) mX8_put 5 [some (.inr (.inr 24)), some (.inr (.inl p)), none, some (.inl (i : Int)), some (.inr (.inl w)), none, none] [] m (vm_qi Q) := by
  obtain ⟨h1, ⟨a1, a2, a3⟩, b, ⟨c1, c2⟩⟩ := id h
  have hL := hv.2.2.2.1
  have done : ∀ (n : Nat) (w : Int), plen (bX p) n → m 24 18 + (n : Int) ≤ 80 → vm_ex G (d + 1) mX8_put 86 [some (.inr (.inr 24)), some (.inr (.inl p)), none, some (.inl (n : Int)), some (.inr (.inl w)), none, some (.inl 0)] [] m (vm_qi Q) := fun n w hn hl => by
    refine cm_put_86 (m := m) hn.1 (by omega) (fun m6 f6 l6 t6 => ?_) n 0 m (by omega) (by decide) (fun _ _ _ => rfl) (fun x x0 x1 => by omega)
    have f : ∀ (c : Nat) (i : Int), c ≠ 36 → ¬ (c = 24 ∧ i = 18) → m6 c i = m c i := fun c i hc h2 => f6 c i (fun z => hc z.1) h2
    have fc : ∀ c : Nat, c ≠ 24 → c ≠ 36 → m6 c = m c := fun c p q => funext fun i => f c i q (fun z => p z.1)
    rw [c1]
    refine hQ m6 _ _ (fun c i hc => f c i (by omega) (by omega)) ⟨by rw [fc 25 (by decide) (by decide)]; exact h1, ⟨by rw [f 24 3 (by decide) (by simp)]; exact a1, by rw [f 24 2 (by decide) (by simp)]; exact a2, by rw [f 24 2 (by decide) (by simp), fc 26 (by decide) (by decide)]; exact a3⟩, fun i i0 i1 => by rw [fc 28 (by decide) (by decide), fc 27 (by decide) (by decide)]; exact b i i0 i1, ⟨by rw [l6, c1]; rfl, fun i i0 i1 => ?_⟩⟩ (Or.inr (Or.inr ⟨n, hn, by omega, rfl, rfl⟩))
    have i1' : i < sL S + (n : Int) := i1
    show m6 36 i = if i < sL S then sT S i else ((bX p / 256 ^ (sL S + (n : Int) - 1 - i).toNat % 256 : Nat) : Int)
    by_cases e : i < sL S
    · rw [if_pos e, f6 36 i (by omega) (by simp)]
      exact c2 i i0 e
    · rw [if_neg e, t6 i (by omega) (by omega), c1]
  have stop : ∀ (i : Nat) (w : Int), i ≤ 8 → bX w = bX p / 256 ^ i → (bX w % 256 = 0 ∨ i = 8) → (∀ u : Nat, u < i → 33 ≤ bX p / 256 ^ u % 256 ∧ bX p / 256 ^ u % 256 ≤ 126) → (((i : Int) = 0 → Q m (-2)) ∧ (¬ (i : Int) = 0 → (vm_R (vm_lcmp w 0)) ∧ (((vm_lcmp w 0) = 0 → (vm_R ((m 24 18) + (i : Int))) ∧ ((((m 24 18) + (i : Int)) ≤ 80 → vm_ex G (d + 1) mX8_put 86 [some (.inr (.inr 24)), some (.inr (.inl p)), none, some (.inl (i : Int)), some (.inr (.inl w)), none, some (.inl 0)] [] m (vm_qi Q)) ∧ (¬ ((m 24 18) + (i : Int)) ≤ 80 → Q m (-4)))) ∧ (¬ (vm_lcmp w 0) = 0 → Q m (-2))))) := fun i w hi hw hz hu => by
    have no : (bX p / 256 ^ i ≠ 0 ∨ i = 0) → ¬ ∃ n, plen (bX p) n := fun hh ⟨n, hn⟩ => by
      have hin : i < n := by
        rcases hh with hh | hh
        · exact plen_no hn hh
        · have := hn.1; omega
      have := (hn.2.2 i hin).1
      rw [← hw] at this
      have := hn.1
      omega
    refine ⟨fun z => hQ m S _ (RFr.refl m) h (Or.inl ⟨no (Or.inr (by omega)), rfl, rfl⟩), fun z => ⟨vm_lcmp_R _ _, fun z2 => ?_, fun z2 => hQ m S _ (RFr.refl m) h (Or.inl ⟨no (Or.inl (fun q => z2 ((bX_zero w).mpr (by rw [hw]; exact q)))), rfl, rfl⟩)⟩⟩
    have hz2 : bX p / 256 ^ i = 0 := by rw [← hw]; exact (bX_zero w).mp z2
    have hlt : bX p < 256 ^ i := by
      rcases Nat.lt_or_ge (bX p) (256 ^ i) with q | q
      · exact q
      · have := Nat.div_pos q (Nat.pow_pos (by decide)); omega
    have hn : plen (bX p) i := ⟨⟨by omega, hi⟩, hlt, hu⟩
    exact ⟨⟨by omega, by omega⟩, fun z3 => done i w hn z3, fun z3 => hQ m S _ (RFr.refl m) h (Or.inr (Or.inl ⟨i, hn, by omega, rfl, rfl⟩))⟩
  intro j
  induction j with
  | zero =>
    intro i w hi hw hu
    exact qX8_put_5 ⟨⟨by omega, by omega⟩, fun _ => stop i w (by omega) hw (Or.inr (by omega)) hu, fun z => absurd (by omega) z⟩
  | succ j ih =>
    intro i w hi hw hu
    have hb : bX w % 256 < 256 := Nat.mod_lt _ (by decide)
    refine qX8_put_5 ⟨⟨by omega, by omega⟩, fun z => absurd z (by omega), fun _ => ?_⟩
    rw [bX_land, l2i_nat _ hb]
    have hz : vm_lcmp ((bX w % 256 : Nat) : Int) 0 = 0 ↔ bX w % 256 = 0 := by rw [bX_zero, bX_nat _ hb]
    refine ⟨vm_lcmp_R _ _, fun z => stop i w (by omega) hw (Or.inl (hz.mp z)) hu, fun z => ?_⟩
    have hnz : bX p / 256 ^ i ≠ 0 := fun q => z (hz.mpr (by rw [hw, q]))
    refine cm_in2 ⟨by omega, by omega⟩ ⟨by decide, by decide⟩ ⟨by decide, by decide⟩ (fun n => ⟨fun z => Bool.noConfusion z, fun _ => hQ m S _ (RFr.refl m) h (Or.inl ⟨fun ⟨k, hk⟩ => ?_, rfl, rfl⟩)⟩) (fun q => ⟨fun _ => ih (i + 1) (vm_lushr w 8) (by omega) (by rw [bX_shr, hw, pdiv]) (fun u hu2 => ?_), fun z => Bool.noConfusion z⟩)
    · have := hk.2.2 i (plen_no hk hnz)
      rw [← hw] at this
      exact n (by omega)
    · by_cases e : u = i
      · subst e; rw [← hw]; omega
      · exact hu u (by omega)
theorem cm_put {p : Int} {Q : vm_M → Int → Prop} (hv : sV S) (h : KR m S) (hQ : ∀ m' S' r, RFr m m' → KR m' S' → o_put S (bX p) S' r → Q m' r) : vm_ci G (d + 1) mX8_put [.inr (.inr 24), .inr (.inl p)] m Q :=
  qX8_put (cm_put_5 hv h hQ 8 0 p rfl (by rw [Nat.pow_zero, Nat.div_one]) (fun u hu => by omega))
end RS2
