/-! THE SIMPLE METHODS: what they do to the state, and the class's -/
def o_most (S : aS) (p : Int) (S' : aS) (r : Int) : Prop := (¬ (1 ≤ p ∧ p ≤ 6) ∧ S' = S ∧ r = -2) ∨ ((1 ≤ p ∧ p ≤ 6) ∧ S' = setC (recS S) (fun x => if x = 0 then p else sC S x) ∧ r = sC S 0)
def tA (t : fc_T) (j : Int) : Int := if j = 0 then t.1 else if j = 1 then t.2.1 else if j = 2 then t.2.2.1 else if j = 3 then t.2.2.2.1 else if j = 4 then t.2.2.2.2.1 else t.2.2.2.2.2
def addC (f : Int → Int) (t : fc_T) : Int → Int := fun x => if x = 1 then f 1 + 1 else if 2 + 6 * f 1 ≤ x ∧ x < 8 + 6 * f 1 then tA t (x - 2 - 6 * f 1) else f x
def remC (f : Int → Int) (k : Int) : Int → Int := fun x => if x = 1 then f 1 - 1 else if 2 + 6 * k ≤ x then f (x + 6) else f x
def o_fact (S : aS) (t : fc_T) (S' : aS) (r : Int) : Prop := (¬ fc_v t ∧ S' = S ∧ r = -2) ∨ (fc_v t ∧ sC S 1 = 10 ∧ S' = S ∧ r = -4) ∨ (fc_v t ∧ sC S 1 ≠ 10 ∧ S' = setC (recS S) (addC (sC S) t) ∧ r = sC S 1)
def o_drop (S : aS) (k : Int) (S' : aS) (r : Int) : Prop := (¬ (0 ≤ k ∧ k < sC S 1) ∧ S' = S ∧ r = -1) ∨ ((0 ≤ k ∧ k < sC S 1) ∧ S' = setC (recS S) (remC (sC S) k) ∧ r = sC S 1 - 1)
def o_ofFact (S : aS) (k w : Int) (S' : aS) (r : Int) : Prop := S' = S ∧ ((¬ (0 ≤ k ∧ k < sC S 1) ∧ r = -1) ∨ ((0 ≤ k ∧ k < sC S 1) ∧ ¬ (0 ≤ w ∧ w ≤ 5) ∧ r = -2) ∨ ((0 ≤ k ∧ k < sC S 1) ∧ w = 5 ∧ r = 100 + sC S (2 + (6 * k + 5))) ∨ ((0 ≤ k ∧ k < sC S 1) ∧ (0 ≤ w ∧ w ≤ 4) ∧ r = sC S (2 + (6 * k + w))))
def o_count (S : aS) (w : Int) (S' : aS) (r : Int) : Prop := S' = S ∧ ((w = 0 ∧ r = sC S 1) ∨ (w = 1 ∧ r = sC S 0) ∨ (w = 2 ∧ r = sL S) ∨ (w = 3 ∧ r = sH S) ∨ ((w < 0 ∨ 3 < w) ∧ r = -2))
def o_wipe (S S' : aS) (r : Int) : Prop := S' = setP S 0 (sT S) ∧ r = sL S
def o_undo (S S' : aS) (r : Int) : Prop := (sH S = 0 ∧ S' = S ∧ r = -5) ∨ (sH S ≠ 0 ∧ S' = setH (setC S (sHi S (sH S - 1))) (sH S - 1) (sHi S) ∧ r = sH S - 1)
def o_save (S : aS) (s : Int) (S' : aS) (r : Int) : Prop := (¬ (0 ≤ s ∧ s ≤ 1) ∧ S' = S ∧ r = -2) ∨ ((0 ≤ s ∧ s ≤ 1) ∧ S' = setS S (fun i => decide (i = s) || sB S i) (fun i => if i = s then sC S else sSl S i) ∧ r = sC S 1)
def o_restore (S : aS) (s : Int) (S' : aS) (r : Int) : Prop := (¬ (0 ≤ s ∧ s ≤ 1) ∧ S' = S ∧ r = -2) ∨ ((0 ≤ s ∧ s ≤ 1) ∧ sB S s = false ∧ S' = S ∧ r = -5) ∨ ((0 ≤ s ∧ s ≤ 1) ∧ sB S s = true ∧ S' = setC (recS S) (sSl S s) ∧ r = sSl S s 1)
theorem tA_tup {f : Int → Int} {b : Int} {t : fc_T} (h : rf_tup f b = t) {j : Int} (j0 : 0 ≤ j) (j1 : j < 6) : tA t j = f (b + j) := by
  subst h
  unfold tA rf_tup
  by_cases e0 : j = 0
  · rw [e0, if_pos rfl]
  by_cases e1 : j = 1
  · rw [e1, if_neg (by decide), if_pos rfl]
  by_cases e2 : j = 2
  · rw [e2, if_neg (by decide), if_neg (by decide), if_pos rfl]
  by_cases e3 : j = 3
  · rw [e3, if_neg (by decide), if_neg (by decide), if_neg (by decide), if_pos rfl]
  by_cases e4 : j = 4
  · rw [e4, if_neg (by decide), if_neg (by decide), if_neg (by decide), if_neg (by decide), if_pos rfl]
  have e5 : j = 5 := by omega
  rw [e5, if_neg (by decide), if_neg (by decide), if_neg (by decide), if_neg (by decide), if_neg (by decide)]
theorem addC_v {f : Int → Int} {t : fc_T} (h : st_v f) (ht : fc_v t) (hk : f 1 ≠ 10) : st_v (addC f t) := by
  obtain ⟨h1, h2, h3⟩ := h
  have e0 : addC f t 0 = f 0 := by unfold addC; rw [if_neg (by decide), if_neg (by omega)]
  have e1 : addC f t 1 = f 1 + 1 := by unfold addC; rw [if_pos rfl]
  refine ⟨by rw [e0]; exact h1, by rw [e1]; omega, fun i i0 i1 => ?_⟩
  rw [e1] at i1
  by_cases e : i = f 1
  · have : rf_tup (addC f t) (2 + 6 * i) = t := by
      have q : ∀ j : Int, 0 ≤ j → j < 6 → addC f t (2 + 6 * i + j) = tA t j := fun j j0 j1 => by
        unfold addC
        rw [if_neg (by omega), if_pos (by omega), show 2 + 6 * i + j - 2 - 6 * f 1 = j by omega]
      obtain ⟨p1, p2, p3, p4, p5, p6⟩ := t
      unfold rf_tup
      rw [q 0 (by decide) (by decide), q 1 (by decide) (by decide), q 2 (by decide) (by decide), q 3 (by decide) (by decide), q 4 (by decide) (by decide), q 5 (by decide) (by decide)]
      rfl
    rw [this]; exact ht
  · have q : ∀ j : Int, 0 ≤ j → j < 6 → addC f t (2 + 6 * i + j) = f (2 + 6 * i + j) := fun j j0 j1 => by
      unfold addC
      rw [if_neg (by omega), if_neg (by omega)]
    have := h3 i i0 (by omega)
    unfold rf_tup at this ⊢
    rw [q 0 (by decide) (by decide), q 1 (by decide) (by decide), q 2 (by decide) (by decide), q 3 (by decide) (by decide), q 4 (by decide) (by decide), q 5 (by decide) (by decide)]
    exact this
theorem remC_v {f : Int → Int} {k : Int} (h : st_v f) (hk : 0 ≤ k ∧ k < f 1) : st_v (remC f k) := by
  obtain ⟨h1, h2, h3⟩ := h
  have e0 : remC f k 0 = f 0 := by unfold remC; rw [if_neg (by decide), if_neg (by omega)]
  have e1 : remC f k 1 = f 1 - 1 := by unfold remC; rw [if_pos rfl]
  refine ⟨by rw [e0]; exact h1, by rw [e1]; omega, fun i i0 i1 => ?_⟩
  rw [e1] at i1
  by_cases e : i < k
  · have q : ∀ j : Int, 0 ≤ j → j < 6 → remC f k (2 + 6 * i + j) = f (2 + 6 * i + j) := fun j j0 j1 => by
      unfold remC
      rw [if_neg (by omega), if_neg (by omega)]
    have := h3 i i0 (by omega)
    unfold rf_tup at this ⊢
    rw [q 0 (by decide) (by decide), q 1 (by decide) (by decide), q 2 (by decide) (by decide), q 3 (by decide) (by decide), q 4 (by decide) (by decide), q 5 (by decide) (by decide)]
    exact this
  · have q : ∀ j : Int, 0 ≤ j → j < 6 → remC f k (2 + 6 * i + j) = f (2 + 6 * (i + 1) + j) := fun j j0 j1 => by
      unfold remC
      rw [if_neg (by omega), if_pos (by omega), show 2 + 6 * i + j + 6 = 2 + 6 * (i + 1) + j by omega]
    have := h3 (i + 1) (by omega) (by omega)
    unfold rf_tup at this ⊢
    rw [q 0 (by decide) (by decide), q 1 (by decide) (by decide), q 2 (by decide) (by decide), q 3 (by decide) (by decide), q 4 (by decide) (by decide), q 5 (by decide) (by decide)]
    exact this
theorem mostC_v {f : Int → Int} {p : Int} (h : st_v f) (hp : 1 ≤ p ∧ p ≤ 6) : st_v (fun x => if x = 0 then p else f x) := by
  obtain ⟨h1, h2, h3⟩ := h
  refine ⟨by simpa using hp, by simpa using h2, fun i i0 i1 => ?_⟩
  have i1' : i < f 1 := by simpa using i1
  have q : ∀ j : Int, 0 ≤ j → j < 6 → (fun x => if x = 0 then p else f x) (2 + 6 * i + j) = f (2 + 6 * i + j) := fun j j0 j1 => by
    show (if 2 + 6 * i + j = 0 then p else f (2 + 6 * i + j)) = _
    rw [if_neg (by omega)]
  have := h3 i i0 i1'
  unfold rf_tup at this ⊢
  rw [q 0 (by decide) (by decide), q 1 (by decide) (by decide), q 2 (by decide) (by decide), q 3 (by decide) (by decide), q 4 (by decide) (by decide), q 5 (by decide) (by decide)]
  exact this
theorem o_most_v {S S' : aS} {p r : Int} (h : sV S) (o : o_most S p S' r) : sV S' := by
  rcases o with ⟨_, rfl, _⟩ | ⟨hp, rfl, _⟩
  · exact h
  · exact setC_v (recS_v h) (mostC_v h.1 hp)
theorem o_fact_v {S S' : aS} {t : fc_T} {r : Int} (h : sV S) (o : o_fact S t S' r) : sV S' := by
  rcases o with ⟨_, rfl, _⟩ | ⟨_, _, rfl, _⟩ | ⟨ht, hk, rfl, _⟩
  · exact h
  · exact h
  · exact setC_v (recS_v h) (addC_v h.1 ht hk)
theorem o_drop_v {S S' : aS} {k r : Int} (h : sV S) (o : o_drop S k S' r) : sV S' := by
  rcases o with ⟨_, rfl, _⟩ | ⟨hp, rfl, _⟩
  · exact h
  · exact setC_v (recS_v h) (remC_v h.1 hp)
theorem o_undo_v {S S' : aS} {r : Int} (h : sV S) (o : o_undo S S' r) : sV S' := by
  rcases o with ⟨_, rfl, _⟩ | ⟨hp, rfl, _⟩
  · exact h
  · have q := h.2.1
    exact ⟨q.2 _ (by omega) (by omega), ⟨⟨by show 0 ≤ sH S - 1; omega, by show sH S - 1 ≤ 6; omega⟩, fun i i0 i1 => q.2 i i0 (by have : i < sH S - 1 := i1; omega)⟩, h.2.2⟩
theorem o_save_v {S S' : aS} {s r : Int} (h : sV S) (o : o_save S s S' r) : sV S' := by
  rcases o with ⟨_, rfl, _⟩ | ⟨hp, rfl, _⟩
  · exact h
  · refine ⟨h.1, h.2.1, fun i i0 i1 hb => ?_, h.2.2.2⟩
    show st_v (if i = s then sC S else sSl S i)
    by_cases e : i = s
    · rw [if_pos e]; exact h.1
    · rw [if_neg e]
      have hb' : (decide (i = s) || sB S i) = true := hb
      rw [Bool.or_eq_true, decide_eq_true_eq] at hb'
      exact h.2.2.1 i i0 i1 (hb'.resolve_left e)
theorem o_restore_v {S S' : aS} {s r : Int} (h : sV S) (o : o_restore S s S' r) : sV S' := by
  rcases o with ⟨_, rfl, _⟩ | ⟨_, _, rfl, _⟩ | ⟨hs, hb, rfl, _⟩
  · exact h
  · exact h
  · exact setC_v (recS_v h) (h.2.2.1 s hs.1 (by omega) hb)
theorem o_wipe_v {S S' : aS} {r : Int} (h : sV S) (o : o_wipe S S' r) : sV S' := by
  obtain ⟨rfl, _⟩ := o
  exact ⟨h.1, h.2.1, h.2.2.1, ⟨by show (0:Int) ≤ 0; decide, by show (0:Int) ≤ 80; decide⟩, fun i i0 i1 => absurd i1 (by show ¬ i < 0; omega)⟩
section CSI
variable {G : vm_G} {d : Nat} {m m1 m2 : vm_M} {S : aS}
/-- another state is known -/
theorem KC.setC {f : Int → Int} (h : KC m S) (fr : ∀ (c : Nat) (i : Int), ¬ (c = 1 ∧ (i = 1 ∨ i = 2)) → c ≠ 9 → m1 c i = m c i) (hs : ste (kst m1) f) : KC m1 (setC S f) := by
  obtain ⟨⟨h1, h2⟩, ⟨a1, a2, a3⟩, ⟨b1, b2, b3⟩, ⟨c1, c2⟩⟩ := h
  have e11 : m1 11 = m 11 := funext fun i => fr 11 i (by simp) (by decide)
  have e12 : m1 12 = m 12 := funext fun i => fr 12 i (by simp) (by decide)
  exact ⟨⟨hs, by rw [fr 6 4 (by simp) (by decide)]; exact h2⟩, ⟨by rw [fr 4 0 (by simp) (by decide)]; exact a1, by rw [fr 0 5 (by simp) (by decide)]; exact a2, by rw [e11]; exact a3⟩, ⟨by rw [fr 5 0 (by simp) (by decide)]; exact b1, by rw [fr 0 6 (by simp) (by decide)]; exact b2, by rw [e12]; exact b3⟩, ⟨by rw [fr 3 1 (by simp) (by decide)]; exact c1, fun i i0 i1 => by rw [fr 10 i (by simp) (by decide)]; exact c2 i i0 i1⟩⟩
theorem KC.k (h : KC m S) (hv : sV S) : m 1 1 = sC S 1 ∧ m 1 2 = sC S 0 ∧ (0 ≤ m 1 1 ∧ m 1 1 ≤ 10) ∧ (1 ≤ m 1 2 ∧ m 1 2 ≤ 6) := by
  have q1 := h.1.1.2.1
  have q0 := h.1.1.1
  rw [kst_1] at q1
  rw [kst_0] at q0
  have := hv.1.1
  have := hv.1.2.1
  omega
theorem cs_most {p : Int} {Q : vm_M → Int → Prop} (hp : vm_R p) (hv : sV S) (h : KC m S) (hQ : ∀ m' S' r, CFr m m' → KC m' S' → o_most S p S' r → Q m' r) : vm_ci G (d + 4) mX7_most [.inr (.inr 0), .inl p] m Q := by
  refine qX7_most (cs_in2 hp ⟨by decide, by decide⟩ ⟨by decide, by decide⟩ (fun n => ⟨fun z => Bool.noConfusion z, fun _ => hQ m S _ (CFr.refl m) h (Or.inl ⟨n, rfl, rfl⟩)⟩) (fun q => ⟨fun _ => cs_record (d := d) hv h (fun m3 f3 k3 m5 e5 => ?_), fun z => Bool.noConfusion z⟩))
  have e32 : m3 1 2 = m 1 2 := f3 1 2 (by decide) (by simp)
  have k := h.k hv
  rw [e32, k.2.1]
  refine hQ m5 _ _ (fun c i hc => by rw [e5, zz_other (by omega)]; exact f3 c i (by omega) (by omega)) (k3.setC (f := fun x => if x = 0 then p else sC S x) (fun c i p q => by rw [e5, zz_other (fun z => p ⟨z.1, Or.inr z.2⟩)]) ?_) (Or.inr ⟨q, rfl, rfl⟩)
  have s3 : ste (kst m3) (sC S) := k3.1.1
  refine ⟨?_, ?_, fun x x0 x1 => ?_⟩
  · show m5 1 2 = p
    rw [e5, zz_same]
  · show m5 1 1 = sC S 1
    rw [e5, zz_other (by simp)]
    exact s3.2.1
  · have e1 : kst m5 1 = kst m3 1 := by show m5 1 1 = m3 1 1; rw [e5, zz_other (by simp)]
    rw [e1] at x1
    show kst m5 (2 + x) = if 2 + x = 0 then p else sC S (2 + x)
    rw [if_neg (by omega), ← s3.2.2 x x0 x1, kst_2 x0, kst_2 x0, e5, zz_other (by simp)]
theorem cs_keepAsked {t : fc_T} {Q : vm_M → Int → Prop} (hv : sV S) (h : KC m S) (ht : rf_tup (m 9) 60 = t) (hk : m 1 1 ≠ 10) (hQ : ∀ m', CFr m m' → (∀ (c : Nat) (i : Int), ¬ (c = 1 ∧ i = 1) → c ≠ 9 → m' c i = m c i) → KC m' (setC S (addC (sC S) t)) → Q m' (sC S 1)) : vm_ci G (d + 1) mX0_keepAsked [.inr (.inr 1)] m Q := by
  have k := h.k hv
  refine qX0_keepAsked (qX0_isFull ⟨⟨by omega, by omega⟩, fun _ => ⟨fun _ => ⟨by omega, fun m4 e4 m5 e5 => ?_⟩, fun z => Bool.noConfusion z⟩, fun z => absurd (by omega) z⟩)
  have e41 : m4 1 1 = m 1 1 := by rw [e4]; unfold vm_cpy; rw [if_neg (by omega)]
  have e51 : m5 1 1 = m 1 1 + 1 := by rw [e5, zz_same, e41]
  have er : m5 1 1 - 1 = sC S 1 := by omega
  rw [er]
  have s0 : ste (kst m) (sC S) := h.1.1
  refine hQ m5 (fun c i hc => ?_) (fun c i h1 h2 => ?_) (h.setC (fun c i h1 h2 => ?_) ⟨?_, ?_, fun x x0 x1 => ?_⟩)
  · rw [e5, zz_other (by omega), e4]; unfold vm_cpy; rw [if_neg (by omega)]
  · rw [e5, zz_other h1, e4]; unfold vm_cpy; rw [if_neg (by omega)]
  · rw [e5, zz_other (by omega), e4]; unfold vm_cpy; rw [if_neg (by omega)]
  · show m5 1 2 = addC (sC S) t 0
    unfold addC
    rw [if_neg (by decide), if_neg (by omega), e5, zz_other (by simp), e4]
    unfold vm_cpy
    rw [if_neg (by omega)]
    exact s0.1
  · show m5 1 1 = addC (sC S) t 1
    unfold addC
    rw [if_pos rfl, e51, k.1]
  · have x1' : x < 6 * (m 1 1 + 1) := by have : x < 6 * m5 1 1 := x1; rwa [e51] at this
    rw [kst_2 x0, e5, zz_other (by simp), e4]
    unfold vm_cpy addC
    rw [if_neg (show ¬ 2 + x = 1 by omega)]
    by_cases e : x < 6 * m 1 1
    · rw [if_neg (by omega), if_neg (by omega)]
      have := s0.2.2 x x0 e
      rwa [kst_2 x0] at this
    · rw [if_pos ⟨rfl, by omega, by omega⟩, if_pos (by omega), tA_tup ht (by omega) (by omega), show 60 + (x - m 1 1 * 6) = 60 + (2 + x - 2 - 6 * sC S 1) by omega]
theorem cs_fact {f a b c e' e : Int} {Q : vm_M → Int → Prop} (hf : vm_R f) (ha : vm_R a) (hb : vm_R b) (hc : vm_R c) (hd : vm_R e') (he : vm_R e) (hv : sV S) (h : KC m S) (hQ : ∀ m' S' r, CFr m m' → KC m' S' → o_fact S (f, a, b, c, e', e) S' r → Q m' r) : vm_ci G (d + 4) mX7_fact [.inr (.inr 0), .inl f, .inl a, .inl b, .inl c, .inl e', .inl e] m Q := by
  refine qX7_fact (cs_ask (d := d) hf ha hb hc hd he (fun n => ⟨fun z => Bool.noConfusion z, fun _ => hQ m S _ (CFr.refl m) h (Or.inl ⟨n, rfl, rfl⟩)⟩) (fun m1 ht k1 e1 => ⟨fun _ => ?_, fun z => Bool.noConfusion z⟩))
  have c1 := k1.cq9 h.1.2
  have h1 := c1.kc hv h
  have k := h1.k hv
  refine qX0_isFull ⟨⟨by omega, by omega⟩, fun _ => ⟨fun _ => cs_record (d := d) hv h1 (fun m3 f3 k3 => ?_), fun z => Bool.noConfusion z⟩, fun z => ⟨fun z => Bool.noConfusion z, fun _ => hQ m1 S _ c1.cfr h1 (Or.inr (Or.inl ⟨ht, by omega, rfl, rfl⟩))⟩⟩
  have e9 : m3 9 = m1 9 := funext fun i => f3 9 i (by decide) (by simp)
  have e31 : m3 1 1 = m1 1 1 := f3 1 1 (by decide) (by simp)
  refine cs_keepAsked (d := d + 2) (t := (f, a, b, c, e', e)) (recS_v hv) k3 (by rw [e9]; exact e1) (by omega) (fun m7 f7 _ k7 => ?_)
  exact hQ m7 _ _ (c1.cfr.trans (CFr.trans (fun c i hc => f3 c i (by omega) (by omega)) f7)) k7 (Or.inr (Or.inr ⟨ht, by show sC S 1 ≠ 10; omega, rfl, rfl⟩))
theorem cs_has {p : Int} {Q : vm_M → Bool → Prop} (hp : vm_R p) (hk : 0 ≤ m 1 1 ∧ m 1 1 ≤ 10) (hF : ¬ (0 ≤ p ∧ p < m 1 1) → Q m false) (hT : (0 ≤ p ∧ p < m 1 1) → Q m true) : vm_cb G d mX0_has [.inr (.inr 1), .inl p] m Q :=
  qX0_has ⟨hp, fun _ => hF (by omega), fun _ => ⟨⟨by omega, by omega⟩, fun _ => hF (by omega), fun _ => hT (by omega)⟩⟩
theorem cs_drop {p : Int} {Q : vm_M → Int → Prop} (hp : vm_R p) (hv : sV S) (h : KC m S) (hQ : ∀ m' S' r, CFr m m' → KC m' S' → o_drop S p S' r → Q m' r) : vm_ci G (d + 4) mX7_drop [.inr (.inr 0), .inl p] m Q := by
  have k := h.k hv
  refine qX7_drop (cs_has hp k.2.2.1 (fun n => ⟨fun z => Bool.noConfusion z, fun _ => hQ m S _ (CFr.refl m) h (Or.inl ⟨by rw [← k.1]; exact n, rfl, rfl⟩)⟩) (fun q => ⟨fun _ => cs_record (d := d) hv h (fun m3 f3 k3 => ?_), fun z => Bool.noConfusion z⟩))
  have e31 : m3 1 1 = m 1 1 := f3 1 1 (by decide) (by simp)
  refine qX0_remove (cs_has hp (by omega) (fun n => absurd n (by omega)) (fun q3 => ⟨fun _ => ⟨by omega, fun m4 e4 m5 e5 => ?_⟩, fun z => Bool.noConfusion z⟩))
  have e41 : m4 1 1 = m 1 1 := by rw [e4]; unfold vm_cpy; rw [if_neg (by omega)]; exact e31
  have e51 : m5 1 1 = m 1 1 - 1 := by rw [e5, zz_same, e41]
  have s3 : ste (kst m3) (sC S) := k3.1.1
  rw [e51, k.1]
  refine hQ m5 _ _ (fun c i hc => ?_) (k3.setC (f := remC (sC S) p) (fun c i h1 h2 => ?_) ⟨?_, ?_, fun x x0 x1 => ?_⟩) (Or.inr ⟨by rw [← k.1]; exact q, rfl, rfl⟩)
  · rw [e5, zz_other (by omega), e4]; unfold vm_cpy; rw [if_neg (by omega)]; exact f3 c i (by omega) (by omega)
  · rw [e5, zz_other (by omega), e4]; unfold vm_cpy; rw [if_neg (by omega)]
  · show m5 1 2 = remC (sC S) p 0
    unfold remC
    rw [if_neg (by decide), if_neg (by omega), e5, zz_other (by simp), e4]
    unfold vm_cpy
    rw [if_neg (by omega)]
    exact s3.1
  · show m5 1 1 = remC (sC S) p 1
    unfold remC
    rw [if_pos rfl, e51, k.1]
  · have x1' : x < 6 * (m 1 1 - 1) := by have : x < 6 * m5 1 1 := x1; rwa [e51] at this
    have s3k : kst m3 1 = m 1 1 := e31
    rw [kst_2 x0, e5, zz_other (by simp), e4]
    unfold vm_cpy remC
    rw [if_neg (show ¬ 2 + x = 1 by omega)]
    by_cases e : x < 6 * p
    · rw [if_neg (by omega), if_neg (by omega)]
      have := s3.2.2 x x0 (by omega)
      rwa [kst_2 x0] at this
    · rw [if_pos ⟨rfl, by omega, by omega⟩, if_pos (by omega)]
      have := s3.2.2 (x + 6) (by omega) (by omega)
      rw [kst_2 (by omega)] at this
      rw [show p * 6 + 6 + (x - p * 6) = x + 6 by omega, show 2 + x + 6 = 2 + (x + 6) by omega]
      exact this
theorem cs_ofFact {p w : Int} {Q : vm_M → Int → Prop} (hp : vm_R p) (hw : vm_R w) (hv : sV S) (h : KC m S) (hQ : ∀ m' S' r, CFr m m' → KC m' S' → o_ofFact S p w S' r → Q m' r) : vm_ci G (d + 2) mX7_ofFact [.inr (.inr 0), .inl p, .inl w] m Q := by
  have k := h.k hv
  have fin : ∀ r, ((¬ (0 ≤ p ∧ p < sC S 1) ∧ r = -1) ∨ ((0 ≤ p ∧ p < sC S 1) ∧ ¬ (0 ≤ w ∧ w ≤ 5) ∧ r = -2) ∨ ((0 ≤ p ∧ p < sC S 1) ∧ w = 5 ∧ r = 100 + sC S (2 + (6 * p + 5))) ∨ ((0 ≤ p ∧ p < sC S 1) ∧ (0 ≤ w ∧ w ≤ 4) ∧ r = sC S (2 + (6 * p + w)))) → Q m r := fun r hr => hQ m S r (CFr.refl m) h ⟨rfl, hr⟩
  refine qX7_ofFact (cs_has hp k.2.2.1 (fun n => ⟨fun z => Bool.noConfusion z, fun _ => fin _ (Or.inl ⟨by omega, rfl⟩)⟩) (fun q => ⟨fun _ => cs_in2 hw ⟨by decide, by decide⟩ ⟨by decide, by decide⟩ (fun n => ⟨fun z => Bool.noConfusion z, fun _ => fin _ (Or.inr (Or.inl ⟨by omega, n, rfl⟩))⟩) (fun q2 => ⟨fun _ => cs_number (d := d) (by omega) (by omega) ⟨hw, fun z => fin _ (Or.inr (Or.inr (Or.inr ⟨by omega, by omega, ?_⟩))), fun z => fin _ (Or.inr (Or.inr (Or.inl ⟨by omega, z, ?_⟩)))⟩, fun z => Bool.noConfusion z⟩), fun z => Bool.noConfusion z⟩))
  · have := h.1.1.2.2 (6 * p + w) (by omega) (by rw [kst_1]; omega)
    rw [kst_2 (by omega)] at this
    rw [← this, show p * 6 + w = 6 * p + w by omega]
  · have := h.1.1.2.2 (6 * p + 5) (by omega) (by rw [kst_1]; omega)
    rw [kst_2 (by omega)] at this
    rw [← this, z, show p * 6 + 5 = 6 * p + 5 by omega]
    omega
theorem cs_count {w : Int} {Q : vm_M → Int → Prop} (hw : vm_R w) (hv : sV S) (h : KC m S) (hQ : ∀ m' S' r, CFr m m' → KC m' S' → o_count S w S' r → Q m' r) : vm_ci G d mX7_count [.inr (.inr 0), .inl w] m Q := by
  have k := h.k hv
  have fin : ∀ r, ((w = 0 ∧ r = sC S 1) ∨ (w = 1 ∧ r = sC S 0) ∨ (w = 2 ∧ r = sL S) ∨ (w = 3 ∧ r = sH S) ∨ ((w < 0 ∨ 3 < w) ∧ r = -2)) → Q m r := fun r hr => hQ m S r (CFr.refl m) h ⟨rfl, hr⟩
  exact qX7_count ⟨hw, fun z => fin _ (Or.inl ⟨z, k.1⟩), fun z => fin _ (Or.inr (Or.inl ⟨z, k.2.1⟩)), fun z => fin _ (Or.inr (Or.inr (Or.inl ⟨z, h.2.2.2.1⟩))), fun z => fin _ (Or.inr (Or.inr (Or.inr (Or.inl ⟨z, h.2.1.2.1⟩)))), fun z => fin _ (Or.inr (Or.inr (Or.inr (Or.inr ⟨z, rfl⟩))))⟩
theorem cs_clear {Q : vm_M → Int → Prop} (h : KC m S) (hQ : ∀ m', CFr m m' → KC m' (setP S 0 (sT S)) → Q m' (sL S)) : vm_ci G d mX3_clear [.inr (.inr 3)] m Q := by
  refine qX3_clear (fun m1 e1 => ?_)
  obtain ⟨⟨h1, h2⟩, ⟨a1, a2, a3⟩, ⟨b1, b2, b3⟩, ⟨c1, c2⟩⟩ := h
  have f : ∀ (c : Nat) (i : Int), c ≠ 3 → m1 c i = m c i := fun c i hc => by rw [e1, zz_other (by omega)]
  have fc : ∀ c : Nat, c ≠ 3 → m1 c = m c := fun c hc => funext fun i => f c i hc
  rw [c1]
  refine hQ m1 (fun c i hc => f c i (by omega)) ⟨⟨?_, by rw [f 6 4 (by decide)]; exact h2⟩, ⟨by rw [f 4 0 (by decide)]; exact a1, by rw [f 0 5 (by decide)]; exact a2, by rw [fc 11 (by decide)]; exact a3⟩, ⟨by rw [f 5 0 (by decide)]; exact b1, by rw [f 0 6 (by decide)]; exact b2, by rw [fc 12 (by decide)]; exact b3⟩, ⟨by rw [e1, zz_same]; rfl, fun i i0 i1 => absurd i1 (by show ¬ i < 0; omega)⟩⟩
  have ek : kst m1 = kst m := by
    funext x
    unfold kst
    rw [fc 1 (by decide), fc 9 (by decide)]
  unfold KCc
  rw [ek]
  exact h1
theorem cs_wipe {Q : vm_M → Int → Prop} (h : KC m S) (hQ : ∀ m' S' r, CFr m m' → KC m' S' → o_wipe S S' r → Q m' r) : vm_ci G (d + 1) mX7_wipe [.inr (.inr 0)] m Q :=
  qX7_wipe (cs_clear h (fun m' f k => hQ m' _ _ f k ⟨rfl, rfl⟩))
end CSI
