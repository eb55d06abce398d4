/-! THE STATE THAT BOTH SIDES KEEP: what is known; how many states the history has, and they; which slots are filled, and their states; the pad's length, and its text -/
abbrev aS : Type := (Int → Int) × (Int × (Int → Int → Int)) × ((Int → Bool) × (Int → Int → Int)) × (Int × (Int → Int))
abbrev sC (S : aS) : Int → Int := S.1
abbrev sH (S : aS) : Int := S.2.1.1
abbrev sHi (S : aS) : Int → Int → Int := S.2.1.2
abbrev sB (S : aS) : Int → Bool := S.2.2.1.1
abbrev sSl (S : aS) : Int → Int → Int := S.2.2.1.2
abbrev sL (S : aS) : Int := S.2.2.2.1
abbrev sT (S : aS) : Int → Int := S.2.2.2.2
/-- a state as it lies in a row -/
def stV (f : Int → Int) (o : Int) : Int → Int := fun x => f (o + x)
def sV (S : aS) : Prop := st_v (sC S) ∧ ((0 ≤ sH S ∧ sH S ≤ 6) ∧ ∀ i : Int, 0 ≤ i → i < sH S → st_v (sHi S i)) ∧ (∀ i : Int, 0 ≤ i → i < 2 → sB S i = true → st_v (sSl S i)) ∧ ((0 ≤ sL S ∧ sL S ≤ 80) ∧ ∀ i : Int, 0 ≤ i → i < sL S → 33 ≤ sT S i ∧ sT S i ≤ 126)
/-- the state that is known is another one -/
def setC (S : aS) (f : Int → Int) : aS := (f, S.2)
/-- the pad is another one -/
def setP (S : aS) (l : Int) (f : Int → Int) : aS := (S.1, S.2.1, S.2.2.1, (l, f))
/-- the history is another one -/
def setH (S : aS) (h : Int) (f : Int → Int → Int) : aS := (S.1, (h, f), S.2.2)
/-- the slots are other ones -/
def setS (S : aS) (b : Int → Bool) (f : Int → Int → Int) : aS := (S.1, S.2.1, (b, f), S.2.2.2)
/-- the state is recorded -/
def recS (S : aS) : aS := setH S (if sH S = 6 then 6 else sH S + 1) (fun i => if sH S = 6 then (if i = 5 then sC S else sHi S (i + 1)) else (if i = sH S then sC S else sHi S i))
theorem recS_v {S : aS} (h : sV S) : sV (recS S) := by
  obtain ⟨h1, ⟨h2, h3⟩, h4, h5⟩ := h
  refine ⟨h1, ⟨?_, fun i i0 i1 => ?_⟩, h4, h5⟩
  · show 0 ≤ (if sH S = 6 then 6 else sH S + 1) ∧ (if sH S = 6 then 6 else sH S + 1) ≤ 6
    split <;> omega
  · show st_v (if sH S = 6 then (if i = 5 then sC S else sHi S (i + 1)) else (if i = sH S then sC S else sHi S i))
    have i1' : i < (if sH S = 6 then 6 else sH S + 1) := i1
    by_cases e : sH S = 6
    · rw [if_pos e] at i1' ⊢
      by_cases e5 : i = 5
      · rw [if_pos e5]; exact h1
      · rw [if_neg e5]; exact h3 _ (by omega) (by omega)
    · rw [if_neg e] at i1' ⊢
      by_cases e5 : i = sH S
      · rw [if_pos e5]; exact h1
      · rw [if_neg e5]; exact h3 _ i0 (by omega)
theorem setC_v {S : aS} {f : Int → Int} (h : sV S) (hf : st_v f) : sV (setC S f) := ⟨hf, h.2⟩
/-- the class's cells -/
def KCc (m : vm_M) (S : aS) : Prop := ste (kst m) (sC S)
def KCh (m : vm_M) (S : aS) : Prop := m 4 0 = 6 ∧ m 0 5 = sH S ∧ ∀ i : Int, 0 ≤ i → i < sH S → ste (stV (m 11) (i * 62)) (sHi S i)
def KCs (m : vm_M) (S : aS) : Prop := m 5 0 = 2 ∧ (∃ n : Nat, m 0 6 = (n : Int) ∧ n < 4 ∧ n.testBit 0 = sB S 0 ∧ n.testBit 1 = sB S 1) ∧ ∀ i : Int, 0 ≤ i → i < 2 → sB S i = true → ste (stV (m 12) (i * 62)) (sSl S i)
def KCp (m : vm_M) (S : aS) : Prop := m 3 1 = sL S ∧ ∀ i : Int, 0 ≤ i → i < sL S → m 10 i = sT S i
def KC (m : vm_M) (S : aS) : Prop := (KCc m S ∧ (0 ≤ m 6 4 ∧ m 6 4 < 65536)) ∧ KCh m S ∧ KCs m S ∧ KCp m S
/-- the class's methods leave the reference's cells, and the other way round -/
def CFr (m m' : vm_M) : Prop := ∀ (c : Nat) (i : Int), 24 ≤ c → m' c i = m c i
def RFr (m m' : vm_M) : Prop := ∀ (c : Nat) (i : Int), c < 24 → m' c i = m c i
theorem CFr.refl (m : vm_M) : CFr m m := fun _ _ _ => rfl
theorem CFr.trans {a b c : vm_M} (h : CFr a b) (k : CFr b c) : CFr a c := fun x i p => (k x i p).trans (h x i p)
theorem RFr.refl (m : vm_M) : RFr m m := fun _ _ _ => rfl
theorem RFr.trans {a b c : vm_M} (h : RFr a b) (k : RFr b c) : RFr a c := fun x i p => (k x i p).trans (h x i p)
section CST
variable {G : vm_G} {d : Nat} {m m1 m2 : vm_M} {S : aS}
theorem CQ9.cfr (c : CQ9 m m1) : CFr m m1 := fun x i p => c.1 x i (by omega) (by omega) (by omega)
theorem CQ9.kc (c : CQ9 m m1) (hv : sV S) (h : KC m S) : KC m1 S := by
  obtain ⟨⟨h1, h2⟩, ⟨a1, a2, a3⟩, ⟨b1, b2, b3⟩, ⟨c1, c2⟩⟩ := h
  have e : ∀ (x : Nat) (i : Int), (x = 0 ∨ x = 3 ∨ x = 4 ∨ x = 5 ∨ x = 10 ∨ x = 11 ∨ x = 12) → m1 x i = m x i := fun x i hx => c.1 x i (by omega) (by omega) (by omega)
  have e11 : m1 11 = m 11 := funext fun i => e 11 i (by decide)
  have e12 : m1 12 = m 12 := funext fun i => e 12 i (by decide)
  have k1 : m 1 1 ≤ 10 := by have := h1.2.1; rw [kst_1] at this; have := hv.1.2.1; omega
  refine ⟨⟨(c.ste k1).symm.trans h1, c.2⟩, ⟨by rw [e 4 0 (by decide)]; exact a1, by rw [e 0 5 (by decide)]; exact a2, by rw [e11]; exact a3⟩, ⟨by rw [e 5 0 (by decide)]; exact b1, by rw [e 0 6 (by decide)]; exact b2, by rw [e12]; exact b3⟩, ⟨by rw [e 3 1 (by decide)]; exact c1, fun i i0 i1 => by rw [e 10 i (by decide)]; exact c2 i i0 i1⟩⟩
theorem KC.ok (h : KC m S) (hv : sV S) : kok m := ⟨h.1.1.symm.v hv.1, h.1.2⟩
/-- a state is written into a row of the history, or a slot -/
theorem cs_writeTo11 {row : Int} {Q : vm_M → Prop} (hr : 0 ≤ row ∧ row < 6) (hQ : ∀ m' : vm_M, (∀ (c : Nat) (i : Int), ¬ (c = 11 ∧ row * 62 ≤ i ∧ i < row * 62 + 62) → m' c i = m c i) → (∀ x : Int, 0 ≤ x → x < 62 → m' 11 (row * 62 + x) = kst m x) → Q m') : vm_cn G (d + 1) mX0_writeTo [.inr (.inr 1), .inr (.inr 11), .inl (row * 62)] m Q := by
  refine qX0_writeTo_a11 ⟨by omega, fun m2 e2 => ⟨by omega, fun m4 e4 => ⟨by omega, fun m6 e6 => hQ m6 (fun c i h => ?_) (fun x x0 x1 => ?_)⟩⟩⟩
  · rw [e6]
    unfold vm_cpy
    rw [if_neg (by omega), e4, zz_other (by omega), e2, zz_other (by omega)]
  · rw [e6]
    unfold vm_cpy
    by_cases h : x < 2
    · rw [if_neg (by omega), e4]
      by_cases h1 : x = 1
      · subst h1
        rw [zz_same, e2, zz_other (by simp)]
        rfl
      · have h0 : x = 0 := by omega
        subst h0
        rw [zz_other (by omega), e2, Int.add_zero, zz_same]
        rfl
    · rw [if_pos ⟨rfl, by omega, by omega⟩, e4, zz_other (by simp), e2, zz_other (by simp)]
      unfold kst
      rw [if_neg (by omega), if_neg (by omega), show 0 + (row * 62 + x - (row * 62 + 2)) = x - 2 by omega]
theorem cs_writeTo12 {row : Int} {Q : vm_M → Prop} (hr : 0 ≤ row ∧ row < 2) (hQ : ∀ m' : vm_M, (∀ (c : Nat) (i : Int), ¬ (c = 12 ∧ row * 62 ≤ i ∧ i < row * 62 + 62) → m' c i = m c i) → (∀ x : Int, 0 ≤ x → x < 62 → m' 12 (row * 62 + x) = kst m x) → Q m') : vm_cn G (d + 1) mX0_writeTo [.inr (.inr 1), .inr (.inr 12), .inl (row * 62)] m Q := by
  refine qX0_writeTo_a12 ⟨by omega, fun m2 e2 => ⟨by omega, fun m4 e4 => ⟨by omega, fun m6 e6 => hQ m6 (fun c i h => ?_) (fun x x0 x1 => ?_)⟩⟩⟩
  · rw [e6]
    unfold vm_cpy
    rw [if_neg (by omega), e4, zz_other (by omega), e2, zz_other (by omega)]
  · rw [e6]
    unfold vm_cpy
    by_cases h : x < 2
    · rw [if_neg (by omega), e4]
      by_cases h1 : x = 1
      · subst h1
        rw [zz_same, e2, zz_other (by simp)]
        rfl
      · have h0 : x = 0 := by omega
        subst h0
        rw [zz_other (by omega), e2, Int.add_zero, zz_same]
        rfl
    · rw [if_pos ⟨rfl, by omega, by omega⟩, e4, zz_other (by simp), e2, zz_other (by simp)]
      unfold kst
      rw [if_neg (by omega), if_neg (by omega), show 0 + (row * 62 + x - (row * 62 + 2)) = x - 2 by omega]
theorem cs_readFrom11 {row : Int} {Q : vm_M → Prop} (hr : 0 ≤ row ∧ row < 6) (hQ : ∀ m' : vm_M, (∀ (c : Nat) (i : Int), ¬ (c = 1 ∧ (i = 1 ∨ i = 2)) → c ≠ 9 → m' c i = m c i) → (∀ x : Int, 0 ≤ x → x < 62 → kst m' x = m 11 (row * 62 + x)) → Q m') : vm_cn G (d + 1) mX0_readFrom [.inr (.inr 1), .inr (.inr 11), .inl (row * 62)] m Q := by
  refine qX0_readFrom_a11 ⟨by omega, fun m2 e2 => ⟨by omega, fun m4 e4 => ⟨by omega, fun m6 e6 => hQ m6 (fun c i h h9 => ?_) (fun x x0 x1 => ?_)⟩⟩⟩
  · rw [e6]
    unfold vm_cpy
    rw [if_neg (by omega), e4, zz_other (by omega), e2, zz_other (by omega)]
  · unfold kst
    rw [e6]
    unfold vm_cpy
    by_cases h0 : x = 0
    · rw [if_pos h0, if_neg (by omega), e4, zz_other (by simp), e2, zz_same, h0, Int.add_zero]
    · rw [if_neg h0]
      by_cases h1 : x = 1
      · rw [if_pos h1, if_neg (by omega), e4, zz_same, e2, zz_other (by simp), h1]
      · rw [if_neg h1, if_pos ⟨rfl, by omega, by omega⟩, e4, zz_other (by simp), e2, zz_other (by simp), show row * 62 + 2 + (x - 2 - 0) = row * 62 + x by omega]
theorem cs_readFrom12 {row : Int} {Q : vm_M → Prop} (hr : 0 ≤ row ∧ row < 2) (hQ : ∀ m' : vm_M, (∀ (c : Nat) (i : Int), ¬ (c = 1 ∧ (i = 1 ∨ i = 2)) → c ≠ 9 → m' c i = m c i) → (∀ x : Int, 0 ≤ x → x < 62 → kst m' x = m 12 (row * 62 + x)) → Q m') : vm_cn G (d + 1) mX0_readFrom [.inr (.inr 1), .inr (.inr 12), .inl (row * 62)] m Q := by
  refine qX0_readFrom_a12 ⟨by omega, fun m2 e2 => ⟨by omega, fun m4 e4 => ⟨by omega, fun m6 e6 => hQ m6 (fun c i h h9 => ?_) (fun x x0 x1 => ?_)⟩⟩⟩
  · rw [e6]
    unfold vm_cpy
    rw [if_neg (by omega), e4, zz_other (by omega), e2, zz_other (by omega)]
  · unfold kst
    rw [e6]
    unfold vm_cpy
    by_cases h0 : x = 0
    · rw [if_pos h0, if_neg (by omega), e4, zz_other (by simp), e2, zz_same, h0, Int.add_zero]
    · rw [if_neg h0]
      by_cases h1 : x = 1
      · rw [if_pos h1, if_neg (by omega), e4, zz_same, e2, zz_other (by simp), h1]
      · rw [if_neg h1, if_pos ⟨rfl, by omega, by omega⟩, e4, zz_other (by simp), e2, zz_other (by simp), show row * 62 + 2 + (x - 2 - 0) = row * 62 + x by omega]
theorem ste_view {f g : Int → Int} (he : ∀ x : Int, 0 ≤ x → x < 62 → f x = g x) (h1 : f 1 ≤ 10) : ste f g := ⟨he 0 (by decide) (by decide), he 1 (by decide) (by decide), fun x x0 x1 => he (2 + x) (by omega) (by omega)⟩
/-- the class records its state -/
theorem cs_record {Q : vm_M → Prop} (hv : sV S) (h : KC m S) (hQ : ∀ m' : vm_M, (∀ (c : Nat) (i : Int), c ≠ 11 → ¬ (c = 0 ∧ i = 5) → m' c i = m c i) → KC m' (recS S) → Q m') : vm_cn G (d + 3) mX7_recordState [.inr (.inr 0)] m Q := by
  obtain ⟨⟨h1, h2⟩, ⟨a1, a2, a3⟩, ⟨b1, b2, b3⟩, ⟨c1, c2⟩⟩ := h
  have hH := hv.2.1.1
  have k1 : m 1 1 ≤ 10 := by have := h1.2.1; rw [kst_1] at this; have := hv.1.2.1; omega
  have fin : ∀ m' : vm_M, (∀ (c : Nat) (i : Int), c ≠ 11 → ¬ (c = 0 ∧ i = 5) → m' c i = m c i) → m' 0 5 = sH (recS S) → (∀ i : Int, 0 ≤ i → i < sH (recS S) → ste (stV (m' 11) (i * 62)) (sHi (recS S) i)) → Q m' := fun m' f e5 e11 => by
    have e1 : m' 1 = m 1 := funext fun i => f 1 i (by decide) (by simp)
    have e9 : m' 9 = m 9 := funext fun i => f 9 i (by decide) (by simp)
    have e12 : m' 12 = m 12 := funext fun i => f 12 i (by decide) (by simp)
    have ek : kst m' = kst m := by
      funext x
      unfold kst
      rw [e1, e9]
    refine hQ m' f ⟨⟨?_, by rw [f 6 4 (by decide) (by simp)]; exact h2⟩, ⟨by rw [f 4 0 (by decide) (by simp)]; exact a1, e5, e11⟩, ⟨by rw [f 5 0 (by decide) (by simp)]; exact b1, by rw [f 0 6 (by decide) (by simp)]; exact b2, by rw [e12]; exact b3⟩, ⟨by rw [f 3 1 (by decide) (by simp)]; exact c1, fun i i0 i1 => by rw [f 10 i (by decide) (by simp)]; exact c2 i i0 i1⟩⟩
    unfold KCc
    rw [ek]
    exact h1
  refine qX7_recordState ⟨⟨by omega, by omega⟩, fun hne => ?_, fun he => ?_⟩
  · refine qX6_store_r4 (cs_in2 ⟨by omega, by omega⟩ ⟨by decide, by decide⟩ ⟨by omega, by omega⟩ (fun n => absurd n (by omega)) (fun q => ⟨fun z => Bool.noConfusion z, fun _ => cs_writeTo11 (d := d) (by omega) (fun m3 f3 w3 => ?_)⟩))
    intro m4 e4
    have e5 : m3 0 5 = m 0 5 := f3 0 5 (by simp)
    refine fin m4 (fun c i h1 h2 => by rw [e4, zz_other h2]; exact f3 c i (by omega)) ?_ (fun i i0 i1 => ?_)
    · show m4 0 5 = if sH S = 6 then 6 else sH S + 1
      rw [e4, zz_same, e5, if_neg (by omega), a2]
    · have i1' : i < (if sH S = 6 then 6 else sH S + 1) := i1
      rw [if_neg (by omega)] at i1'
      show ste (stV (m4 11) (i * 62)) (if sH S = 6 then (if i = 5 then sC S else sHi S (i + 1)) else (if i = sH S then sC S else sHi S i))
      have e11 : m4 11 = m3 11 := by rw [e4]; exact zz_cell (by decide)
      rw [if_neg (by omega), e11]
      by_cases e : i = sH S
      · rw [if_pos e]
        refine ste.trans (ste.symm (ste_view (fun x x0 x1 => ?_) (by rw [kst_1]; exact k1))) h1
        have := w3 x x0 x1
        rw [a2, ← e] at this
        exact this.symm
      · rw [if_neg e]
        refine ste.trans (ste.symm (ste_view (fun x x0 x1 => ?_) ?_)) (a3 i i0 (by omega))
        · exact (f3 11 (i * 62 + x) (by omega)).symm
        · have := (a3 i i0 (by omega)).2.1
          rw [this]
          exact (hv.2.1.2 i i0 (by omega)).2.1.2
  · refine qX6_dropFirst_r4 ⟨by omega, fun m2 e2 => ?_⟩
    intro m7 e7
    have s2 : ∀ (c : Nat) (i : Int), c ≠ 11 → m2 c i = m c i := fun c i hc => by
      rw [e2]
      unfold vm_cpy
      rw [if_neg (fun z => hc z.1)]
    have s7 : ∀ (c : Nat) (i : Int), c ≠ 11 → ¬ (c = 0 ∧ i = 5) → m7 c i = m c i := fun c i hc h => by rw [e7, zz_other h]; exact s2 c i hc
    have e75 : m7 0 5 = 5 := by rw [e7, zz_same, s2 0 5 (by decide)]; omega
    have e740 : m7 4 0 = 6 := by rw [s7 4 0 (by decide) (by simp)]; exact a1
    have r7 : ∀ x : Int, 0 ≤ x → x < 310 → m7 11 x = m 11 (62 + x) := fun x x0 x1 => by
      rw [e7, zz_other (by simp), e2]
      unfold vm_cpy
      rw [if_pos ⟨rfl, x0, by omega⟩, show 62 + (x - 0) = 62 + x by omega]
    have kk : kst m7 = kst m := by
      funext x
      unfold kst
      rw [s7 1 2 (by decide) (by simp), s7 1 1 (by decide) (by simp), s7 9 _ (by decide) (by simp)]
    rw [e75]
    refine qX6_store_r4 (cs_in2 ⟨by decide, by decide⟩ ⟨by decide, by decide⟩ ⟨by omega, by omega⟩ (fun n => absurd n (by omega)) (fun q => ⟨fun z => Bool.noConfusion z, fun _ => cs_writeTo11 (d := d) (by decide) (fun m8 f8 w8 => ?_)⟩))
    intro m10 e10
    have e85 : m8 0 5 = 5 := (f8 0 5 (by simp)).trans e75
    refine fin m10 (fun c i h1 h2 => by rw [e10, zz_other h2, f8 c i (by omega)]; exact s7 c i h1 h2) ?_ (fun i i0 i1 => ?_)
    · show m10 0 5 = if sH S = 6 then 6 else sH S + 1
      rw [e10, zz_same, e85, if_pos (by omega)]
      rfl
    · have i1' : i < (if sH S = 6 then 6 else sH S + 1) := i1
      rw [if_pos (by omega)] at i1'
      show ste (stV (m10 11) (i * 62)) (if sH S = 6 then (if i = 5 then sC S else sHi S (i + 1)) else (if i = sH S then sC S else sHi S i))
      have e11 : m10 11 = m8 11 := by rw [e10]; exact zz_cell (by decide)
      rw [if_pos (by omega), e11]
      by_cases e : i = 5
      · subst e
        rw [if_pos rfl]
        refine ste.trans (ste.symm (ste_view (fun x x0 x1 => ?_) (by rw [kst_1]; exact k1))) h1
        have := w8 x x0 x1
        rw [kk] at this
        exact this.symm
      · rw [if_neg e]
        refine ste.trans (ste.symm (ste_view (fun x x0 x1 => ?_) ?_)) (a3 (i + 1) (by omega) (by omega))
        · show m 11 ((i + 1) * 62 + x) = m8 11 (i * 62 + x)
          rw [f8 11 (i * 62 + x) (by omega), r7 _ (by omega) (by omega), show (i + 1) * 62 + x = 62 + (i * 62 + x) by omega]
        · have := (a3 (i + 1) (by omega) (by omega)).2.1
          rw [this]
          exact (hv.2.1.2 (i + 1) (by omega) (by omega)).2.1.2
end CST
