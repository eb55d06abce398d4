/-! THE CLASS: rules -/
def ru_lin (m : vm_M) (i : Int) (h : fc_G) (n : Nat) : Int := zz_sm (fun t => m 21 (i * 4 + t) * h (m 20 (i * 4 + t))) n
def ru_holds (m : vm_M) (i : Int) (h : fc_G) : Prop :=
  if m 15 i = 0 then m 16 i ≤ ru_lin m i h (m 19 i).toNat ∧ ru_lin m i h (m 19 i).toNat ≤ m 17 i
  else if m 15 i = 1 then h (m 20 (i * 4)) = max (h (m 20 (i * 4 + 1))) (h (m 20 (i * 4 + 2)))
  else h (m 20 (i * 4)) = min (h (m 20 (i * 4 + 1))) (h (m 20 (i * 4 + 2)))
/-- the row of a rule is in order, as far as its terms go -/
def ru_tm (m : vm_M) (i : Int) : Prop :=
  (0 ≤ m 19 i ∧ m 19 i ≤ 4) ∧ (∀ t : Int, 0 ≤ t → t < m 19 i → (0 ≤ m 20 (i * 4 + t) ∧ m 20 (i * 4 + t) < 16) ∧ (-4 ≤ m 21 (i * 4 + t) ∧ m 21 (i * 4 + t) ≤ 4)) ∧
  (0 ≤ m 18 i ∧ m 18 i < 65536) ∧ (∀ u : Nat, (m 18 i).toNat.testBit u = true ↔ ∃ t : Int, 0 ≤ t ∧ t < m 19 i ∧ m 20 (i * 4 + t) = (u : Int))
def ru_wf (m : vm_M) (i : Int) : Prop :=
  (m 15 i = 0 ∨ m 15 i = 1 ∨ m 15 i = 2) ∧ 1 ≤ m 19 i ∧ ru_tm m i ∧ (-2000000 ≤ m 16 i ∧ m 16 i ≤ 2000000) ∧ (-2000000 ≤ m 17 i ∧ m 17 i ≤ 2000000) ∧
  (m 15 i = 0 → ∀ s t : Int, 0 ≤ s → s < t → t < m 19 i → m 20 (i * 4 + s) ≠ m 20 (i * 4 + t)) ∧ (m 15 i ≠ 0 → m 19 i = 3)
/-- there are n rules, and they say P -/
def RU (m : vm_M) (n : Int) (P : fc_G → Prop) : Prop :=
  m 8 8 = n ∧ (0 ≤ n ∧ n ≤ 128) ∧ (∀ i : Int, 0 ≤ i → i < n → ru_wf m i) ∧ (∀ h : fc_G, (∀ i : Int, 0 ≤ i → i < n → ru_holds m i h) ↔ P h) ∧ ∀ v : Int, 0 ≤ v → v < 16 → 0 ≤ m 22 v ∧ m 22 v ≤ 4 * n
/-- the rows of the rules below n are the same -/
def ru_same (m m' : vm_M) (n : Int) : Prop := ∀ i : Int, 0 ≤ i → i < n → m' 15 i = m 15 i ∧ m' 16 i = m 16 i ∧ m' 17 i = m 17 i ∧ m' 18 i = m 18 i ∧ m' 19 i = m 19 i ∧ ∀ t : Int, 0 ≤ t → t < 4 → m' 20 (i * 4 + t) = m 20 (i * 4 + t) ∧ m' 21 (i * 4 + t) = m 21 (i * 4 + t)
theorem ru_lin_same {m m' : vm_M} {i : Int} {h : fc_G} {n : Nat} (hn : n ≤ 4) (hs : ∀ t : Int, 0 ≤ t → t < (n : Int) → m' 20 (i * 4 + t) = m 20 (i * 4 + t) ∧ m' 21 (i * 4 + t) = m 21 (i * 4 + t)) : ru_lin m' i h n = ru_lin m i h n :=
  zz_sm_congr fun t t0 t1 => by rw [(hs t t0 t1).1, (hs t t0 t1).2]
theorem ru_wf_same {m m' : vm_M} {n i : Int} (hs : ru_same m m' n) (h0 : 0 ≤ i) (h1 : i < n) (hw : ru_wf m i) : ru_wf m' i ∧ ∀ h, ru_holds m' i h ↔ ru_holds m i h := by
  obtain ⟨a1, a2, a3, a4, a5, a6⟩ := hs i h0 h1
  obtain ⟨w1, w2, ⟨w3, w4, w5, w6⟩, w7, w8, w9, w10⟩ := hw
  have q20 : ∀ t : Int, 0 ≤ t → t < m 19 i → m' 20 (i * 4 + t) = m 20 (i * 4 + t) := fun t t0 t1 => (a6 t t0 (by omega)).1
  refine ⟨⟨by rw [a1]; exact w1, by rw [a5]; exact w2, ⟨by rw [a5]; exact w3, fun t t0 t1 => ?_, by rw [a4]; exact w5, fun u => ?_⟩, by rw [a2]; exact w7, by rw [a3]; exact w8, fun z s t s0 st t1 => ?_, by rw [a1, a5]; exact w10⟩, fun h => ?_⟩
  · rw [a5] at t1
    rw [(a6 t t0 (by omega)).1, (a6 t t0 (by omega)).2]; exact w4 t t0 t1
  · rw [a4, a5, w6 u]
    constructor
    · rintro ⟨t, t0, t1, e⟩; exact ⟨t, t0, t1, by rw [q20 t t0 t1]; exact e⟩
    · rintro ⟨t, t0, t1, e⟩; exact ⟨t, t0, t1, by rw [← q20 t t0 t1]; exact e⟩
  · rw [a5] at t1
    rw [a1] at z
    rw [q20 s s0 (by omega), q20 t (by omega) t1]
    exact w9 z s t s0 st t1
  · have e0 := a6 0 (by decide) (by decide)
    rw [Int.add_zero] at e0
    unfold ru_holds
    rw [a1, a2, a3, a5, ru_lin_same (by omega) (fun t t0 t1 => a6 t t0 (by omega)), e0.1, (a6 1 (by decide) (by decide)).1, (a6 2 (by decide) (by decide)).1]
section RLS
variable {G : vm_G} {d : Nat} {m : vm_M} {Q : vm_M → Prop}
/-- what the rules may change -/
def ru_fr (m m' : vm_M) : Prop := ∀ (c : Nat) (i : Int), ¬ (15 ≤ c ∧ c ≤ 22) → ¬ (c = 8 ∧ i = 8) → m' c i = m c i
theorem ru_fr.refl (m : vm_M) : ru_fr m m := fun _ _ _ _ => rfl
theorem ru_fr.trans {a b c : vm_M} (h1 : ru_fr a b) (h2 : ru_fr b c) : ru_fr a c := fun x i p q => (h2 x i p q).trans (h1 x i p q)
theorem cm_open {n ty lo hi : Int} (hn : m 8 8 = n) (h0 : 0 ≤ n ∧ n < 128) (hQ : ∀ m' : vm_M, (∀ (c : Nat) (i : Int), ¬ ((15 ≤ c ∧ c ≤ 19) ∧ i = n) → ¬ (c = 8 ∧ i = 8) → m' c i = m c i) → m' 8 8 = n + 1 → m' 15 n = ty → m' 16 n = lo → m' 17 n = hi → m' 18 n = 0 → m' 19 n = 0 → Q m') : vm_cn G d mX4_open [.inr (.inr 8), .inl ty, .inl lo, .inl hi] m Q := by
  refine qX4_open ?_
  rw [hn]
  refine ⟨⟨by omega, by omega⟩, fun _ => ⟨by omega, fun m3 e3 => ?_⟩, fun h => absurd h0.2 h⟩
  have s3 : m3 8 8 = n := by rw [e3, zz_other (by simp)]; exact hn
  rw [s3]
  refine ⟨by omega, fun m5 e5 => ?_⟩
  have s5 : m5 8 8 = n := by rw [e5, zz_other (by simp)]; exact s3
  rw [s5]
  refine ⟨by omega, fun m7 e7 => ?_⟩
  have s7 : m7 8 8 = n := by rw [e7, zz_other (by simp)]; exact s5
  rw [s7]
  refine ⟨by omega, fun m9 e9 => ?_⟩
  have s9 : m9 8 8 = n := by rw [e9, zz_other (by simp)]; exact s7
  rw [s9]
  refine ⟨by omega, fun m11 e11 => ?_⟩
  have s11 : m11 8 8 = n := by rw [e11, zz_other (by simp)]; exact s9
  rw [s11]
  intro m12 e12
  refine hQ m12 (fun c i h1 h2 => ?_) (by rw [e12, zz_same]) ?_ ?_ ?_ ?_ ?_
  · rw [e12, zz_other h2, e11, zz_other (by omega), e9, zz_other (by omega), e7, zz_other (by omega), e5, zz_other (by omega), e3, zz_other (by omega)]
  · rw [e12, zz_other (by simp), e11, zz_other (by simp), e9, zz_other (by simp), e7, zz_other (by simp), e5, zz_other (by simp), e3, zz_same]
  · rw [e12, zz_other (by simp), e11, zz_other (by simp), e9, zz_other (by simp), e7, zz_other (by simp), e5, zz_same]
  · rw [e12, zz_other (by simp), e11, zz_other (by simp), e9, zz_other (by simp), e7, zz_same]
  · rw [e12, zz_other (by simp), e11, zz_other (by simp), e9, zz_same]
  · rw [e12, zz_other (by simp), e11, zz_same]
/-- one term more in the rule n -/
def at_eff (m m' : vm_M) (n c v x : Int) : Prop :=
  (∀ (k : Nat) (i : Int), ¬ (18 ≤ k ∧ k ≤ 22) → m' k i = m k i) ∧ (∀ i, m' 20 i = if i = n * 4 + c then v else m 20 i) ∧ (∀ i, m' 21 i = if i = n * 4 + c then x else m 21 i) ∧
  (∀ i, m' 19 i = if i = n then c + 1 else m 19 i) ∧ (∀ i, m' 18 i = if i = n then vm_or (m 18 n) (vm_shl 1 v) else m 18 i) ∧ (∀ i, m' 22 i = if i = v then m 22 v + 1 else m 22 i)
theorem cm_addTerm {n c v x : Int} (hn : m 8 8 = n + 1) (h0 : 0 ≤ n ∧ n < 128) (hc : m 19 n = c) (hc0 : 0 ≤ c ∧ c < 4) (hv : 0 ≤ v ∧ v < 16) (hQ : ∀ m' : vm_M, at_eff m m' n c v x → Q m') : vm_cn G d mX4_addTerm [.inr (.inr 8), .inl x, .inl v] m Q := by
  have en : m 8 8 - 1 = n := by omega
  refine qX4_addTerm ?_
  rw [en, hc]
  refine ⟨⟨by omega, by omega⟩, fun h => by omega, fun _ => ⟨by omega, ⟨by omega, by omega⟩, fun h => by omega, fun _ => ⟨⟨by omega, by omega⟩, fun h => by omega, fun _ => ⟨fun _ => ⟨by omega, fun m6 e6 m7 e7 m8 e8 m9 e9 => ⟨hv, fun m11 e11 => ?_⟩⟩, fun h => absurd hv.2 h⟩⟩⟩⟩
  have a719 : m7 19 n = c := by rw [e7, zz_other (by simp), e6, zz_other (by simp)]; exact hc
  have a818 : m8 18 n = m 18 n := by rw [e8, zz_other (by simp), e7, zz_other (by simp), e6, zz_other (by simp)]
  have a922 : m9 22 v = m 22 v := by rw [e9, zz_other (by simp), e8, zz_other (by simp), e7, zz_other (by simp), e6, zz_other (by simp)]
  rw [a719] at e8
  rw [a818] at e9
  rw [a922] at e11
  have q : ∀ (k : Nat) (i : Int), m11 k i = if k = 22 ∧ i = v then m 22 v + 1 else if k = 18 ∧ i = n then vm_or (m 18 n) (vm_shl 1 v) else if k = 19 ∧ i = n then c + 1 else if k = 21 ∧ i = n * 4 + c then x else if k = 20 ∧ i = n * 4 + c then v else m k i := by
    intro k i
    rw [e11, e9, e8, e7, e6]
    rfl
  refine hQ m11 ⟨fun k i h => ?_, fun i => ?_, fun i => ?_, fun i => ?_, fun i => ?_, fun i => ?_⟩
  · rw [q, if_neg (by omega), if_neg (by omega), if_neg (by omega), if_neg (by omega), if_neg (by omega)]
  · rw [q]; simp
  · rw [q]; simp
  · rw [q]; simp
  · rw [q]; simp
  · rw [q]; simp
/-- the rule n, which is being made, says L so far -/
def RO (m : vm_M) (n : Int) (P : fc_G → Prop) (ty lo hi : Int) (L : fc_G → Int) (k : Int) : Prop :=
  m 8 8 = n + 1 ∧ (0 ≤ n ∧ n < 128) ∧ (∀ i : Int, 0 ≤ i → i < n → ru_wf m i) ∧ (∀ h : fc_G, (∀ i : Int, 0 ≤ i → i < n → ru_holds m i h) ↔ P h) ∧ (∀ v : Int, 0 ≤ v → v < 16 → 0 ≤ m 22 v ∧ m 22 v ≤ 4 * n + k) ∧
  (m 15 n = ty ∧ m 16 n = lo ∧ m 17 n = hi) ∧ ru_tm m n ∧ m 19 n ≤ k ∧ (∀ t : Int, 0 ≤ t → t < m 19 n → -k ≤ m 21 (n * 4 + t) ∧ m 21 (n * 4 + t) ≤ k) ∧ (∀ s t : Int, 0 ≤ s → s < t → t < m 19 n → m 20 (n * 4 + s) ≠ m 20 (n * 4 + t)) ∧ (∀ h, ru_lin m n h (m 19 n).toNat = L h)
theorem RO_same {m m' : vm_M} {n : Int} {P : fc_G → Prop} (hs : ru_same m m' n) (hw : ∀ i : Int, 0 ≤ i → i < n → ru_wf m i) (hP : ∀ h : fc_G, (∀ i : Int, 0 ≤ i → i < n → ru_holds m i h) ↔ P h) : (∀ i : Int, 0 ≤ i → i < n → ru_wf m' i) ∧ ∀ h : fc_G, (∀ i : Int, 0 ≤ i → i < n → ru_holds m' i h) ↔ P h :=
  ⟨fun i h0 h1 => (ru_wf_same hs h0 h1 (hw i h0 h1)).1, fun h => (hP h).symm.trans ⟨fun a i h0 h1 => ((ru_wf_same hs h0 h1 (hw i h0 h1)).2 h).mpr (a i h0 h1), fun a i h0 h1 => ((ru_wf_same hs h0 h1 (hw i h0 h1)).2 h).mp (a i h0 h1)⟩ |>.symm⟩
theorem cm_open_RO {n ty lo hi : Int} {P : fc_G → Prop} (hR : RU m n P) (h0 : n < 128) (hQ : ∀ m' : vm_M, ru_fr m m' → RO m' n P ty lo hi (fun _ => 0) 0 → Q m') : vm_cn G d mX4_open [.inr (.inr 8), .inl ty, .inl lo, .inl hi] m Q := by
  obtain ⟨r1, r2, r3, r4, r5⟩ := hR
  refine cm_open r1 ⟨r2.1, h0⟩ (fun m' f a1 a2 a3 a4 a5 a6 => hQ m' (fun c i p q => f c i (by omega) q) ?_)
  have hs : ru_same m m' n := fun i i0 i1 => ⟨f 15 i (by omega) (by simp), f 16 i (by omega) (by simp), f 17 i (by omega) (by simp), f 18 i (by omega) (by simp), f 19 i (by omega) (by simp), fun t t0 t1 => ⟨f 20 _ (by simp) (by simp), f 21 _ (by simp) (by simp)⟩⟩
  obtain ⟨q1, q2⟩ := RO_same hs r3 r4
  refine ⟨a1, ⟨r2.1, h0⟩, q1, q2, fun v v0 v1 => by rw [f 22 v (by simp) (by simp)]; have := r5 v v0 v1; omega, ⟨a2, a3, a4⟩, ⟨by omega, fun t t0 t1 => by omega, by omega, fun u => ?_⟩, by omega, fun t t0 t1 => by omega, fun s t s0 st t1 => by omega, fun h => by rw [a6]; rfl⟩
  rw [a5]
  constructor
  · intro h; simp at h
  · rintro ⟨t, t0, t1, _⟩; omega
theorem zz_sm_upd {f g : Int → Int} {j x : Int} : ∀ {n : Nat}, 0 ≤ j → j < (n : Int) → (∀ i : Int, 0 ≤ i → i < (n : Int) → i ≠ j → f i = g i) → f j = g j + x → zz_sm f n = zz_sm g n + x
  | 0, h0, h1, _, _ => by omega
  | n + 1, h0, h1, h2, h3 => by
    simp only [zz_sm]
    by_cases hj : j = (n : Int)
    · subst hj
      have : zz_sm f n = zz_sm g n := zz_sm_congr fun i i0 i1 => h2 i i0 (by omega) (by omega)
      omega
    · have := zz_sm_upd (f := f) (g := g) (x := x) (n := n) h0 (by omega) (fun i i0 i1 hi => h2 i i0 (by omega) hi) h3
      have := h2 (n : Int) (by omega) (by omega) (by omega)
      omega
theorem cm_plus_17 {n ty lo hi k x v : Int} {P : fc_G → Prop} {L : fc_G → Int} (hR : RO m n P ty lo hi L k) (hk : 0 ≤ k ∧ k < 4) (hx : -1 ≤ x ∧ x ≤ 1) (hv : 0 ≤ v ∧ v < 16) (hQ : ∀ m' : vm_M, ru_fr m m' → RO m' n P ty lo hi (fun h => L h + x * h v) (k + 1) → 1 ≤ m' 19 n → Q m') :
    ∀ (j : Nat) (t : Int), m 19 n = t + (j : Int) → 0 ≤ t → (∀ s : Int, 0 ≤ s → s < t → m 20 (n * 4 + s) ≠ v) →
    vm_ex G (d + 1) mX4_plus 17 [some (.inr (.inr 8)), some (.inl x), some (.inl v), some (.inl n), some (.inl (n * 4 + t))] [] m (vm_qn Q) := by
  obtain ⟨r1, r2, r3, r4, r5, r6, r7, r8, r9, r10, r11⟩ := id hR
  obtain ⟨w1, w2, w3, w4⟩ := id r7
  intro j
  induction j with
  | zero =>
    intro t ht t0 hno
    refine qX4_plus_17 ⟨by omega, ⟨by omega, by omega⟩, ⟨by omega, by omega⟩, fun _ => ?_, fun h => absurd (by omega) h⟩
    refine cm_addTerm r1 r2 rfl (by omega) hv (fun m' e => ?_)
    obtain ⟨e1, e20, e21, e19, e18, e22⟩ := e
    have hs : ru_same m m' n := fun i i0 i1 => ⟨e1 15 i (by simp), e1 16 i (by simp), e1 17 i (by simp), by rw [e18, if_neg (by omega)], by rw [e19, if_neg (by omega)], fun s s0 s1 => ⟨by rw [e20, if_neg (by omega)], by rw [e21, if_neg (by omega)]⟩⟩
    obtain ⟨q1, q2⟩ := RO_same hs r3 r4
    have a19 : m' 19 n = m 19 n + 1 := by rw [e19, if_pos rfl]
    have b20 : ∀ s : Int, s < m 19 n → m' 20 (n * 4 + s) = m 20 (n * 4 + s) := fun s hs => by rw [e20, if_neg (by omega)]
    have b21 : ∀ s : Int, s < m 19 n → m' 21 (n * 4 + s) = m 21 (n * 4 + s) := fun s hs => by rw [e21, if_neg (by omega)]
    have c20 : m' 20 (n * 4 + m 19 n) = v := by rw [e20, if_pos rfl]
    have c21 : m' 21 (n * 4 + m 19 n) = x := by rw [e21, if_pos rfl]
    have hmask : ∃ M M' : Nat, m 18 n = (M : Int) ∧ M < 65536 ∧ m' 18 n = (M' : Int) ∧ M' < 65536 ∧ ∀ u, M'.testBit u = (M.testBit u || decide (v.toNat = u)) := by
      have p1 : 2 ^ v.toNat < 2 ^ 16 := zz_pow_lt (by omega)
      refine ⟨(m 18 n).toNat, (m 18 n).toNat ||| 2 ^ v.toNat, by omega, by omega, ?_, zz_or_lt 16 (by omega) p1, fun u => zz_tb_or _ _ _⟩
      rw [e18, if_pos rfl, zz_shlI hv.1 (by omega)]
      have := zz_or (m 18 n).toNat (2 ^ v.toNat) (by omega) (by omega)
      rwa [Int.toNat_of_nonneg w3.1] at this
    obtain ⟨M, M', hM1, hM2, hM3, hM4, hM5⟩ := hmask
    refine hQ m' (fun c i p q => e1 c i (by omega)) ⟨by rw [e1 8 8 (by simp)]; exact r1, r2, q1, q2, fun u u0 u1 => ?_, ⟨by rw [e1 15 n (by simp)]; exact r6.1, by rw [e1 16 n (by simp)]; exact r6.2.1, by rw [e1 17 n (by simp)]; exact r6.2.2⟩, ⟨by omega, fun s s0 s1 => ?_, by omega, fun u => ?_⟩, by omega, fun s s0 s1 => ?_, fun s s' s0 ss s1 => ?_, fun h => ?_⟩ (by omega)
    · rw [e22]
      have := r5 u u0 u1
      split
      · rename_i e; subst e; omega
      · omega
    · by_cases hs : s = m 19 n
      · subst hs; rw [c20, c21]; omega
      · rw [b20 s (by omega), b21 s (by omega)]; exact w2 s s0 (by omega)
    · rw [hM3, Int.toNat_natCast, hM5, Bool.or_eq_true, decide_eq_true_eq]
      have := w4 u
      rw [hM1, Int.toNat_natCast] at this
      rw [this]
      constructor
      · rintro (⟨s, s0, s1, e⟩ | e)
        · exact ⟨s, s0, by omega, by rw [b20 s s1]; exact e⟩
        · exact ⟨m 19 n, w1.1, by omega, by rw [c20]; omega⟩
      · rintro ⟨s, s0, s1, e⟩
        by_cases hs : s = m 19 n
        · subst hs; rw [c20] at e; exact Or.inr (by omega)
        · rw [b20 s (by omega)] at e; exact Or.inl ⟨s, s0, by omega, e⟩
    · by_cases hs : s = m 19 n
      · subst hs; rw [c21]; omega
      · rw [b21 s (by omega)]; have := r9 s s0 (by omega); omega
    · by_cases hs : s' = m 19 n
      · subst hs; rw [c20, b20 s (by omega)]; exact hno s s0 (by omega)
      · rw [b20 s (by omega), b20 s' (by omega)]; exact r10 s s' s0 ss (by omega)
    · rw [a19, show (m 19 n + 1).toNat = (m 19 n).toNat + 1 by omega]
      show zz_sm _ _ + _ = _
      have hl := r11 h
      unfold ru_lin at hl
      have : zz_sm (fun t => m' 21 (n * 4 + t) * h (m' 20 (n * 4 + t))) (m 19 n).toNat = L h := by
        rw [← hl]
        exact zz_sm_congr fun s s0 s1 => by rw [b20 s (by omega), b21 s (by omega)]
      rw [this]
      show L h + m' 21 (n * 4 + (((m 19 n).toNat : Nat) : Int)) * h (m' 20 (n * 4 + (((m 19 n).toNat : Nat) : Int))) = _
      rw [Int.toNat_of_nonneg w1.1, c20, c21]
  | succ j ih =>
    intro t ht t0 hno
    have ww := w2 t t0 (by omega)
    refine qX4_plus_17 ⟨by omega, ⟨by omega, by omega⟩, ⟨by omega, by omega⟩, fun h => absurd h (by omega), fun _ => ⟨by omega, ⟨by omega, by omega⟩, ⟨by omega, by omega⟩, fun hne => ?_, fun he m9 e9 => ?_⟩⟩
    · have := ih (t + 1) (by omega) (by omega) (fun s s0 s1 => by
        by_cases hs : s = t
        · subst hs; exact hne
        · exact hno s s0 (by omega))
      rw [← Int.add_assoc] at this
      exact this
    · have b : ∀ (c : Nat) (i : Int), ¬ (c = 21 ∧ i = n * 4 + t) → m9 c i = m c i := fun c i q => by rw [e9, zz_other q]
      have hs : ru_same m m9 n := fun i i0 i1 => ⟨b 15 i (by simp), b 16 i (by simp), b 17 i (by simp), b 18 i (by simp), b 19 i (by simp), fun s s0 s1 => ⟨b 20 _ (by simp), b 21 _ (by omega)⟩⟩
      obtain ⟨q1, q2⟩ := RO_same hs r3 r4
      have c21 : m9 21 (n * 4 + t) = m 21 (n * 4 + t) + x := by rw [e9, zz_same]
      have b19 : m9 19 n = m 19 n := b 19 n (by simp)
      have r9t := r9 t t0 (by omega)
      refine hQ m9 (fun c i p q => b c i (by omega)) ⟨by rw [b 8 8 (by simp)]; exact r1, r2, q1, q2, fun u u0 u1 => by rw [b 22 u (by simp)]; have := r5 u u0 u1; omega, ⟨by rw [b 15 n (by simp)]; exact r6.1, by rw [b 16 n (by simp)]; exact r6.2.1, by rw [b 17 n (by simp)]; exact r6.2.2⟩, ⟨by rw [b19]; exact w1, fun s s0 s1 => ?_, by rw [b 18 n (by simp)]; exact w3, fun u => ?_⟩, by omega, fun s s0 s1 => ?_, fun s s' s0 ss s1 => ?_, fun h => ?_⟩ (by omega)
      · rw [b19] at s1
        rw [b 20 _ (by simp)]
        refine ⟨(w2 s s0 s1).1, ?_⟩
        by_cases hst : s = t
        · subst hst; rw [c21]; omega
        · rw [b 21 _ (by omega)]; exact (w2 s s0 s1).2
      · rw [b 18 n (by simp), b19, w4 u]
        constructor
        · rintro ⟨s, s0, s1, e⟩; exact ⟨s, s0, s1, by rw [b 20 _ (by simp)]; exact e⟩
        · rintro ⟨s, s0, s1, e⟩; exact ⟨s, s0, s1, by rw [b 20 _ (by simp)] at e; exact e⟩
      · rw [b19] at s1
        have := r9 s s0 s1
        by_cases hst : s = t
        · subst hst; rw [c21]; omega
        · rw [b 21 _ (by omega)]; omega
      · rw [b19] at s1
        rw [b 20 _ (by simp), b 20 _ (by simp)]
        exact r10 s s' s0 ss s1
      · show ru_lin m9 n h (m9 19 n).toNat = L h + x * h v
        rw [b19, ← r11 h]
        unfold ru_lin
        refine zz_sm_upd (j := t) t0 (by omega) (fun s s0 s1 hst => by rw [b 21 _ (by omega), b 20 _ (by simp)]) ?_
        rw [c21, b 20 _ (by simp), he, Int.add_mul]
theorem cm_plus {n ty lo hi k x v : Int} {P : fc_G → Prop} {L : fc_G → Int} (hR : RO m n P ty lo hi L k) (hk : 0 ≤ k ∧ k < 4) (hx : -1 ≤ x ∧ x ≤ 1) (hv : 0 ≤ v ∧ v < 16) (hQ : ∀ m' : vm_M, ru_fr m m' → RO m' n P ty lo hi (fun h => L h + x * h v) (k + 1) → 1 ≤ m' 19 n → Q m') : vm_cn G (d + 1) mX4_plus [.inr (.inr 8), .inl x, .inl v] m Q := by
  have r1 := hR.1
  have r2 := hR.2.1
  have w1 := hR.2.2.2.2.2.2.1.1
  have en : m 8 8 - 1 = n := by omega
  refine qX4_plus ?_
  rw [en]
  refine ⟨⟨by omega, by omega⟩, fun _ => ?_, fun h => absurd r2.1 h⟩
  have := cm_plus_17 (G := G) (d := d) hR hk hx hv hQ (m 19 n).toNat 0 (by omega) (by decide) (fun s s0 s1 => by omega)
  rw [Int.add_zero] at this
  exact this
/-- a rule that is made -/
theorem RO.done {n lo hi : Int} {k : Int} {P : fc_G → Prop} {L : fc_G → Int} (hR : RO m n P 0 lo hi L k) (hk : k ≤ 4) (h1 : 1 ≤ m 19 n) (hlo : -2000000 ≤ lo ∧ lo ≤ 2000000) (hhi : -2000000 ≤ hi ∧ hi ≤ 2000000) : RU m (n + 1) (fun h => P h ∧ lo ≤ L h ∧ L h ≤ hi) := by
  obtain ⟨r1, r2, r3, r4, r5, ⟨s1, s2, s3⟩, r7, r8, r9, r10, r11⟩ := hR
  refine ⟨r1, by omega, fun i i0 i1 => ?_, fun h => ?_, fun v v0 v1 => by have := r5 v v0 v1; omega⟩
  · by_cases e : i = n
    · subst e
      exact ⟨Or.inl s1, h1, r7, by omega, by omega, fun _ => r10, fun h => absurd s1 h⟩
    · exact r3 i i0 (by omega)
  · have hn : ru_holds m n h ↔ lo ≤ L h ∧ L h ≤ hi := by
      unfold ru_holds
      rw [if_pos s1, s2, s3, r11 h]
    constructor
    · intro a
      exact ⟨(r4 h).mp fun i i0 i1 => a i i0 (by omega), hn.mp (a n r2.1 (by omega))⟩
    · rintro ⟨a, b⟩ i i0 i1
      by_cases e : i = n
      · subst e; exact hn.mpr b
      · exact (r4 h).mpr a i i0 (by omega)
theorem RU.congr {n : Int} {P P' : fc_G → Prop} (h : RU m n P) (hP : ∀ x, P x ↔ P' x) : RU m n P' := ⟨h.1, h.2.1, h.2.2.1, fun x => (h.2.2.2.1 x).trans (hP x), h.2.2.2.2⟩
theorem cm_difference {n a b l : Int} {P : fc_G → Prop} (hR : RU m n P) (h0 : n < 128) (ha : 0 ≤ a ∧ a < 16) (hb : 0 ≤ b ∧ b < 16) (hl : -2000000 ≤ l ∧ l ≤ 2000000) (hQ : ∀ m' : vm_M, ru_fr m m' → RU m' (n + 1) (fun h => P h ∧ l ≤ h a - h b ∧ h a - h b ≤ 18) → Q m') : vm_cn G (d + 2) mX4_difference [.inr (.inr 8), .inl a, .inl b, .inl l] m Q := by
  refine qX4_difference (cm_open_RO hR h0 (fun m1 f1 R1 => cm_plus R1 (by decide) (by decide) ha (fun m2 f2 R2 _ => cm_plus R2 (by decide) (by decide) hb (fun m3 f3 R3 n3 => hQ m3 ((f1.trans f2).trans f3) ((R3.done (by decide) n3 hl (by decide)).congr fun h => ?_)))))
  show P h ∧ l ≤ 0 + 1 * h a + -1 * h b ∧ 0 + 1 * h a + -1 * h b ≤ 18 ↔ _
  constructor <;> rintro ⟨q, q1, q2⟩ <;> exact ⟨q, by omega, by omega⟩
theorem cm_sum {n a b c l u : Int} {P : fc_G → Prop} (hR : RU m n P) (h0 : n < 128) (ha : 0 ≤ a ∧ a < 16) (hb : 0 ≤ b ∧ b < 16) (hc : 0 ≤ c ∧ c < 16) (hl : -2000000 ≤ l ∧ l ≤ 2000000) (hu : -2000000 ≤ u ∧ u ≤ 2000000) (hQ : ∀ m' : vm_M, ru_fr m m' → RU m' (n + 1) (fun h => P h ∧ l ≤ h a - h b - h c ∧ h a - h b - h c ≤ u) → Q m') : vm_cn G (d + 2) mX4_sum [.inr (.inr 8), .inl a, .inl b, .inl c, .inl l, .inl u] m Q := by
  refine qX4_sum (cm_open_RO hR h0 (fun m1 f1 R1 => cm_plus R1 (by decide) (by decide) ha (fun m2 f2 R2 _ => cm_plus R2 (by decide) (by decide) hb (fun m3 f3 R3 _ => cm_plus R3 (by decide) (by decide) hc (fun m4 f4 R4 n4 => hQ m4 (((f1.trans f2).trans f3).trans f4) ((R4.done (by decide) n4 hl hu).congr fun h => ?_))))))
  show P h ∧ l ≤ 0 + 1 * h a + -1 * h b + -1 * h c ∧ 0 + 1 * h a + -1 * h b + -1 * h c ≤ u ↔ _
  constructor <;> rintro ⟨q, q1, q2⟩ <;> exact ⟨q, by omega, by omega⟩
end RLS
