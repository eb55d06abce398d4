/-! THE CLASS: what a level of the search is made of -/
theorem vm_not (b : Nat) (hb : b < 2147483648) : Int32.ofInt (-((b : Int) + 1)) = Int32.ofInt (b : Int) ^^^ Int32.ofInt (-1) := by
  apply Int32.toBitVec_inj.mp
  rw [Int32.toBitVec_xor]
  have h1 : (Int32.ofInt (-1)).toBitVec = BitVec.allOnes 32 := by decide
  have h2 : (Int32.ofInt (-((b : Int) + 1))).toBitVec = ~~~ (Int32.ofInt (b : Int)).toBitVec := by
    show BitVec.ofInt 32 (-((b : Int) + 1)) = ~~~ BitVec.ofInt 32 (b : Int)
    rw [← BitVec.toInt_inj, BitVec.toInt_ofInt, BitVec.toInt_not, BitVec.ofInt_natCast, BitVec.toNat_ofNat, Nat.mod_eq_of_lt (show b < 2 ^ 32 by omega), Int.bmod_def, Int.bmod_def]
    omega
  rw [h1, h2, BitVec.xor_allOnes]
theorem vm_low {O : Nat} (h0 : 0 < O) (h1 : O < 65536) : ∃ P : Nat, vm_and (O : Int) (-(O : Int)) = (P : Int) ∧ P < 65536 ∧ P ≠ 0 ∧ ∀ u, P.testBit u = true → O.testBit u = true := by
  obtain ⟨r, e, a, b, c⟩ := zz_andn O (O - 1) (by omega) (by omega)
  refine ⟨r, ?_, by omega, fun hz => ?_, fun u hu => ?_⟩
  · rw [← e]
    unfold vm_and vm_xor
    rw [Int32.ofInt_toInt, ← vm_not (O - 1) (by omega)]
    congr 4
    omega
  · have hs : ∀ u, O.testBit u = true → (O - 1).testBit u = true := fun u hu => by
      have := c u
      rw [hz, Nat.zero_testBit, hu] at this
      cases h : (O - 1).testBit u
      · rw [h] at this; simp at this
      · rfl
    have e2 : O &&& (O - 1) = O := Nat.eq_of_testBit_eq fun u => by
      rw [Nat.testBit_and]
      cases h : O.testBit u
      · rfl
      · rw [hs u h]; rfl
    have : O &&& (O - 1) ≤ O - 1 := Nat.and_le_right
    omega
  · rw [c, Bool.and_eq_true] at hu
    exact hu.1
section LVL
variable {G : vm_G} {d : Nat} {m : vm_M}
/-- in how many rules a variable stands -/
def WG (m : vm_M) : Prop := ∀ v : Int, 0 ≤ v → v < 16 → 0 ≤ m 22 v ∧ m 22 v ≤ 512
def pop (P : Nat) : Int := zz_sm (fun v => if P.testBit v.toNat = true then 1 else 0) 16
theorem pop_bd (P : Nat) : 0 ≤ pop P ∧ pop P ≤ 16 := by
  have := zz_sm_bd (f := fun v => if P.testBit v.toNat = true then 1 else 0) (a := 0) (b := 1) (n := 16) (fun v _ _ => by split <;> omega)
  unfold pop
  omega
theorem pop_le {P P' : Nat} (h : ∀ u, P.testBit u = true → P'.testBit u = true) : pop P ≤ pop P' := zz_sm_le fun v v0 v1 => by
  split
  · rename_i e
    rw [if_pos (h _ e)]; exact Int.le_refl _
  · split <;> omega
theorem pop_lt {P P' : Nat} (h : ∀ u, P.testBit u = true → P'.testBit u = true) {u : Nat} (hu : u < 16) (h1 : P.testBit u = false) (h2 : P'.testBit u = true) : pop P < pop P' := zz_sm_lt (fun v v0 v1 => by
  split
  · rename_i e
    rw [if_pos (h _ e)]; exact Int.le_refl _
  · split <;> omega) ⟨(u : Int), by omega, by omega, by
    rw [Int.toNat_natCast, h1, h2]; decide⟩
theorem pop_pos {P : Nat} (h1 : P < 65536) (h : P ≠ 0) : 1 ≤ pop P := by
  obtain ⟨u, hu⟩ := Nat.exists_testBit_of_ne_zero h
  have := pop_lt (P := 0) (P' := P) (fun v hv => by simp at hv) (bit_lt16 h1 hu) (Nat.zero_testBit u) hu
  have := pop_bd 0
  omega
/-- what is open at a level -/
def opn (L : Int) (m : vm_M) (A O : Nat) : Prop := O < 65536 ∧ ∀ u, O.testBit u = true ↔ u < 16 ∧ m 13 (L * 16 + (u : Int)) ≠ m 14 (L * 16 + (u : Int)) ∧ A.testBit u = true
theorem cs_unfixed {L : Int} {A : Nat} {Q : vm_M → Int → Prop} (hL : 0 ≤ L ∧ L ≤ 16) (hN : NE L m) (hA : A < 65536) (hQ : ∀ O : Nat, opn L m A O → Q m (O : Int)) : vm_ci G d mX5_unfixed [.inr (.inr 6), .inl L, .inl (A : Int)] m Q := by
  refine qX5_unfixed ?_
  have key : ∀ (j : Nat) (v : Nat) (O : Nat), v + j = 16 → O < 65536 → (∀ u, O.testBit u = true ↔ u < v ∧ m 13 (L * 16 + (u : Int)) ≠ m 14 (L * 16 + (u : Int))) → vm_ex G d mX5_unfixed 5 [some (.inr (.inr 6)), some (.inl L), some (.inl (A : Int)), some (.inl (O : Int)), some (.inl (v : Int)), none] [] m (vm_qi Q) := by
    intro j
    induction j with
    | zero =>
      intro v O hv hO hb
      refine qX5_unfixed_5 ⟨⟨by omega, by omega⟩, fun _ => ?_, fun h => by omega⟩
      rw [zz_and O A (by omega) (by omega)]
      have hv : v = 16 := by omega
      refine hQ (O &&& A) ⟨Nat.lt_of_le_of_lt Nat.and_le_left hO, fun u => ?_⟩
      rw [Nat.testBit_and, Bool.and_eq_true, hb, hv, and_assoc]
    | succ j ih =>
      intro v O hv hO hb
      have b := hN.1 (v : Int) (by omega) (by omega)
      refine qX5_unfixed_5 ⟨⟨by omega, by omega⟩, fun h => by omega, fun _ => ⟨⟨by omega, by omega⟩, ⟨by omega, by omega⟩, ⟨by omega, by omega⟩, fun h => ?_, fun h => ?_⟩⟩
      · refine ih (v + 1) O (by omega) hO (fun u => ?_)
        rw [hb]
        constructor
        · rintro ⟨a, c⟩; exact ⟨by omega, c⟩
        · rintro ⟨a, c⟩
          by_cases e : u = v
          · subst e; exact absurd (by omega) c
          · exact ⟨by omega, c⟩
      · rw [zz_orbit O v (by omega) (by omega)]
        have p1 : 2 ^ v < 2 ^ 16 := zz_pow_lt (by omega)
        refine ih (v + 1) (O ||| 2 ^ v) (by omega) (zz_or_lt 16 hO p1) (fun u => ?_)
        rw [zz_tb_or, Bool.or_eq_true, decide_eq_true_eq, hb]
        constructor
        · rintro (⟨a, c⟩ | e)
          · exact ⟨by omega, c⟩
          · subst e; exact ⟨by omega, by omega⟩
        · rintro ⟨a, c⟩
          by_cases e : u = v
          · exact Or.inr e.symm
          · exact Or.inl ⟨by omega, c⟩
  exact key 16 0 0 (by decide) (by decide) (fun u => by simp)
theorem slt_sure {L i : Int} (hw : ru_wf m i) (h0 : m 15 i = 0) (h1 : m 16 i ≤ slt m L i (m 19 i).toNat) (h2 : sgt m L i (m 19 i).toNat ≤ m 17 i) : SR L m i := fun h hb => by
  unfold ru_holds
  rw [if_pos h0]
  have k2 := hw.2.2.1.2.1
  have k1 := hw.2.2.1.1
  have pt : ∀ x : Int, 0 ≤ x → x < ((m 19 i).toNat : Int) → lt m L (i * 4 + x) ≤ m 21 (i * 4 + x) * h (m 20 (i * 4 + x)) ∧ m 21 (i * 4 + x) * h (m 20 (i * 4 + x)) ≤ gt m L (i * 4 + x) := fun x x0 x1 => by
    have w := k2 x x0 (by omega)
    have := hb (m 20 (i * 4 + x)) w.1.1 w.1.2
    exact lt_gt this.1 this.2
  have a : slt m L i (m 19 i).toNat ≤ ru_lin m i h (m 19 i).toNat := zz_sm_le fun x x0 x1 => (pt x x0 x1).1
  have b : ru_lin m i h (m 19 i).toNat ≤ sgt m L i (m 19 i).toNat := zz_sm_le fun x x0 x1 => (pt x x0 x1).2
  omega
theorem cs_isSure {L i : Int} {Q : vm_M → Bool → Prop} (hL : 0 ≤ L ∧ L ≤ 16) (hi : 0 ≤ i ∧ i < 128) (hN : NE L m) (hw : ru_wf m i) (hQ : ∀ r, (r = true → SR L m i) → Q m r) : vm_cb G (d + 1) mX5_isSure [.inr (.inr 6), .inl i, .inl (L * 16)] m Q := by
  have w1 := hw.2.2.1.1
  have w0 := hw.1
  have b16 := hw.2.2.2.1
  have b17 := hw.2.2.2.2.1
  refine qX5_isSure ?_
  have key : ∀ (j t : Nat), m 19 i = (t : Int) + (j : Int) → vm_ex G (d + 1) mX5_isSure 13 [some (.inr (.inr 6)), some (.inl i), some (.inl (L * 16)), some (.inl (i * 4)), some (.inl (slt m L i t)), some (.inl (sgt m L i t)), some (.inl (i * 4 + (t : Int)))] [] m (vm_qb Q) := by
    intro j
    induction j with
    | zero =>
      intro t ht
      have bs := slt_bd (L := L) (i := i) (n := t) hN hw.2.2.1 (by omega)
      have e : (m 19 i).toNat = t := by omega
      refine qX5_isSure_13 ⟨hi, ⟨by omega, by omega⟩, ⟨by omega, by omega⟩, fun _ => ⟨⟨by omega, by omega⟩, fun _ => hQ false (fun h => by simp at h), fun h0 => ⟨⟨by omega, by omega⟩, ⟨by omega, by omega⟩, fun _ => hQ false (fun h => by simp at h), fun h1 => ⟨⟨by omega, by omega⟩, ⟨by omega, by omega⟩, fun _ => hQ false (fun h => by simp at h), fun h2 => hQ true (fun _ => slt_sure hw h0 (by rw [e]; omega) (by rw [e]; omega))⟩⟩⟩, fun h => by omega⟩
    | succ j ih =>
      intro t ht
      have w2 := hw.2.2.1.2.1 (t : Int) (by omega) (by omega)
      refine qX5_isSure_13 ⟨hi, ⟨by omega, by omega⟩, ⟨by omega, by omega⟩, fun h => by omega, fun _ => cm_leastTerm hL (by omega) w2.1 w2.2 (cm_greatestTerm hL (by omega) w2.1 w2.2 ?_)⟩
      have := ih (t + 1) (by omega)
      rw [show (((t + 1 : Nat)) : Int) = (t : Int) + 1 by omega, ← Int.add_assoc] at this
      exact this
  have := key (m 19 i).toNat 0 (by omega)
  rw [show ((0 : Nat) : Int) = 0 by rfl, Int.add_zero] at this
  exact this
theorem cs_choose {L : Int} {P : Nat} {Q : vm_M → Int → Prop} (hL : 0 ≤ L ∧ L ≤ 16) (hN : NE L m) (hG : WG m) (hP : P < 65536) (hP0 : P ≠ 0) (hQ : ∀ v : Nat, v < 16 → P.testBit v = true → Q m (v : Int)) : vm_ci G d mX5_choose [.inr (.inr 6), .inl L, .inl (P : Int)] m Q := by
  refine qX5_choose ?_
  have key : ∀ (j v best : Nat) (w : Int), v + j = 16 → (w = 0 ∧ best = 0 ∧ (∀ u, u < v → P.testBit u = false)) ∨ ((1 ≤ w ∧ w ≤ 19) ∧ best < 16 ∧ P.testBit best = true) → vm_ex G d mX5_choose 8 [some (.inr (.inr 6)), some (.inl L), some (.inl (P : Int)), some (.inl (best : Int)), some (.inl w), some (.inl (v : Int)), none] [] m (vm_qi Q) := by
    intro j
    induction j with
    | zero =>
      intro v best w hv h
      refine qX5_choose_8 ⟨⟨by omega, by omega⟩, fun _ => ?_, fun h => by omega⟩
      rcases h with ⟨_, _, h⟩ | ⟨_, h1, h2⟩
      · obtain ⟨u, hu⟩ := Nat.exists_testBit_of_ne_zero hP0
        have := h u (by have := bit_lt16 hP hu; omega)
        rw [hu] at this
        simp at this
      · exact hQ best h1 h2
    | succ j ih =>
      intro v best w hv h
      have b := hN.1 (v : Int) (by omega) (by omega)
      have g1 := hG (v : Int) (by omega) (by omega)
      have bz := zz_bit2 P v (by omega) (by omega)
      have p1 : 2 ^ v < 2 ^ 16 := zz_pow_lt (by omega)
      have aR : vm_R (vm_and (P : Int) (vm_shl 1 (v : Int))) := by rw [zz_shl1 (by omega)]; exact and_R hP (by omega)
      have hyes : ¬ vm_and (P : Int) (vm_shl 1 (v : Int)) = 0 → vm_ex G d mX5_choose 8 [some (.inr (.inr 6)), some (.inl L), some (.inl (P : Int)), some (.inl (v : Int)), some (.inl ((m 14 (L * 16 + (v : Int))) - (m 13 (L * 16 + (v : Int))) + 1)), some (.inl ((v : Int) + 1)), none] [] m (vm_qi Q) := fun hn =>
        ih (v + 1) v _ (by omega) (Or.inr ⟨by omega, by omega, by rw [bz] at hn; simpa using hn⟩)
      refine qX5_choose_8 ⟨⟨by omega, by omega⟩, fun h => by omega, fun _ => ⟨aR, fun hz => ih (v + 1) best w (by omega) ?_, fun hn => ⟨⟨by omega, by omega⟩, ⟨by omega, by omega⟩, fun _ => hyes hn, fun hw => ?_⟩⟩⟩
      · rw [bz] at hz
        rcases h with ⟨a, b, c⟩ | h
        · refine Or.inl ⟨a, b, fun u hu => ?_⟩
          by_cases e : u = v
          · subst e; exact hz
          · exact c u (by omega)
        · exact Or.inr h
      · have hb : (1 ≤ w ∧ w ≤ 19) ∧ best < 16 ∧ P.testBit best = true := h.resolve_left (fun z => hw z.1)
        have g2 := hG (best : Int) (by omega) (by omega)
        have q1 := Int.mul_le_mul (show m 14 (L * 16 + (v : Int)) - m 13 (L * 16 + (v : Int)) + 1 ≤ 19 by omega) g2.2 g2.1 (by decide)
        have q2 := Int.mul_nonneg (show 0 ≤ m 14 (L * 16 + (v : Int)) - m 13 (L * 16 + (v : Int)) + 1 by omega) g2.1
        have q3 := Int.mul_le_mul hb.1.2 g1.2 g1.1 (by decide)
        have q4 := Int.mul_nonneg (show 0 ≤ w by omega) g1.1
        refine ⟨⟨by omega, by omega⟩, ⟨by omega, by omega⟩, ⟨by omega, by omega⟩, ⟨by omega, by omega⟩, fun _ => ih (v + 1) best w (by omega) (Or.inr hb), fun _ => hyes hn⟩
  exact key 16 0 0 0 (by decide) (Or.inl ⟨rfl, rfl, fun u hu => by omega⟩)
/-- the next level: the same, but for one variable -/
def FX (L v x : Int) (m m' : vm_M) : Prop :=
  (∀ (c : Nat) (i : Int), ¬ ((c = 13 ∨ c = 14) ∧ (L + 1) * 16 ≤ i ∧ i < (L + 1) * 16 + 16) → m' c i = m c i) ∧
  ∀ u : Int, 0 ≤ u → u < 16 → m' 13 ((L + 1) * 16 + u) = (if u = v then x else m 13 (L * 16 + u)) ∧ m' 14 ((L + 1) * 16 + u) = (if u = v then x else m 14 (L * 16 + u))
theorem cs_fix {L v x : Int} {Q : vm_M → Prop} (hL : 0 ≤ L ∧ L < 16) (hv : 0 ≤ v ∧ v < 16) (hQ : ∀ m', FX L v x m m' → Q m') : vm_cn G (d + 1) mX5_fix [.inr (.inr 6), .inl L, .inl v, .inl x] m Q := by
  refine qX5_fix ?_
  refine ⟨⟨by omega, by omega, by omega, by omega, by omega⟩, ?_⟩
  intro m2 e2 m3 e3
  refine ⟨⟨by omega, by omega⟩, ?_⟩
  intro m5 e5 m6 e6
  refine hQ m6 ?_
  have z : ∀ c i, m6 c i = if c = 14 ∧ i = L * 16 + 16 + v then x else if c = 13 ∧ i = L * 16 + 16 + v then x else if c = 14 ∧ L * 16 + 16 ≤ i ∧ i < L * 16 + 16 + 16 then (if (14 = 13 ∧ L * 16 + 16 ≤ L * 16 + (i - (L * 16 + 16)) ∧ L * 16 + (i - (L * 16 + 16)) < L * 16 + 16 + 16) then m 13 (L * 16 + (L * 16 + (i - (L * 16 + 16)) - (L * 16 + 16))) else m 14 (L * 16 + (i - (L * 16 + 16)))) else if c = 13 ∧ L * 16 + 16 ≤ i ∧ i < L * 16 + 16 + 16 then m 13 (L * 16 + (i - (L * 16 + 16))) else m c i := fun c i => by
    rw [e6, e5, e3, e2]; rfl
  refine ⟨fun c i h => ?_, fun u u0 u1 => ⟨?_, ?_⟩⟩
  · rw [z, if_neg (by omega), if_neg (by omega), if_neg (by omega), if_neg (by omega)]
  · have e : (L + 1) * 16 + u = L * 16 + 16 + u := by omega
    rw [e, z, if_neg (by omega)]
    by_cases hu : u = v
    · rw [if_pos (by omega), if_pos hu]
    · rw [if_neg (by omega), if_neg (by omega), if_pos (by omega), if_neg hu]
      congr 1
      omega
  · have e : (L + 1) * 16 + u = L * 16 + 16 + u := by omega
    rw [e, z]
    by_cases hu : u = v
    · rw [if_pos (by omega), if_pos hu]
    · rw [if_neg (by omega), if_neg (by omega), if_pos (by omega), if_neg (by omega), if_neg hu]
      congr 1
      omega
end LVL
