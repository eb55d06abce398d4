/-! LONGS BY THEIR BYTES -/
def bX (v : Int) : Nat := (Int64.ofInt v).toBitVec.toNat
theorem bX_lt (v : Int) : bX v < 256 ^ 8 := (Int64.ofInt v).toBitVec.isLt
theorem bX_land (v : Int) : vm_land v 255 = ((bX v % 256 : Nat) : Int) := by
  unfold vm_land
  show (Int64.ofInt v &&& Int64.ofInt 255).toBitVec.toInt = _
  rw [Int64.toBitVec_and, show (Int64.ofInt 255).toBitVec = 255#64 by decide]
  have e : ((Int64.ofInt v).toBitVec &&& 255#64).toNat = bX v % 256 := by
    rw [BitVec.toNat_and, show (255#64).toNat = 2 ^ 8 - 1 by decide, Nat.and_two_pow_sub_one_eq_mod]
    rfl
  rw [BitVec.toInt_eq_toNat_of_lt (by rw [e]; omega), e]
theorem bX_shr (v : Int) : bX (vm_lushr v 8) = bX v / 256 := by
  unfold bX vm_lushr
  rw [vm_ofTo64]
  show ((Int64.ofInt v).toUInt64 >>> ((Int32.ofInt 8).toInt64.toUInt64 &&& Int64.toUInt64 63)).toBitVec.toNat = _
  rw [UInt64.toBitVec_shiftRight, show ((Int32.ofInt 8).toInt64.toUInt64 &&& Int64.toUInt64 63).toBitVec % 64 = 8#64 by decide, BitVec.ushiftRight_eq', BitVec.toNat_ushiftRight, Nat.shiftRight_eq_div_pow]
  rfl
theorem bX_zero (v : Int) : vm_lcmp v 0 = 0 ↔ bX v = 0 := by
  have h0 : bX v = 0 ↔ Int64.ofInt v = Int64.ofInt 0 := by
    unfold bX
    constructor
    · intro h
      apply Int64.toBitVec_inj.mp
      apply BitVec.eq_of_toNat_eq
      rw [h]
      decide
    · intro h
      rw [h]
      decide
  rw [h0]
  unfold vm_lcmp lg_cmp
  by_cases h1 : Int64.ofInt v > Int64.ofInt 0
  · rw [if_pos h1]
    constructor
    · intro h; exact absurd h (by decide)
    · intro h; rw [h] at h1; exact absurd h1 (by decide)
  · rw [if_neg h1]
    by_cases h2 : Int64.ofInt v = Int64.ofInt 0
    · rw [if_pos h2]; exact ⟨fun _ => h2, fun _ => by decide⟩
    · rw [if_neg h2]
      exact ⟨fun h => absurd h (by decide), fun h => absurd h h2⟩
theorem vm_lcmp_R (v w : Int) : vm_R (vm_lcmp v w) := ⟨Int32.le_toInt _, Int.le_of_lt_add_one (Int32.toInt_lt _)⟩
theorem bX_nat (k : Nat) (h : k < 256) : bX (k : Int) = k := by
  have : ∀ m : Fin 256, bX ((m.val : Nat) : Int) = m.val := by decide +kernel
  exact this ⟨k, h⟩
theorem l2i_nat (k : Nat) (h : k < 256) : vm_l2i (k : Int) = (k : Int) := by
  have : ∀ m : Fin 256, vm_l2i ((m.val : Nat) : Int) = ((m.val : Nat) : Int) := by decide +kernel
  exact this ⟨k, h⟩
theorem chr_nat (k : Nat) (h : k < 256) : vm_chr (vm_i2c (k : Int)) = (k : Int) := by
  have : ∀ m : Fin 256, vm_chr (vm_i2c ((m.val : Nat) : Int)) = ((m.val : Nat) : Int) := by decide +kernel
  exact this ⟨k, h⟩
theorem bX_lshr (v : Int) (k : Nat) (hk : k < 8) : bX (vm_lshr v (8 * (k : Int))) % 256 = bX v / 256 ^ k % 256 := by
  unfold bX vm_lshr
  rw [vm_ofTo64, Int64.toBitVec_shiftRight]
  have hs : ∀ m : Fin 8, (((Int32.ofInt (8 * ((m.val : Nat) : Int))).toInt64 &&& 63).toBitVec.smod 64).toNat = 8 * m.val := by decide +kernel
  have hs' := hs ⟨k, hk⟩
  apply Nat.eq_of_testBit_eq
  intro i
  rw [show (256 : Nat) = 2 ^ 8 from rfl, Nat.testBit_mod_two_pow, Nat.testBit_mod_two_pow, ← Nat.pow_mul, Nat.testBit_div_two_pow]
  by_cases hi : i < 8
  · rw [BitVec.testBit_toNat, BitVec.testBit_toNat, BitVec.getLsbD_sshiftRight', hs', if_pos (by omega), Nat.add_comm]
    simp [hi]
    omega
  · simp [hi]
/-- as many characters as a number gives -/
def plen (X n : Nat) : Prop := (1 ≤ n ∧ n ≤ 8) ∧ X < 256 ^ n ∧ ∀ i : Nat, i < n → 33 ≤ X / 256 ^ i % 256 ∧ X / 256 ^ i % 256 ≤ 126
theorem plen_no {X n i : Nat} (h : plen X n) (hi : X / 256 ^ i ≠ 0) : i < n := by
  rcases Nat.lt_or_ge i n with q | q
  · exact q
  · exfalso
    apply hi
    apply Nat.div_eq_of_lt
    exact Nat.lt_of_lt_of_le h.2.1 (Nat.pow_le_pow_right (by decide) q)
theorem plen_unique {X n n' : Nat} (h : plen X n) (h' : plen X n') : n = n' := by
  have key : ∀ {a b : Nat}, plen X a → plen X b → ¬ a < b := fun {a b} ha hb hlt => by
    have := (hb.2.2 a hlt).1
    have e : X / 256 ^ a = 0 := Nat.div_eq_of_lt ha.2.1
    rw [e] at this
    omega
  have a := key h h'
  have b := key h' h
  omega
theorem pdiv (X i : Nat) : X / 256 ^ i / 256 = X / 256 ^ (i + 1) := by rw [Nat.div_div_eq_div_mul, Nat.pow_succ]
/-- what put does -/
def o_put (S : aS) (X : Nat) (S' : aS) (r : Int) : Prop := ((¬ ∃ n, plen X n) ∧ S' = S ∧ r = -2) ∨ (∃ n : Nat, plen X n ∧ 80 < sL S + (n : Int) ∧ S' = S ∧ r = -4) ∨ (∃ n : Nat, plen X n ∧ sL S + (n : Int) ≤ 80 ∧ S' = setP S (sL S + (n : Int)) (fun i => if i < sL S then sT S i else ((X / 256 ^ (sL S + (n : Int) - 1 - i).toNat % 256 : Nat) : Int)) ∧ r = sL S + (n : Int))
theorem o_put_v {S S' : aS} {X : Nat} {r : Int} (h : sV S) (o : o_put S X S' r) : sV S' := by
  rcases o with ⟨_, rfl, _⟩ | ⟨n, _, _, rfl, _⟩ | ⟨n, hn, hl, rfl, _⟩
  · exact h
  · exact h
  · refine ⟨h.1, h.2.1, h.2.2.1, ⟨?_, fun i i0 i1 => ?_⟩⟩
    · have q := h.2.2.2.1
      show 0 ≤ sL S + (n : Int) ∧ sL S + (n : Int) ≤ 80
      omega
    · have i1' : i < sL S + (n : Int) := i1
      show 33 ≤ (if i < sL S then sT S i else ((X / 256 ^ (sL S + (n : Int) - 1 - i).toNat % 256 : Nat) : Int)) ∧ (if i < sL S then sT S i else ((X / 256 ^ (sL S + (n : Int) - 1 - i).toNat % 256 : Nat) : Int)) ≤ 126
      by_cases e : i < sL S
      · rw [if_pos e]; exact h.2.2.2.2 i i0 e
      · rw [if_neg e]
        have := hn.2.2 (sL S + (n : Int) - 1 - i).toNat (by omega)
        omega
