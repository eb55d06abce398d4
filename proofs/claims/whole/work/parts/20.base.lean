/-! NUMBERS AND MEMORIES -/
theorem zz_up (mem : vm_M) (c c' : Nat) (i i' v : Int) : vm_up mem c i v c' i' = if c' = c ∧ i' = i then v else mem c' i' := rfl
theorem zz_same (mem : vm_M) (c : Nat) (i v : Int) : vm_up mem c i v c i = v := by simp [vm_up]
theorem zz_other {mem : vm_M} {c c' : Nat} {i i' v : Int} (h : ¬ (c' = c ∧ i' = i)) : vm_up mem c i v c' i' = mem c' i' := by simp [vm_up, h]
theorem zz_cell {mem : vm_M} {c c' : Nat} {i v : Int} (h : ¬ c' = c) : vm_up mem c i v c' = mem c' := by
  funext j; simp [vm_up, h]
theorem zz_R {x : Int} (h1 : -2147483648 ≤ x) (h2 : x ≤ 2147483647) : vm_R x := ⟨h1, h2⟩
/-- a sum of numbers -/
def zz_sm (f : Int → Int) : Nat → Int
  | 0 => 0
  | n + 1 => zz_sm f n + f (n : Int)
theorem zz_sm_le {f g : Int → Int} : ∀ {n : Nat}, (∀ i : Int, 0 ≤ i → i < (n : Int) → f i ≤ g i) → zz_sm f n ≤ zz_sm g n
  | 0, _ => Int.le_refl _
  | n + 1, h => by
    have h1 := zz_sm_le (n := n) (fun i h0 h1 => h i h0 (by omega))
    have h2 := h (n : Int) (by omega) (by omega)
    simp only [zz_sm]
    omega
theorem zz_sm_lt {f g : Int → Int} : ∀ {n : Nat}, (∀ i : Int, 0 ≤ i → i < (n : Int) → f i ≤ g i) → (∃ i : Int, 0 ≤ i ∧ i < (n : Int) ∧ f i < g i) → zz_sm f n < zz_sm g n
  | 0, _, ⟨i, h0, h1, _⟩ => by omega
  | n + 1, h, ⟨i, h0, h1, h2⟩ => by
    have hn := h (n : Int) (by omega) (by omega)
    simp only [zz_sm]
    by_cases hi : i = (n : Int)
    · subst hi
      have h3 := zz_sm_le (n := n) (fun i h0 h1 => h i h0 (by omega))
      omega
    · have h3 := zz_sm_lt (n := n) (fun i h0 h1 => h i h0 (by omega)) ⟨i, h0, by omega, h2⟩
      omega
theorem zz_sm_nn {f : Int → Int} : ∀ {n : Nat}, (∀ i : Int, 0 ≤ i → i < (n : Int) → 0 ≤ f i) → 0 ≤ zz_sm f n
  | 0, _ => Int.le_refl _
  | n + 1, h => by
    have h1 := zz_sm_nn (n := n) (fun i h0 h1 => h i h0 (by omega))
    have h2 := h (n : Int) (by omega) (by omega)
    simp only [zz_sm]
    omega
theorem zz_sm_congr {f g : Int → Int} {n : Nat} (h : ∀ i : Int, 0 ≤ i → i < (n : Int) → f i = g i) : zz_sm f n = zz_sm g n :=
  Int.le_antisymm (zz_sm_le fun i a b => Int.le_of_eq (h i a b)) (zz_sm_le fun i a b => Int.le_of_eq (h i a b).symm)
/-! bits -/
theorem zz_bv {a : Nat} (ha : a < 2147483648) : (Int32.ofInt (a : Int)).toBitVec = BitVec.ofNat 32 a := by
  apply BitVec.eq_of_toInt_eq
  have h1 : (Int32.ofInt (a : Int)).toBitVec.toInt = (a : Int) := vm_toOf ⟨by omega, by omega⟩
  rw [h1, BitVec.toInt_eq_toNat_bmod, BitVec.toNat_ofNat, Nat.mod_eq_of_lt (show a < 2 ^ 32 by omega), Int.bmod_def]
  split <;> omega
theorem zz_ofbv {x : Int32} {n : Nat} (h : x.toBitVec = BitVec.ofNat 32 n) (hn : n < 2147483648) : x.toInt = (n : Int) := by
  show x.toBitVec.toInt = _
  rw [h, BitVec.toInt_eq_toNat_bmod, BitVec.toNat_ofNat, Nat.mod_eq_of_lt (show n < 2 ^ 32 by omega), Int.bmod_def]
  split <;> omega
theorem zz_and (a b : Nat) (ha : a < 2147483648) (hb : b < 2147483648) : vm_and (a : Int) (b : Int) = ((a &&& b : Nat) : Int) := by
  unfold vm_and
  refine zz_ofbv ?_ (Nat.lt_of_le_of_lt Nat.and_le_left ha)
  rw [Int32.toBitVec_and, zz_bv ha, zz_bv hb]
  apply BitVec.eq_of_toNat_eq
  simp only [BitVec.toNat_and, BitVec.toNat_ofNat]
  rw [Nat.mod_eq_of_lt (by omega), Nat.mod_eq_of_lt (by omega), Nat.mod_eq_of_lt (Nat.lt_of_le_of_lt Nat.and_le_left (by omega))]
theorem zz_or_lt {a b : Nat} (n : Nat) (ha : a < 2 ^ n) (hb : b < 2 ^ n) : a ||| b < 2 ^ n := Nat.or_lt_two_pow ha hb
theorem zz_or (a b : Nat) (ha : a < 2147483648) (hb : b < 2147483648) : vm_or (a : Int) (b : Int) = ((a ||| b : Nat) : Int) := by
  unfold vm_or
  have hab : a ||| b < 2147483648 := zz_or_lt 31 ha hb
  refine zz_ofbv ?_ hab
  rw [Int32.toBitVec_or, zz_bv ha, zz_bv hb]
  apply BitVec.eq_of_toNat_eq
  simp only [BitVec.toNat_or, BitVec.toNat_ofNat]
  rw [Nat.mod_eq_of_lt (by omega), Nat.mod_eq_of_lt (by omega), Nat.mod_eq_of_lt (by omega)]
theorem zz_andn (a b : Nat) (ha : a < 2147483648) (hb : b < 2147483648) : ∃ r : Nat, vm_and (a : Int) (vm_xor (b : Int) (-1)) = (r : Int) ∧ r < 2147483648 ∧ r ≤ a ∧ ∀ i, r.testBit i = (a.testBit i && !b.testBit i) := by
  have hx : (Int32.ofInt (vm_xor (b : Int) (-1))).toBitVec = ~~~ (BitVec.ofNat 32 b) := by
    unfold vm_xor
    rw [vm_ofTo, Int32.toBitVec_xor, zz_bv hb]
    have : (Int32.ofInt (-1)).toBitVec = BitVec.allOnes 32 := by decide
    rw [this, BitVec.xor_allOnes]
  refine ⟨a &&& (~~~ (BitVec.ofNat 32 b)).toNat, ?_, Nat.lt_of_le_of_lt Nat.and_le_left ha, Nat.and_le_left, fun i => ?_⟩
  · unfold vm_and
    refine zz_ofbv ?_ (Nat.lt_of_le_of_lt Nat.and_le_left ha)
    rw [Int32.toBitVec_and, zz_bv ha, hx]
    apply BitVec.eq_of_toNat_eq
    rw [BitVec.toNat_and, BitVec.toNat_ofNat, BitVec.toNat_ofNat, Nat.mod_eq_of_lt (show a < 2 ^ 32 by omega), Nat.mod_eq_of_lt (Nat.lt_of_le_of_lt Nat.and_le_left (by omega))]
  · rw [Nat.testBit_and]
    by_cases hi : i < 32
    · rw [BitVec.testBit_toNat, BitVec.getLsbD_not, BitVec.getLsbD_ofNat]
      simp [hi]
    · have h1 : a.testBit i = false := Nat.testBit_lt_two_pow (Nat.lt_of_lt_of_le (show a < 2 ^ 32 by omega) (Nat.pow_le_pow_right (by decide) (by omega)))
      simp [h1]
theorem zz_lt31 : ∀ n : Nat, n < 31 → 2 ^ n < 2147483648 := fun n h => by
  have := Nat.pow_lt_pow_right (a := 2) (by decide) h
  simpa using this
theorem zz_shl1 {n : Nat} (hn : n < 31) : vm_shl 1 (n : Int) = ((2 ^ n : Nat) : Int) := by
  have h : ∀ m : Fin 31, vm_shl 1 ((m.val : Nat) : Int) = ((2 ^ m.val : Nat) : Int) := by decide +kernel
  exact h ⟨n, hn⟩
theorem zz_shl (a n : Nat) (hn : n < 31) (h : a * 2 ^ n < 2147483648) (ha : a < 2147483648) : vm_shl (a : Int) (n : Int) = ((a * 2 ^ n : Nat) : Int) := by
  unfold vm_shl
  refine zz_ofbv ?_ h
  rw [Int32.toBitVec_shiftLeft]
  have hm : (Int32.ofInt (n : Int) &&& 31).toBitVec.smod 32 = BitVec.ofNat 32 n := by
    have h2 : ∀ m : Fin 31, (Int32.ofInt ((m.val : Nat) : Int) &&& 31).toBitVec.smod 32 = BitVec.ofNat 32 m.val := by decide +kernel
    exact h2 ⟨n, hn⟩
  rw [hm, zz_bv ha]
  apply BitVec.eq_of_toNat_eq
  rw [BitVec.shiftLeft_eq', BitVec.toNat_shiftLeft]
  simp only [BitVec.toNat_ofNat]
  rw [Nat.mod_eq_of_lt (show a < 2 ^ 32 by omega), Nat.mod_eq_of_lt (show n < 2 ^ 32 by omega), Nat.shiftLeft_eq]
theorem zz_shr (a n : Nat) (ha : a < 2147483648) (hn : n < 31) : vm_shr (a : Int) (n : Int) = ((a >>> n : Nat) : Int) := by
  unfold vm_shr
  refine zz_ofbv ?_ (Nat.lt_of_le_of_lt (Nat.shiftRight_le a n) ha)
  rw [Int32.toBitVec_shiftRight]
  have hm : (Int32.ofInt (n : Int) &&& 31).toBitVec.smod 32 = BitVec.ofNat 32 n := by
    have h2 : ∀ m : Fin 31, (Int32.ofInt ((m.val : Nat) : Int) &&& 31).toBitVec.smod 32 = BitVec.ofNat 32 m.val := by decide +kernel
    exact h2 ⟨n, hn⟩
  rw [hm, zz_bv ha]
  apply BitVec.eq_of_toNat_eq
  rw [BitVec.sshiftRight_eq', BitVec.toNat_ofNat, Nat.mod_eq_of_lt (show n < 2 ^ 32 by omega), BitVec.sshiftRight_eq_of_msb_false, BitVec.toNat_ushiftRight]
  · simp only [BitVec.toNat_ofNat]
    rw [Nat.mod_eq_of_lt (show a < 2 ^ 32 by omega), Nat.mod_eq_of_lt (Nat.lt_of_le_of_lt (Nat.shiftRight_le a n) (by omega))]
  · rw [BitVec.msb_eq_decide, BitVec.toNat_ofNat, Nat.mod_eq_of_lt (show a < 2 ^ 32 by omega)]
    simp; omega
/-- bit n of a set -/
theorem zz_bit (a n : Nat) (ha : a < 2147483648) (hn : n < 31) : vm_and (vm_shr (a : Int) (n : Int)) 1 = if a.testBit n then 1 else 0 := by
  rw [zz_shr a n ha hn]
  have h1 := zz_and (a >>> n) 1 (Nat.lt_of_le_of_lt (Nat.shiftRight_le a n) ha) (by decide)
  rw [show ((1 : Nat) : Int) = 1 from rfl] at h1
  rw [h1, Nat.testBit, Nat.and_comm]
  have h2 : 1 &&& (a >>> n) = (a >>> n) % 2 := by rw [Nat.and_comm]; exact Nat.and_one_is_mod _
  rw [h2]
  have h3 : (a >>> n) % 2 = 0 ∨ (a >>> n) % 2 = 1 := by omega
  rcases h3 with h3 | h3 <;> simp [h3]
theorem zz_bit2 (a n : Nat) (ha : a < 2147483648) (hn : n < 31) : vm_and (a : Int) (vm_shl 1 (n : Int)) = 0 ↔ a.testBit n = false := by
  rw [zz_shl1 hn, zz_and a (2 ^ n) ha (zz_lt31 n hn)]
  constructor
  · intro h
    have h1 : a &&& 2 ^ n = 0 := by omega
    have h2 := congrArg (fun x => x.testBit n) h1
    simpa [Nat.testBit_and, Nat.testBit_two_pow] using h2
  · intro h
    have h1 : a &&& 2 ^ n = 0 := by
      apply Nat.eq_of_testBit_eq
      intro i
      rw [Nat.testBit_and, Nat.testBit_two_pow]
      by_cases hi : n = i
      · subst hi; simp [h]
      · simp [hi]
    omega
theorem zz_orbit (a n : Nat) (ha : a < 2147483648) (hn : n < 31) : vm_or (a : Int) (vm_shl 1 (n : Int)) = ((a ||| 2 ^ n : Nat) : Int) := by
  rw [zz_shl1 hn, zz_or a (2 ^ n) ha (zz_lt31 n hn)]
theorem zz_tb_or (a n i : Nat) : (a ||| 2 ^ n).testBit i = (a.testBit i || decide (n = i)) := by
  rw [Nat.testBit_or, Nat.testBit_two_pow]
theorem zz_clr (a n : Nat) (ha : a < 2147483648) (hn : n < 31) : ∃ r : Nat, vm_and (a : Int) (vm_xor (vm_shl 1 (n : Int)) (-1)) = (r : Int) ∧ r < 2147483648 ∧ r ≤ a ∧ ∀ i, r.testBit i = (a.testBit i && !decide (n = i)) := by
  rw [zz_shl1 hn]
  obtain ⟨r, h1, h2, h3, h4⟩ := zz_andn a (2 ^ n) ha (zz_lt31 n hn)
  exact ⟨r, h1, h2, h3, fun i => by rw [h4, Nat.testBit_two_pow]⟩
theorem zz_div {a b : Int} (ha : 0 ≤ a) (ha2 : a ≤ 2147483647) (hb : 0 < b) (hb2 : b ≤ 2147483647) : vm_div a b = a / b := by
  unfold vm_div
  rw [Int32.toInt_div, vm_toOf ⟨by omega, ha2⟩, vm_toOf ⟨by omega, hb2⟩, Int.tdiv_eq_ediv_of_nonneg ha]
  have h1 := Int.ediv_nonneg ha (Int.le_of_lt hb)
  have h2 := Int.ediv_le_self b ha
  have hs : (2 ^ 32 : Nat) = 4294967296 := rfl
  rw [Int.bmod_def, hs]
  split <;> omega
theorem zz_rem {a b : Int} (ha : 0 ≤ a) (ha2 : a ≤ 2147483647) (hb : 0 < b) (hb2 : b ≤ 2147483647) : vm_rem a b = a % b := by
  have hd := zz_div ha ha2 hb hb2
  unfold vm_div at hd
  unfold vm_rem
  rw [Int32.toInt_sub, Int32.toInt_mul, hd, vm_toOf ⟨by omega, ha2⟩, vm_toOf ⟨by omega, hb2⟩]
  have h0 := Int.emod_nonneg a (show b ≠ 0 by omega)
  have h1 := Int.emod_lt_of_pos a hb
  have h2 : a / b * b = a - a % b := by
    have := Int.mul_ediv_add_emod a b
    rw [Int.mul_comm]; omega
  rw [h2]
  have hs : (2 ^ 32 : Nat) = 4294967296 := rfl
  have h3 : a % b ≤ a := by
    rcases Int.lt_or_le a b with h | h
    · rw [Int.emod_eq_of_lt ha h]; exact Int.le_refl _
    · omega
  rw [Int.bmod_def, Int.bmod_def, hs]
  split <;> split <;> omega
