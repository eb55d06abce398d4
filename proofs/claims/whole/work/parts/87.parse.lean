/-! THE PAD'S TEXT: what is read of it -/
abbrev okc (L : Int) (T : Int → Int) (a b p : Int) : Prop := p < L ∧ a ≤ T p ∧ T p ≤ b
abbrev rR : Type := Bool × Int × fc_T
def z6 : fc_T := (0, 0, 0, 0, 0, 0)
def rNum (L : Int) (T : Int → Int) (p : Int) : Int × Int := if okc L T 48 57 p then (if T p = 49 then (if okc L T 48 56 (p + 1) then (10 + (T (p + 1) - 48), p + 2) else (1, p + 1)) else (T p - 48, p + 1)) else (-1, p)
def rEnd (L : Int) (T : Int → Int) (v p : Int) : Int × Int := if 0 ≤ v then (if okc L T 45 45 p then rNum L T (p + 1) else (v, p)) else (-1, p)
def rSize (L : Int) (T : Int → Int) (p : Int) : rR := if okc L T 65 68 p then (if okc L T 61 61 (p + 1) then (decide (0 ≤ (rEnd L T (rNum L T (p + 2)).1 (rNum L T (p + 2)).2).1), (rEnd L T (rNum L T (p + 2)).1 (rNum L T (p + 2)).2).2, (1, T p - 65, (rNum L T (p + 2)).1, (rEnd L T (rNum L T (p + 2)).1 (rNum L T (p + 2)).2).1, 0, 0)) else (false, p + 1, z6)) else (false, p, z6)
def rDiff (L : Int) (T : Int → Int) (p : Int) : Bool × Int × Int := if okc L T 43 43 p then (if okc L T 48 54 (p + 1) then (true, p + 2, T (p + 1) - 48) else (false, p + 1, 0)) else if okc L T 45 45 p then (if okc L T 48 54 (p + 1) then (true, p + 2, -(T (p + 1) - 48)) else (false, p + 1, 0)) else (true, p, 0)
def rKind (L : Int) (T : Int → Int) (a b p : Int) : rR := if okc L T 61 61 p then (decide (0 ≤ (rEnd L T (rNum L T (p + 1)).1 (rNum L T (p + 1)).2).1), (rEnd L T (rNum L T (p + 1)).1 (rNum L T (p + 1)).2).2, (0, a, b, (rNum L T (p + 1)).1, (rEnd L T (rNum L T (p + 1)).1 (rNum L T (p + 1)).2).1, 0))
  else if okc L T 62 62 p then (if okc L T 65 68 (p + 1) then (if okc L T 120 122 (p + 2) then ((rDiff L T (p + 3)).1, (rDiff L T (p + 3)).2.1, (6, a, b, T (p + 1) - 65, T (p + 2) - 120, (rDiff L T (p + 3)).2.2)) else (false, p + 2, z6)) else (false, p + 1, z6)) else (false, p, z6)
def rSign (L : Int) (T : Int → Int) (p : Int) : Int := if okc L T 43 43 p then 2 else if okc L T 124 124 p then 3 else if okc L T 38 38 p then 4 else -1
def rThree (L : Int) (T : Int → Int) (a p : Int) : rR := if 0 ≤ rSign L T p then (if okc L T 65 68 (p + 1) then (if okc L T 61 61 (p + 2) then (if okc L T 65 68 (p + 3) then (true, p + 4, (rSign L T p, T (p + 3) - 65, a, T (p + 1) - 65, 0, 0)) else (false, p + 3, z6)) else (false, p + 2, z6)) else (false, p + 1, z6)) else (false, p, z6)
def rdF (L : Int) (T : Int → Int) (p : Int) : rR := if okc L T 35 35 p then rSize L T (p + 1) else if okc L T 65 68 p then (if okc L T 120 122 (p + 1) then rKind L T (T p - 65) (T (p + 1) - 120) (p + 2) else if okc L T 60 60 (p + 1) then (if okc L T 65 68 (p + 2) then (true, p + 3, (5, T p - 65, T (p + 2) - 65, 0, 0, 0)) else (false, p + 2, z6)) else rThree L T (T p - 65) (p + 1)) else (false, p, z6)
theorem rNum_b (L : Int) (T : Int → Int) (p : Int) : (-1 ≤ (rNum L T p).1 ∧ (rNum L T p).1 ≤ 18) ∧ p ≤ (rNum L T p).2 ∧ (p ≤ L → (rNum L T p).2 ≤ L) := by
  unfold rNum
  repeat' split
  all_goals first | omega | (simp only; omega)
theorem rEnd_b {L : Int} {T : Int → Int} {v p : Int} (hv : v ≤ 18) : (-1 ≤ (rEnd L T v p).1 ∧ (rEnd L T v p).1 ≤ 18) ∧ p ≤ (rEnd L T v p).2 ∧ (p ≤ L → (rEnd L T v p).2 ≤ L) := by
  have := rNum_b L T (p + 1)
  unfold rEnd
  repeat' split
  all_goals first | omega | (simp only; omega)
theorem rDiff_b (L : Int) (T : Int → Int) (p : Int) : (-6 ≤ (rDiff L T p).2.2 ∧ (rDiff L T p).2.2 ≤ 6) ∧ p ≤ (rDiff L T p).2.1 ∧ (p ≤ L → (rDiff L T p).2.1 ≤ L) := by
  unfold rDiff
  repeat' split
  all_goals first | omega | (simp only; omega)
theorem rSign_b (L : Int) (T : Int → Int) (p : Int) : -1 ≤ rSign L T p ∧ rSign L T p ≤ 4 ∧ (0 ≤ rSign L T p → p < L ∧ (T p = 43 ∨ T p = 124 ∨ T p = 38)) := by
  unfold rSign
  repeat' split
  all_goals omega
/-- the numbers of a fact are small -/
def tS (t : fc_T) : Prop := (-100 ≤ t.1 ∧ t.1 ≤ 100) ∧ (-100 ≤ t.2.1 ∧ t.2.1 ≤ 100) ∧ (-100 ≤ t.2.2.1 ∧ t.2.2.1 ≤ 100) ∧ (-100 ≤ t.2.2.2.1 ∧ t.2.2.2.1 ≤ 100) ∧ (-100 ≤ t.2.2.2.2.1 ∧ t.2.2.2.2.1 ≤ 100) ∧ (-100 ≤ t.2.2.2.2.2 ∧ t.2.2.2.2.2 ≤ 100)
theorem z6_S : tS z6 := by unfold tS z6; decide
theorem rSize_b (L : Int) (T : Int → Int) (p : Int) : tS (rSize L T p).2.2 ∧ p ≤ (rSize L T p).2.1 ∧ (p ≤ L → (rSize L T p).2.1 ≤ L) := by
  have b1 := rNum_b L T (p + 2)
  have b2 := rEnd_b (L := L) (T := T) (p := (rNum L T (p + 2)).2) b1.1.2
  unfold rSize
  repeat' split
  · simp only [tS]; omega
  · refine ⟨z6_S, ?_, ?_⟩
    · simp only; omega
    · simp only; omega
  · refine ⟨z6_S, ?_, ?_⟩
    · simp only; omega
    · simp only; omega
theorem rKind_b {L : Int} {T : Int → Int} {a b p : Int} (ha : 0 ≤ a ∧ a ≤ 3) (hb : 0 ≤ b ∧ b ≤ 2) : tS (rKind L T a b p).2.2 ∧ p ≤ (rKind L T a b p).2.1 ∧ (p ≤ L → (rKind L T a b p).2.1 ≤ L) := by
  have b1 := rNum_b L T (p + 1)
  have b2 := rEnd_b (L := L) (T := T) (p := (rNum L T (p + 1)).2) b1.1.2
  have b3 := rDiff_b L T (p + 3)
  unfold rKind
  repeat' split
  · simp only [tS]; omega
  · simp only [tS]; omega
  · refine ⟨z6_S, ?_, ?_⟩
    · simp only; omega
    · simp only; omega
  · refine ⟨z6_S, ?_, ?_⟩
    · simp only; omega
    · simp only; omega
  · refine ⟨z6_S, ?_, ?_⟩
    · simp only; omega
    · simp only; omega
theorem rThree_b {L : Int} {T : Int → Int} {a p : Int} (ha : 0 ≤ a ∧ a ≤ 3) : tS (rThree L T a p).2.2 ∧ p ≤ (rThree L T a p).2.1 ∧ (p ≤ L → (rThree L T a p).2.1 ≤ L) := by
  have b1 := rSign_b L T p
  unfold rThree
  repeat' split
  · simp only [tS]; omega
  · refine ⟨z6_S, ?_, ?_⟩
    · simp only; omega
    · simp only; omega
  · refine ⟨z6_S, ?_, ?_⟩
    · simp only; omega
    · simp only; omega
  · refine ⟨z6_S, ?_, ?_⟩
    · simp only; omega
    · simp only; omega
  · refine ⟨z6_S, ?_, ?_⟩
    · simp only; omega
    · simp only; omega
theorem rdF_b (L : Int) (T : Int → Int) (p : Int) : tS (rdF L T p).2.2 ∧ p ≤ (rdF L T p).2.1 ∧ (p ≤ L → (rdF L T p).2.1 ≤ L) := by
  unfold rdF
  by_cases h1 : okc L T 35 35 p
  · rw [if_pos h1]
    have := rSize_b L T (p + 1)
    exact ⟨this.1, by omega, fun _ => this.2.2 (by omega)⟩
  rw [if_neg h1]
  by_cases h2 : okc L T 65 68 p
  · rw [if_pos h2]
    by_cases h3 : okc L T 120 122 (p + 1)
    · rw [if_pos h3]
      have := rKind_b (L := L) (T := T) (p := p + 2) (a := T p - 65) (b := T (p + 1) - 120) (by omega) (by omega)
      exact ⟨this.1, by omega, fun _ => this.2.2 (by omega)⟩
    rw [if_neg h3]
    by_cases h4 : okc L T 60 60 (p + 1)
    · rw [if_pos h4]
      by_cases h5 : okc L T 65 68 (p + 2)
      · rw [if_pos h5]
        simp only [tS]; omega
      · rw [if_neg h5]
        refine ⟨z6_S, ?_, ?_⟩
        · simp only; omega
        · simp only; omega
    · rw [if_neg h4]
      have := rThree_b (L := L) (T := T) (p := p + 1) (a := T p - 65) (by omega)
      exact ⟨this.1, by omega, fun _ => this.2.2 (by omega)⟩
  · rw [if_neg h2]
    refine ⟨z6_S, ?_, ?_⟩
    · simp only; omega
    · simp only; omega
