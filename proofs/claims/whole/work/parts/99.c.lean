/-! THE LAW FROM ITS ENTRY: both sides begin as one state; what the tables and the Statement give -/
def S0 : aS := (m0 25, (0, fun _ _ => 0), (fun _ => false, fun _ _ => 0), (0, fun _ => 0))
theorem m0_25 (i : Int) : m0 25 i = if i = 0 then 4 else 0 := by
  simp [m0]
theorem nw_st : st_v (m0 25) := by
  refine ⟨?_, ?_, fun i h0 h1 => ?_⟩
  · rw [m0_25]; decide
  · rw [m0_25]; decide
  · rw [m0_25, if_neg (by decide)] at h1; omega
theorem S0_v : sV S0 := ⟨nw_st, ⟨⟨by decide, by decide⟩, fun i h0 h1 => absurd (show i < 0 from h1) (by omega)⟩, fun i _ _ h => absurd (show false = true from h) (by decide), ⟨⟨by decide, by decide⟩, fun i h0 h1 => absurd (show i < 0 from h1) (by omega)⟩⟩
theorem S0_k : ste (kst m0) (m0 25) := by
  refine ⟨by rw [kst_0, m0_25]; simp [m0], by rw [kst_1, m0_25]; simp [m0], fun x x0 x1 => ?_⟩
  rw [kst_1] at x1
  have : m0 1 1 = 0 := by simp [m0]
  omega
theorem S0_KC : KC m0 S0 := ⟨⟨S0_k, by simp [m0]⟩, ⟨by simp [m0], by simp [m0, S0], fun i h0 h1 => absurd (show i < 0 from h1) (by omega)⟩, ⟨by simp [m0], ⟨0, by simp [m0], by decide, rfl, rfl⟩, fun i _ _ h => absurd (show false = true from h) (by decide)⟩, ⟨by simp [m0, S0], fun i h0 h1 => absurd (show i < 0 from h1) (by omega)⟩⟩
theorem S0_KR : KR m0 S0 := ⟨ste.refl _, ⟨by simp [m0, S0], by simp [m0], fun i h0 h1 => absurd (show i < 0 from h1) (by omega)⟩, fun i _ _ => ⟨by simp [m0, S0, vm_b2i], fun h => absurd (show false = true from h) (by decide)⟩, ⟨by simp [m0, S0], fun i h0 h1 => absurd (show i < 0 from h1) (by omega)⟩⟩
theorem nw_J : JJ m0 := ⟨S0, S0_v, S0_KC, S0_KR⟩
/-- the nine classes are known -/
theorem nw_kn {args : Array Value} {s : State} (hts : ∀ w ∈ vm_WS, w.before args s = true) (c : Nat) : ∃ d : ClassId × (Nat → Nat), ∀ q, vwCl[c]? = some q → u_Kn s q.1 q.2.1 q.2.2 d.1 d.2 := by
  match c with
  | 0 =>
    obtain ⟨cC, iS, h⟩ := u_known (C := RX0) (T := TX0) (N := 3) hts inw0 (hts _ wx_109)
    exact ⟨(cC, iS), fun q hq => by cases hq; exact h⟩
  | 1 =>
    obtain ⟨cC, iS, h⟩ := u_known (C := RX1) (T := TX1) (N := 3) hts inw1 (hts _ wx_204)
    exact ⟨(cC, iS), fun q hq => by cases hq; exact h⟩
  | 2 =>
    obtain ⟨cC, iS, h⟩ := u_known (C := RX2) (T := TX2) (N := 2) hts inw2 (hts _ wx_130)
    exact ⟨(cC, iS), fun q hq => by cases hq; exact h⟩
  | 3 =>
    obtain ⟨cC, iS, h⟩ := u_known (C := RX3) (T := TX3) (N := 9) hts inw3 (hts _ wx_227)
    exact ⟨(cC, iS), fun q hq => by cases hq; exact h⟩
  | 4 =>
    obtain ⟨cC, iS, h⟩ := u_known (C := RX4) (T := TX4) (N := 9) hts inw4 (hts _ wx_142)
    exact ⟨(cC, iS), fun q hq => by cases hq; exact h⟩
  | 5 =>
    obtain ⟨cC, iS, h⟩ := u_known (C := RX5) (T := TX5) (N := 5) hts inw5 (hts _ wx_136)
    exact ⟨(cC, iS), fun q hq => by cases hq; exact h⟩
  | 6 =>
    obtain ⟨cC, iS, h⟩ := u_known (C := RX6) (T := TX6) (N := 2) hts inw6 (hts _ wx_263)
    exact ⟨(cC, iS), fun q hq => by cases hq; exact h⟩
  | 7 =>
    obtain ⟨cC, iS, h⟩ := u_known (C := RX7) (T := TX7) (N := 7) hts inw7 (hts _ wx_101)
    exact ⟨(cC, iS), fun q hq => by cases hq; exact h⟩
  | 8 =>
    obtain ⟨cC, iS, h⟩ := u_known (C := RX8) (T := TX8) (N := 23) hts inw8 (hts _ wx_735)
    exact ⟨(cC, iS), fun q hq => by cases hq; exact h⟩
  | n + 9 =>
    obtain ⟨cC, iS, h⟩ := u_known (C := RX0) (T := TX0) (N := 3) hts inw0 (hts _ wx_109)
    refine ⟨(cC, iS), fun q hq => ?_⟩
    rw [List.getElem?_eq_none (by simp)] at hq
    cases hq
theorem nw_arr {args : Array Value} {s : State} {ty : FieldType} (h : (Cond.arrayClass ty).before args s = true) (hp : ty = .int ∨ ty = .char ∨ ty = .boolean) : ∃ cA : ClassId, ArrOfT s cA ty ∧ va_RA s cA ty := by
  obtain ⟨c, k, comp, h1, h2, h3⟩ := Cond.arrayClass_spec h
  exact ⟨c, fun n z => ⟨fun k h => (by cases h), k, h2, comp, h3⟩, by rcases hp with rfl | rfl | rfl <;> exact h1⟩
theorem nw_K {args : Array Value} {s : State} (hts : ∀ w ∈ vm_WS, w.before args s = true) : ∃ (D : va_G) (cI cC cZ : ClassId), va_K D vwCl (nwT cI cC cZ) s := by
  have hk := nw_kn hts
  obtain ⟨cI, i1, i2⟩ := nw_arr (ty := .int) (hts _ ww_128) (.inl rfl)
  obtain ⟨cC, c1, c2⟩ := nw_arr (ty := .char) (hts _ ww_261) (.inr (.inl rfl))
  obtain ⟨cZ, z1, z2⟩ := nw_arr (ty := .boolean) (hts _ ww_810) (.inr (.inr rfl))
  refine ⟨(fun c => (Classical.choose (hk c)).1, fun c => (Classical.choose (hk c)).2), cI, cC, cZ, fun c q hq => Classical.choose_spec (hk c) q hq, fun k q hq => ?_⟩
  match k, hq with
  | 0, hq => cases hq; exact ⟨i1, i2⟩
  | 1, hq => cases hq; exact ⟨c1, c2⟩
  | 2, hq => cases hq; exact ⟨z1, z2⟩
  | n + 3, hq =>
    rw [List.getElem?_eq_none (by simp)] at hq
    cases hq
/-- the table that the class has for the opposites -/
theorem nw_ops {b : Nat} {s : State} (hgv : (Jvm.Cond.and given_1 narrow_1).before #[Value.ref b] s = true) (hlay : (Cond.laysStatic "BagCounts$Logic" "OPPOSITES" "[I").before #[Value.ref b] s = true) (hini : (Cond.initialized "BagCounts$Logic").before #[Value.ref b] s = true) : ∃ t : Nat, va_Z "BagCounts$Logic" "OPPOSITES" "[I" (.ref t) (fun q => s.heap.size ≤ q) s s.heap ∧ va_T .int t 7 (fun j => .int (Int32.ofInt (opN (j : Int)))) (fun q => s.heap.size ≤ q) s s.heap := by
  have hs := flat_of_before _ hgv
  have harr : (Cond.arrayOf (.static "BagCounts$Logic" "OPPOSITES" "[I") .int).before #[Value.ref b] s = true := hs _ (by decide +kernel)
  have hlen := va_eqt (hs (Cond.eq (.length (.static "BagCounts$Logic" "OPPOSITES" "[I")) (.int 7)) (by decide +kernel))
  have h0 := va_eqt (hs (Cond.eq (.elem (.static "BagCounts$Logic" "OPPOSITES" "[I") (.int 0)) (.int 2)) (by decide +kernel))
  have h1 := va_eqt (hs (Cond.eq (.elem (.static "BagCounts$Logic" "OPPOSITES" "[I") (.int 1)) (.int 2)) (by decide +kernel))
  have h2 := va_eqt (hs (Cond.eq (.elem (.static "BagCounts$Logic" "OPPOSITES" "[I") (.int 2)) (.int 6)) (by decide +kernel))
  have h3 := va_eqt (hs (Cond.eq (.elem (.static "BagCounts$Logic" "OPPOSITES" "[I") (.int 3)) (.int 9)) (by decide +kernel))
  have h4 := va_eqt (hs (Cond.eq (.elem (.static "BagCounts$Logic" "OPPOSITES" "[I") (.int 4)) (.int 9)) (by decide +kernel))
  have h5 := va_eqt (hs (Cond.eq (.elem (.static "BagCounts$Logic" "OPPOSITES" "[I") (.int 5)) (.int 3)) (by decide +kernel))
  have h6 := va_eqt (hs (Cond.eq (.elem (.static "BagCounts$Logic" "OPPOSITES" "[I") (.int 6)) (.int 1)) (by decide +kernel))
  have hA : ∀ a : Nat, a < s.heap.size → ¬ (s.heap.size ≤ a) := fun a h1 h2 => absurd h1 (Nat.not_lt.mpr h2)
  obtain ⟨t, ht, hT⟩ := va_Tof (tm := (.static "BagCounts$Logic" "OPPOSITES" "[I")) (ty := .int) (N := 7) (f := fun j => .int (Int32.ofInt (opN (j : Int)))) (A := fun q => s.heap.size ≤ q) (by decide) harr hlen (fun j hj => by
    match j, hj with
    | 0, _ => exact h0
    | 1, _ => exact h1
    | 2, _ => exact h2
    | 3, _ => exact h3
    | 4, _ => exact h4
    | 5, _ => exact h5
    | 6, _ => exact h6
    | n + 7, hj => exact absurd hj (by omega)) hA
  exact ⟨t, va_Zref hlay hini ht hA, hT⟩
