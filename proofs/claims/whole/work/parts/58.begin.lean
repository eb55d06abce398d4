/-! THE CLASS: the search is begun -/
section BGN
variable {G : vm_G} {d : Nat} {m : vm_M}
/-- what the beginning may change -/
def bg_fr (m m' : vm_M) : Prop := ∀ (c : Nat) (i : Int), ¬ (15 ≤ c ∧ c ≤ 22) → ¬ (c = 8 ∧ i = 8) → ¬ (c = 6 ∧ i = 3) → ¬ ((c = 13 ∨ c = 14) ∧ 0 ≤ i ∧ i < 16) → m' c i = m c i
def bg_hi (most : Int) (s : Bool) (v : Int) : Int := if v % 4 = 3 then (if s = true then 3 * most else 0) else most
def bg_sum (h : fc_G) (b : Int) : Prop := h (4 * b + 3) = h (4 * b) + h (4 * b + 1) + h (4 * b + 2)
theorem cs_begin_63 {most : Int} {Q : vm_M → Prop} (hQ : ∀ m', bg_fr m m' → (∀ v : Int, 0 ≤ v → v < 16 → m' 13 v = 0 ∧ m' 14 v = bg_hi most true v) → m' 6 3 = 1 → RU m' 4 (fun h => ∀ b : Int, 0 ≤ b → b < 4 → bg_sum h b) → Q m') :
    ∀ (j : Nat) (i : Int) (m1 : vm_M), i + (j : Int) = 4 → 0 ≤ i → bg_fr m m1 → (∀ v : Int, 0 ≤ v → v < 16 → m1 13 v = 0 ∧ m1 14 v = bg_hi most true v) → m1 6 3 = 1 → RU m1 i (fun h => ∀ b : Int, 0 ≤ b → b < i → bg_sum h b) →
    vm_ex G (d + 3) mX5_begin 63 [some (.inr (.inr 6)), some (.inl most), some (.inl (vm_b2i true)), some (.inl i)] [] m1 (vm_qn Q)
  | 0, i, m1, hi, i0, f, r, e, u => by
    have : i = 4 := by omega
    subst this
    exact qX5_begin_63 ⟨⟨by omega, by omega⟩, fun _ => hQ m1 f r e u, fun h => by omega⟩
  | j + 1, i, m1, hi, i0, f, r, e, u => by
    refine qX5_begin_63 ⟨⟨by omega, by omega⟩, fun h => by omega, fun _ => ⟨fun h => by simp at h, fun _ => cm_total u (by omega) ⟨i0, by omega⟩ (fun m2 f2 u2 => ?_)⟩⟩
    refine cs_begin_63 hQ j (i + 1) m2 (by omega) (by omega) (fun c x p q s t => (f2 c x p q).trans (f c x p q s t)) (fun v v0 v1 => by rw [f2 13 v (by simp) (by simp), f2 14 v (by simp) (by simp)]; exact r v v0 v1) (by rw [f2 6 3 (by simp) (by simp)]; exact e) (u2.congr fun h => ?_)
    constructor
    · rintro ⟨p, q⟩ b b0 b1
      by_cases eb : b = i
      · subst eb; exact q
      · exact p b b0 (by omega)
    · intro p
      exact ⟨fun b b0 b1 => p b b0 (by omega), p i i0 (by omega)⟩
theorem cs_begin_14 {most : Int} {s : Bool} {Q : vm_M → Prop} (hm : 1 ≤ most ∧ most ≤ 6) (hQ : ∀ m', bg_fr m m' → (∀ v : Int, 0 ≤ v → v < 16 → m' 13 v = 0 ∧ m' 14 v = bg_hi most s v) → m' 6 3 = vm_b2i s → RU m' (if s = true then 4 else 0) (fun h => s = true → ∀ b : Int, 0 ≤ b → b < 4 → bg_sum h b) → Q m') :
    ∀ (j : Nat) (i : Int) (m1 : vm_M), i + (j : Int) = 16 → 0 ≤ i → bg_fr m m1 → (∀ v : Int, 0 ≤ v → v < i → m1 13 v = 0 ∧ m1 14 v = bg_hi most s v) → m1 6 3 = vm_b2i s → RU m1 0 (fun _ => True) →
    vm_ex G (d + 3) mX5_begin 14 [some (.inr (.inr 6)), some (.inl most), some (.inl (vm_b2i s)), some (.inl i)] [] m1 (vm_qn Q)
  | 0, i, m1, hi, i0, f, r, e, u => by
    have hi : i = 16 := by omega
    subst hi
    refine qX5_begin_14 ⟨⟨by omega, by omega⟩, fun _ => ?_, fun h => by omega⟩
    cases s with
    | false =>
      exact qX5_begin_63 ⟨⟨by omega, by omega⟩, fun h => by omega, fun _ => ⟨fun _ => hQ m1 f r e (u.congr fun h => ⟨fun _ z => by simp at z, fun _ => trivial⟩), fun h => by simp at h⟩⟩
    | true =>
      exact cs_begin_63 (d := d) (m := m) (most := most) (fun m' f' r' e' u' => hQ m' f' r' e' (u'.congr fun h => ⟨fun p _ => p, fun p => p rfl⟩)) 4 0 m1 (by decide) (by decide) f r e (u.congr fun h => ⟨fun _ b b0 b1 => by omega, fun _ => trivial⟩)
  | j + 1, i, m1, hi, i0, f, r, e, u => by
    have er : vm_rem i 4 = i % 4 := zz_rem i0 (by omega) (by decide) (by decide)
    have step : ∀ m3 m5 x, m3 = vm_up m1 13 i 0 → m5 = vm_up m3 14 i x → x = bg_hi most s i → vm_ex G (d + 3) mX5_begin 14 [some (.inr (.inr 6)), some (.inl most), some (.inl (vm_b2i s)), some (.inl (i + 1))] [] m5 (vm_qn Q) := fun m3 m5 x e3 e5 hx => by
      have z : ∀ (c : Nat) (y : Int), ¬ ((c = 13 ∨ c = 14) ∧ y = i) → m5 c y = m1 c y := fun c y h => by rw [e5, zz_other (by omega), e3, zz_other (by omega)]
      have fr : ru_same m1 m5 0 := fun y y0 y1 => by omega
      refine cs_begin_14 hm hQ j (i + 1) m5 (by omega) (by omega) (fun c y p q s t => (z c y (by omega)).trans (f c y p q s t)) (fun v v0 v1 => ?_) (by rw [z 6 3 (by simp)]; exact e) ⟨by rw [z 8 8 (by simp)]; exact u.1, by decide, fun y y0 y1 => by omega, fun h => ⟨fun _ => trivial, fun _ y y0 y1 => by omega⟩, fun v v0 v1 => by rw [z 22 v (by simp)]; exact u.2.2.2.2 v v0 v1⟩
      by_cases ev : v = i
      · subst ev
        rw [e5, zz_same, zz_other (by simp), e3, zz_same]
        exact ⟨rfl, hx⟩
      · rw [z 13 v (by omega), z 14 v (by omega)]
        exact r v v0 (by omega)
    refine qX5_begin_14 ⟨⟨by omega, by omega⟩, fun h => by omega, fun _ => ⟨⟨by omega, by omega⟩, fun m3 e3 => ⟨by rw [er]; exact ⟨by omega, by omega⟩, fun h3 => ⟨fun hs m5 e5 => step m3 m5 0 e3 e5 ?_, fun hs m5 e5 => step m3 m5 (3 * most) e3 e5 ?_⟩, fun h3 m5 e5 => step m3 m5 most e3 e5 ?_⟩⟩⟩
    · rw [er] at h3; unfold bg_hi; rw [if_pos h3, hs]; rfl
    · rw [er] at h3; unfold bg_hi; rw [if_pos h3, hs]; rfl
    · rw [er] at h3; unfold bg_hi; rw [if_neg h3]
theorem cs_begin {most : Int} {s : Bool} {Q : vm_M → Prop} (hm : 1 ≤ most ∧ most ≤ 6) (hQ : ∀ m', bg_fr m m' → (∀ v : Int, 0 ≤ v → v < 16 → m' 13 v = 0 ∧ m' 14 v = bg_hi most s v) → m' 6 3 = vm_b2i s → RU m' (if s = true then 4 else 0) (fun h => s = true → ∀ b : Int, 0 ≤ b → b < 4 → bg_sum h b) → Q m') : vm_cn G (d + 3) mX5_begin [.inr (.inr 6), .inl most, .inl (vm_b2i s)] m Q := by
  refine qX5_begin (cm_clear (d := d + 1) (fun m1 f1 u1 m3 e3 => ?_))
  have z : ∀ (c : Nat) (y : Int), ¬ (c = 6 ∧ y = 3) → m3 c y = m1 c y := fun c y h => by rw [e3, zz_other h]
  exact cs_begin_14 (m := m) hm hQ 16 0 m3 (by decide) (by decide) (fun c y p q s t => (z c y s).trans (f1 c y p q)) (fun v v0 v1 => by omega) (by rw [e3, zz_same]) ⟨by rw [z 8 8 (by simp)]; exact u1.1, by decide, fun y y0 y1 => by omega, fun h => ⟨fun _ => trivial, fun _ y y0 y1 => by omega⟩, fun v v0 v1 => by rw [z 22 v (by simp)]; exact u1.2.2.2.2 v v0 v1⟩
end BGN
