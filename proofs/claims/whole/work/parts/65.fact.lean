section FCT
variable {G : vm_G} {d : Nat} {m m1 : vm_M} {P : fc_G → Prop} {n : Int}
theorem RU.keep (h : RU m n P) (hc : ∀ (c : Nat) (i : Int), (15 ≤ c ∧ c ≤ 22) ∨ c = 8 → m1 c i = m c i) : RU m1 n P := by
  have hs : ru_same m m1 n := fun i _ _ => ⟨hc 15 i (by decide), hc 16 i (by decide), hc 17 i (by decide), hc 18 i (by decide), hc 19 i (by decide), fun t _ _ => ⟨hc 20 _ (by decide), hc 21 _ (by decide)⟩⟩
  obtain ⟨q1, q2⟩ := RO_same hs h.2.2.1 h.2.2.2.1
  exact ⟨by rw [hc 8 8 (by decide)]; exact h.1, h.2.1, q1, q2, fun v v0 v1 => by rw [hc 22 v (by decide)]; exact h.2.2.2.2 v v0 v1⟩
theorem RT.box {v l g : Int} (t : RT v l g m m1) (hv : 0 ≤ v ∧ v < 16) (h : fc_G) : box 0 m1 h ↔ box 0 m h ∧ l ≤ h v ∧ h v ≤ g := by
  constructor
  · intro a
    refine ⟨fun u u0 u1 => ?_, ?_⟩
    · have q := a u u0 u1
      rw [row0] at q ⊢
      by_cases e : u = v
      · subst e; rw [t.2.1, t.2.2] at q; omega
      · rw [t.1 13 u (by omega), t.1 14 u (by omega)] at q; exact q
    · have q := a v hv.1 hv.2
      rw [row0, t.2.1, t.2.2] at q
      omega
  · rintro ⟨a, c⟩ u u0 u1
    have q := a u u0 u1
    rw [row0] at q ⊢
    by_cases e : u = v
    · subst e; rw [t.2.1, t.2.2]; omega
    · rw [t.1 13 u (by omega), t.1 14 u (by omega)]; exact q
theorem RT.rb {v l g : Int} (t : RT v l g m m1) (hv : 0 ≤ v ∧ v < 16) (hb : RB m) (hl : l ≤ 19) (hg : -1 ≤ g) : RB m1 := by
  refine ⟨fun u u0 u1 => ?_, by rw [t.1 6 4 (by simp)]; exact hb.2⟩
  have q := hb.1 u u0 u1
  rw [row0] at q ⊢
  by_cases e : u = v
  · subst e; rw [t.2.1, t.2.2]; omega
  · rw [t.1 13 u (by omega), t.1 14 u (by omega)]; exact q
/-- what the loading of facts may change -/
def LG (m m' : vm_M) : Prop := ∀ (c : Nat) (i : Int), ¬ (15 ≤ c ∧ c ≤ 22) → ¬ (c = 8 ∧ i = 8) → ¬ ((c = 13 ∨ c = 14) ∧ 0 ≤ i ∧ i < 16) → m' c i = m c i
theorem LG.refl (m : vm_M) : LG m m := fun _ _ _ _ _ => rfl
theorem LG.trans {a b c : vm_M} (s : LG a b) (t : LG b c) : LG a c := fun x i p q r => (t x i p q r).trans (s x i p q r)
theorem ru_fr.lg (h : ru_fr m m1) : LG m m1 := fun c i p q _ => h c i p q
theorem RT.lg {v l g : Int} (t : RT v l g m m1) (hv : 0 ≤ v ∧ v < 16) : LG m m1 := fun c i _ _ r => t.1 c i (by omega)
theorem ru_fr.rb (h : ru_fr m m1) (hb : RB m) : RB m1 := ⟨fun u u0 u1 => by rw [h 13 _ (by simp) (by simp), h 14 _ (by simp) (by simp)]; exact hb.1 u u0 u1, by rw [h 6 4 (by simp) (by simp)]; exact hb.2⟩
theorem ru_fr.bx (h : ru_fr m m1) (x : fc_G) : box 0 m1 x ↔ box 0 m x := by
  constructor
  · intro a u u0 u1
    have q := a u u0 u1
    rwa [h 13 _ (by simp) (by simp), h 14 _ (by simp) (by simp)] at q
  · intro a u u0 u1
    rw [h 13 _ (by simp) (by simp), h 14 _ (by simp) (by simp)]
    exact a u u0 u1
/-- what is added for a fact -/
def FC (s : Bool) (t : fc_T) (h : fc_G) : Prop := match t with
  | (f, a, b, c, x, e) => (f = 0 → c ≤ h (a * 4 + b) ∧ h (a * 4 + b) ≤ x) ∧ (f = 1 → b ≤ h (a * 4 + 3) ∧ h (a * 4 + 3) ≤ c) ∧ (f = 6 → b ≠ x → e ≤ h (a * 4 + b) - h (c * 4 + x) ∧ h (a * 4 + b) - h (c * 4 + x) ≤ 18) ∧
    ((f = 2 ∨ f = 3 ∨ f = 4) → ∀ k : Int, 0 ≤ k → k < (if s = true then 4 else 3) → colP f a b c k h)
theorem cs_addFact_175 {s : Bool} {i f a b c x : Int} {Q : vm_M → Prop} (hn : n ≤ 120) (hf : 2 ≤ f ∧ f ≤ 4) (ha : 0 ≤ a ∧ a ≤ 3) (hb : 0 ≤ b ∧ b ≤ 3) (hc : 0 ≤ c ∧ c ≤ 3) (hQ : ∀ m' N P', ru_fr m m' → RU m' N P' → N ≤ n + 4 → (∀ h, P' h ↔ P h ∧ ∀ k : Int, 0 ≤ k → k < (if s = true then 4 else 3) → colP f a b c k h) → Q m') :
    ∀ (j : Nat) (k : Int) (m1 : vm_M) (N : Int) (P' : fc_G → Prop), k + (j : Int) = (if s = true then 4 else 3) → 0 ≤ k → ru_fr m m1 → RU m1 N P' → N ≤ n + k → (∀ h, P' h ↔ P h ∧ ∀ k' : Int, 0 ≤ k' → k' < k → colP f a b c k' h) →
    vm_ex G (d + 4) mX2_addFact 164 [some (.inr (.inr 2)), some (.inr (.inr 1)), some (.inl i), some (.inl (vm_b2i s)), some (.inl f), some (.inl a), some (.inl b), some (.inl c), some (.inl x), some (.inl k)] [] m1 (vm_qn Q) := by
  intro j
  induction j with
  | zero =>
    intro k m1 N P' hk k0 fr r hN hP
    have fin : Q m1 := hQ m1 N P' fr r (by split at hk <;> omega) (fun h => by rw [← hk]; simpa using hP h)
    refine qX2_addFact_164 ⟨fun e => ?_, fun e => ?_⟩
    · rw [e, if_neg (by decide)] at hk
      exact ⟨⟨by omega, by omega⟩, fun _ => fin, fun h => by omega⟩
    · rw [e, if_pos rfl] at hk
      exact ⟨⟨by omega, by omega⟩, fun _ => fin, fun h => by omega⟩
  | succ j ih =>
    intro k m1 N P' hk k0 fr r hN hP
    have k3 : k ≤ 3 := by split at hk <;> omega
    have step : vm_cn G (d + 3) mX2_addColumn [.inr (.inr 2), .inl f, .inl k, .inl a, .inl b, .inl c] m1 (fun m2 => vm_ex G (d + 4) mX2_addFact 164 [some (.inr (.inr 2)), some (.inr (.inr 1)), some (.inl i), some (.inl (vm_b2i s)), some (.inl f), some (.inl a), some (.inl b), some (.inl c), some (.inl x), some (.inl (k + 1))] [] m2 (vm_qn Q)) :=
      cs_addColumn (d := d) r (by omega) hf ⟨k0, k3⟩ ha hb hc (fun m2 N2 f2 r2 h2 => ih (k + 1) m2 N2 _ (by omega) (by omega) (fr.trans f2) r2 (by omega) (fun h => by
        rw [hP h]
        constructor
        · rintro ⟨⟨p, q⟩, w⟩
          refine ⟨p, fun k' k0' k1' => ?_⟩
          by_cases e : k' = k
          · subst e; exact w
          · exact q k' k0' (by omega)
        · rintro ⟨p, q⟩
          exact ⟨⟨p, fun k' k0' k1' => q k' k0' (by omega)⟩, q k k0 (by omega)⟩))
    refine qX2_addFact_164 ⟨fun e => ?_, fun e => ?_⟩
    · rw [e, if_neg (by decide)] at hk
      exact ⟨⟨by omega, by omega⟩, fun h => by omega, fun _ => step⟩
    · rw [e, if_pos rfl] at hk
      exact ⟨⟨by omega, by omega⟩, fun h => by omega, fun _ => step⟩
end FCT
