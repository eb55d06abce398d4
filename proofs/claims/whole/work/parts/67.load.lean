/-! THE CLASS: the facts of a set are loaded -/
section LOD
variable {G : vm_G} {d : Nat} {m m1 : vm_M} {P : fc_G → Prop} {n : Int}
theorem LG.nine (h : LG m m1) : m1 9 = m 9 := funext fun x => h 9 x (by decide) (by simp) (by simp)
theorem cs_load_63 {s : Nat} {hs : Bool} {as : Bool} {Q : vm_M → Prop} (hlt : s < 2048) (hn : n ≤ 72) (hv : ∀ i : Nat, i ≤ 10 → s.testBit i = true → fc_v (rf_tup (m 9) ((i : Int) * 6)))
    (hQ : ∀ m' N P', LG m m' → RB m' → RU m' N P' → N ≤ 116 → (∀ h, box 0 m' h ∧ P' h ↔ (box 0 m h ∧ P h) ∧ ∀ i : Nat, i ≤ 10 → s.testBit i = true → FC hs (rf_tup (m 9) ((i : Int) * 6)) h) → Q m') :
    ∀ (j i : Nat) (m1 : vm_M) (N : Int) (P' : fc_G → Prop), i + j = 11 → LG m m1 → RB m1 → RU m1 N P' → N ≤ n + 4 * (i : Int) → (∀ h, box 0 m1 h ∧ P' h ↔ (box 0 m h ∧ P h) ∧ ∀ u : Nat, u < i → s.testBit u = true → FC hs (rf_tup (m 9) ((u : Int) * 6)) h) →
    vm_ex G (d + 5) mX2_load 61 [some (.inr (.inr 2)), some (.inr (.inr 1)), some (.inl (s : Int)), some (.inl (vm_b2i as)), some (.inl (vm_b2i hs)), some (.inl (i : Int))] [] m1 (vm_qn Q) := by
  intro j
  induction j with
  | zero =>
    intro i m1 N P' hi f b r hN hP
    refine qX2_load_61 ⟨⟨by omega, by omega⟩, fun _ => hQ m1 N P' f b r (by omega) (fun h => (hP h).trans ?_), fun h => by omega⟩
    exact ⟨fun p => ⟨p.1, fun u hu hb => p.2 u (by omega) hb⟩, fun p => ⟨p.1, fun u hu hb => p.2 u (by omega) hb⟩⟩
  | succ j ih =>
    intro i m1 N P' hi f b r hN hP
    have bz := zz_bit2 s i (by omega) (by omega)
    have p1 : 2 ^ i < 2 ^ 16 := zz_pow_lt (by omega)
    have aR : vm_R (vm_and (s : Int) (vm_shl 1 (i : Int))) := by rw [zz_shl1 (by omega)]; exact and_R (by omega) (by omega)
    refine qX2_load_61 ⟨⟨by omega, by omega⟩, fun h => by omega, fun _ => ⟨aR, fun hz => ih (i + 1) m1 N P' (by omega) f b r (by omega) (fun h => (hP h).trans ?_), fun hz => ?_⟩⟩
    · constructor
      · rintro ⟨p, q⟩
        refine ⟨p, fun u hu hb => ?_⟩
        by_cases e : u = i
        · subst e; rw [bz, hb] at hz; simp at hz
        · exact q u (by omega) hb
      · rintro ⟨p, q⟩
        exact ⟨p, fun u hu hb => q u (by omega) hb⟩
    · have hb : s.testBit i = true := by rw [bz] at hz; simpa using hz
      refine cs_addFact (d := d) (by omega) b r (by omega) (by rw [f.nine]; exact hv i (by omega) hb) (fun m2 N2 P2 f2 b2 r2 h2 hP2 => ih (i + 1) m2 N2 P2 (by omega) (f.trans f2) b2 r2 (by omega) (fun h => ?_))
      rw [hP2, hP, f.nine]
      constructor
      · rintro ⟨⟨p, q⟩, w⟩
        refine ⟨p, fun u hu hb => ?_⟩
        by_cases e : u = i
        · subst e; exact w
        · exact q u (by omega) hb
      · rintro ⟨p, q⟩
        exact ⟨⟨p, fun u hu hb => q u (by omega) hb⟩, q i (by omega) hb⟩
end LOD
