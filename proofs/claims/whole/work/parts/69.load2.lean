section LO2
variable {G : vm_G} {d : Nat} {m : vm_M} {S : fc_G → Prop} {most : Int}
/-- what a load comes to: the gaps as they were in mg -/
def LDD (S : fc_G → Prop) (most : Int) (s : Nat) (hs : Bool) (m m' mg : vm_M) : Prop := RB m' ∧ m' 6 3 = vm_b2i hs ∧ (∃ N P', RU m' N P' ∧ N ≤ 116 ∧
    (∀ h, box 0 m' h ∧ P' h → (∀ v : Int, 0 ≤ v → v < 16 → 0 ≤ h v ∧ h v ≤ bg_hi most hs v) ∧ (hs = true → ∀ b : Int, 0 ≤ b → b < 4 → bg_sum h b) ∧ (HB most h → ∀ k i j : Int, (0 ≤ k ∧ k < 3) → (0 ≤ i ∧ i < 4) → (0 ≤ j ∧ j < 4) → h (4 * i + k) - h (4 * j + k) ≤ mg 23 ((k * 4 + i) * 4 + j)) ∧ ∀ i : Nat, i ≤ 10 → s.testBit i = true → FC hs (rf_tup (m 9) ((i : Int) * 6)) h) ∧
    (∀ h, (∀ v : Int, 0 ≤ v → v < 16 → 0 ≤ h v ∧ h v ≤ bg_hi most hs v) → (hs = true → ∀ b : Int, 0 ≤ b → b < 4 → bg_sum h b) → GH mg hs most h → (∀ i : Nat, i ≤ 10 → s.testBit i = true → FC hs (rf_tup (m 9) ((i : Int) * 6)) h) → box 0 m' h ∧ P' h)) ∧ GI S most mg ∧ CA most mg s 11 ∧ mg 9 = m 9
theorem cs_load_in {s : Nat} {hs as : Bool} {Q : vm_M → Prop} (hlt : s < 2048) (hm : m 1 2 = most ∧ 1 ≤ most ∧ most ≤ 6) (h64 : 0 ≤ m 6 4 ∧ m 6 4 < 65536) (hB : ∀ g, S g → ∀ v : Int, 0 ≤ v → v < 12 → 0 ≤ g v ∧ g v ≤ most) (hF : FA S m s)
    (hQ : ∀ m' mg, LDD S most s hs m m' mg → (∀ (c : Nat) (i : Int), ¬ (15 ≤ c ∧ c ≤ 23) → c ≠ 8 → c ≠ 6 → c ≠ 7 → ¬ (c = 13 ∨ c = 14) → m' c i = m c i) → Q m') :
    vm_cn G (d + 4) mX5_begin [.inr (.inr 6), .inl (m 1 2), .inl (vm_b2i hs)] m (fun m1 => vm_cn G (d + 4) mX1_close [.inr (.inr 7), .inr (.inr 1), .inl (s : Int)] m1 (fun m3 => vm_cn G (d + 4) mX1_addTo [.inr (.inr 7), .inr (.inr 8), .inl (vm_b2i hs)] m3 (fun m5 => vm_ex G (d + 5) mX2_load 61 [some (.inr (.inr 2)), some (.inr (.inr 1)), some (.inl (s : Int)), some (.inl (vm_b2i as)), some (.inl (vm_b2i hs)), some (.inl 0)] [] m5 (vm_qn Q)))) := by
  rw [hm.1]
  refine cs_begin (d := d + 1) hm.2 (fun m1 f1 r1 w1 u1 => ?_)
  have n1 : m1 9 = m 9 := funext fun x => f1 9 x (by decide) (by simp) (by simp) (by simp)
  refine cs_close (d := d + 1) (most := most) (S := S) (by rw [f1 1 2 (by decide) (by simp) (by simp) (by simp)]; exact hm) hlt hB (fun i hi hb => by rw [n1]; exact hF i hi hb) (fun m3 g3 f3 c3 => ?_)
  have n3 : m3 9 = m 9 := (funext fun x => f3 9 x (by decide) (by simp)).trans n1
  refine cs_addTo (d := d + 1) (most := most) g3 (by split <;> decide) (u1.keep (fun c y hc => f3 c y (by omega) (by omega))) (fun m5 a5 => ?_)
  obtain ⟨f5, N, P', r5, hN, q1, q2, q3⟩ := a5
  have n5 : m5 9 = m 9 := (funext fun x => f5 9 x (by decide) (by simp)).trans n3
  have e13 : ∀ v : Int, 0 ≤ v → v < 16 → m5 13 v = 0 ∧ m5 14 v = bg_hi most hs v := fun v v0 v1 => by
    rw [f5 13 v (by simp) (by simp), f5 14 v (by simp) (by simp), f3 13 v (by decide) (by simp), f3 14 v (by decide) (by simp)]
    exact r1 v v0 v1
  have bh : ∀ v : Int, 0 ≤ bg_hi most hs v ∧ bg_hi most hs v ≤ 18 := fun v => by
    unfold bg_hi
    split
    · split <;> omega
    · omega
  have R5 : RB m5 := ⟨fun v v0 v1 => by
    rw [row0, (e13 v v0 v1).1, (e13 v v0 v1).2]
    have := bh v
    omega, by rw [f5 6 4 (by simp) (by simp), f3 6 4 (by decide) (by simp), f1 6 4 (by simp) (by simp) (by simp) (by simp)]; exact h64⟩
  have bx : ∀ h, box 0 m5 h ↔ ∀ v : Int, 0 ≤ v → v < 16 → 0 ≤ h v ∧ h v ≤ bg_hi most hs v := fun h => by
    constructor
    · intro a v v0 v1
      have := a v v0 v1
      rwa [row0, (e13 v v0 v1).1, (e13 v v0 v1).2] at this
    · intro a v v0 v1
      rw [row0, (e13 v v0 v1).1, (e13 v v0 v1).2]
      exact a v v0 v1
  have hN4 : N ≤ 72 := by
    by_cases z : hs = true
    · rw [if_pos z] at hN; omega
    · rw [if_neg z] at hN; omega
  refine cs_load_63 (d := d) (m := m5) (n := N) hlt hN4 (fun i hi hb => by rw [n5]; exact (hF i hi hb).1) (fun m7 N7 P7 f7 b7 r7 hN7 hP7 => hQ m7 m3 ⟨b7, ?_, ⟨N7, P7, r7, hN7, fun h p => ?_, fun h p1 p2 p3 p4 => ?_⟩, g3, c3, n3⟩ (fun c y h1 h2 h3 h4 h5 => ?_)) 11 0 m5 N P' (by decide) (LG.refl m5) R5 r5 (by omega) (fun h => ⟨fun p => ⟨p, fun u hu => by omega⟩, fun p => p.1⟩)
  · rw [f7 6 3 (by simp) (by simp) (by simp), f5 6 3 (by simp) (by simp), f3 6 3 (by decide) (by simp)]; exact w1
  · obtain ⟨⟨a, b⟩, c⟩ := (hP7 h).mp p
    rw [n5] at c
    exact ⟨(bx h).mp a, q1 h b, fun hb k i j hk hi hj => q3 h b hb k i j hk hi hj (by omega), c⟩
  · refine (hP7 h).mpr ⟨⟨(bx h).mpr p1, q2 h p2 p3⟩, by rw [n5]; exact p4⟩
  · rw [f7 c y (by omega) (by omega) (by omega), f5 c y (by omega) (by omega), f3 c y (by omega) (by omega), f1 c y (by omega) (by omega) (by omega) (by omega)]
end LO2
