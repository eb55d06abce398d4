section CH2
variable {G : vm_G} {d : Nat} {m : vm_M} {Q : vm_M → Bool → Prop}
theorem cs_top2 {L i l2 : Int} (hL : 0 ≤ L ∧ L ≤ 16) (hi : 0 ≤ i ∧ i < 128) (hN : NE L m) (hw : ru_wf m i) (h1 : m 15 i = 1) (hQ : ∀ m' r, TG L i m m' r → Q m' r) {m1 : vm_M} (k1 : PS L i m m1 true) (q2 : (m1 14 (L * 16 + m 20 (i * 4 + 2)) < m1 13 (L * 16 + m 20 (i * 4)) ∧ l2 = m1 13 (L * 16 + m 20 (i * 4))) ∨ (m1 13 (L * 16 + m 20 (i * 4)) ≤ m1 14 (L * 16 + m 20 (i * 4 + 2)) ∧ l2 = 0)) (l2R : vm_R l2) :
    vm_cb G (d + 1) mX5_keep [.inr (.inr 6), .inl (L * 16 + m 20 (i * 4 + 1)), .inl 1, .inl l2, .inl (m1 14 (L * 16 + m 20 (i * 4)))] m1 (fun m2 r2 => (r2 = false → Q m2 false) ∧ (r2 = true → vm_R (m2 14 (L * 16 + m 20 (i * 4 + 1))) ∧ vm_R (m2 13 (L * 16 + m 20 (i * 4))) ∧ ((m2 13 (L * 16 + m 20 (i * 4)) ≤ m2 14 (L * 16 + m 20 (i * 4 + 1)) → vm_cb G (d + 1) mX5_keep [.inr (.inr 6), .inl (L * 16 + m 20 (i * 4 + 2)), .inl 1, .inl 0, .inl (m2 14 (L * 16 + m 20 (i * 4)))] m2 (fun m3 r3 => (r3 = false → Q m3 false) ∧ (r3 = true → Q m3 true))) ∧ (¬ m2 13 (L * 16 + m 20 (i * 4)) ≤ m2 14 (L * 16 + m 20 (i * 4 + 1)) → vm_cb G (d + 1) mX5_keep [.inr (.inr 6), .inl (L * 16 + m 20 (i * 4 + 2)), .inl 1, .inl (m2 13 (L * 16 + m 20 (i * 4))), .inl (m2 14 (L * 16 + m 20 (i * 4)))] m2 (fun m3 r3 => (r3 = false → Q m3 false) ∧ (r3 = true → Q m3 true)))))) := by
  obtain ⟨_, _, wt, _, _, _, w3⟩ := id hw
  have w3 := w3 (by omega)
  obtain ⟨_, t2, _, t4⟩ := id wt
  have ta := (t2 0 (by decide) (by omega)).1
  rw [Int.add_zero] at ta
  have tb := (t2 1 (by decide) (by omega)).1
  have tc := (t2 2 (by decide) (by omega)).1
  have N1 := k1.1.ne hN
  have hh := (ru_wf_same (k1.1.same 128) hi.1 hi.2 hw).2
  have hm : m1 18 i = m 18 i := k1.1.cell (by decide) i
  have bb : (m 18 i).toNat.testBit (m 20 (i * 4 + 1)).toNat = true := (t4 _).mpr ⟨1, by decide, by omega, by omega⟩
  have hd : ∀ h, ru_holds m i h ↔ h (m 20 (i * 4)) = max (h (m 20 (i * 4 + 1))) (h (m 20 (i * 4 + 2))) := fun h => by
    unfold ru_holds
    rw [h1, if_neg (by decide), if_pos rfl]
  refine cs_keep hL tb N1 (by decide) l2R (by have := N1.1 _ ta.1 ta.2; exact ⟨by omega, by omega⟩) (fun m2 r2 k2 => ?_)
  have p2' : PS L i m1 m2 r2 := kp_ps k2 N1 tb (by rw [hm]; exact bb) (fun h hb ht => by
    have := (hd h).mp ((hh h).mp ht)
    have xa := hb _ ta.1 ta.2
    have xb := hb _ tb.1 tb.2
    have xc := hb _ tc.1 tc.2
    have := (N1.1 _ tb.1 tb.2)
    omega)
  have p2'' := k1.trans (n := 128) hi hw p2'
  cases r2 with
  | false => exact ⟨fun _ => hQ m2 false (p2''.tg (fun h => by simp at h)), fun h => by simp at h⟩
  | true =>
    have p2 := p2''
    have N2 := p2.1.ne hN
    have na := N2.1 _ ta.1 ta.2
    have nb := N2.1 _ tb.1 tb.2
    have fin : ∀ l3, (m2 14 (L * 16 + m 20 (i * 4 + 1)) < m2 13 (L * 16 + m 20 (i * 4)) ∧ l3 = m2 13 (L * 16 + m 20 (i * 4))) ∨ (m2 13 (L * 16 + m 20 (i * 4)) ≤ m2 14 (L * 16 + m 20 (i * 4 + 1)) ∧ l3 = 0) → vm_R l3 → vm_cb G (d + 1) mX5_keep [.inr (.inr 6), .inl (L * 16 + m 20 (i * 4 + 2)), .inl 1, .inl l3, .inl (m2 14 (L * 16 + m 20 (i * 4)))] m2 (fun m3 r3 => (r3 = false → Q m3 false) ∧ (r3 = true → Q m3 true)) := fun l3 q3 q4 =>
      cs_keep hL tc N2 (by decide) q4 (by have := N2.1 _ ta.1 ta.2; exact ⟨by omega, by omega⟩) (fun m3 r3 k3 => by
        have t := ch_top hi hN hw h1 rfl rfl rfl k1 k2 k3 p2 q3
        exact ⟨fun e => by subst e; exact hQ m3 false t, fun e => by subst e; exact hQ m3 true t⟩)
    exact ⟨fun h => by simp at h, fun _ => ⟨⟨by omega, by omega⟩, ⟨by omega, by omega⟩, fun h => fin _ (Or.inr ⟨h, rfl⟩) ⟨by omega, by omega⟩, fun h => fin _ (Or.inl ⟨by omega, rfl⟩) ⟨by omega, by omega⟩⟩⟩
theorem cs_bot2 {L i l2 : Int} (hL : 0 ≤ L ∧ L ≤ 16) (hi : 0 ≤ i ∧ i < 128) (hN : NE L m) (hw : ru_wf m i) (h1 : m 15 i = 2) (hQ : ∀ m' r, TG L i m m' r → Q m' r) {m1 : vm_M} (k1 : PS L i m m1 true) (q2 : (m1 14 (L * 16 + m 20 (i * 4)) < m1 13 (L * 16 + m 20 (i * 4 + 2)) ∧ l2 = m1 14 (L * 16 + m 20 (i * 4))) ∨ (m1 13 (L * 16 + m 20 (i * 4 + 2)) ≤ m1 14 (L * 16 + m 20 (i * 4)) ∧ l2 = 18)) (l2R : vm_R l2) :
    vm_cb G (d + 1) mX5_keep [.inr (.inr 6), .inl (L * 16 + m 20 (i * 4 + 1)), .inl 1, .inl (m1 13 (L * 16 + m 20 (i * 4))), .inl l2] m1 (fun m2 r2 => (r2 = false → Q m2 false) ∧ (r2 = true → vm_R (m2 13 (L * 16 + m 20 (i * 4 + 1))) ∧ vm_R (m2 14 (L * 16 + m 20 (i * 4))) ∧ ((m2 13 (L * 16 + m 20 (i * 4 + 1)) ≤ m2 14 (L * 16 + m 20 (i * 4)) → vm_cb G (d + 1) mX5_keep [.inr (.inr 6), .inl (L * 16 + m 20 (i * 4 + 2)), .inl 1, .inl (m2 13 (L * 16 + m 20 (i * 4))), .inl 18] m2 (fun m3 r3 => (r3 = false → Q m3 false) ∧ (r3 = true → Q m3 true))) ∧ (¬ m2 13 (L * 16 + m 20 (i * 4 + 1)) ≤ m2 14 (L * 16 + m 20 (i * 4)) → vm_cb G (d + 1) mX5_keep [.inr (.inr 6), .inl (L * 16 + m 20 (i * 4 + 2)), .inl 1, .inl (m2 13 (L * 16 + m 20 (i * 4))), .inl (m2 14 (L * 16 + m 20 (i * 4)))] m2 (fun m3 r3 => (r3 = false → Q m3 false) ∧ (r3 = true → Q m3 true)))))) := by
  obtain ⟨_, _, wt, _, _, _, w3⟩ := id hw
  have w3 := w3 (by omega)
  obtain ⟨_, t2, _, t4⟩ := id wt
  have ta := (t2 0 (by decide) (by omega)).1
  rw [Int.add_zero] at ta
  have tb := (t2 1 (by decide) (by omega)).1
  have tc := (t2 2 (by decide) (by omega)).1
  have N1 := k1.1.ne hN
  have hh := (ru_wf_same (k1.1.same 128) hi.1 hi.2 hw).2
  have hm : m1 18 i = m 18 i := k1.1.cell (by decide) i
  have bb : (m 18 i).toNat.testBit (m 20 (i * 4 + 1)).toNat = true := (t4 _).mpr ⟨1, by decide, by omega, by omega⟩
  have hd : ∀ h, ru_holds m i h ↔ h (m 20 (i * 4)) = min (h (m 20 (i * 4 + 1))) (h (m 20 (i * 4 + 2))) := fun h => by
    unfold ru_holds
    rw [h1, if_neg (by decide), if_neg (by decide)]
  refine cs_keep hL tb N1 (by decide) (by have := N1.1 _ ta.1 ta.2; exact ⟨by omega, by omega⟩) l2R (fun m2 r2 k2 => ?_)
  have p2' : PS L i m1 m2 r2 := kp_ps k2 N1 tb (by rw [hm]; exact bb) (fun h hb ht => by
    have := (hd h).mp ((hh h).mp ht)
    have xa := hb _ ta.1 ta.2
    have xb := hb _ tb.1 tb.2
    have xc := hb _ tc.1 tc.2
    have := (N1.1 _ tb.1 tb.2)
    omega)
  have p2'' := k1.trans (n := 128) hi hw p2'
  cases r2 with
  | false => exact ⟨fun _ => hQ m2 false (p2''.tg (fun h => by simp at h)), fun h => by simp at h⟩
  | true =>
    have p2 := p2''
    have N2 := p2.1.ne hN
    have na := N2.1 _ ta.1 ta.2
    have nb := N2.1 _ tb.1 tb.2
    have fin : ∀ l3, (m2 14 (L * 16 + m 20 (i * 4)) < m2 13 (L * 16 + m 20 (i * 4 + 1)) ∧ l3 = m2 14 (L * 16 + m 20 (i * 4))) ∨ (m2 13 (L * 16 + m 20 (i * 4 + 1)) ≤ m2 14 (L * 16 + m 20 (i * 4)) ∧ l3 = 18) → vm_R l3 → vm_cb G (d + 1) mX5_keep [.inr (.inr 6), .inl (L * 16 + m 20 (i * 4 + 2)), .inl 1, .inl (m2 13 (L * 16 + m 20 (i * 4))), .inl l3] m2 (fun m3 r3 => (r3 = false → Q m3 false) ∧ (r3 = true → Q m3 true)) := fun l3 q3 q4 =>
      cs_keep hL tc N2 (by decide) (by have := N2.1 _ ta.1 ta.2; exact ⟨by omega, by omega⟩) q4 (fun m3 r3 k3 => by
        have t := ch_bot hi hN hw h1 rfl rfl rfl k1 k2 k3 p2 q3
        exact ⟨fun e => by subst e; exact hQ m3 false t, fun e => by subst e; exact hQ m3 true t⟩)
    exact ⟨fun h => by simp at h, fun _ => ⟨⟨by omega, by omega⟩, ⟨by omega, by omega⟩, fun h => fin _ (Or.inr ⟨h, rfl⟩) ⟨by omega, by omega⟩, fun h => fin _ (Or.inl ⟨by omega, rfl⟩) ⟨by omega, by omega⟩⟩⟩
theorem cs_tightenChoice {L i : Int} (hL : 0 ≤ L ∧ L ≤ 16) (hi : 0 ≤ i ∧ i < 128) (hN : NE L m) (hw : ru_wf m i) (h0 : m 15 i ≠ 0) (hQ : ∀ m' r, TG L i m m' r → Q m' r) : vm_cb G (d + 2) mX5_tightenChoice [.inr (.inr 6), .inl i, .inl (L * 16)] m Q := by
  obtain ⟨w0, _, wt, _, _, _, w3⟩ := id hw
  have w3 := w3 (by omega)
  obtain ⟨_, t2, _, t4⟩ := id wt
  have ta := (t2 0 (by decide) (by omega)).1
  rw [Int.add_zero] at ta
  have tb := (t2 1 (by decide) (by omega)).1
  have tc := (t2 2 (by decide) (by omega)).1
  have na := hN.1 _ ta.1 ta.2
  have nb := hN.1 _ tb.1 tb.2
  have nc := hN.1 _ tc.1 tc.2
  have ba : (m 18 i).toNat.testBit (m 20 (i * 4)).toNat = true := (t4 _).mpr ⟨0, by decide, by omega, by rw [Int.add_zero]; omega⟩
  refine qX5_tightenChoice ⟨⟨by omega, by omega⟩, ⟨by omega, by omega⟩, ⟨by omega, by omega⟩, hi, ⟨by omega, by omega⟩, fun hne => ?_, fun he => ?_⟩
  · have h1 : m 15 i = 2 := by omega
    have hd : ∀ h, ru_holds m i h ↔ h (m 20 (i * 4)) = min (h (m 20 (i * 4 + 1))) (h (m 20 (i * 4 + 2))) := fun h => by
      unfold ru_holds
      rw [h1, if_neg (by decide), if_neg (by decide)]
    refine ⟨⟨by omega, by omega⟩, ⟨by omega, by omega⟩, ⟨by omega, by omega⟩, ⟨by omega, by omega⟩, ⟨by omega, by omega⟩, ⟨by omega, by omega⟩, ?_⟩
    refine cs_keep hL ta hN (by decide) (by constructor <;> split <;> omega) (by constructor <;> split <;> omega) (fun m1 r1 k1 => ?_)
    have p1 : PS L i m m1 r1 := kp_ps k1 hN ta ba (fun h hb ht => by
      have := (hd h).mp ht
      have xa := hb _ ta.1 ta.2
      have xb := hb _ tb.1 tb.2
      have xc := hb _ tc.1 tc.2
      constructor <;> split <;> omega)
    cases r1 with
    | false => exact ⟨fun _ => hQ m1 false (p1.tg (fun h => by simp at h)), fun h => by simp at h⟩
    | true =>
      have N1 := p1.1.ne hN
      have na1 := N1.1 _ ta.1 ta.2
      have nc1 := N1.1 _ tc.1 tc.2
      exact ⟨fun h => by simp at h, fun _ => ⟨⟨by omega, by omega⟩, ⟨by omega, by omega⟩, ⟨by omega, by omega⟩, fun h => cs_bot2 hL hi hN hw h1 hQ p1 (Or.inr ⟨h, rfl⟩) ⟨by omega, by omega⟩, fun h => cs_bot2 hL hi hN hw h1 hQ p1 (Or.inl ⟨by omega, rfl⟩) ⟨by omega, by omega⟩⟩⟩
  · have hd : ∀ h, ru_holds m i h ↔ h (m 20 (i * 4)) = max (h (m 20 (i * 4 + 1))) (h (m 20 (i * 4 + 2))) := fun h => by
      unfold ru_holds
      rw [he, if_neg (by decide), if_pos rfl]
    refine ⟨⟨by omega, by omega⟩, ⟨by omega, by omega⟩, ⟨by omega, by omega⟩, ⟨by omega, by omega⟩, ⟨by omega, by omega⟩, ⟨by omega, by omega⟩, ?_⟩
    refine cs_keep hL ta hN (by decide) (by constructor <;> split <;> omega) (by constructor <;> split <;> omega) (fun m1 r1 k1 => ?_)
    have p1 : PS L i m m1 r1 := kp_ps k1 hN ta ba (fun h hb ht => by
      have := (hd h).mp ht
      have xa := hb _ ta.1 ta.2
      have xb := hb _ tb.1 tb.2
      have xc := hb _ tc.1 tc.2
      constructor <;> split <;> omega)
    cases r1 with
    | false => exact ⟨fun _ => hQ m1 false (p1.tg (fun h => by simp at h)), fun h => by simp at h⟩
    | true =>
      have N1 := p1.1.ne hN
      have na1 := N1.1 _ ta.1 ta.2
      have nc1 := N1.1 _ tc.1 tc.2
      exact ⟨fun h => by simp at h, fun _ => ⟨⟨by omega, by omega⟩, ⟨by omega, by omega⟩, ⟨by omega, by omega⟩, fun h => cs_top2 hL hi hN hw he hQ p1 (Or.inr ⟨h, rfl⟩) ⟨by omega, by omega⟩, fun h => cs_top2 hL hi hN hw he hQ p1 (Or.inl ⟨by omega, rfl⟩) ⟨by omega, by omega⟩⟩⟩
end CH2
