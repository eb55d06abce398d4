set_option maxRecDepth 20000 in
theorem qX5_variable {G : vm_G} {d : Nat} {p0 : Int} {p1 : Int} {mem : vm_M} {Q : vm_M → Int → Prop} (h : Q mem ((p0 * 4) + p1)) : vm_ci G d mX5_variable [.inl p0, .inl p1] mem Q := by
  refine vm_enter (al := [some (.inl p0), some (.inl p1)]) 0 okX5_variable (by decide +kernel) rfl rfl ?_
  refine ex_iload_n (pc := 0) 0 rfl rfl ?_
  refine ex_iconst (pc := 1) 1 rfl ?_
  refine ex_imul (pc := 2) 2 rfl ?_
  refine ex_iload_n (pc := 3) 3 rfl rfl ?_
  refine ex_iadd (pc := 4) 4 rfl ?_
  exact ex_iret (pc := 5) 5 rfl (Or.inl rfl) ⟨_, rfl, h⟩
set_option maxRecDepth 20000 in
theorem qX5_begin {G : vm_G} {d : Nat} {p1 : Int} {p2 : Bool} {mem : vm_M} {Q : vm_M → Prop} (h : vm_cn G d mX4_clear [.inr (.inr 8)] mem (fun m1 => (∀ m3, m3 = vm_up m1 6 3 (vm_b2i p2) → vm_ex G (d + 1) mX5_begin 14 [some (.inr (.inr 6)), some (.inl p1), some (.inl (vm_b2i p2)), some (.inl 0)] [] m3 (vm_qn Q)))) : vm_cn G (d + 1) mX5_begin [.inr (.inr 6), .inl p1, .inl (vm_b2i p2)] mem Q := by
  refine vm_enter (al := [some (.inr (.inr 6)), some (.inl p1), some (.inl (vm_b2i p2)), none]) 1 okX5_begin (by decide +kernel) rfl rfl ?_
  refine ex_aload_n (pc := 0) 0 rfl rfl ?_
  refine ex_geta (pc := 1) 0 1 rfl clk5 rfl rfl (Or.inl ww_184) rfl ?_
  refine ex_invV (pc := 4) (M' := mX4_clear) (As := []) (st := []) 2 rfl clk4 rfl rfl calX4_clear (Or.inl ww_405) rfl rfl ?_
  refine vm_call.mono h ?_
  rintro m1 _ ⟨rfl, h⟩
  refine ex_aload_n (pc := 7) 3 rfl rfl ?_
  refine ex_iload_n (pc := 8) 4 rfl rfl ?_
  have h := h _ rfl
  refine ex_putz (pc := 9) 3 5 rfl clk5 rfl rfl (Or.inl ww_190) rfl rfl rfl (vm_b2i_01 _) ?_
  generalize vm_up m1 6 _ (vm_b2i p2) = m3 at h ⊢
  refine ex_iconst (pc := 12) 6 rfl ?_
  refine ex_istore_n (pc := 13) 7 rfl rfl rfl ?_
  exact h
set_option maxRecDepth 20000 in
theorem qX5_begin_14 {G : vm_G} {d : Nat} {v1 : Int} {v2 : Bool} {v3 : Int} {mem : vm_M} {Q : vm_M → Prop} (h : (vm_R v3) ∧ ((16 ≤ v3 → vm_ex G (d + 1) mX5_begin 63 [some (.inr (.inr 6)), some (.inl v1), some (.inl (vm_b2i v2)), some (.inl 0)] [] mem (vm_qn Q)) ∧ (¬ 16 ≤ v3 → (0 ≤ v3 ∧ v3 < 272) ∧ (∀ m3, m3 = vm_up mem 13 v3 0 → (vm_R (vm_rem v3 4)) ∧ (((vm_rem v3 4) = 3 → (v2 = false → (∀ m5, m5 = vm_up m3 14 v3 0 → vm_ex G (d + 1) mX5_begin 14 [some (.inr (.inr 6)), some (.inl v1), some (.inl (vm_b2i v2)), some (.inl (v3 + 1))] [] m5 (vm_qn Q))) ∧ (v2 = true → (∀ m6, m6 = vm_up m3 14 v3 (3 * v1) → vm_ex G (d + 1) mX5_begin 14 [some (.inr (.inr 6)), some (.inl v1), some (.inl (vm_b2i v2)), some (.inl (v3 + 1))] [] m6 (vm_qn Q)))) ∧ (¬ (vm_rem v3 4) = 3 → (∀ m7, m7 = vm_up m3 14 v3 v1 → vm_ex G (d + 1) mX5_begin 14 [some (.inr (.inr 6)), some (.inl v1), some (.inl (vm_b2i v2)), some (.inl (v3 + 1))] [] m7 (vm_qn Q)))))))) : vm_ex G (d + 1) mX5_begin 14 [some (.inr (.inr 6)), some (.inl v1), some (.inl (vm_b2i v2)), some (.inl v3)] [] mem (vm_qn Q) := by
  refine ex_iload_n (pc := 14) 8 rfl rfl ?_
  refine ex_bipush (pc := 15) 9 rfl (by decide) ?_
  obtain ⟨hs1, h⟩ := h
  refine ex_icmp_ge (pc := 17) 61 10 rfl (by decide) hs1 ⟨by decide, by decide⟩ (fun hb => ?_) (fun hb => ?_)
  · have h := h.1 hb
    refine ex_iconst (pc := 61) 36 rfl ?_
    refine ex_istore_n (pc := 62) 37 rfl rfl rfl ?_
    exact h
  · have h := h.2 hb
    refine ex_aload_n (pc := 20) 11 rfl rfl ?_
    refine ex_geta (pc := 21) 1 12 rfl clk5 rfl rfl (Or.inl ww_186) rfl ?_
    refine ex_iload_n (pc := 24) 13 rfl rfl ?_
    refine ex_iconst (pc := 25) 14 rfl ?_
    obtain ⟨hs2, h⟩ := h
    have h := h _ rfl
    refine ex_iastore (pc := 26) 15 rfl rfl rfl hs2 ?_
    generalize vm_up mem 13 v3 0 = m3 at h ⊢
    refine ex_aload_n (pc := 27) 16 rfl rfl ?_
    refine ex_geta (pc := 28) 2 17 rfl clk5 rfl rfl (Or.inl ww_188) rfl ?_
    refine ex_iload_n (pc := 31) 18 rfl rfl ?_
    refine ex_iload_n (pc := 32) 19 rfl rfl ?_
    refine ex_iconst (pc := 33) 20 rfl ?_
    refine ex_irem (pc := 34) 21 rfl ⟨⟨by decide, by decide⟩, by decide⟩ ?_
    refine ex_iconst (pc := 35) 22 rfl ?_
    obtain ⟨hs4, h⟩ := h
    refine ex_icmp_eq (pc := 36) 43 23 rfl (by decide) hs4 ⟨by decide, by decide⟩ (fun hb => ?_) (fun hb => ?_)
    · have h := h.1 hb
      refine ex_iload_n (pc := 43) 26 rfl rfl ?_
      refine ex_if_eq (pc := 44) 53 27 rfl (by decide) (vm_b2i_R _) (fun hb => ?_) (fun hb => ?_)
      · have h := h.1 (vm_b2i_0.mp hb)
        refine ex_iconst (pc := 53) 32 rfl ?_
        have h := h _ rfl
        refine ex_iastore (pc := 54) 33 rfl rfl rfl hs2 ?_
        generalize vm_up m3 14 v3 0 = m5 at h ⊢
        refine ex_iinc (pc := 55) 34 rfl rfl rfl rfl ?_
        refine ex_goto (pc := 58) 14 35 rfl (by decide) ?_
        exact h
      · have h := h.2 (vm_b2i_n.mp hb)
        refine ex_iconst (pc := 47) 28 rfl ?_
        refine ex_iload_n (pc := 48) 29 rfl rfl ?_
        refine ex_imul (pc := 49) 30 rfl ?_
        refine ex_goto (pc := 50) 54 31 rfl (by decide) ?_
        have h := h _ rfl
        refine ex_iastore (pc := 54) 33 rfl rfl rfl hs2 ?_
        generalize vm_up m3 14 v3 (3 * v1) = m6 at h ⊢
        refine ex_iinc (pc := 55) 34 rfl rfl rfl rfl ?_
        refine ex_goto (pc := 58) 14 35 rfl (by decide) ?_
        exact h
    · have h := h.2 hb
      refine ex_iload_n (pc := 39) 24 rfl rfl ?_
      refine ex_goto (pc := 40) 54 25 rfl (by decide) ?_
      have h := h _ rfl
      refine ex_iastore (pc := 54) 33 rfl rfl rfl hs2 ?_
      generalize vm_up m3 14 v3 v1 = m7 at h ⊢
      refine ex_iinc (pc := 55) 34 rfl rfl rfl rfl ?_
      refine ex_goto (pc := 58) 14 35 rfl (by decide) ?_
      exact h
set_option maxRecDepth 20000 in
theorem qX5_begin_63 {G : vm_G} {d : Nat} {v1 : Int} {v2 : Bool} {v3 : Int} {mem : vm_M} {Q : vm_M → Prop} (h : (vm_R v3) ∧ ((4 ≤ v3 → Q mem) ∧ (¬ 4 ≤ v3 → (v2 = false → Q mem) ∧ (v2 = true → vm_cn G d mX4_total [.inr (.inr 8), .inl v3] mem (fun m2 => vm_ex G (d + 1) mX5_begin 63 [some (.inr (.inr 6)), some (.inl v1), some (.inl (vm_b2i v2)), some (.inl (v3 + 1))] [] m2 (vm_qn Q)))))) : vm_ex G (d + 1) mX5_begin 63 [some (.inr (.inr 6)), some (.inl v1), some (.inl (vm_b2i v2)), some (.inl v3)] [] mem (vm_qn Q) := by
  refine ex_iload_n (pc := 63) 38 rfl rfl ?_
  refine ex_iconst (pc := 64) 39 rfl ?_
  obtain ⟨hs1, h⟩ := h
  refine ex_icmp_ge (pc := 65) 86 40 rfl (by decide) hs1 ⟨by decide, by decide⟩ (fun hb => ?_) (fun hb => ?_)
  · have h := h.1 hb
    exact ex_ret (pc := 86) 49 rfl rfl ⟨rfl, h⟩
  · have h := h.2 hb
    refine ex_iload_n (pc := 68) 41 rfl rfl ?_
    refine ex_if_eq (pc := 69) 86 42 rfl (by decide) (vm_b2i_R _) (fun hb => ?_) (fun hb => ?_)
    · have h := h.1 (vm_b2i_0.mp hb)
      exact ex_ret (pc := 86) 49 rfl rfl ⟨rfl, h⟩
    · have h := h.2 (vm_b2i_n.mp hb)
      refine ex_aload_n (pc := 72) 43 rfl rfl ?_
      refine ex_geta (pc := 73) 0 44 rfl clk5 rfl rfl (Or.inl ww_184) rfl ?_
      refine ex_iload_n (pc := 76) 45 rfl rfl ?_
      refine ex_invV (pc := 77) (M' := mX4_total) (As := [.inl v3]) (st := []) 46 rfl clk4 rfl rfl calX4_total (Or.inl ww_409) rfl rfl ?_
      refine vm_call.mono h ?_
      rintro m2 _ ⟨rfl, h⟩
      refine ex_iinc (pc := 80) 47 rfl rfl rfl rfl ?_
      refine ex_goto (pc := 83) 63 48 rfl (by decide) ?_
      exact h
set_option maxRecDepth 20000 in
theorem qX5_restrict {G : vm_G} {d : Nat} {p1 : Int} {p2 : Int} {p3 : Int} {mem : vm_M} {Q : vm_M → Prop} (h : vm_cb G d mX7_isWithin [.inl p1, .inl 0, .inl 15] mem (fun m1 r2 => (r2 = false → Q m1) ∧ (r2 = true → (0 ≤ p1 ∧ p1 < 272) ∧ (vm_R (m1 13 p1)) ∧ (vm_R p2) ∧ (∀ m6, m6 = vm_up m1 13 p1 (if (m1 13 p1) < p2 then p2 else (m1 13 p1)) → (vm_R (m6 14 p1)) ∧ (vm_R p3) ∧ (∀ m9, m9 = vm_up m6 14 p1 (if p3 < (m6 14 p1) then p3 else (m6 14 p1)) → Q m9))))) : vm_cn G (d + 1) mX5_restrict [.inr (.inr 6), .inl p1, .inl p2, .inl p3] mem Q := by
  refine vm_enter (al := [some (.inr (.inr 6)), some (.inl p1), some (.inl p2), some (.inl p3)]) 0 okX5_restrict (by decide +kernel) rfl rfl ?_
  refine ex_iload_n (pc := 0) 0 rfl rfl ?_
  refine ex_iconst (pc := 1) 1 rfl ?_
  refine ex_bipush (pc := 2) 2 rfl (by decide) ?_
  refine ex_invS (pc := 4) (M' := mX7_isWithin) (As := [.inl p1, .inl 0, .inl 15]) (st := []) 3 rfl calX7_isWithin (Or.inr ⟨_, ww_470⟩) rfl rfl ?_
  refine vm_call.mono h ?_
  rintro m1 _ ⟨r2, rfl, h⟩
  refine ex_if_eq (pc := 7) 42 4 rfl (by decide) (vm_b2i_R _) (fun hb => ?_) (fun hb => ?_)
  · have h := h.1 (vm_b2i_0.mp hb)
    exact ex_ret (pc := 42) 25 rfl rfl ⟨rfl, h⟩
  · have h := h.2 (vm_b2i_n.mp hb)
    refine ex_aload_n (pc := 10) 5 rfl rfl ?_
    refine ex_geta (pc := 11) 1 6 rfl clk5 rfl rfl (Or.inl ww_186) rfl ?_
    refine ex_iload_n (pc := 14) 7 rfl rfl ?_
    refine ex_aload_n (pc := 15) 8 rfl rfl ?_
    refine ex_geta (pc := 16) 1 9 rfl clk5 rfl rfl (Or.inl ww_186) rfl ?_
    refine ex_iload_n (pc := 19) 10 rfl rfl ?_
    obtain ⟨hs3, h⟩ := h
    refine ex_iaload (pc := 20) 11 rfl rfl rfl hs3 ?_
    refine ex_iload_n (pc := 21) 12 rfl rfl ?_
    obtain ⟨hs4, h⟩ := h
    obtain ⟨hs5, h⟩ := h
    refine ex_mmax (pc := 22) 13 rfl ww_471 ww_446 ww_99 ww_447 hs4 hs5 rfl ?_
    have h := h _ rfl
    refine ex_iastore (pc := 25) 14 rfl rfl rfl hs3 ?_
    generalize vm_up m1 13 p1 (if (m1 13 p1) < p2 then p2 else (m1 13 p1)) = m6 at h ⊢
    refine ex_aload_n (pc := 26) 15 rfl rfl ?_
    refine ex_geta (pc := 27) 2 16 rfl clk5 rfl rfl (Or.inl ww_188) rfl ?_
    refine ex_iload_n (pc := 30) 17 rfl rfl ?_
    refine ex_aload_n (pc := 31) 18 rfl rfl ?_
    refine ex_geta (pc := 32) 2 19 rfl clk5 rfl rfl (Or.inl ww_188) rfl ?_
    refine ex_iload_n (pc := 35) 20 rfl rfl ?_
    refine ex_iaload (pc := 36) 21 rfl rfl rfl hs3 ?_
    refine ex_iload_n (pc := 37) 22 rfl rfl ?_
    obtain ⟨hs7, h⟩ := h
    obtain ⟨hs8, h⟩ := h
    refine ex_mmin (pc := 38) 23 rfl ww_472 ww_473 ww_99 ww_474 hs7 hs8 rfl ?_
    have h := h _ rfl
    refine ex_iastore (pc := 41) 24 rfl rfl rfl hs3 ?_
    generalize vm_up m6 14 p1 (if p3 < (m6 14 p1) then p3 else (m6 14 p1)) = m9 at h ⊢
    exact ex_ret (pc := 42) 25 rfl rfl ⟨rfl, h⟩
set_option maxRecDepth 20000 in
theorem qX5_settleAll {G : vm_G} {d : Nat}  {mem : vm_M} {Q : vm_M → Bool → Prop} (h : vm_ex G (d + 1) mX5_settleAll 2 [some (.inr (.inr 6)), some (.inl 0)] [] mem (vm_qb Q)) : vm_cb G (d + 1) mX5_settleAll [.inr (.inr 6)] mem Q := by
  refine vm_enter (al := [some (.inr (.inr 6)), none]) 1 okX5_settleAll (by decide +kernel) rfl rfl ?_
  refine ex_iconst (pc := 0) 0 rfl ?_
  refine ex_istore_n (pc := 1) 1 rfl rfl rfl ?_
  exact h
set_option maxRecDepth 20000 in
theorem qX5_settleAll_2 {G : vm_G} {d : Nat} {v1 : Int} {mem : vm_M} {Q : vm_M → Bool → Prop} (h : (vm_R v1) ∧ ((16 ≤ v1 → vm_cb G d mX5_settle [.inr (.inr 6), .inl 0, .inl 65535] mem (fun m2 r3 => Q m2 r3)) ∧ (¬ 16 ≤ v1 → (0 ≤ v1 ∧ v1 < 272) ∧ (vm_R (mem 13 v1)) ∧ (vm_R (mem 14 v1)) ∧ (((mem 13 v1) ≤ (mem 14 v1) → vm_ex G (d + 1) mX5_settleAll 2 [some (.inr (.inr 6)), some (.inl (v1 + 1))] [] mem (vm_qb Q)) ∧ (¬ (mem 13 v1) ≤ (mem 14 v1) → Q mem false))))) : vm_ex G (d + 1) mX5_settleAll 2 [some (.inr (.inr 6)), some (.inl v1)] [] mem (vm_qb Q) := by
  refine ex_iload_n (pc := 2) 2 rfl rfl ?_
  refine ex_bipush (pc := 3) 3 rfl (by decide) ?_
  obtain ⟨hs1, h⟩ := h
  refine ex_icmp_ge (pc := 5) 31 4 rfl (by decide) hs1 ⟨by decide, by decide⟩ (fun hb => ?_) (fun hb => ?_)
  · have h := h.1 hb
    refine ex_aload_n (pc := 31) 18 rfl rfl ?_
    refine ex_iconst (pc := 32) 19 rfl ?_
    refine ex_ldc (n := 65535) (pc := 33) 20 rfl ww_496 (by decide) ?_
    refine ex_invV (pc := 35) (M' := mX5_settle) (As := [.inl 0, .inl 65535]) (st := []) 21 rfl clk5 rfl rfl calX5_settle (Or.inl ww_497) rfl rfl ?_
    refine vm_call.mono h ?_
    rintro m2 _ ⟨r3, rfl, h⟩
    exact ex_iret (pc := 38) 22 rfl (Or.inr ⟨rfl, vm_b2i_01 _⟩) ⟨_, rfl, h⟩
  · have h := h.2 hb
    refine ex_aload_n (pc := 8) 5 rfl rfl ?_
    refine ex_geta (pc := 9) 1 6 rfl clk5 rfl rfl (Or.inl ww_186) rfl ?_
    refine ex_iload_n (pc := 12) 7 rfl rfl ?_
    obtain ⟨hs4, h⟩ := h
    refine ex_iaload (pc := 13) 8 rfl rfl rfl hs4 ?_
    refine ex_aload_n (pc := 14) 9 rfl rfl ?_
    refine ex_geta (pc := 15) 2 10 rfl clk5 rfl rfl (Or.inl ww_188) rfl ?_
    refine ex_iload_n (pc := 18) 11 rfl rfl ?_
    refine ex_iaload (pc := 19) 12 rfl rfl rfl hs4 ?_
    obtain ⟨hs5, h⟩ := h
    obtain ⟨hs6, h⟩ := h
    refine ex_icmp_le (pc := 20) 25 13 rfl (by decide) hs5 hs6 (fun hb => ?_) (fun hb => ?_)
    · have h := h.1 hb
      refine ex_iinc (pc := 25) 16 rfl rfl rfl rfl ?_
      refine ex_goto (pc := 28) 2 17 rfl (by decide) ?_
      exact h
    · have h := h.2 hb
      refine ex_iconst (pc := 23) 14 rfl ?_
      exact ex_iret (pc := 24) 15 rfl (Or.inr ⟨rfl, by decide⟩) ⟨false, rfl, h⟩
set_option maxRecDepth 20000 in
theorem qX5_settleOn {G : vm_G} {d : Nat} {p1 : Int} {p2 : Int} {mem : vm_M} {Q : vm_M → Prop} (h : vm_cn G d mX5_restrict [.inr (.inr 6), .inl p1, .inl p2, .inl p2] mem (fun m1 => vm_cb G d mX5_settle [.inr (.inr 6), .inl 0, .inl (vm_shl 1 p1)] m1 (fun m3 r4 => Q m3))) : vm_cn G (d + 1) mX5_settleOn [.inr (.inr 6), .inl p1, .inl p2] mem Q := by
  refine vm_enter (al := [some (.inr (.inr 6)), some (.inl p1), some (.inl p2)]) 0 okX5_settleOn (by decide +kernel) rfl rfl ?_
  refine ex_aload_n (pc := 0) 0 rfl rfl ?_
  refine ex_iload_n (pc := 1) 1 rfl rfl ?_
  refine ex_iload_n (pc := 2) 2 rfl rfl ?_
  refine ex_iload_n (pc := 3) 3 rfl rfl ?_
  refine ex_invV (pc := 4) (M' := mX5_restrict) (As := [.inl p1, .inl p2, .inl p2]) (st := []) 4 rfl clk5 rfl rfl calX5_restrict (Or.inl ww_585) rfl rfl ?_
  refine vm_call.mono h ?_
  rintro m1 _ ⟨rfl, h⟩
  refine ex_aload_n (pc := 7) 5 rfl rfl ?_
  refine ex_iconst (pc := 8) 6 rfl ?_
  refine ex_iconst (pc := 9) 7 rfl ?_
  refine ex_iload_n (pc := 10) 8 rfl rfl ?_
  refine ex_ishl (pc := 11) 9 rfl ?_
  refine ex_invV (pc := 12) (M' := mX5_settle) (As := [.inl 0, .inl (vm_shl 1 p1)]) (st := []) 10 rfl clk5 rfl rfl calX5_settle (Or.inl ww_497) rfl rfl ?_
  refine vm_call.mono h ?_
  rintro m3 _ ⟨r4, rfl, h⟩
  refine ex_popi (pc := 15) 11 rfl ?_
  exact ex_ret (pc := 16) 12 rfl rfl ⟨rfl, h⟩
set_option maxRecDepth 20000 in
theorem qX5_howMany {G : vm_G} {d : Nat} {p1 : Int} {mem : vm_M} {Q : vm_M → Int → Prop} (h : vm_cb G d mX5_settleAll [.inr (.inr 6)] mem (fun m1 r2 => (r2 = false → Q m1 0) ∧ (r2 = true → vm_ci G d mX5_waysFrom [.inr (.inr 6), .inl 0, .inl p1] m1 (fun m3 r4 => Q m3 r4)))) : vm_ci G (d + 1) mX5_howMany [.inr (.inr 6), .inl p1] mem Q := by
  refine vm_enter (al := [some (.inr (.inr 6)), some (.inl p1)]) 0 okX5_howMany (by decide +kernel) rfl rfl ?_
  refine ex_aload_n (pc := 0) 0 rfl rfl ?_
  refine ex_invV (pc := 1) (M' := mX5_settleAll) (As := []) (st := []) 1 rfl clk5 rfl rfl calX5_settleAll (Or.inl ww_492) rfl rfl ?_
  refine vm_call.mono h ?_
  rintro m1 _ ⟨r2, rfl, h⟩
  refine ex_if_eq (pc := 4) 16 2 rfl (by decide) (vm_b2i_R _) (fun hb => ?_) (fun hb => ?_)
  · have h := h.1 (vm_b2i_0.mp hb)
    refine ex_iconst (pc := 16) 8 rfl ?_
    exact ex_iret (pc := 17) 9 rfl (Or.inl rfl) ⟨_, rfl, h⟩
  · have h := h.2 (vm_b2i_n.mp hb)
    refine ex_aload_n (pc := 7) 3 rfl rfl ?_
    refine ex_iconst (pc := 8) 4 rfl ?_
    refine ex_iload_n (pc := 9) 5 rfl rfl ?_
    refine ex_invV (pc := 10) (M' := mX5_waysFrom) (As := [.inl 0, .inl p1]) (st := []) 6 rfl clk5 rfl rfl calX5_waysFrom (Or.inl ww_521) rfl rfl ?_
    refine vm_call.mono h ?_
    rintro m3 _ ⟨r4, rfl, h⟩
    refine ex_goto (pc := 13) 17 7 rfl (by decide) ?_
    exact ex_iret (pc := 17) 9 rfl (Or.inl rfl) ⟨_, rfl, h⟩
set_option maxRecDepth 20000 in
theorem qX5_canBe {G : vm_G} {d : Nat} {p1 : Int} {p2 : Int} {mem : vm_M} {Q : vm_M → Bool → Prop} (h : vm_cn G d mX5_fix [.inr (.inr 6), .inl 0, .inl p1, .inl p2] mem (fun m1 => vm_cb G d mX5_settle [.inr (.inr 6), .inl 1, .inl (vm_shl 1 p1)] m1 (fun m3 r4 => (r4 = false → Q m3 false) ∧ (r4 = true → vm_ci G d mX5_waysFrom [.inr (.inr 6), .inl 1, .inl 1] m3 (fun m5 r6 => (vm_R r6) ∧ ((r6 = 0 → Q m5 false) ∧ (¬ r6 = 0 → Q m5 true))))))) : vm_cb G (d + 1) mX5_canBe [.inr (.inr 6), .inl p1, .inl p2] mem Q := by
  refine vm_enter (al := [some (.inr (.inr 6)), some (.inl p1), some (.inl p2)]) 0 okX5_canBe (by decide +kernel) rfl rfl ?_
  refine ex_aload_n (pc := 0) 0 rfl rfl ?_
  refine ex_iconst (pc := 1) 1 rfl ?_
  refine ex_iload_n (pc := 2) 2 rfl rfl ?_
  refine ex_iload_n (pc := 3) 3 rfl rfl ?_
  refine ex_invV (pc := 4) (M' := mX5_fix) (As := [.inl 0, .inl p1, .inl p2]) (st := []) 4 rfl clk5 rfl rfl calX5_fix (Or.inl ww_544) rfl rfl ?_
  refine vm_call.mono h ?_
  rintro m1 _ ⟨rfl, h⟩
  refine ex_aload_n (pc := 7) 5 rfl rfl ?_
  refine ex_iconst (pc := 8) 6 rfl ?_
  refine ex_iconst (pc := 9) 7 rfl ?_
  refine ex_iload_n (pc := 10) 8 rfl rfl ?_
  refine ex_ishl (pc := 11) 9 rfl ?_
  refine ex_invV (pc := 12) (M' := mX5_settle) (As := [.inl 1, .inl (vm_shl 1 p1)]) (st := []) 10 rfl clk5 rfl rfl calX5_settle (Or.inl ww_497) rfl rfl ?_
  refine vm_call.mono h ?_
  rintro m3 _ ⟨r4, rfl, h⟩
  refine ex_if_eq (pc := 15) 31 11 rfl (by decide) (vm_b2i_R _) (fun hb => ?_) (fun hb => ?_)
  · have h := h.1 (vm_b2i_0.mp hb)
    refine ex_iconst (pc := 31) 19 rfl ?_
    exact ex_iret (pc := 32) 20 rfl (Or.inr ⟨rfl, by decide⟩) ⟨false, rfl, h⟩
  · have h := h.2 (vm_b2i_n.mp hb)
    refine ex_aload_n (pc := 18) 12 rfl rfl ?_
    refine ex_iconst (pc := 19) 13 rfl ?_
    refine ex_iconst (pc := 20) 14 rfl ?_
    refine ex_invV (pc := 21) (M' := mX5_waysFrom) (As := [.inl 1, .inl 1]) (st := []) 15 rfl clk5 rfl rfl calX5_waysFrom (Or.inl ww_521) rfl rfl ?_
    refine vm_call.mono h ?_
    rintro m5 _ ⟨r6, rfl, h⟩
    obtain ⟨hs7, h⟩ := h
    refine ex_if_eq (pc := 24) 31 16 rfl (by decide) hs7 (fun hb => ?_) (fun hb => ?_)
    · have h := h.1 hb
      refine ex_iconst (pc := 31) 19 rfl ?_
      exact ex_iret (pc := 32) 20 rfl (Or.inr ⟨rfl, by decide⟩) ⟨false, rfl, h⟩
    · have h := h.2 hb
      refine ex_iconst (pc := 27) 17 rfl ?_
      refine ex_goto (pc := 28) 32 18 rfl (by decide) ?_
      exact ex_iret (pc := 32) 20 rfl (Or.inr ⟨rfl, by decide⟩) ⟨true, rfl, h⟩
set_option maxRecDepth 20000 in
theorem qX5_waysFrom {G : vm_G} {d : Nat} {p1 : Int} {p2 : Int} {mem : vm_M} {Q : vm_M → Int → Prop} (h : vm_ex G (d + 1) mX5_waysFrom 2 [some (.inr (.inr 6)), some (.inl p1), some (.inl p2), some (.inl 0)] [] mem (vm_qi Q)) : vm_ci G (d + 1) mX5_waysFrom [.inr (.inr 6), .inl p1, .inl p2] mem Q := by
  refine vm_enter (al := [some (.inr (.inr 6)), some (.inl p1), some (.inl p2), none]) 1 okX5_waysFrom (by decide +kernel) rfl rfl ?_
  refine ex_iconst (pc := 0) 0 rfl ?_
  refine ex_istore_n (pc := 1) 1 rfl rfl rfl ?_
  exact h
set_option maxRecDepth 20000 in
theorem qX5_waysFrom_2 {G : vm_G} {d : Nat} {v1 : Int} {v2 : Int} {v3 : Int} {mem : vm_M} {Q : vm_M → Int → Prop} (h : (vm_R v3) ∧ ((3 ≤ v3 → vm_ci G d mX5_ways [.inr (.inr 6), .inl v1, .inl 65535, .inl v2] mem (fun m2 r3 => Q m2 r3)) ∧ (¬ 3 ≤ v3 → (vm_R (mem 6 3)) ∧ (((mem 6 3) = 0 → vm_ci G d mX5_ways [.inr (.inr 6), .inl v1, .inl 65535, .inl v2] mem (fun m5 r6 => Q m5 r6)) ∧ (¬ (mem 6 3) = 0 → vm_ci G d mX5_ways [.inr (.inr 6), .inl v1, .inl (vm_shl 4369 v3), .inl 1] mem (fun m7 r8 => (vm_R r8) ∧ ((¬ r8 = 0 → vm_ex G (d + 1) mX5_waysFrom 2 [some (.inr (.inr 6)), some (.inl v1), some (.inl v2), some (.inl (v3 + 1))] [] m7 (vm_qi Q)) ∧ (r8 = 0 → Q m7 0)))))))) : vm_ex G (d + 1) mX5_waysFrom 2 [some (.inr (.inr 6)), some (.inl v1), some (.inl v2), some (.inl v3)] [] mem (vm_qi Q) := by
  refine ex_iload_n (pc := 2) 2 rfl rfl ?_
  refine ex_iconst (pc := 3) 3 rfl ?_
  obtain ⟨hs1, h⟩ := h
  refine ex_icmp_ge (pc := 4) 36 4 rfl (by decide) hs1 ⟨by decide, by decide⟩ (fun hb => ?_) (fun hb => ?_)
  · have h := h.1 hb
    refine ex_aload_n (pc := 36) 20 rfl rfl ?_
    refine ex_iload_n (pc := 37) 21 rfl rfl ?_
    refine ex_ldc (n := 65535) (pc := 38) 22 rfl ww_496 (by decide) ?_
    refine ex_iload_n (pc := 40) 23 rfl rfl ?_
    refine ex_invS (pc := 41) (M' := mX5_ways) (As := [.inr (.inr 6), .inl v1, .inl 65535, .inl v2]) (st := []) 24 rfl calX5_ways (Or.inl ww_525) rfl rfl ?_
    refine vm_call.mono h ?_
    rintro m2 _ ⟨r3, rfl, h⟩
    exact ex_iret (pc := 44) 25 rfl (Or.inl rfl) ⟨_, rfl, h⟩
  · have h := h.2 hb
    refine ex_aload_n (pc := 7) 5 rfl rfl ?_
    refine ex_geti (pc := 8) 3 6 rfl clk5 rfl rfl (Or.inl ww_190) rfl ?_
    obtain ⟨hs4, h⟩ := h
    refine ex_if_eq (pc := 11) 36 7 rfl (by decide) hs4 (fun hb => ?_) (fun hb => ?_)
    · have h := h.1 hb
      refine ex_aload_n (pc := 36) 20 rfl rfl ?_
      refine ex_iload_n (pc := 37) 21 rfl rfl ?_
      refine ex_ldc (n := 65535) (pc := 38) 22 rfl ww_496 (by decide) ?_
      refine ex_iload_n (pc := 40) 23 rfl rfl ?_
      refine ex_invS (pc := 41) (M' := mX5_ways) (As := [.inr (.inr 6), .inl v1, .inl 65535, .inl v2]) (st := []) 24 rfl calX5_ways (Or.inl ww_525) rfl rfl ?_
      refine vm_call.mono h ?_
      rintro m5 _ ⟨r6, rfl, h⟩
      exact ex_iret (pc := 44) 25 rfl (Or.inl rfl) ⟨_, rfl, h⟩
    · have h := h.2 hb
      refine ex_aload_n (pc := 14) 8 rfl rfl ?_
      refine ex_iload_n (pc := 15) 9 rfl rfl ?_
      refine ex_sipush (pc := 16) 10 rfl (by decide) ?_
      refine ex_iload_n (pc := 19) 11 rfl rfl ?_
      refine ex_ishl (pc := 20) 12 rfl ?_
      refine ex_iconst (pc := 21) 13 rfl ?_
      refine ex_invS (pc := 22) (M' := mX5_ways) (As := [.inr (.inr 6), .inl v1, .inl (vm_shl 4369 v3), .inl 1]) (st := []) 14 rfl calX5_ways (Or.inl ww_525) rfl rfl ?_
      refine vm_call.mono h ?_
      rintro m7 _ ⟨r8, rfl, h⟩
      obtain ⟨hs9, h⟩ := h
      refine ex_if_ne (pc := 25) 30 15 rfl (by decide) hs9 (fun hb => ?_) (fun hb => ?_)
      · have h := h.1 hb
        refine ex_iinc (pc := 30) 18 rfl rfl rfl rfl ?_
        refine ex_goto (pc := 33) 2 19 rfl (by decide) ?_
        exact h
      · have h := h.2 hb
        refine ex_iconst (pc := 28) 16 rfl ?_
        exact ex_iret (pc := 29) 17 rfl (Or.inl rfl) ⟨_, rfl, h⟩
set_option maxRecDepth 20000 in
theorem qX5_ways {G : vm_G} {d : Nat} {p1 : Int} {p2 : Int} {p3 : Int} {mem : vm_M} {Q : vm_M → Int → Prop} (h : vm_ci G d mX5_unfixed [.inr (.inr 6), .inl p1, .inl p2] mem (fun m1 r2 => (vm_R p1) ∧ ((p1 < 0 → (vm_R r2) ∧ ((¬ r2 = 0 → Q m1 0) ∧ (r2 = 0 → Q m1 1))) ∧ (¬ p1 < 0 → ((p1 < 16 → vm_ex G (d + 1) mX5_ways 35 [some (.inr (.inr 6)), some (.inl p1), some (.inl p2), some (.inl p3), some (.inl r2), some (.inl 1), some (.inl 0), none, none, none, none, none, none] [] m1 (vm_qi Q)) ∧ (¬ p1 < 16 → (vm_R r2) ∧ ((¬ r2 = 0 → Q m1 0) ∧ (r2 = 0 → Q m1 1)))))))) : vm_ci G (d + 1) mX5_ways [.inr (.inr 6), .inl p1, .inl p2, .inl p3] mem Q := by
  refine vm_enter (al := [some (.inr (.inr 6)), some (.inl p1), some (.inl p2), some (.inl p3), none, none, none, none, none, none, none, none, none]) 9 okX5_ways (by decide +kernel) rfl rfl ?_
  refine ex_aload_n (pc := 0) 0 rfl rfl ?_
  refine ex_iload_n (pc := 1) 1 rfl rfl ?_
  refine ex_iload_n (pc := 2) 2 rfl rfl ?_
  refine ex_invV (pc := 3) (M' := mX5_unfixed) (As := [.inl p1, .inl p2]) (st := []) 3 rfl clk5 rfl rfl calX5_unfixed (Or.inl ww_528) rfl rfl ?_
  refine vm_call.mono h ?_
  rintro m1 _ ⟨r2, rfl, h⟩
  refine ex_istore (pc := 6) 4 rfl rfl rfl ?_
  refine ex_iload_n (pc := 8) 5 rfl rfl ?_
  obtain ⟨hs3, h⟩ := h
  refine ex_if_lt (pc := 9) 18 6 rfl (by decide) hs3 (fun hb => ?_) (fun hb => ?_)
  · have h := h.1 hb
    refine ex_iload (pc := 18) 10 rfl rfl ?_
    obtain ⟨hs4, h⟩ := h
    refine ex_if_ne (pc := 20) 27 11 rfl (by decide) hs4 (fun hb => ?_) (fun hb => ?_)
    · have h := h.1 hb
      refine ex_iconst (pc := 27) 14 rfl ?_
      exact ex_iret (pc := 28) 15 rfl (Or.inl rfl) ⟨_, rfl, h⟩
    · have h := h.2 hb
      refine ex_iconst (pc := 23) 12 rfl ?_
      refine ex_goto (pc := 24) 28 13 rfl (by decide) ?_
      exact ex_iret (pc := 28) 15 rfl (Or.inl rfl) ⟨_, rfl, h⟩
  · have h := h.2 hb
    refine ex_iload_n (pc := 12) 7 rfl rfl ?_
    refine ex_bipush (pc := 13) 8 rfl (by decide) ?_
    refine ex_icmp_lt (pc := 15) 29 9 rfl (by decide) hs3 ⟨by decide, by decide⟩ (fun hb => ?_) (fun hb => ?_)
    · have h := h.1 hb
      refine ex_iconst (pc := 29) 16 rfl ?_
      refine ex_istore (pc := 30) 17 rfl rfl rfl ?_
      refine ex_iconst (pc := 32) 18 rfl ?_
      refine ex_istore (pc := 33) 19 rfl rfl rfl ?_
      exact h
    · have h := h.2 hb
      refine ex_iload (pc := 18) 10 rfl rfl ?_
      obtain ⟨hs5, h⟩ := h
      refine ex_if_ne (pc := 20) 27 11 rfl (by decide) hs5 (fun hb => ?_) (fun hb => ?_)
      · have h := h.1 hb
        refine ex_iconst (pc := 27) 14 rfl ?_
        exact ex_iret (pc := 28) 15 rfl (Or.inl rfl) ⟨_, rfl, h⟩
      · have h := h.2 hb
        refine ex_iconst (pc := 23) 12 rfl ?_
        refine ex_goto (pc := 24) 28 13 rfl (by decide) ?_
        exact ex_iret (pc := 28) 15 rfl (Or.inl rfl) ⟨_, rfl, h⟩
set_option maxRecDepth 20000 in
theorem qX5_ways_35 {G : vm_G} {d : Nat} {v1 : Int} {v2 : Int} {v3 : Int} {v4 : Int} {v5 : Int} {v6 : Int} {mem : vm_M} {Q : vm_M → Int → Prop} (h : (vm_R v6) ∧ ((16 ≤ v6 → Q mem v5) ∧ (¬ 16 ≤ v6 → (vm_R v4) ∧ ((v4 = 0 → Q mem v5) ∧ (¬ v4 = 0 → vm_ci G d mX5_partOf [.inr (.inr 6), .inl v1, .inl v4] mem (fun m3 r4 => vm_ci G d mX5_choose [.inr (.inr 6), .inl v1, .inl r4] m3 (fun m5 r6 => (0 ≤ ((v1 * 16) + r6) ∧ ((v1 * 16) + r6) < 272) ∧ (vm_R v5) ∧ (vm_R v3) ∧ ((v3 ≤ v5 → vm_ex G (d + 1) mX5_ways 118 [some (.inr (.inr 6)), some (.inl v1), some (.inl v2), some (.inl v3), some (.inl (vm_and v4 (vm_xor r4 (-1)))), some (.inl v5), some (.inl v6), some (.inl r4), some (.inl r6), some (.inl (m5 14 ((v1 * 16) + r6))), some (.inl 1), some (.inl 0), some (.inl (m5 13 ((v1 * 16) + r6)))] [] m5 (vm_qi Q)) ∧ (¬ v3 ≤ v5 → vm_ex G (d + 1) mX5_ways 118 [some (.inr (.inr 6)), some (.inl v1), some (.inl v2), some (.inl v3), some (.inl (vm_and v4 (vm_xor r4 (-1)))), some (.inl v5), some (.inl v6), some (.inl r4), some (.inl r6), some (.inl (m5 14 ((v1 * 16) + r6))), some (.inl v3), some (.inl 0), some (.inl (m5 13 ((v1 * 16) + r6)))] [] m5 (vm_qi Q)))))))))) : vm_ex G (d + 1) mX5_ways 35 [some (.inr (.inr 6)), some (.inl v1), some (.inl v2), some (.inl v3), some (.inl v4), some (.inl v5), some (.inl v6), none, none, none, none, none, none] [] mem (vm_qi Q) := by
  refine ex_iload (pc := 35) 20 rfl rfl ?_
  refine ex_bipush (pc := 37) 21 rfl (by decide) ?_
  obtain ⟨hs1, h⟩ := h
  refine ex_icmp_ge (pc := 39) 211 22 rfl (by decide) hs1 ⟨by decide, by decide⟩ (fun hb => ?_) (fun hb => ?_)
  · have h := h.1 hb
    refine ex_iload (pc := 211) 120 rfl rfl ?_
    exact ex_iret (pc := 213) 121 rfl (Or.inl rfl) ⟨_, rfl, h⟩
  · have h := h.2 hb
    refine ex_iload (pc := 42) 23 rfl rfl ?_
    obtain ⟨hs2, h⟩ := h
    refine ex_if_eq (pc := 44) 211 24 rfl (by decide) hs2 (fun hb => ?_) (fun hb => ?_)
    · have h := h.1 hb
      refine ex_iload (pc := 211) 120 rfl rfl ?_
      exact ex_iret (pc := 213) 121 rfl (Or.inl rfl) ⟨_, rfl, h⟩
    · have h := h.2 hb
      refine ex_aload_n (pc := 47) 25 rfl rfl ?_
      refine ex_iload_n (pc := 48) 26 rfl rfl ?_
      refine ex_iload (pc := 49) 27 rfl rfl ?_
      refine ex_invV (pc := 51) (M' := mX5_partOf) (As := [.inl v1, .inl v4]) (st := []) 28 rfl clk5 rfl rfl calX5_partOf (Or.inl ww_532) rfl rfl ?_
      refine vm_call.mono h ?_
      rintro m3 _ ⟨r4, rfl, h⟩
      refine ex_istore (pc := 54) 29 rfl rfl rfl ?_
      refine ex_iload (pc := 56) 30 rfl rfl ?_
      refine ex_iload (pc := 58) 31 rfl rfl ?_
      refine ex_iconst (pc := 60) 32 rfl ?_
      refine ex_ixor (pc := 61) 33 rfl ?_
      refine ex_iand (pc := 62) 34 rfl ?_
      refine ex_istore (pc := 63) 35 rfl rfl rfl ?_
      refine ex_aload_n (pc := 65) 36 rfl rfl ?_
      refine ex_iload_n (pc := 66) 37 rfl rfl ?_
      refine ex_iload (pc := 67) 38 rfl rfl ?_
      refine ex_invV (pc := 69) (M' := mX5_choose) (As := [.inl v1, .inl r4]) (st := []) 39 rfl clk5 rfl rfl calX5_choose (Or.inl ww_540) rfl rfl ?_
      refine vm_call.mono h ?_
      rintro m5 _ ⟨r6, rfl, h⟩
      refine ex_istore (pc := 72) 40 rfl rfl rfl ?_
      refine ex_aload_n (pc := 74) 41 rfl rfl ?_
      refine ex_geta (pc := 75) 2 42 rfl clk5 rfl rfl (Or.inl ww_188) rfl ?_
      refine ex_iload_n (pc := 78) 43 rfl rfl ?_
      refine ex_bipush (pc := 79) 44 rfl (by decide) ?_
      refine ex_imul (pc := 81) 45 rfl ?_
      refine ex_iload (pc := 82) 46 rfl rfl ?_
      refine ex_iadd (pc := 84) 47 rfl ?_
      obtain ⟨hs7, h⟩ := h
      refine ex_iaload (pc := 85) 48 rfl rfl rfl hs7 ?_
      refine ex_istore (pc := 86) 49 rfl rfl rfl ?_
      refine ex_iload (pc := 88) 50 rfl rfl ?_
      refine ex_iload_n (pc := 90) 51 rfl rfl ?_
      obtain ⟨hs8, h⟩ := h
      obtain ⟨hs9, h⟩ := h
      refine ex_icmp_ge (pc := 91) 98 52 rfl (by decide) hs8 hs9 (fun hb => ?_) (fun hb => ?_)
      · have h := h.1 hb
        refine ex_iconst (pc := 98) 55 rfl ?_
        refine ex_istore (pc := 99) 56 rfl rfl rfl ?_
        refine ex_iconst (pc := 101) 57 rfl ?_
        refine ex_istore (pc := 102) 58 rfl rfl rfl ?_
        refine ex_aload_n (pc := 104) 59 rfl rfl ?_
        refine ex_geta (pc := 105) 1 60 rfl clk5 rfl rfl (Or.inl ww_186) rfl ?_
        refine ex_iload_n (pc := 108) 61 rfl rfl ?_
        refine ex_bipush (pc := 109) 62 rfl (by decide) ?_
        refine ex_imul (pc := 111) 63 rfl ?_
        refine ex_iload (pc := 112) 64 rfl rfl ?_
        refine ex_iadd (pc := 114) 65 rfl ?_
        refine ex_iaload (pc := 115) 66 rfl rfl rfl hs7 ?_
        refine ex_istore (pc := 116) 67 rfl rfl rfl ?_
        exact h
      · have h := h.2 hb
        refine ex_iload_n (pc := 94) 53 rfl rfl ?_
        refine ex_goto (pc := 95) 99 54 rfl (by decide) ?_
        refine ex_istore (pc := 99) 56 rfl rfl rfl ?_
        refine ex_iconst (pc := 101) 57 rfl ?_
        refine ex_istore (pc := 102) 58 rfl rfl rfl ?_
        refine ex_aload_n (pc := 104) 59 rfl rfl ?_
        refine ex_geta (pc := 105) 1 60 rfl clk5 rfl rfl (Or.inl ww_186) rfl ?_
        refine ex_iload_n (pc := 108) 61 rfl rfl ?_
        refine ex_bipush (pc := 109) 62 rfl (by decide) ?_
        refine ex_imul (pc := 111) 63 rfl ?_
        refine ex_iload (pc := 112) 64 rfl rfl ?_
        refine ex_iadd (pc := 114) 65 rfl ?_
        refine ex_iaload (pc := 115) 66 rfl rfl rfl hs7 ?_
        refine ex_istore (pc := 116) 67 rfl rfl rfl ?_
        exact h
set_option maxRecDepth 20000 in
theorem qX5_ways_118 {G : vm_G} {d : Nat} {v1 : Int} {v2 : Int} {v3 : Int} {v4 : Int} {v5 : Int} {v6 : Int} {v7 : Int} {v8 : Int} {v9 : Int} {v10 : Int} {v11 : Int} {v12 : Int} {mem : vm_M} {Q : vm_M → Int → Prop} (h : (vm_R v12) ∧ (vm_R v9) ∧ ((v9 < v12 → (vm_R v11) ∧ ((¬ v11 = 0 → (vm_R v3) ∧ (vm_R (v5 * v11)) ∧ vm_ex G (d + 1) mX5_ways 35 [some (.inr (.inr 6)), some (.inl v1), some (.inl v2), some (.inl v3), some (.inl v4), some (.inl (if (v5 * v11) < v3 then (v5 * v11) else v3)), some (.inl (v6 + 1)), none, none, none, none, none, none] [] mem (vm_qi Q)) ∧ (v11 = 0 → Q mem 0))) ∧ (¬ v9 < v12 → (vm_R v11) ∧ (vm_R v10) ∧ ((v10 ≤ v11 → ((¬ v11 = 0 → (vm_R v3) ∧ (vm_R (v5 * v11)) ∧ vm_ex G (d + 1) mX5_ways 35 [some (.inr (.inr 6)), some (.inl v1), some (.inl v2), some (.inl v3), some (.inl v4), some (.inl (if (v5 * v11) < v3 then (v5 * v11) else v3)), some (.inl (v6 + 1)), none, none, none, none, none, none] [] mem (vm_qi Q)) ∧ (v11 = 0 → Q mem 0))) ∧ (¬ v10 ≤ v11 → vm_cn G d mX5_fix [.inr (.inr 6), .inl v1, .inl v8, .inl v12] mem (fun m10 => vm_cb G d mX5_settle [.inr (.inr 6), .inl (v1 + 1), .inl (vm_shl 1 v8)] m10 (fun m12 r13 => (r13 = false → vm_ex G (d + 1) mX5_ways 118 [some (.inr (.inr 6)), some (.inl v1), some (.inl v2), some (.inl v3), some (.inl v4), some (.inl v5), some (.inl v6), some (.inl v7), some (.inl v8), some (.inl v9), some (.inl v10), some (.inl v11), some (.inl (v12 + 1))] [] m12 (vm_qi Q)) ∧ (r13 = true → vm_ci G d mX5_ways [.inr (.inr 6), .inl (v1 + 1), .inl (vm_and v7 (vm_xor (vm_shl 1 v8) (-1))), .inl (v10 - v11)] m12 (fun m14 r15 => vm_ex G (d + 1) mX5_ways 118 [some (.inr (.inr 6)), some (.inl v1), some (.inl v2), some (.inl v3), some (.inl v4), some (.inl v5), some (.inl v6), some (.inl v7), some (.inl v8), some (.inl v9), some (.inl v10), some (.inl (v11 + r15)), some (.inl (v12 + 1))] [] m14 (vm_qi Q)))))))))) : vm_ex G (d + 1) mX5_ways 118 [some (.inr (.inr 6)), some (.inl v1), some (.inl v2), some (.inl v3), some (.inl v4), some (.inl v5), some (.inl v6), some (.inl v7), some (.inl v8), some (.inl v9), some (.inl v10), some (.inl v11), some (.inl v12)] [] mem (vm_qi Q) := by
  refine ex_iload (pc := 118) 68 rfl rfl ?_
  refine ex_iload (pc := 120) 69 rfl rfl ?_
  obtain ⟨hs1, h⟩ := h
  obtain ⟨hs2, h⟩ := h
  refine ex_icmp_gt (pc := 122) 187 70 rfl (by decide) hs1 hs2 (fun hb => ?_) (fun hb => ?_)
  · have h := h.1 hb
    refine ex_iload (pc := 187) 108 rfl rfl ?_
    obtain ⟨hs3, h⟩ := h
    refine ex_if_ne (pc := 189) 194 109 rfl (by decide) hs3 (fun hb => ?_) (fun hb => ?_)
    · have h := h.1 hb
      refine ex_iload_n (pc := 194) 112 rfl rfl ?_
      refine ex_iload (pc := 195) 113 rfl rfl ?_
      refine ex_iload (pc := 197) 114 rfl rfl ?_
      refine ex_imul (pc := 199) 115 rfl ?_
      obtain ⟨hs4, h⟩ := h
      obtain ⟨hs5, h⟩ := h
      refine ex_mmin (pc := 200) 116 rfl ww_472 ww_473 ww_99 ww_474 hs4 hs5 rfl ?_
      refine ex_istore (pc := 203) 117 rfl rfl rfl ?_
      refine ex_iinc (pc := 205) 118 rfl rfl rfl rfl ?_
      refine ex_goto (pc := 208) 35 119 rfl (by decide) ?_
      exact ex_less [some (.inr (.inr 6)), some (.inl v1), some (.inl v2), some (.inl v3), some (.inl v4), some (.inl (if (v5 * v11) < v3 then (v5 * v11) else v3)), some (.inl (v6 + 1)), none, none, none, none, none, none] (And.intro rfl (And.intro rfl (And.intro rfl (And.intro rfl (And.intro rfl (And.intro rfl (And.intro rfl (True.intro)))))))) h
    · have h := h.2 hb
      refine ex_iconst (pc := 192) 110 rfl ?_
      exact ex_iret (pc := 193) 111 rfl (Or.inl rfl) ⟨_, rfl, h⟩
  · have h := h.2 hb
    refine ex_iload (pc := 125) 71 rfl rfl ?_
    refine ex_iload (pc := 127) 72 rfl rfl ?_
    obtain ⟨hs6, h⟩ := h
    obtain ⟨hs7, h⟩ := h
    refine ex_icmp_ge (pc := 129) 187 73 rfl (by decide) hs6 hs7 (fun hb => ?_) (fun hb => ?_)
    · have h := h.1 hb
      refine ex_iload (pc := 187) 108 rfl rfl ?_
      refine ex_if_ne (pc := 189) 194 109 rfl (by decide) hs6 (fun hb => ?_) (fun hb => ?_)
      · have h := h.1 hb
        refine ex_iload_n (pc := 194) 112 rfl rfl ?_
        refine ex_iload (pc := 195) 113 rfl rfl ?_
        refine ex_iload (pc := 197) 114 rfl rfl ?_
        refine ex_imul (pc := 199) 115 rfl ?_
        obtain ⟨hs8, h⟩ := h
        obtain ⟨hs9, h⟩ := h
        refine ex_mmin (pc := 200) 116 rfl ww_472 ww_473 ww_99 ww_474 hs8 hs9 rfl ?_
        refine ex_istore (pc := 203) 117 rfl rfl rfl ?_
        refine ex_iinc (pc := 205) 118 rfl rfl rfl rfl ?_
        refine ex_goto (pc := 208) 35 119 rfl (by decide) ?_
        exact ex_less [some (.inr (.inr 6)), some (.inl v1), some (.inl v2), some (.inl v3), some (.inl v4), some (.inl (if (v5 * v11) < v3 then (v5 * v11) else v3)), some (.inl (v6 + 1)), none, none, none, none, none, none] (And.intro rfl (And.intro rfl (And.intro rfl (And.intro rfl (And.intro rfl (And.intro rfl (And.intro rfl (True.intro)))))))) h
      · have h := h.2 hb
        refine ex_iconst (pc := 192) 110 rfl ?_
        exact ex_iret (pc := 193) 111 rfl (Or.inl rfl) ⟨_, rfl, h⟩
    · have h := h.2 hb
      refine ex_aload_n (pc := 132) 74 rfl rfl ?_
      refine ex_iload_n (pc := 133) 75 rfl rfl ?_
      refine ex_iload (pc := 134) 76 rfl rfl ?_
      refine ex_iload (pc := 136) 77 rfl rfl ?_
      refine ex_invV (pc := 138) (M' := mX5_fix) (As := [.inl v1, .inl v8, .inl v12]) (st := []) 78 rfl clk5 rfl rfl calX5_fix (Or.inl ww_544) rfl rfl ?_
      refine vm_call.mono h ?_
      rintro m10 _ ⟨rfl, h⟩
      refine ex_aload_n (pc := 141) 79 rfl rfl ?_
      refine ex_iload_n (pc := 142) 80 rfl rfl ?_
      refine ex_iconst (pc := 143) 81 rfl ?_
      refine ex_iadd (pc := 144) 82 rfl ?_
      refine ex_iconst (pc := 145) 83 rfl ?_
      refine ex_iload (pc := 146) 84 rfl rfl ?_
      refine ex_ishl (pc := 148) 85 rfl ?_
      refine ex_invV (pc := 149) (M' := mX5_settle) (As := [.inl (v1 + 1), .inl (vm_shl 1 v8)]) (st := []) 86 rfl clk5 rfl rfl calX5_settle (Or.inl ww_497) rfl rfl ?_
      refine vm_call.mono h ?_
      rintro m12 _ ⟨r13, rfl, h⟩
      refine ex_if_eq (pc := 152) 181 87 rfl (by decide) (vm_b2i_R _) (fun hb => ?_) (fun hb => ?_)
      · have h := h.1 (vm_b2i_0.mp hb)
        refine ex_iinc (pc := 181) 106 rfl rfl rfl rfl ?_
        refine ex_goto (pc := 184) 118 107 rfl (by decide) ?_
        exact h
      · have h := h.2 (vm_b2i_n.mp hb)
        refine ex_iload (pc := 155) 88 rfl rfl ?_
        refine ex_aload_n (pc := 157) 89 rfl rfl ?_
        refine ex_iload_n (pc := 158) 90 rfl rfl ?_
        refine ex_iconst (pc := 159) 91 rfl ?_
        refine ex_iadd (pc := 160) 92 rfl ?_
        refine ex_iload (pc := 161) 93 rfl rfl ?_
        refine ex_iconst (pc := 163) 94 rfl ?_
        refine ex_iload (pc := 164) 95 rfl rfl ?_
        refine ex_ishl (pc := 166) 96 rfl ?_
        refine ex_iconst (pc := 167) 97 rfl ?_
        refine ex_ixor (pc := 168) 98 rfl ?_
        refine ex_iand (pc := 169) 99 rfl ?_
        refine ex_iload (pc := 170) 100 rfl rfl ?_
        refine ex_iload (pc := 172) 101 rfl rfl ?_
        refine ex_isub (pc := 174) 102 rfl ?_
        refine ex_invS (pc := 175) (M' := mX5_ways) (As := [.inr (.inr 6), .inl (v1 + 1), .inl (vm_and v7 (vm_xor (vm_shl 1 v8) (-1))), .inl (v10 - v11)]) (st := [.inl v11]) 103 rfl calX5_ways (Or.inl ww_525) rfl rfl ?_
        refine vm_call.mono h ?_
        rintro m14 _ ⟨r15, rfl, h⟩
        refine ex_iadd (pc := 178) 104 rfl ?_
        refine ex_istore (pc := 179) 105 rfl rfl rfl ?_
        refine ex_iinc (pc := 181) 106 rfl rfl rfl rfl ?_
        refine ex_goto (pc := 184) 118 107 rfl (by decide) ?_
        exact h
set_option maxRecDepth 20000 in
theorem qX5_unfixed {G : vm_G} {d : Nat} {p1 : Int} {p2 : Int} {mem : vm_M} {Q : vm_M → Int → Prop} (h : vm_ex G d mX5_unfixed 5 [some (.inr (.inr 6)), some (.inl p1), some (.inl p2), some (.inl 0), some (.inl 0), none] [] mem (vm_qi Q)) : vm_ci G d mX5_unfixed [.inr (.inr 6), .inl p1, .inl p2] mem Q := by
  refine vm_enter (al := [some (.inr (.inr 6)), some (.inl p1), some (.inl p2), none, none, none]) 3 okX5_unfixed (by decide +kernel) rfl rfl ?_
  refine ex_iconst (pc := 0) 0 rfl ?_
  refine ex_istore_n (pc := 1) 1 rfl rfl rfl ?_
  refine ex_iconst (pc := 2) 2 rfl ?_
  refine ex_istore (pc := 3) 3 rfl rfl rfl ?_
  exact h
set_option maxRecDepth 20000 in
theorem qX5_unfixed_5 {G : vm_G} {d : Nat} {v1 : Int} {v2 : Int} {v3 : Int} {v4 : Int} {mem : vm_M} {Q : vm_M → Int → Prop} (h : (vm_R v4) ∧ ((16 ≤ v4 → Q mem (vm_and v3 v2)) ∧ (¬ 16 ≤ v4 → (0 ≤ ((v1 * 16) + v4) ∧ ((v1 * 16) + v4) < 272) ∧ (vm_R (mem 13 ((v1 * 16) + v4))) ∧ (vm_R (mem 14 ((v1 * 16) + v4))) ∧ (((mem 14 ((v1 * 16) + v4)) ≤ (mem 13 ((v1 * 16) + v4)) → vm_ex G d mX5_unfixed 5 [some (.inr (.inr 6)), some (.inl v1), some (.inl v2), some (.inl v3), some (.inl (v4 + 1)), none] [] mem (vm_qi Q)) ∧ (¬ (mem 14 ((v1 * 16) + v4)) ≤ (mem 13 ((v1 * 16) + v4)) → vm_ex G d mX5_unfixed 5 [some (.inr (.inr 6)), some (.inl v1), some (.inl v2), some (.inl (vm_or v3 (vm_shl 1 v4))), some (.inl (v4 + 1)), none] [] mem (vm_qi Q)))))) : vm_ex G d mX5_unfixed 5 [some (.inr (.inr 6)), some (.inl v1), some (.inl v2), some (.inl v3), some (.inl v4), none] [] mem (vm_qi Q) := by
  refine ex_iload (pc := 5) 4 rfl rfl ?_
  refine ex_bipush (pc := 7) 5 rfl (by decide) ?_
  obtain ⟨hs1, h⟩ := h
  refine ex_icmp_ge (pc := 9) 51 6 rfl (by decide) hs1 ⟨by decide, by decide⟩ (fun hb => ?_) (fun hb => ?_)
  · have h := h.1 hb
    refine ex_iload_n (pc := 51) 30 rfl rfl ?_
    refine ex_iload_n (pc := 52) 31 rfl rfl ?_
    refine ex_iand (pc := 53) 32 rfl ?_
    exact ex_iret (pc := 54) 33 rfl (Or.inl rfl) ⟨_, rfl, h⟩
  · have h := h.2 hb
    refine ex_iload_n (pc := 12) 7 rfl rfl ?_
    refine ex_bipush (pc := 13) 8 rfl (by decide) ?_
    refine ex_imul (pc := 15) 9 rfl ?_
    refine ex_iload (pc := 16) 10 rfl rfl ?_
    refine ex_iadd (pc := 18) 11 rfl ?_
    refine ex_istore (pc := 19) 12 rfl rfl rfl ?_
    refine ex_aload_n (pc := 21) 13 rfl rfl ?_
    refine ex_geta (pc := 22) 1 14 rfl clk5 rfl rfl (Or.inl ww_186) rfl ?_
    refine ex_iload (pc := 25) 15 rfl rfl ?_
    obtain ⟨hs2, h⟩ := h
    refine ex_iaload (pc := 27) 16 rfl rfl rfl hs2 ?_
    refine ex_aload_n (pc := 28) 17 rfl rfl ?_
    refine ex_geta (pc := 29) 2 18 rfl clk5 rfl rfl (Or.inl ww_188) rfl ?_
    refine ex_iload (pc := 32) 19 rfl rfl ?_
    refine ex_iaload (pc := 34) 20 rfl rfl rfl hs2 ?_
    obtain ⟨hs3, h⟩ := h
    obtain ⟨hs4, h⟩ := h
    refine ex_icmp_ge (pc := 35) 45 21 rfl (by decide) hs3 hs4 (fun hb => ?_) (fun hb => ?_)
    · have h := h.1 hb
      refine ex_iinc (pc := 45) 28 rfl rfl rfl rfl ?_
      refine ex_goto (pc := 48) 5 29 rfl (by decide) ?_
      exact ex_less [some (.inr (.inr 6)), some (.inl v1), some (.inl v2), some (.inl v3), some (.inl (v4 + 1)), none] (And.intro rfl (And.intro rfl (And.intro rfl (And.intro rfl (And.intro rfl (True.intro)))))) h
    · have h := h.2 hb
      refine ex_iload_n (pc := 38) 22 rfl rfl ?_
      refine ex_iconst (pc := 39) 23 rfl ?_
      refine ex_iload (pc := 40) 24 rfl rfl ?_
      refine ex_ishl (pc := 42) 25 rfl ?_
      refine ex_ior (pc := 43) 26 rfl ?_
      refine ex_istore_n (pc := 44) 27 rfl rfl rfl ?_
      refine ex_iinc (pc := 45) 28 rfl rfl rfl rfl ?_
      refine ex_goto (pc := 48) 5 29 rfl (by decide) ?_
      exact ex_less [some (.inr (.inr 6)), some (.inl v1), some (.inl v2), some (.inl (vm_or v3 (vm_shl 1 v4))), some (.inl (v4 + 1)), none] (And.intro rfl (And.intro rfl (And.intro rfl (And.intro rfl (And.intro rfl (True.intro)))))) h
set_option maxRecDepth 20000 in
theorem qX5_partOf {G : vm_G} {d : Nat} {p1 : Int} {p2 : Int} {mem : vm_M} {Q : vm_M → Int → Prop} (h : vm_ex G (d + 1) mX5_partOf 11 [some (.inr (.inr 6)), some (.inl p1), some (.inl p2), some (.inl (vm_and p2 (-p2))), some (.inl 0), some (.inl 0), none, none] [] mem (vm_qi Q)) : vm_ci G (d + 1) mX5_partOf [.inr (.inr 6), .inl p1, .inl p2] mem Q := by
  refine vm_enter (al := [some (.inr (.inr 6)), some (.inl p1), some (.inl p2), none, none, none, none, none]) 5 okX5_partOf (by decide +kernel) rfl rfl ?_
  refine ex_iload_n (pc := 0) 0 rfl rfl ?_
  refine ex_iload_n (pc := 1) 1 rfl rfl ?_
  refine ex_ineg (pc := 2) 2 rfl ?_
  refine ex_iand (pc := 3) 3 rfl ?_
  refine ex_istore_n (pc := 4) 4 rfl rfl rfl ?_
  refine ex_iconst (pc := 5) 5 rfl ?_
  refine ex_istore (pc := 6) 6 rfl rfl rfl ?_
  refine ex_iconst (pc := 8) 7 rfl ?_
  refine ex_istore (pc := 9) 8 rfl rfl rfl ?_
  exact h
set_option maxRecDepth 20000 in
theorem qX5_partOf_11 {G : vm_G} {d : Nat} {v1 : Int} {v2 : Int} {v3 : Int} {v4 : Int} {v5 : Int} {mem : vm_M} {Q : vm_M → Int → Prop} (h : (vm_R v5) ∧ ((16 ≤ v5 → Q mem v3) ∧ (¬ 16 ≤ v5 → (vm_R v3) ∧ (vm_R v4) ∧ ((v3 = v4 → Q mem v3) ∧ (¬ v3 = v4 → vm_ex G (d + 1) mX5_partOf 30 [some (.inr (.inr 6)), some (.inl v1), some (.inl v2), some (.inl v3), some (.inl v3), some (.inl v5), some (.inl 0), none] [] mem (vm_qi Q)))))) : vm_ex G (d + 1) mX5_partOf 11 [some (.inr (.inr 6)), some (.inl v1), some (.inl v2), some (.inl v3), some (.inl v4), some (.inl v5), none, none] [] mem (vm_qi Q) := by
  refine ex_iload (pc := 11) 9 rfl rfl ?_
  refine ex_bipush (pc := 13) 10 rfl (by decide) ?_
  obtain ⟨hs1, h⟩ := h
  refine ex_icmp_ge (pc := 15) 102 11 rfl (by decide) hs1 ⟨by decide, by decide⟩ (fun hb => ?_) (fun hb => ?_)
  · have h := h.1 hb
    refine ex_iload_n (pc := 102) 57 rfl rfl ?_
    exact ex_iret (pc := 103) 58 rfl (Or.inl rfl) ⟨_, rfl, h⟩
  · have h := h.2 hb
    refine ex_iload_n (pc := 18) 12 rfl rfl ?_
    refine ex_iload (pc := 19) 13 rfl rfl ?_
    obtain ⟨hs2, h⟩ := h
    obtain ⟨hs3, h⟩ := h
    refine ex_icmp_eq (pc := 21) 102 14 rfl (by decide) hs2 hs3 (fun hb => ?_) (fun hb => ?_)
    · have h := h.1 hb
      refine ex_iload_n (pc := 102) 57 rfl rfl ?_
      exact ex_iret (pc := 103) 58 rfl (Or.inl rfl) ⟨_, rfl, h⟩
    · have h := h.2 hb
      refine ex_iload_n (pc := 24) 15 rfl rfl ?_
      refine ex_istore (pc := 25) 16 rfl rfl rfl ?_
      refine ex_iconst (pc := 27) 17 rfl ?_
      refine ex_istore (pc := 28) 18 rfl rfl rfl ?_
      exact h
set_option maxRecDepth 20000 in
theorem qX5_partOf_30 {G : vm_G} {d : Nat} {v1 : Int} {v2 : Int} {v3 : Int} {v4 : Int} {v5 : Int} {v6 : Int} {mem : vm_M} {Q : vm_M → Int → Prop} (h : (vm_R v6) ∧ (vm_R (mem 8 8)) ∧ (((mem 8 8) ≤ v6 → vm_ex G (d + 1) mX5_partOf 11 [some (.inr (.inr 6)), some (.inl v1), some (.inl v2), some (.inl v3), some (.inl v4), some (.inl (v5 + 1)), none, none] [] mem (vm_qi Q)) ∧ (¬ (mem 8 8) ≤ v6 → (0 ≤ v6 ∧ v6 < 128) ∧ (vm_R (vm_and (vm_and (mem 18 v6) v2) v3)) ∧ (((vm_and (vm_and (mem 18 v6) v2) v3) = 0 → vm_ex G (d + 1) mX5_partOf 30 [some (.inr (.inr 6)), some (.inl v1), some (.inl v2), some (.inl v3), some (.inl v4), some (.inl v5), some (.inl (v6 + 1)), none] [] mem (vm_qi Q)) ∧ (¬ (vm_and (vm_and (mem 18 v6) v2) v3) = 0 → (vm_R (vm_and (vm_and (mem 18 v6) v2) (vm_xor v3 (-1)))) ∧ (((vm_and (vm_and (mem 18 v6) v2) (vm_xor v3 (-1))) = 0 → vm_ex G (d + 1) mX5_partOf 30 [some (.inr (.inr 6)), some (.inl v1), some (.inl v2), some (.inl v3), some (.inl v4), some (.inl v5), some (.inl (v6 + 1)), none] [] mem (vm_qi Q)) ∧ (¬ (vm_and (vm_and (mem 18 v6) v2) (vm_xor v3 (-1))) = 0 → vm_cb G d mX5_isSure [.inr (.inr 6), .inl v6, .inl (v1 * 16)] mem (fun m6 r7 => (r7 = true → vm_ex G (d + 1) mX5_partOf 30 [some (.inr (.inr 6)), some (.inl v1), some (.inl v2), some (.inl v3), some (.inl v4), some (.inl v5), some (.inl (v6 + 1)), none] [] m6 (vm_qi Q)) ∧ (r7 = false → vm_ex G (d + 1) mX5_partOf 30 [some (.inr (.inr 6)), some (.inl v1), some (.inl v2), some (.inl (vm_or v3 (vm_and (mem 18 v6) v2))), some (.inl v4), some (.inl v5), some (.inl (v6 + 1)), none] [] m6 (vm_qi Q)))))))))) : vm_ex G (d + 1) mX5_partOf 30 [some (.inr (.inr 6)), some (.inl v1), some (.inl v2), some (.inl v3), some (.inl v4), some (.inl v5), some (.inl v6), none] [] mem (vm_qi Q) := by
  refine ex_iload (pc := 30) 19 rfl rfl ?_
  refine ex_aload_n (pc := 32) 20 rfl rfl ?_
  refine ex_geta (pc := 33) 0 21 rfl clk5 rfl rfl (Or.inl ww_184) rfl ?_
  refine ex_geti (pc := 36) 8 22 rfl clk4 rfl rfl (Or.inr ⟨_, ww_164⟩) rfl ?_
  obtain ⟨hs1, h⟩ := h
  obtain ⟨hs2, h⟩ := h
  refine ex_icmp_ge (pc := 39) 96 23 rfl (by decide) hs1 hs2 (fun hb => ?_) (fun hb => ?_)
  · have h := h.1 hb
    refine ex_iinc (pc := 96) 55 rfl rfl rfl rfl ?_
    refine ex_goto (pc := 99) 11 56 rfl (by decide) ?_
    exact ex_less [some (.inr (.inr 6)), some (.inl v1), some (.inl v2), some (.inl v3), some (.inl v4), some (.inl (v5 + 1)), none, none] (And.intro rfl (And.intro rfl (And.intro rfl (And.intro rfl (And.intro rfl (And.intro rfl (True.intro))))))) h
  · have h := h.2 hb
    refine ex_aload_n (pc := 42) 24 rfl rfl ?_
    refine ex_geta (pc := 43) 0 25 rfl clk5 rfl rfl (Or.inl ww_184) rfl ?_
    refine ex_geta (pc := 46) 3 26 rfl clk4 rfl rfl (Or.inr ⟨_, ww_154⟩) rfl ?_
    refine ex_iload (pc := 49) 27 rfl rfl ?_
    obtain ⟨hs3, h⟩ := h
    refine ex_iaload (pc := 51) 28 rfl rfl rfl hs3 ?_
    refine ex_iload_n (pc := 52) 29 rfl rfl ?_
    refine ex_iand (pc := 53) 30 rfl ?_
    refine ex_istore (pc := 54) 31 rfl rfl rfl ?_
    refine ex_iload (pc := 56) 32 rfl rfl ?_
    refine ex_iload_n (pc := 58) 33 rfl rfl ?_
    refine ex_iand (pc := 59) 34 rfl ?_
    obtain ⟨hs4, h⟩ := h
    refine ex_if_eq (pc := 60) 90 35 rfl (by decide) hs4 (fun hb => ?_) (fun hb => ?_)
    · have h := h.1 hb
      refine ex_iinc (pc := 90) 53 rfl rfl rfl rfl ?_
      refine ex_goto (pc := 93) 30 54 rfl (by decide) ?_
      exact ex_less [some (.inr (.inr 6)), some (.inl v1), some (.inl v2), some (.inl v3), some (.inl v4), some (.inl v5), some (.inl (v6 + 1)), none] (And.intro rfl (And.intro rfl (And.intro rfl (And.intro rfl (And.intro rfl (And.intro rfl (And.intro rfl (True.intro)))))))) h
    · have h := h.2 hb
      refine ex_iload (pc := 63) 36 rfl rfl ?_
      refine ex_iload_n (pc := 65) 37 rfl rfl ?_
      refine ex_iconst (pc := 66) 38 rfl ?_
      refine ex_ixor (pc := 67) 39 rfl ?_
      refine ex_iand (pc := 68) 40 rfl ?_
      obtain ⟨hs5, h⟩ := h
      refine ex_if_eq (pc := 69) 90 41 rfl (by decide) hs5 (fun hb => ?_) (fun hb => ?_)
      · have h := h.1 hb
        refine ex_iinc (pc := 90) 53 rfl rfl rfl rfl ?_
        refine ex_goto (pc := 93) 30 54 rfl (by decide) ?_
        exact ex_less [some (.inr (.inr 6)), some (.inl v1), some (.inl v2), some (.inl v3), some (.inl v4), some (.inl v5), some (.inl (v6 + 1)), none] (And.intro rfl (And.intro rfl (And.intro rfl (And.intro rfl (And.intro rfl (And.intro rfl (And.intro rfl (True.intro)))))))) h
      · have h := h.2 hb
        refine ex_aload_n (pc := 72) 42 rfl rfl ?_
        refine ex_iload (pc := 73) 43 rfl rfl ?_
        refine ex_iload_n (pc := 75) 44 rfl rfl ?_
        refine ex_bipush (pc := 76) 45 rfl (by decide) ?_
        refine ex_imul (pc := 78) 46 rfl ?_
        refine ex_invV (pc := 79) (M' := mX5_isSure) (As := [.inl v6, .inl (v1 * 16)]) (st := []) 47 rfl clk5 rfl rfl calX5_isSure (Or.inl ww_536) rfl rfl ?_
        refine vm_call.mono h ?_
        rintro m6 _ ⟨r7, rfl, h⟩
        refine ex_if_ne (pc := 82) 90 48 rfl (by decide) (vm_b2i_R _) (fun hb => ?_) (fun hb => ?_)
        · have h := h.1 (vm_b2i_n.mp hb)
          refine ex_iinc (pc := 90) 53 rfl rfl rfl rfl ?_
          refine ex_goto (pc := 93) 30 54 rfl (by decide) ?_
          exact ex_less [some (.inr (.inr 6)), some (.inl v1), some (.inl v2), some (.inl v3), some (.inl v4), some (.inl v5), some (.inl (v6 + 1)), none] (And.intro rfl (And.intro rfl (And.intro rfl (And.intro rfl (And.intro rfl (And.intro rfl (And.intro rfl (True.intro)))))))) h
        · have h := h.2 (vm_b2i_0.mp hb)
          refine ex_iload_n (pc := 85) 49 rfl rfl ?_
          refine ex_iload (pc := 86) 50 rfl rfl ?_
          refine ex_ior (pc := 88) 51 rfl ?_
          refine ex_istore_n (pc := 89) 52 rfl rfl rfl ?_
          refine ex_iinc (pc := 90) 53 rfl rfl rfl rfl ?_
          refine ex_goto (pc := 93) 30 54 rfl (by decide) ?_
          exact ex_less [some (.inr (.inr 6)), some (.inl v1), some (.inl v2), some (.inl (vm_or v3 (vm_and (mem 18 v6) v2))), some (.inl v4), some (.inl v5), some (.inl (v6 + 1)), none] (And.intro rfl (And.intro rfl (And.intro rfl (And.intro rfl (And.intro rfl (And.intro rfl (And.intro rfl (True.intro)))))))) h
set_option maxRecDepth 20000 in
theorem qX5_choose {G : vm_G} {d : Nat} {p1 : Int} {p2 : Int} {mem : vm_M} {Q : vm_M → Int → Prop} (h : vm_ex G d mX5_choose 8 [some (.inr (.inr 6)), some (.inl p1), some (.inl p2), some (.inl 0), some (.inl 0), some (.inl 0), none] [] mem (vm_qi Q)) : vm_ci G d mX5_choose [.inr (.inr 6), .inl p1, .inl p2] mem Q := by
  refine vm_enter (al := [some (.inr (.inr 6)), some (.inl p1), some (.inl p2), none, none, none, none]) 4 okX5_choose (by decide +kernel) rfl rfl ?_
  refine ex_iconst (pc := 0) 0 rfl ?_
  refine ex_istore_n (pc := 1) 1 rfl rfl rfl ?_
  refine ex_iconst (pc := 2) 2 rfl ?_
  refine ex_istore (pc := 3) 3 rfl rfl rfl ?_
  refine ex_iconst (pc := 5) 4 rfl ?_
  refine ex_istore (pc := 6) 5 rfl rfl rfl ?_
  exact h
set_option maxRecDepth 20000 in
theorem qX5_choose_8 {G : vm_G} {d : Nat} {v1 : Int} {v2 : Int} {v3 : Int} {v4 : Int} {v5 : Int} {mem : vm_M} {Q : vm_M → Int → Prop} (h : (vm_R v5) ∧ ((16 ≤ v5 → Q mem v3) ∧ (¬ 16 ≤ v5 → (vm_R (vm_and v2 (vm_shl 1 v5))) ∧ (((vm_and v2 (vm_shl 1 v5)) = 0 → vm_ex G d mX5_choose 8 [some (.inr (.inr 6)), some (.inl v1), some (.inl v2), some (.inl v3), some (.inl v4), some (.inl (v5 + 1)), none] [] mem (vm_qi Q)) ∧ (¬ (vm_and v2 (vm_shl 1 v5)) = 0 → (0 ≤ ((v1 * 16) + v5) ∧ ((v1 * 16) + v5) < 272) ∧ (vm_R v4) ∧ ((v4 = 0 → vm_ex G d mX5_choose 8 [some (.inr (.inr 6)), some (.inl v1), some (.inl v2), some (.inl v5), some (.inl (((mem 14 ((v1 * 16) + v5)) - (mem 13 ((v1 * 16) + v5))) + 1)), some (.inl (v5 + 1)), none] [] mem (vm_qi Q)) ∧ (¬ v4 = 0 → (0 ≤ v3 ∧ v3 < 16) ∧ (0 ≤ v5 ∧ v5 < 16) ∧ (vm_R ((((mem 14 ((v1 * 16) + v5)) - (mem 13 ((v1 * 16) + v5))) + 1) * (mem 22 v3))) ∧ (vm_R (v4 * (mem 22 v5))) ∧ (((v4 * (mem 22 v5)) ≤ ((((mem 14 ((v1 * 16) + v5)) - (mem 13 ((v1 * 16) + v5))) + 1) * (mem 22 v3)) → vm_ex G d mX5_choose 8 [some (.inr (.inr 6)), some (.inl v1), some (.inl v2), some (.inl v3), some (.inl v4), some (.inl (v5 + 1)), none] [] mem (vm_qi Q)) ∧ (¬ (v4 * (mem 22 v5)) ≤ ((((mem 14 ((v1 * 16) + v5)) - (mem 13 ((v1 * 16) + v5))) + 1) * (mem 22 v3)) → vm_ex G d mX5_choose 8 [some (.inr (.inr 6)), some (.inl v1), some (.inl v2), some (.inl v5), some (.inl (((mem 14 ((v1 * 16) + v5)) - (mem 13 ((v1 * 16) + v5))) + 1)), some (.inl (v5 + 1)), none] [] mem (vm_qi Q)))))))))) : vm_ex G d mX5_choose 8 [some (.inr (.inr 6)), some (.inl v1), some (.inl v2), some (.inl v3), some (.inl v4), some (.inl v5), none] [] mem (vm_qi Q) := by
  refine ex_iload (pc := 8) 6 rfl rfl ?_
  refine ex_bipush (pc := 10) 7 rfl (by decide) ?_
  obtain ⟨hs1, h⟩ := h
  refine ex_icmp_ge (pc := 12) 99 8 rfl (by decide) hs1 ⟨by decide, by decide⟩ (fun hb => ?_) (fun hb => ?_)
  · have h := h.1 hb
    refine ex_iload_n (pc := 99) 58 rfl rfl ?_
    exact ex_iret (pc := 100) 59 rfl (Or.inl rfl) ⟨_, rfl, h⟩
  · have h := h.2 hb
    refine ex_iload_n (pc := 15) 9 rfl rfl ?_
    refine ex_iconst (pc := 16) 10 rfl ?_
    refine ex_iload (pc := 17) 11 rfl rfl ?_
    refine ex_ishl (pc := 19) 12 rfl ?_
    refine ex_iand (pc := 20) 13 rfl ?_
    obtain ⟨hs2, h⟩ := h
    refine ex_if_eq (pc := 21) 93 14 rfl (by decide) hs2 (fun hb => ?_) (fun hb => ?_)
    · have h := h.1 hb
      refine ex_iinc (pc := 93) 56 rfl rfl rfl rfl ?_
      refine ex_goto (pc := 96) 8 57 rfl (by decide) ?_
      exact h
    · have h := h.2 hb
      refine ex_aload_n (pc := 24) 15 rfl rfl ?_
      refine ex_geta (pc := 25) 2 16 rfl clk5 rfl rfl (Or.inl ww_188) rfl ?_
      refine ex_iload_n (pc := 28) 17 rfl rfl ?_
      refine ex_bipush (pc := 29) 18 rfl (by decide) ?_
      refine ex_imul (pc := 31) 19 rfl ?_
      refine ex_iload (pc := 32) 20 rfl rfl ?_
      refine ex_iadd (pc := 34) 21 rfl ?_
      obtain ⟨hs3, h⟩ := h
      refine ex_iaload (pc := 35) 22 rfl rfl rfl hs3 ?_
      refine ex_aload_n (pc := 36) 23 rfl rfl ?_
      refine ex_geta (pc := 37) 1 24 rfl clk5 rfl rfl (Or.inl ww_186) rfl ?_
      refine ex_iload_n (pc := 40) 25 rfl rfl ?_
      refine ex_bipush (pc := 41) 26 rfl (by decide) ?_
      refine ex_imul (pc := 43) 27 rfl ?_
      refine ex_iload (pc := 44) 28 rfl rfl ?_
      refine ex_iadd (pc := 46) 29 rfl ?_
      refine ex_iaload (pc := 47) 30 rfl rfl rfl hs3 ?_
      refine ex_isub (pc := 48) 31 rfl ?_
      refine ex_iconst (pc := 49) 32 rfl ?_
      refine ex_iadd (pc := 50) 33 rfl ?_
      refine ex_istore (pc := 51) 34 rfl rfl rfl ?_
      refine ex_iload (pc := 53) 35 rfl rfl ?_
      obtain ⟨hs4, h⟩ := h
      refine ex_if_eq (pc := 55) 86 36 rfl (by decide) hs4 (fun hb => ?_) (fun hb => ?_)
      · have h := h.1 hb
        refine ex_iload (pc := 86) 52 rfl rfl ?_
        refine ex_istore_n (pc := 88) 53 rfl rfl rfl ?_
        refine ex_iload (pc := 89) 54 rfl rfl ?_
        refine ex_istore (pc := 91) 55 rfl rfl rfl ?_
        refine ex_iinc (pc := 93) 56 rfl rfl rfl rfl ?_
        refine ex_goto (pc := 96) 8 57 rfl (by decide) ?_
        exact ex_less [some (.inr (.inr 6)), some (.inl v1), some (.inl v2), some (.inl v5), some (.inl (((mem 14 ((v1 * 16) + v5)) - (mem 13 ((v1 * 16) + v5))) + 1)), some (.inl (v5 + 1)), none] (And.intro rfl (And.intro rfl (And.intro rfl (And.intro rfl (And.intro rfl (And.intro rfl (True.intro))))))) h
      · have h := h.2 hb
        refine ex_iload (pc := 58) 37 rfl rfl ?_
        refine ex_aload_n (pc := 60) 38 rfl rfl ?_
        refine ex_geta (pc := 61) 0 39 rfl clk5 rfl rfl (Or.inl ww_184) rfl ?_
        refine ex_geta (pc := 64) 7 40 rfl clk4 rfl rfl (Or.inr ⟨_, ww_162⟩) rfl ?_
        refine ex_iload_n (pc := 67) 41 rfl rfl ?_
        obtain ⟨hs5, h⟩ := h
        refine ex_iaload (pc := 68) 42 rfl rfl rfl hs5 ?_
        refine ex_imul (pc := 69) 43 rfl ?_
        refine ex_iload (pc := 70) 44 rfl rfl ?_
        refine ex_aload_n (pc := 72) 45 rfl rfl ?_
        refine ex_geta (pc := 73) 0 46 rfl clk5 rfl rfl (Or.inl ww_184) rfl ?_
        refine ex_geta (pc := 76) 7 47 rfl clk4 rfl rfl (Or.inr ⟨_, ww_162⟩) rfl ?_
        refine ex_iload (pc := 79) 48 rfl rfl ?_
        obtain ⟨hs6, h⟩ := h
        refine ex_iaload (pc := 81) 49 rfl rfl rfl hs6 ?_
        refine ex_imul (pc := 82) 50 rfl ?_
        obtain ⟨hs7, h⟩ := h
        obtain ⟨hs8, h⟩ := h
        refine ex_icmp_ge (pc := 83) 93 51 rfl (by decide) hs7 hs8 (fun hb => ?_) (fun hb => ?_)
        · have h := h.1 hb
          refine ex_iinc (pc := 93) 56 rfl rfl rfl rfl ?_
          refine ex_goto (pc := 96) 8 57 rfl (by decide) ?_
          exact ex_less [some (.inr (.inr 6)), some (.inl v1), some (.inl v2), some (.inl v3), some (.inl v4), some (.inl (v5 + 1)), none] (And.intro rfl (And.intro rfl (And.intro rfl (And.intro rfl (And.intro rfl (And.intro rfl (True.intro))))))) h
        · have h := h.2 hb
          refine ex_iload (pc := 86) 52 rfl rfl ?_
          refine ex_istore_n (pc := 88) 53 rfl rfl rfl ?_
          refine ex_iload (pc := 89) 54 rfl rfl ?_
          refine ex_istore (pc := 91) 55 rfl rfl rfl ?_
          refine ex_iinc (pc := 93) 56 rfl rfl rfl rfl ?_
          refine ex_goto (pc := 96) 8 57 rfl (by decide) ?_
          exact ex_less [some (.inr (.inr 6)), some (.inl v1), some (.inl v2), some (.inl v5), some (.inl (((mem 14 ((v1 * 16) + v5)) - (mem 13 ((v1 * 16) + v5))) + 1)), some (.inl (v5 + 1)), none] (And.intro rfl (And.intro rfl (And.intro rfl (And.intro rfl (And.intro rfl (And.intro rfl (True.intro))))))) h
set_option maxRecDepth 20000 in
theorem qX5_fix {G : vm_G} {d : Nat} {p1 : Int} {p2 : Int} {p3 : Int} {mem : vm_M} {Q : vm_M → Prop} (h : ((0 : Int) ≤ (p1 * 16) ∧ (0 : Int) ≤ ((p1 * 16) + 16) ∧ (0 : Int) ≤ 16 ∧ ((p1 * 16) + 16 : Int) ≤ 272 ∧ (((p1 * 16) + 16) + 16 : Int) ≤ 272) ∧ (∀ m2, m2 = vm_cpy mem 13 13 (p1 * 16) ((p1 * 16) + 16) 16 → (∀ m3, m3 = vm_cpy m2 14 14 (p1 * 16) ((p1 * 16) + 16) 16 → (0 ≤ (((p1 * 16) + 16) + p2) ∧ (((p1 * 16) + 16) + p2) < 272) ∧ (∀ m5, m5 = vm_up m3 13 (((p1 * 16) + 16) + p2) p3 → (∀ m6, m6 = vm_up m5 14 (((p1 * 16) + 16) + p2) p3 → Q m6))))) : vm_cn G (d + 1) mX5_fix [.inr (.inr 6), .inl p1, .inl p2, .inl p3] mem Q := by
  refine vm_enter (al := [some (.inr (.inr 6)), some (.inl p1), some (.inl p2), some (.inl p3), none, none]) 2 okX5_fix (by decide +kernel) rfl rfl ?_
  refine ex_iload_n (pc := 0) 0 rfl rfl ?_
  refine ex_bipush (pc := 1) 1 rfl (by decide) ?_
  refine ex_imul (pc := 3) 2 rfl ?_
  refine ex_istore (pc := 4) 3 rfl rfl rfl ?_
  refine ex_iload (pc := 6) 4 rfl rfl ?_
  refine ex_bipush (pc := 8) 5 rfl (by decide) ?_
  refine ex_iadd (pc := 10) 6 rfl ?_
  refine ex_istore (pc := 11) 7 rfl rfl rfl ?_
  refine ex_aload_n (pc := 13) 8 rfl rfl ?_
  refine ex_geta (pc := 14) 1 9 rfl clk5 rfl rfl (Or.inl ww_186) rfl ?_
  refine ex_iload (pc := 17) 10 rfl rfl ?_
  refine ex_aload_n (pc := 19) 11 rfl rfl ?_
  refine ex_geta (pc := 20) 1 12 rfl clk5 rfl rfl (Or.inl ww_186) rfl ?_
  refine ex_iload (pc := 23) 13 rfl rfl ?_
  refine ex_bipush (pc := 25) 14 rfl (by decide) ?_
  obtain ⟨hs1, h⟩ := h
  have h := h _ rfl
  refine ex_copy (pc := 27) 15 rfl ww_548 ww_314 ww_313 ww_98 rfl rfl rfl hs1 rfl ?_
  generalize vm_cpy mem 13 13 (p1 * 16) ((p1 * 16) + 16) 16 = m2 at h ⊢
  refine ex_aload_n (pc := 30) 16 rfl rfl ?_
  refine ex_geta (pc := 31) 2 17 rfl clk5 rfl rfl (Or.inl ww_188) rfl ?_
  refine ex_iload (pc := 34) 18 rfl rfl ?_
  refine ex_aload_n (pc := 36) 19 rfl rfl ?_
  refine ex_geta (pc := 37) 2 20 rfl clk5 rfl rfl (Or.inl ww_188) rfl ?_
  refine ex_iload (pc := 40) 21 rfl rfl ?_
  refine ex_bipush (pc := 42) 22 rfl (by decide) ?_
  have h := h _ rfl
  refine ex_copy (pc := 44) 23 rfl ww_548 ww_314 ww_313 ww_98 rfl rfl rfl hs1 rfl ?_
  generalize vm_cpy m2 14 14 (p1 * 16) ((p1 * 16) + 16) 16 = m3 at h ⊢
  refine ex_aload_n (pc := 47) 24 rfl rfl ?_
  refine ex_geta (pc := 48) 1 25 rfl clk5 rfl rfl (Or.inl ww_186) rfl ?_
  refine ex_iload (pc := 51) 26 rfl rfl ?_
  refine ex_iload_n (pc := 53) 27 rfl rfl ?_
  refine ex_iadd (pc := 54) 28 rfl ?_
  refine ex_iload_n (pc := 55) 29 rfl rfl ?_
  obtain ⟨hs4, h⟩ := h
  have h := h _ rfl
  refine ex_iastore (pc := 56) 30 rfl rfl rfl hs4 ?_
  generalize vm_up m3 13 (((p1 * 16) + 16) + p2) p3 = m5 at h ⊢
  refine ex_aload_n (pc := 57) 31 rfl rfl ?_
  refine ex_geta (pc := 58) 2 32 rfl clk5 rfl rfl (Or.inl ww_188) rfl ?_
  refine ex_iload (pc := 61) 33 rfl rfl ?_
  refine ex_iload_n (pc := 63) 34 rfl rfl ?_
  refine ex_iadd (pc := 64) 35 rfl ?_
  refine ex_iload_n (pc := 65) 36 rfl rfl ?_
  have h := h _ rfl
  refine ex_iastore (pc := 66) 37 rfl rfl rfl hs4 ?_
  generalize vm_up m5 14 (((p1 * 16) + 16) + p2) p3 = m6 at h ⊢
  exact ex_ret (pc := 67) 38 rfl rfl ⟨rfl, h⟩
set_option maxRecDepth 20000 in
theorem qX5_settle {G : vm_G} {d : Nat} {p1 : Int} {p2 : Int} {mem : vm_M} {Q : vm_M → Bool → Prop} (h : vm_ex G (d + 1) mX5_settle 8 [some (.inr (.inr 6)), some (.inl p1), some (.inl p2), some (.inl (p1 * 16)), some (.inl 0), none, none] [] mem (vm_qb Q)) : vm_cb G (d + 1) mX5_settle [.inr (.inr 6), .inl p1, .inl p2] mem Q := by
  refine vm_enter (al := [some (.inr (.inr 6)), some (.inl p1), some (.inl p2), none, none, none, none]) 4 okX5_settle (by decide +kernel) rfl rfl ?_
  refine ex_iload_n (pc := 0) 0 rfl rfl ?_
  refine ex_bipush (pc := 1) 1 rfl (by decide) ?_
  refine ex_imul (pc := 3) 2 rfl ?_
  refine ex_istore_n (pc := 4) 3 rfl rfl rfl ?_
  refine ex_iconst (pc := 5) 4 rfl ?_
  refine ex_istore (pc := 6) 5 rfl rfl rfl ?_
  exact h
set_option maxRecDepth 20000 in
theorem qX5_settle_8 {G : vm_G} {d : Nat} {v1 : Int} {v2 : Int} {v3 : Int} {v4 : Int} {mem : vm_M} {Q : vm_M → Bool → Prop} (h : (vm_R v4) ∧ ((1000 ≤ v4 → Q mem true) ∧ (¬ 1000 ≤ v4 → (vm_R v2) ∧ ((v2 = 0 → Q mem true) ∧ (¬ v2 = 0 → (∀ m3, m3 = vm_up mem 6 4 0 → vm_ex G (d + 1) mX5_settle 28 [some (.inr (.inr 6)), some (.inl v1), some (.inl v2), some (.inl v3), some (.inl v4), some (.inl 0), none] [] m3 (vm_qb Q))))))) : vm_ex G (d + 1) mX5_settle 8 [some (.inr (.inr 6)), some (.inl v1), some (.inl v2), some (.inl v3), some (.inl v4), none, none] [] mem (vm_qb Q) := by
  refine ex_iload (pc := 8) 6 rfl rfl ?_
  refine ex_sipush (pc := 10) 7 rfl (by decide) ?_
  obtain ⟨hs1, h⟩ := h
  refine ex_icmp_ge (pc := 13) 122 8 rfl (by decide) hs1 ⟨by decide, by decide⟩ (fun hb => ?_) (fun hb => ?_)
  · have h := h.1 hb
    refine ex_iconst (pc := 122) 61 rfl ?_
    exact ex_iret (pc := 123) 62 rfl (Or.inr ⟨rfl, by decide⟩) ⟨true, rfl, h⟩
  · have h := h.2 hb
    refine ex_iload_n (pc := 16) 9 rfl rfl ?_
    obtain ⟨hs2, h⟩ := h
    refine ex_if_eq (pc := 17) 122 10 rfl (by decide) hs2 (fun hb => ?_) (fun hb => ?_)
    · have h := h.1 hb
      refine ex_iconst (pc := 122) 61 rfl ?_
      exact ex_iret (pc := 123) 62 rfl (Or.inr ⟨rfl, by decide⟩) ⟨true, rfl, h⟩
    · have h := h.2 hb
      refine ex_aload_n (pc := 20) 11 rfl rfl ?_
      refine ex_iconst (pc := 21) 12 rfl ?_
      have h := h _ rfl
      refine ex_puti (pc := 22) 4 13 rfl clk5 rfl rfl (Or.inl ww_191) rfl rfl rfl ?_
      generalize vm_up mem 6 _ 0 = m3 at h ⊢
      refine ex_iconst (pc := 25) 14 rfl ?_
      refine ex_istore (pc := 26) 15 rfl rfl rfl ?_
      exact h
set_option maxRecDepth 20000 in
theorem qX5_settle_28 {G : vm_G} {d : Nat} {v1 : Int} {v2 : Int} {v3 : Int} {v4 : Int} {v5 : Int} {mem : vm_M} {Q : vm_M → Bool → Prop} (h : (vm_R v5) ∧ (vm_R (mem 8 8)) ∧ (((mem 8 8) ≤ v5 → vm_ex G (d + 1) mX5_settle 8 [some (.inr (.inr 6)), some (.inl v1), some (.inl (mem 6 4)), some (.inl v3), some (.inl (v4 + 1)), none, none] [] mem (vm_qb Q)) ∧ (¬ (mem 8 8) ≤ v5 → (0 ≤ v5 ∧ v5 < 128) ∧ (vm_R (vm_and (mem 18 v5) v2)) ∧ (((vm_and (mem 18 v5) v2) = 0 → vm_ex G (d + 1) mX5_settle 28 [some (.inr (.inr 6)), some (.inl v1), some (.inl v2), some (.inl v3), some (.inl v4), some (.inl (v5 + 1)), none] [] mem (vm_qb Q)) ∧ (¬ (vm_and (mem 18 v5) v2) = 0 → (vm_R (mem 15 v5)) ∧ ((¬ (mem 15 v5) = 0 → vm_cb G d mX5_tightenChoice [.inr (.inr 6), .inl v5, .inl v3] mem (fun m6 r7 => (r7 = true → vm_ex G (d + 1) mX5_settle 28 [some (.inr (.inr 6)), some (.inl v1), some (.inl v2), some (.inl v3), some (.inl v4), some (.inl (v5 + 1)), none] [] m6 (vm_qb Q)) ∧ (r7 = false → Q m6 false))) ∧ ((mem 15 v5) = 0 → vm_cb G d mX5_tightenLinear [.inr (.inr 6), .inl v5, .inl v3] mem (fun m8 r9 => (r9 = true → vm_ex G (d + 1) mX5_settle 28 [some (.inr (.inr 6)), some (.inl v1), some (.inl v2), some (.inl v3), some (.inl v4), some (.inl (v5 + 1)), none] [] m8 (vm_qb Q)) ∧ (r9 = false → Q m8 false))))))))) : vm_ex G (d + 1) mX5_settle 28 [some (.inr (.inr 6)), some (.inl v1), some (.inl v2), some (.inl v3), some (.inl v4), some (.inl v5), none] [] mem (vm_qb Q) := by
  refine ex_iload (pc := 28) 16 rfl rfl ?_
  refine ex_aload_n (pc := 30) 17 rfl rfl ?_
  refine ex_geta (pc := 31) 0 18 rfl clk5 rfl rfl (Or.inl ww_184) rfl ?_
  refine ex_geti (pc := 34) 8 19 rfl clk4 rfl rfl (Or.inr ⟨_, ww_164⟩) rfl ?_
  obtain ⟨hs1, h⟩ := h
  obtain ⟨hs2, h⟩ := h
  refine ex_icmp_ge (pc := 37) 111 20 rfl (by decide) hs1 hs2 (fun hb => ?_) (fun hb => ?_)
  · have h := h.1 hb
    refine ex_aload_n (pc := 111) 56 rfl rfl ?_
    refine ex_geti (pc := 112) 4 57 rfl clk5 rfl rfl (Or.inl ww_191) rfl ?_
    refine ex_istore_n (pc := 115) 58 rfl rfl rfl ?_
    refine ex_iinc (pc := 116) 59 rfl rfl rfl rfl ?_
    refine ex_goto (pc := 119) 8 60 rfl (by decide) ?_
    exact ex_less [some (.inr (.inr 6)), some (.inl v1), some (.inl (mem 6 4)), some (.inl v3), some (.inl (v4 + 1)), none, none] (And.intro rfl (And.intro rfl (And.intro rfl (And.intro rfl (And.intro rfl (True.intro)))))) h
  · have h := h.2 hb
    refine ex_aload_n (pc := 40) 21 rfl rfl ?_
    refine ex_geta (pc := 41) 0 22 rfl clk5 rfl rfl (Or.inl ww_184) rfl ?_
    refine ex_geta (pc := 44) 3 23 rfl clk4 rfl rfl (Or.inr ⟨_, ww_154⟩) rfl ?_
    refine ex_iload (pc := 47) 24 rfl rfl ?_
    obtain ⟨hs3, h⟩ := h
    refine ex_iaload (pc := 49) 25 rfl rfl rfl hs3 ?_
    refine ex_iload_n (pc := 50) 26 rfl rfl ?_
    refine ex_iand (pc := 51) 27 rfl ?_
    obtain ⟨hs4, h⟩ := h
    refine ex_if_eq (pc := 52) 105 28 rfl (by decide) hs4 (fun hb => ?_) (fun hb => ?_)
    · have h := h.1 hb
      refine ex_iinc (pc := 105) 54 rfl rfl rfl rfl ?_
      refine ex_goto (pc := 108) 28 55 rfl (by decide) ?_
      exact h
    · have h := h.2 hb
      refine ex_aload_n (pc := 55) 29 rfl rfl ?_
      refine ex_geta (pc := 56) 0 30 rfl clk5 rfl rfl (Or.inl ww_184) rfl ?_
      refine ex_geta (pc := 59) 0 31 rfl clk4 rfl rfl (Or.inr ⟨_, ww_148⟩) rfl ?_
      refine ex_iload (pc := 62) 32 rfl rfl ?_
      refine ex_iaload (pc := 64) 33 rfl rfl rfl hs3 ?_
      obtain ⟨hs5, h⟩ := h
      refine ex_if_ne (pc := 65) 72 34 rfl (by decide) hs5 (fun hb => ?_) (fun hb => ?_)
      · have h := h.1 hb
        refine ex_iconst (pc := 72) 37 rfl ?_
        refine ex_istore (pc := 73) 38 rfl rfl rfl ?_
        refine ex_iload (pc := 75) 39 rfl rfl ?_
        refine ex_if_eq (pc := 77) 93 40 rfl (by decide) ⟨by decide, by decide⟩ (fun hb => ?_) (fun hb => ?_)
        · skip
          refine ex_aload_n (pc := 93) 47 rfl rfl ?_
          refine ex_iload (pc := 94) 48 rfl rfl ?_
          refine ex_iload_n (pc := 96) 49 rfl rfl ?_
          refine ex_invV (pc := 97) (M' := mX5_tightenChoice) (As := [.inl v5, .inl v3]) (st := []) 50 rfl clk5 rfl rfl calX5_tightenChoice (Or.inl ww_517) rfl rfl ?_
          refine vm_call.mono h ?_
          rintro m6 _ ⟨r7, rfl, h⟩
          refine ex_if_ne (pc := 100) 105 51 rfl (by decide) (vm_b2i_R _) (fun hb => ?_) (fun hb => ?_)
          · have h := h.1 (vm_b2i_n.mp hb)
            refine ex_iinc (pc := 105) 54 rfl rfl rfl rfl ?_
            refine ex_goto (pc := 108) 28 55 rfl (by decide) ?_
            exact ex_less [some (.inr (.inr 6)), some (.inl v1), some (.inl v2), some (.inl v3), some (.inl v4), some (.inl (v5 + 1)), none] (And.intro rfl (And.intro rfl (And.intro rfl (And.intro rfl (And.intro rfl (And.intro rfl (True.intro))))))) h
          · have h := h.2 (vm_b2i_0.mp hb)
            refine ex_iconst (pc := 103) 52 rfl ?_
            exact ex_iret (pc := 104) 53 rfl (Or.inr ⟨rfl, by decide⟩) ⟨false, rfl, h⟩
        · exact absurd hb (by decide)
      · have h := h.2 hb
        refine ex_iconst (pc := 68) 35 rfl ?_
        refine ex_goto (pc := 69) 73 36 rfl (by decide) ?_
        refine ex_istore (pc := 73) 38 rfl rfl rfl ?_
        refine ex_iload (pc := 75) 39 rfl rfl ?_
        refine ex_if_eq (pc := 77) 93 40 rfl (by decide) ⟨by decide, by decide⟩ (fun hb => ?_) (fun hb => ?_)
        · exact absurd hb (by decide)
        · skip
          refine ex_aload_n (pc := 80) 41 rfl rfl ?_
          refine ex_iload (pc := 81) 42 rfl rfl ?_
          refine ex_iload_n (pc := 83) 43 rfl rfl ?_
          refine ex_invV (pc := 84) (M' := mX5_tightenLinear) (As := [.inl v5, .inl v3]) (st := []) 44 rfl clk5 rfl rfl calX5_tightenLinear (Or.inl ww_501) rfl rfl ?_
          refine vm_call.mono h ?_
          rintro m8 _ ⟨r9, rfl, h⟩
          refine ex_if_ne (pc := 87) 105 45 rfl (by decide) (vm_b2i_R _) (fun hb => ?_) (fun hb => ?_)
          · have h := h.1 (vm_b2i_n.mp hb)
            refine ex_iinc (pc := 105) 54 rfl rfl rfl rfl ?_
            refine ex_goto (pc := 108) 28 55 rfl (by decide) ?_
            exact ex_less [some (.inr (.inr 6)), some (.inl v1), some (.inl v2), some (.inl v3), some (.inl v4), some (.inl (v5 + 1)), none] (And.intro rfl (And.intro rfl (And.intro rfl (And.intro rfl (And.intro rfl (And.intro rfl (True.intro))))))) h
          · have h := h.2 (vm_b2i_0.mp hb)
            refine ex_goto (pc := 90) 103 46 rfl (by decide) ?_
            refine ex_iconst (pc := 103) 52 rfl ?_
            exact ex_iret (pc := 104) 53 rfl (Or.inr ⟨rfl, by decide⟩) ⟨false, rfl, h⟩
set_option maxRecDepth 20000 in
theorem qX5_tightenLinear {G : vm_G} {d : Nat} {p1 : Int} {p2 : Int} {mem : vm_M} {Q : vm_M → Bool → Prop} (h : (0 ≤ p1 ∧ p1 < 128) ∧ vm_ex G (d + 1) mX5_tightenLinear 26 [some (.inr (.inr 6)), some (.inl p1), some (.inl p2), some (.inl (p1 * 4)), some (.inl ((p1 * 4) + (mem 19 p1))), some (.inl 0), some (.inl 0), some (.inl (p1 * 4)), none, none, none] [] mem (vm_qb Q)) : vm_cb G (d + 1) mX5_tightenLinear [.inr (.inr 6), .inl p1, .inl p2] mem Q := by
  refine vm_enter (al := [some (.inr (.inr 6)), some (.inl p1), some (.inl p2), none, none, none, none, none, none, none, none]) 8 okX5_tightenLinear (by decide +kernel) rfl rfl ?_
  refine ex_iload_n (pc := 0) 0 rfl rfl ?_
  refine ex_iconst (pc := 1) 1 rfl ?_
  refine ex_imul (pc := 2) 2 rfl ?_
  refine ex_istore_n (pc := 3) 3 rfl rfl rfl ?_
  refine ex_iload_n (pc := 4) 4 rfl rfl ?_
  refine ex_aload_n (pc := 5) 5 rfl rfl ?_
  refine ex_geta (pc := 6) 0 6 rfl clk5 rfl rfl (Or.inl ww_184) rfl ?_
  refine ex_geta (pc := 9) 4 7 rfl clk4 rfl rfl (Or.inr ⟨_, ww_156⟩) rfl ?_
  refine ex_iload_n (pc := 12) 8 rfl rfl ?_
  obtain ⟨hs1, h⟩ := h
  refine ex_iaload (pc := 13) 9 rfl rfl rfl hs1 ?_
  refine ex_iadd (pc := 14) 10 rfl ?_
  refine ex_istore (pc := 15) 11 rfl rfl rfl ?_
  refine ex_iconst (pc := 17) 12 rfl ?_
  refine ex_istore (pc := 18) 13 rfl rfl rfl ?_
  refine ex_iconst (pc := 20) 14 rfl ?_
  refine ex_istore (pc := 21) 15 rfl rfl rfl ?_
  refine ex_iload_n (pc := 23) 16 rfl rfl ?_
  refine ex_istore (pc := 24) 17 rfl rfl rfl ?_
  exact h
set_option maxRecDepth 20000 in
theorem qX5_tightenLinear_26 {G : vm_G} {d : Nat} {v1 : Int} {v2 : Int} {v3 : Int} {v4 : Int} {v5 : Int} {v6 : Int} {v7 : Int} {mem : vm_M} {Q : vm_M → Bool → Prop} (h : (vm_R v7) ∧ (vm_R v4) ∧ ((v4 ≤ v7 → vm_ex G (d + 1) mX5_tightenLinear 66 [some (.inr (.inr 6)), some (.inl v1), some (.inl v2), some (.inl v3), some (.inl v4), some (.inl v5), some (.inl v6), some (.inl v3), none, none, none] [] mem (vm_qb Q)) ∧ (¬ v4 ≤ v7 → vm_ci G d mX5_leastTerm [.inr (.inr 6), .inl v7, .inl v2] mem (fun m3 r4 => vm_ci G d mX5_greatestTerm [.inr (.inr 6), .inl v7, .inl v2] m3 (fun m5 r6 => vm_ex G (d + 1) mX5_tightenLinear 26 [some (.inr (.inr 6)), some (.inl v1), some (.inl v2), some (.inl v3), some (.inl v4), some (.inl (v5 + r4)), some (.inl (v6 + r6)), some (.inl (v7 + 1)), none, none, none] [] m5 (vm_qb Q)))))) : vm_ex G (d + 1) mX5_tightenLinear 26 [some (.inr (.inr 6)), some (.inl v1), some (.inl v2), some (.inl v3), some (.inl v4), some (.inl v5), some (.inl v6), some (.inl v7), none, none, none] [] mem (vm_qb Q) := by
  refine ex_iload (pc := 26) 18 rfl rfl ?_
  refine ex_iload (pc := 28) 19 rfl rfl ?_
  obtain ⟨hs1, h⟩ := h
  obtain ⟨hs2, h⟩ := h
  refine ex_icmp_ge (pc := 30) 63 20 rfl (by decide) hs1 hs2 (fun hb => ?_) (fun hb => ?_)
  · have h := h.1 hb
    refine ex_iload_n (pc := 63) 37 rfl rfl ?_
    refine ex_istore (pc := 64) 38 rfl rfl rfl ?_
    exact h
  · have h := h.2 hb
    refine ex_iload (pc := 33) 21 rfl rfl ?_
    refine ex_aload_n (pc := 35) 22 rfl rfl ?_
    refine ex_iload (pc := 36) 23 rfl rfl ?_
    refine ex_iload_n (pc := 38) 24 rfl rfl ?_
    refine ex_invV (pc := 39) (M' := mX5_leastTerm) (As := [.inl v7, .inl v2]) (st := [.inl v5]) 25 rfl clk5 rfl rfl calX5_leastTerm (Or.inl ww_505) rfl rfl ?_
    refine vm_call.mono h ?_
    rintro m3 _ ⟨r4, rfl, h⟩
    refine ex_iadd (pc := 42) 26 rfl ?_
    refine ex_istore (pc := 43) 27 rfl rfl rfl ?_
    refine ex_iload (pc := 45) 28 rfl rfl ?_
    refine ex_aload_n (pc := 47) 29 rfl rfl ?_
    refine ex_iload (pc := 48) 30 rfl rfl ?_
    refine ex_iload_n (pc := 50) 31 rfl rfl ?_
    refine ex_invV (pc := 51) (M' := mX5_greatestTerm) (As := [.inl v7, .inl v2]) (st := [.inl v6]) 32 rfl clk5 rfl rfl calX5_greatestTerm (Or.inl ww_509) rfl rfl ?_
    refine vm_call.mono h ?_
    rintro m5 _ ⟨r6, rfl, h⟩
    refine ex_iadd (pc := 54) 33 rfl ?_
    refine ex_istore (pc := 55) 34 rfl rfl rfl ?_
    refine ex_iinc (pc := 57) 35 rfl rfl rfl rfl ?_
    refine ex_goto (pc := 60) 26 36 rfl (by decide) ?_
    exact h
set_option maxRecDepth 20000 in
theorem qX5_tightenLinear_66 {G : vm_G} {d : Nat} {v1 : Int} {v2 : Int} {v3 : Int} {v4 : Int} {v5 : Int} {v6 : Int} {v7 : Int} {mem : vm_M} {Q : vm_M → Bool → Prop} (h : (vm_R v7) ∧ (vm_R v4) ∧ ((v4 ≤ v7 → Q mem true) ∧ (¬ v4 ≤ v7 → vm_ci G d mX5_leastTerm [.inr (.inr 6), .inl v7, .inl v2] mem (fun m3 r4 => vm_ci G d mX5_greatestTerm [.inr (.inr 6), .inl v7, .inl v2] m3 (fun m5 r6 => (0 ≤ v7 ∧ v7 < 512) ∧ (0 ≤ v1 ∧ v1 < 128) ∧ vm_cb G d mX5_keep [.inr (.inr 6), .inl (v2 + (m5 20 v7)), .inl (m5 21 v7), .inl ((m5 16 v1) - (v6 - r6)), .inl ((m5 17 v1) - (v5 - r4))] m5 (fun m9 r10 => (r10 = true → vm_ci G d mX5_leastTerm [.inr (.inr 6), .inl v7, .inl v2] m9 (fun m11 r12 => vm_ci G d mX5_greatestTerm [.inr (.inr 6), .inl v7, .inl v2] m11 (fun m13 r14 => vm_ex G (d + 1) mX5_tightenLinear 66 [some (.inr (.inr 6)), some (.inl v1), some (.inl v2), some (.inl v3), some (.inl v4), some (.inl ((v5 - r4) + r12)), some (.inl ((v6 - r6) + r14)), some (.inl (v7 + 1)), none, none, none] [] m13 (vm_qb Q)))) ∧ (r10 = false → Q m9 false))))))) : vm_ex G (d + 1) mX5_tightenLinear 66 [some (.inr (.inr 6)), some (.inl v1), some (.inl v2), some (.inl v3), some (.inl v4), some (.inl v5), some (.inl v6), some (.inl v7), none, none, none] [] mem (vm_qb Q) := by
  refine ex_iload (pc := 66) 39 rfl rfl ?_
  refine ex_iload (pc := 68) 40 rfl rfl ?_
  obtain ⟨hs1, h⟩ := h
  obtain ⟨hs2, h⟩ := h
  refine ex_icmp_ge (pc := 70) 186 41 rfl (by decide) hs1 hs2 (fun hb => ?_) (fun hb => ?_)
  · have h := h.1 hb
    refine ex_iconst (pc := 186) 105 rfl ?_
    exact ex_iret (pc := 187) 106 rfl (Or.inr ⟨rfl, by decide⟩) ⟨true, rfl, h⟩
  · have h := h.2 hb
    refine ex_iload (pc := 73) 42 rfl rfl ?_
    refine ex_aload_n (pc := 75) 43 rfl rfl ?_
    refine ex_iload (pc := 76) 44 rfl rfl ?_
    refine ex_iload_n (pc := 78) 45 rfl rfl ?_
    refine ex_invV (pc := 79) (M' := mX5_leastTerm) (As := [.inl v7, .inl v2]) (st := [.inl v5]) 46 rfl clk5 rfl rfl calX5_leastTerm (Or.inl ww_505) rfl rfl ?_
    refine vm_call.mono h ?_
    rintro m3 _ ⟨r4, rfl, h⟩
    refine ex_isub (pc := 82) 47 rfl ?_
    refine ex_istore (pc := 83) 48 rfl rfl rfl ?_
    refine ex_iload (pc := 85) 49 rfl rfl ?_
    refine ex_aload_n (pc := 87) 50 rfl rfl ?_
    refine ex_iload (pc := 88) 51 rfl rfl ?_
    refine ex_iload_n (pc := 90) 52 rfl rfl ?_
    refine ex_invV (pc := 91) (M' := mX5_greatestTerm) (As := [.inl v7, .inl v2]) (st := [.inl v6]) 53 rfl clk5 rfl rfl calX5_greatestTerm (Or.inl ww_509) rfl rfl ?_
    refine vm_call.mono h ?_
    rintro m5 _ ⟨r6, rfl, h⟩
    refine ex_isub (pc := 94) 54 rfl ?_
    refine ex_istore (pc := 95) 55 rfl rfl rfl ?_
    refine ex_iload_n (pc := 97) 56 rfl rfl ?_
    refine ex_aload_n (pc := 98) 57 rfl rfl ?_
    refine ex_geta (pc := 99) 0 58 rfl clk5 rfl rfl (Or.inl ww_184) rfl ?_
    refine ex_geta (pc := 102) 5 59 rfl clk4 rfl rfl (Or.inr ⟨_, ww_158⟩) rfl ?_
    refine ex_iload (pc := 105) 60 rfl rfl ?_
    obtain ⟨hs7, h⟩ := h
    refine ex_iaload (pc := 107) 61 rfl rfl rfl hs7 ?_
    refine ex_iadd (pc := 108) 62 rfl ?_
    refine ex_istore (pc := 109) 63 rfl rfl rfl ?_
    refine ex_aload_n (pc := 111) 64 rfl rfl ?_
    refine ex_iload (pc := 112) 65 rfl rfl ?_
    refine ex_aload_n (pc := 114) 66 rfl rfl ?_
    refine ex_geta (pc := 115) 0 67 rfl clk5 rfl rfl (Or.inl ww_184) rfl ?_
    refine ex_geta (pc := 118) 6 68 rfl clk4 rfl rfl (Or.inr ⟨_, ww_160⟩) rfl ?_
    refine ex_iload (pc := 121) 69 rfl rfl ?_
    refine ex_iaload (pc := 123) 70 rfl rfl rfl hs7 ?_
    refine ex_aload_n (pc := 124) 71 rfl rfl ?_
    refine ex_geta (pc := 125) 0 72 rfl clk5 rfl rfl (Or.inl ww_184) rfl ?_
    refine ex_geta (pc := 128) 1 73 rfl clk4 rfl rfl (Or.inr ⟨_, ww_150⟩) rfl ?_
    refine ex_iload_n (pc := 131) 74 rfl rfl ?_
    obtain ⟨hs8, h⟩ := h
    refine ex_iaload (pc := 132) 75 rfl rfl rfl hs8 ?_
    refine ex_iload (pc := 133) 76 rfl rfl ?_
    refine ex_isub (pc := 135) 77 rfl ?_
    refine ex_aload_n (pc := 136) 78 rfl rfl ?_
    refine ex_geta (pc := 137) 0 79 rfl clk5 rfl rfl (Or.inl ww_184) rfl ?_
    refine ex_geta (pc := 140) 2 80 rfl clk4 rfl rfl (Or.inr ⟨_, ww_152⟩) rfl ?_
    refine ex_iload_n (pc := 143) 81 rfl rfl ?_
    refine ex_iaload (pc := 144) 82 rfl rfl rfl hs8 ?_
    refine ex_iload (pc := 145) 83 rfl rfl ?_
    refine ex_isub (pc := 147) 84 rfl ?_
    refine ex_invV (pc := 148) (M' := mX5_keep) (As := [.inl (v2 + (m5 20 v7)), .inl (m5 21 v7), .inl ((m5 16 v1) - (v6 - r6)), .inl ((m5 17 v1) - (v5 - r4))]) (st := []) 85 rfl clk5 rfl rfl calX5_keep (Or.inl ww_513) rfl rfl ?_
    refine vm_call.mono h ?_
    rintro m9 _ ⟨r10, rfl, h⟩
    refine ex_if_ne (pc := 151) 156 86 rfl (by decide) (vm_b2i_R _) (fun hb => ?_) (fun hb => ?_)
    · have h := h.1 (vm_b2i_n.mp hb)
      refine ex_iload (pc := 156) 89 rfl rfl ?_
      refine ex_aload_n (pc := 158) 90 rfl rfl ?_
      refine ex_iload (pc := 159) 91 rfl rfl ?_
      refine ex_iload_n (pc := 161) 92 rfl rfl ?_
      refine ex_invV (pc := 162) (M' := mX5_leastTerm) (As := [.inl v7, .inl v2]) (st := [.inl (v5 - r4)]) 93 rfl clk5 rfl rfl calX5_leastTerm (Or.inl ww_505) rfl rfl ?_
      refine vm_call.mono h ?_
      rintro m11 _ ⟨r12, rfl, h⟩
      refine ex_iadd (pc := 165) 94 rfl ?_
      refine ex_istore (pc := 166) 95 rfl rfl rfl ?_
      refine ex_iload (pc := 168) 96 rfl rfl ?_
      refine ex_aload_n (pc := 170) 97 rfl rfl ?_
      refine ex_iload (pc := 171) 98 rfl rfl ?_
      refine ex_iload_n (pc := 173) 99 rfl rfl ?_
      refine ex_invV (pc := 174) (M' := mX5_greatestTerm) (As := [.inl v7, .inl v2]) (st := [.inl (v6 - r6)]) 100 rfl clk5 rfl rfl calX5_greatestTerm (Or.inl ww_509) rfl rfl ?_
      refine vm_call.mono h ?_
      rintro m13 _ ⟨r14, rfl, h⟩
      refine ex_iadd (pc := 177) 101 rfl ?_
      refine ex_istore (pc := 178) 102 rfl rfl rfl ?_
      refine ex_iinc (pc := 180) 103 rfl rfl rfl rfl ?_
      refine ex_goto (pc := 183) 66 104 rfl (by decide) ?_
      exact ex_less [some (.inr (.inr 6)), some (.inl v1), some (.inl v2), some (.inl v3), some (.inl v4), some (.inl ((v5 - r4) + r12)), some (.inl ((v6 - r6) + r14)), some (.inl (v7 + 1)), none, none, none] (And.intro rfl (And.intro rfl (And.intro rfl (And.intro rfl (And.intro rfl (And.intro rfl (And.intro rfl (And.intro rfl (True.intro))))))))) h
    · have h := h.2 (vm_b2i_0.mp hb)
      refine ex_iconst (pc := 154) 87 rfl ?_
      exact ex_iret (pc := 155) 88 rfl (Or.inr ⟨rfl, by decide⟩) ⟨false, rfl, h⟩
set_option maxRecDepth 20000 in
theorem qX5_tightenChoice {G : vm_G} {d : Nat} {p1 : Int} {p2 : Int} {mem : vm_M} {Q : vm_M → Bool → Prop} (h : (0 ≤ (p1 * 4) ∧ (p1 * 4) < 512) ∧ (0 ≤ ((p1 * 4) + 1) ∧ ((p1 * 4) + 1) < 512) ∧ (0 ≤ ((p1 * 4) + 2) ∧ ((p1 * 4) + 2) < 512) ∧ (0 ≤ p1 ∧ p1 < 128) ∧ (vm_R (mem 15 p1)) ∧ ((¬ (mem 15 p1) = 1 → (0 ≤ (p2 + (mem 20 ((p1 * 4) + 1))) ∧ (p2 + (mem 20 ((p1 * 4) + 1))) < 272) ∧ (0 ≤ (p2 + (mem 20 ((p1 * 4) + 2))) ∧ (p2 + (mem 20 ((p1 * 4) + 2))) < 272) ∧ (vm_R (mem 13 (p2 + (mem 20 ((p1 * 4) + 1))))) ∧ (vm_R (mem 13 (p2 + (mem 20 ((p1 * 4) + 2))))) ∧ (vm_R (mem 14 (p2 + (mem 20 ((p1 * 4) + 1))))) ∧ (vm_R (mem 14 (p2 + (mem 20 ((p1 * 4) + 2))))) ∧ vm_cb G d mX5_keep [.inr (.inr 6), .inl (p2 + (mem 20 (p1 * 4))), .inl 1, .inl (if (mem 13 (p2 + (mem 20 ((p1 * 4) + 2)))) < (mem 13 (p2 + (mem 20 ((p1 * 4) + 1)))) then (mem 13 (p2 + (mem 20 ((p1 * 4) + 2)))) else (mem 13 (p2 + (mem 20 ((p1 * 4) + 1))))), .inl (if (mem 14 (p2 + (mem 20 ((p1 * 4) + 2)))) < (mem 14 (p2 + (mem 20 ((p1 * 4) + 1)))) then (mem 14 (p2 + (mem 20 ((p1 * 4) + 2)))) else (mem 14 (p2 + (mem 20 ((p1 * 4) + 1)))))] mem (fun m12 r13 => (r13 = false → Q m12 false) ∧ (r13 = true → (0 ≤ (p2 + (mem 20 (p1 * 4))) ∧ (p2 + (mem 20 (p1 * 4))) < 272) ∧ (vm_R (m12 13 (p2 + (mem 20 ((p1 * 4) + 2))))) ∧ (vm_R (m12 14 (p2 + (mem 20 (p1 * 4))))) ∧ (((m12 13 (p2 + (mem 20 ((p1 * 4) + 2)))) ≤ (m12 14 (p2 + (mem 20 (p1 * 4)))) → vm_cb G d mX5_keep [.inr (.inr 6), .inl (p2 + (mem 20 ((p1 * 4) + 1))), .inl 1, .inl (m12 13 (p2 + (mem 20 (p1 * 4)))), .inl 18] m12 (fun m17 r18 => (r18 = false → Q m17 false) ∧ (r18 = true → (vm_R (m17 13 (p2 + (mem 20 ((p1 * 4) + 1))))) ∧ (vm_R (m17 14 (p2 + (mem 20 (p1 * 4))))) ∧ (((m17 13 (p2 + (mem 20 ((p1 * 4) + 1)))) ≤ (m17 14 (p2 + (mem 20 (p1 * 4)))) → vm_cb G d mX5_keep [.inr (.inr 6), .inl (p2 + (mem 20 ((p1 * 4) + 2))), .inl 1, .inl (m17 13 (p2 + (mem 20 (p1 * 4)))), .inl 18] m17 (fun m21 r22 => (r22 = false → Q m21 false) ∧ (r22 = true → Q m21 true))) ∧ (¬ (m17 13 (p2 + (mem 20 ((p1 * 4) + 1)))) ≤ (m17 14 (p2 + (mem 20 (p1 * 4)))) → vm_cb G d mX5_keep [.inr (.inr 6), .inl (p2 + (mem 20 ((p1 * 4) + 2))), .inl 1, .inl (m17 13 (p2 + (mem 20 (p1 * 4)))), .inl (m17 14 (p2 + (mem 20 (p1 * 4))))] m17 (fun m23 r24 => (r24 = false → Q m23 false) ∧ (r24 = true → Q m23 true))))))) ∧ (¬ (m12 13 (p2 + (mem 20 ((p1 * 4) + 2)))) ≤ (m12 14 (p2 + (mem 20 (p1 * 4)))) → vm_cb G d mX5_keep [.inr (.inr 6), .inl (p2 + (mem 20 ((p1 * 4) + 1))), .inl 1, .inl (m12 13 (p2 + (mem 20 (p1 * 4)))), .inl (m12 14 (p2 + (mem 20 (p1 * 4))))] m12 (fun m25 r26 => (r26 = false → Q m25 false) ∧ (r26 = true → (vm_R (m25 13 (p2 + (mem 20 ((p1 * 4) + 1))))) ∧ (vm_R (m25 14 (p2 + (mem 20 (p1 * 4))))) ∧ (((m25 13 (p2 + (mem 20 ((p1 * 4) + 1)))) ≤ (m25 14 (p2 + (mem 20 (p1 * 4)))) → vm_cb G d mX5_keep [.inr (.inr 6), .inl (p2 + (mem 20 ((p1 * 4) + 2))), .inl 1, .inl (m25 13 (p2 + (mem 20 (p1 * 4)))), .inl 18] m25 (fun m29 r30 => (r30 = false → Q m29 false) ∧ (r30 = true → Q m29 true))) ∧ (¬ (m25 13 (p2 + (mem 20 ((p1 * 4) + 1)))) ≤ (m25 14 (p2 + (mem 20 (p1 * 4)))) → vm_cb G d mX5_keep [.inr (.inr 6), .inl (p2 + (mem 20 ((p1 * 4) + 2))), .inl 1, .inl (m25 13 (p2 + (mem 20 (p1 * 4)))), .inl (m25 14 (p2 + (mem 20 (p1 * 4))))] m25 (fun m31 r32 => (r32 = false → Q m31 false) ∧ (r32 = true → Q m31 true))))))))))) ∧ ((mem 15 p1) = 1 → (0 ≤ (p2 + (mem 20 ((p1 * 4) + 1))) ∧ (p2 + (mem 20 ((p1 * 4) + 1))) < 272) ∧ (0 ≤ (p2 + (mem 20 ((p1 * 4) + 2))) ∧ (p2 + (mem 20 ((p1 * 4) + 2))) < 272) ∧ (vm_R (mem 13 (p2 + (mem 20 ((p1 * 4) + 1))))) ∧ (vm_R (mem 13 (p2 + (mem 20 ((p1 * 4) + 2))))) ∧ (vm_R (mem 14 (p2 + (mem 20 ((p1 * 4) + 1))))) ∧ (vm_R (mem 14 (p2 + (mem 20 ((p1 * 4) + 2))))) ∧ vm_cb G d mX5_keep [.inr (.inr 6), .inl (p2 + (mem 20 (p1 * 4))), .inl 1, .inl (if (mem 13 (p2 + (mem 20 ((p1 * 4) + 1)))) < (mem 13 (p2 + (mem 20 ((p1 * 4) + 2)))) then (mem 13 (p2 + (mem 20 ((p1 * 4) + 2)))) else (mem 13 (p2 + (mem 20 ((p1 * 4) + 1))))), .inl (if (mem 14 (p2 + (mem 20 ((p1 * 4) + 1)))) < (mem 14 (p2 + (mem 20 ((p1 * 4) + 2)))) then (mem 14 (p2 + (mem 20 ((p1 * 4) + 2)))) else (mem 14 (p2 + (mem 20 ((p1 * 4) + 1)))))] mem (fun m39 r40 => (r40 = false → Q m39 false) ∧ (r40 = true → (0 ≤ (p2 + (mem 20 (p1 * 4))) ∧ (p2 + (mem 20 (p1 * 4))) < 272) ∧ (vm_R (m39 14 (p2 + (mem 20 ((p1 * 4) + 2))))) ∧ (vm_R (m39 13 (p2 + (mem 20 (p1 * 4))))) ∧ (((m39 13 (p2 + (mem 20 (p1 * 4)))) ≤ (m39 14 (p2 + (mem 20 ((p1 * 4) + 2)))) → vm_cb G d mX5_keep [.inr (.inr 6), .inl (p2 + (mem 20 ((p1 * 4) + 1))), .inl 1, .inl 0, .inl (m39 14 (p2 + (mem 20 (p1 * 4))))] m39 (fun m44 r45 => (r45 = false → Q m44 false) ∧ (r45 = true → (vm_R (m44 14 (p2 + (mem 20 ((p1 * 4) + 1))))) ∧ (vm_R (m44 13 (p2 + (mem 20 (p1 * 4))))) ∧ (((m44 13 (p2 + (mem 20 (p1 * 4)))) ≤ (m44 14 (p2 + (mem 20 ((p1 * 4) + 1)))) → vm_cb G d mX5_keep [.inr (.inr 6), .inl (p2 + (mem 20 ((p1 * 4) + 2))), .inl 1, .inl 0, .inl (m44 14 (p2 + (mem 20 (p1 * 4))))] m44 (fun m48 r49 => (r49 = false → Q m48 false) ∧ (r49 = true → Q m48 true))) ∧ (¬ (m44 13 (p2 + (mem 20 (p1 * 4)))) ≤ (m44 14 (p2 + (mem 20 ((p1 * 4) + 1)))) → vm_cb G d mX5_keep [.inr (.inr 6), .inl (p2 + (mem 20 ((p1 * 4) + 2))), .inl 1, .inl (m44 13 (p2 + (mem 20 (p1 * 4)))), .inl (m44 14 (p2 + (mem 20 (p1 * 4))))] m44 (fun m50 r51 => (r51 = false → Q m50 false) ∧ (r51 = true → Q m50 true))))))) ∧ (¬ (m39 13 (p2 + (mem 20 (p1 * 4)))) ≤ (m39 14 (p2 + (mem 20 ((p1 * 4) + 2)))) → vm_cb G d mX5_keep [.inr (.inr 6), .inl (p2 + (mem 20 ((p1 * 4) + 1))), .inl 1, .inl (m39 13 (p2 + (mem 20 (p1 * 4)))), .inl (m39 14 (p2 + (mem 20 (p1 * 4))))] m39 (fun m52 r53 => (r53 = false → Q m52 false) ∧ (r53 = true → (vm_R (m52 14 (p2 + (mem 20 ((p1 * 4) + 1))))) ∧ (vm_R (m52 13 (p2 + (mem 20 (p1 * 4))))) ∧ (((m52 13 (p2 + (mem 20 (p1 * 4)))) ≤ (m52 14 (p2 + (mem 20 ((p1 * 4) + 1)))) → vm_cb G d mX5_keep [.inr (.inr 6), .inl (p2 + (mem 20 ((p1 * 4) + 2))), .inl 1, .inl 0, .inl (m52 14 (p2 + (mem 20 (p1 * 4))))] m52 (fun m56 r57 => (r57 = false → Q m56 false) ∧ (r57 = true → Q m56 true))) ∧ (¬ (m52 13 (p2 + (mem 20 (p1 * 4)))) ≤ (m52 14 (p2 + (mem 20 ((p1 * 4) + 1)))) → vm_cb G d mX5_keep [.inr (.inr 6), .inl (p2 + (mem 20 ((p1 * 4) + 2))), .inl 1, .inl (m52 13 (p2 + (mem 20 (p1 * 4)))), .inl (m52 14 (p2 + (mem 20 (p1 * 4))))] m52 (fun m58 r59 => (r59 = false → Q m58 false) ∧ (r59 = true → Q m58 true))))))))))))) : vm_cb G (d + 1) mX5_tightenChoice [.inr (.inr 6), .inl p1, .inl p2] mem Q := by
  refine vm_enter (al := [some (.inr (.inr 6)), some (.inl p1), some (.inl p2), none, none, none, none]) 4 okX5_tightenChoice (by decide +kernel) rfl rfl ?_
  refine ex_iload_n (pc := 0) 0 rfl rfl ?_
  refine ex_iconst (pc := 1) 1 rfl ?_
  refine ex_imul (pc := 2) 2 rfl ?_
  refine ex_istore_n (pc := 3) 3 rfl rfl rfl ?_
  refine ex_iload_n (pc := 4) 4 rfl rfl ?_
  refine ex_aload_n (pc := 5) 5 rfl rfl ?_
  refine ex_geta (pc := 6) 0 6 rfl clk5 rfl rfl (Or.inl ww_184) rfl ?_
  refine ex_geta (pc := 9) 5 7 rfl clk4 rfl rfl (Or.inr ⟨_, ww_158⟩) rfl ?_
  refine ex_iload_n (pc := 12) 8 rfl rfl ?_
  obtain ⟨hs1, h⟩ := h
  refine ex_iaload (pc := 13) 9 rfl rfl rfl hs1 ?_
  refine ex_iadd (pc := 14) 10 rfl ?_
  refine ex_istore (pc := 15) 11 rfl rfl rfl ?_
  refine ex_iload_n (pc := 17) 12 rfl rfl ?_
  refine ex_aload_n (pc := 18) 13 rfl rfl ?_
  refine ex_geta (pc := 19) 0 14 rfl clk5 rfl rfl (Or.inl ww_184) rfl ?_
  refine ex_geta (pc := 22) 5 15 rfl clk4 rfl rfl (Or.inr ⟨_, ww_158⟩) rfl ?_
  refine ex_iload_n (pc := 25) 16 rfl rfl ?_
  refine ex_iconst (pc := 26) 17 rfl ?_
  refine ex_iadd (pc := 27) 18 rfl ?_
  obtain ⟨hs2, h⟩ := h
  refine ex_iaload (pc := 28) 19 rfl rfl rfl hs2 ?_
  refine ex_iadd (pc := 29) 20 rfl ?_
  refine ex_istore (pc := 30) 21 rfl rfl rfl ?_
  refine ex_iload_n (pc := 32) 22 rfl rfl ?_
  refine ex_aload_n (pc := 33) 23 rfl rfl ?_
  refine ex_geta (pc := 34) 0 24 rfl clk5 rfl rfl (Or.inl ww_184) rfl ?_
  refine ex_geta (pc := 37) 5 25 rfl clk4 rfl rfl (Or.inr ⟨_, ww_158⟩) rfl ?_
  refine ex_iload_n (pc := 40) 26 rfl rfl ?_
  refine ex_iconst (pc := 41) 27 rfl ?_
  refine ex_iadd (pc := 42) 28 rfl ?_
  obtain ⟨hs3, h⟩ := h
  refine ex_iaload (pc := 43) 29 rfl rfl rfl hs3 ?_
  refine ex_iadd (pc := 44) 30 rfl ?_
  refine ex_istore (pc := 45) 31 rfl rfl rfl ?_
  refine ex_aload_n (pc := 47) 32 rfl rfl ?_
  refine ex_geta (pc := 48) 0 33 rfl clk5 rfl rfl (Or.inl ww_184) rfl ?_
  refine ex_geta (pc := 51) 0 34 rfl clk4 rfl rfl (Or.inr ⟨_, ww_148⟩) rfl ?_
  refine ex_iload_n (pc := 54) 35 rfl rfl ?_
  obtain ⟨hs4, h⟩ := h
  refine ex_iaload (pc := 55) 36 rfl rfl rfl hs4 ?_
  refine ex_iconst (pc := 56) 37 rfl ?_
  obtain ⟨hs5, h⟩ := h
  refine ex_icmp_ne (pc := 57) 200 38 rfl (by decide) hs5 ⟨by decide, by decide⟩ (fun hb => ?_) (fun hb => ?_)
  · have h := h.1 hb
    refine ex_aload_n (pc := 200) 114 rfl rfl ?_
    refine ex_iload (pc := 201) 115 rfl rfl ?_
    refine ex_iconst (pc := 203) 116 rfl ?_
    refine ex_aload_n (pc := 204) 117 rfl rfl ?_
    refine ex_geta (pc := 205) 1 118 rfl clk5 rfl rfl (Or.inl ww_186) rfl ?_
    refine ex_iload (pc := 208) 119 rfl rfl ?_
    obtain ⟨hs6, h⟩ := h
    refine ex_iaload (pc := 210) 120 rfl rfl rfl hs6 ?_
    refine ex_aload_n (pc := 211) 121 rfl rfl ?_
    refine ex_geta (pc := 212) 1 122 rfl clk5 rfl rfl (Or.inl ww_186) rfl ?_
    refine ex_iload (pc := 215) 123 rfl rfl ?_
    obtain ⟨hs7, h⟩ := h
    refine ex_iaload (pc := 217) 124 rfl rfl rfl hs7 ?_
    obtain ⟨hs8, h⟩ := h
    obtain ⟨hs9, h⟩ := h
    refine ex_mmin (pc := 218) 125 rfl ww_472 ww_473 ww_99 ww_474 hs8 hs9 rfl ?_
    refine ex_aload_n (pc := 221) 126 rfl rfl ?_
    refine ex_geta (pc := 222) 2 127 rfl clk5 rfl rfl (Or.inl ww_188) rfl ?_
    refine ex_iload (pc := 225) 128 rfl rfl ?_
    refine ex_iaload (pc := 227) 129 rfl rfl rfl hs6 ?_
    refine ex_aload_n (pc := 228) 130 rfl rfl ?_
    refine ex_geta (pc := 229) 2 131 rfl clk5 rfl rfl (Or.inl ww_188) rfl ?_
    refine ex_iload (pc := 232) 132 rfl rfl ?_
    refine ex_iaload (pc := 234) 133 rfl rfl rfl hs7 ?_
    obtain ⟨hs10, h⟩ := h
    obtain ⟨hs11, h⟩ := h
    refine ex_mmin (pc := 235) 134 rfl ww_472 ww_473 ww_99 ww_474 hs10 hs11 rfl ?_
    refine ex_invV (pc := 238) (M' := mX5_keep) (As := [.inl (p2 + (mem 20 (p1 * 4))), .inl 1, .inl (if (mem 13 (p2 + (mem 20 ((p1 * 4) + 2)))) < (mem 13 (p2 + (mem 20 ((p1 * 4) + 1)))) then (mem 13 (p2 + (mem 20 ((p1 * 4) + 2)))) else (mem 13 (p2 + (mem 20 ((p1 * 4) + 1))))), .inl (if (mem 14 (p2 + (mem 20 ((p1 * 4) + 2)))) < (mem 14 (p2 + (mem 20 ((p1 * 4) + 1)))) then (mem 14 (p2 + (mem 20 ((p1 * 4) + 2)))) else (mem 14 (p2 + (mem 20 ((p1 * 4) + 1)))))]) (st := []) 135 rfl clk5 rfl rfl calX5_keep (Or.inl ww_513) rfl rfl ?_
    refine vm_call.mono h ?_
    rintro m12 _ ⟨r13, rfl, h⟩
    refine ex_if_eq (pc := 241) 340 136 rfl (by decide) (vm_b2i_R _) (fun hb => ?_) (fun hb => ?_)
    · have h := h.1 (vm_b2i_0.mp hb)
      refine ex_iconst (pc := 340) 187 rfl ?_
      exact ex_iret (pc := 341) 188 rfl (Or.inr ⟨rfl, by decide⟩) ⟨false, rfl, h⟩
    · have h := h.2 (vm_b2i_n.mp hb)
      refine ex_aload_n (pc := 244) 137 rfl rfl ?_
      refine ex_iload (pc := 245) 138 rfl rfl ?_
      refine ex_iconst (pc := 247) 139 rfl ?_
      refine ex_aload_n (pc := 248) 140 rfl rfl ?_
      refine ex_geta (pc := 249) 1 141 rfl clk5 rfl rfl (Or.inl ww_186) rfl ?_
      refine ex_iload (pc := 252) 142 rfl rfl ?_
      obtain ⟨hs14, h⟩ := h
      refine ex_iaload (pc := 254) 143 rfl rfl rfl hs14 ?_
      refine ex_aload_n (pc := 255) 144 rfl rfl ?_
      refine ex_geta (pc := 256) 1 145 rfl clk5 rfl rfl (Or.inl ww_186) rfl ?_
      refine ex_iload (pc := 259) 146 rfl rfl ?_
      refine ex_iaload (pc := 261) 147 rfl rfl rfl hs7 ?_
      refine ex_aload_n (pc := 262) 148 rfl rfl ?_
      refine ex_geta (pc := 263) 2 149 rfl clk5 rfl rfl (Or.inl ww_188) rfl ?_
      refine ex_iload (pc := 266) 150 rfl rfl ?_
      refine ex_iaload (pc := 268) 151 rfl rfl rfl hs14 ?_
      obtain ⟨hs15, h⟩ := h
      obtain ⟨hs16, h⟩ := h
      refine ex_icmp_le (pc := 269) 282 152 rfl (by decide) hs15 hs16 (fun hb => ?_) (fun hb => ?_)
      · have h := h.1 hb
        refine ex_bipush (pc := 282) 158 rfl (by decide) ?_
        refine ex_invV (pc := 284) (M' := mX5_keep) (As := [.inl (p2 + (mem 20 ((p1 * 4) + 1))), .inl 1, .inl (m12 13 (p2 + (mem 20 (p1 * 4)))), .inl 18]) (st := []) 159 rfl clk5 rfl rfl calX5_keep (Or.inl ww_513) rfl rfl ?_
        refine vm_call.mono h ?_
        rintro m17 _ ⟨r18, rfl, h⟩
        refine ex_if_eq (pc := 287) 340 160 rfl (by decide) (vm_b2i_R _) (fun hb => ?_) (fun hb => ?_)
        · have h := h.1 (vm_b2i_0.mp hb)
          refine ex_iconst (pc := 340) 187 rfl ?_
          exact ex_iret (pc := 341) 188 rfl (Or.inr ⟨rfl, by decide⟩) ⟨false, rfl, h⟩
        · have h := h.2 (vm_b2i_n.mp hb)
          refine ex_aload_n (pc := 290) 161 rfl rfl ?_
          refine ex_iload (pc := 291) 162 rfl rfl ?_
          refine ex_iconst (pc := 293) 163 rfl ?_
          refine ex_aload_n (pc := 294) 164 rfl rfl ?_
          refine ex_geta (pc := 295) 1 165 rfl clk5 rfl rfl (Or.inl ww_186) rfl ?_
          refine ex_iload (pc := 298) 166 rfl rfl ?_
          refine ex_iaload (pc := 300) 167 rfl rfl rfl hs14 ?_
          refine ex_aload_n (pc := 301) 168 rfl rfl ?_
          refine ex_geta (pc := 302) 1 169 rfl clk5 rfl rfl (Or.inl ww_186) rfl ?_
          refine ex_iload (pc := 305) 170 rfl rfl ?_
          refine ex_iaload (pc := 307) 171 rfl rfl rfl hs6 ?_
          refine ex_aload_n (pc := 308) 172 rfl rfl ?_
          refine ex_geta (pc := 309) 2 173 rfl clk5 rfl rfl (Or.inl ww_188) rfl ?_
          refine ex_iload (pc := 312) 174 rfl rfl ?_
          refine ex_iaload (pc := 314) 175 rfl rfl rfl hs14 ?_
          obtain ⟨hs19, h⟩ := h
          obtain ⟨hs20, h⟩ := h
          refine ex_icmp_le (pc := 315) 328 176 rfl (by decide) hs19 hs20 (fun hb => ?_) (fun hb => ?_)
          · have h := h.1 hb
            refine ex_bipush (pc := 328) 182 rfl (by decide) ?_
            refine ex_invV (pc := 330) (M' := mX5_keep) (As := [.inl (p2 + (mem 20 ((p1 * 4) + 2))), .inl 1, .inl (m17 13 (p2 + (mem 20 (p1 * 4)))), .inl 18]) (st := []) 183 rfl clk5 rfl rfl calX5_keep (Or.inl ww_513) rfl rfl ?_
            refine vm_call.mono h ?_
            rintro m21 _ ⟨r22, rfl, h⟩
            refine ex_if_eq (pc := 333) 340 184 rfl (by decide) (vm_b2i_R _) (fun hb => ?_) (fun hb => ?_)
            · have h := h.1 (vm_b2i_0.mp hb)
              refine ex_iconst (pc := 340) 187 rfl ?_
              exact ex_iret (pc := 341) 188 rfl (Or.inr ⟨rfl, by decide⟩) ⟨false, rfl, h⟩
            · have h := h.2 (vm_b2i_n.mp hb)
              refine ex_iconst (pc := 336) 185 rfl ?_
              refine ex_goto (pc := 337) 341 186 rfl (by decide) ?_
              exact ex_iret (pc := 341) 188 rfl (Or.inr ⟨rfl, by decide⟩) ⟨true, rfl, h⟩
          · have h := h.2 hb
            refine ex_aload_n (pc := 318) 177 rfl rfl ?_
            refine ex_geta (pc := 319) 2 178 rfl clk5 rfl rfl (Or.inl ww_188) rfl ?_
            refine ex_iload (pc := 322) 179 rfl rfl ?_
            refine ex_iaload (pc := 324) 180 rfl rfl rfl hs14 ?_
            refine ex_goto (pc := 325) 330 181 rfl (by decide) ?_
            refine ex_invV (pc := 330) (M' := mX5_keep) (As := [.inl (p2 + (mem 20 ((p1 * 4) + 2))), .inl 1, .inl (m17 13 (p2 + (mem 20 (p1 * 4)))), .inl (m17 14 (p2 + (mem 20 (p1 * 4))))]) (st := []) 183 rfl clk5 rfl rfl calX5_keep (Or.inl ww_513) rfl rfl ?_
            refine vm_call.mono h ?_
            rintro m23 _ ⟨r24, rfl, h⟩
            refine ex_if_eq (pc := 333) 340 184 rfl (by decide) (vm_b2i_R _) (fun hb => ?_) (fun hb => ?_)
            · have h := h.1 (vm_b2i_0.mp hb)
              refine ex_iconst (pc := 340) 187 rfl ?_
              exact ex_iret (pc := 341) 188 rfl (Or.inr ⟨rfl, by decide⟩) ⟨false, rfl, h⟩
            · have h := h.2 (vm_b2i_n.mp hb)
              refine ex_iconst (pc := 336) 185 rfl ?_
              refine ex_goto (pc := 337) 341 186 rfl (by decide) ?_
              exact ex_iret (pc := 341) 188 rfl (Or.inr ⟨rfl, by decide⟩) ⟨true, rfl, h⟩
      · have h := h.2 hb
        refine ex_aload_n (pc := 272) 153 rfl rfl ?_
        refine ex_geta (pc := 273) 2 154 rfl clk5 rfl rfl (Or.inl ww_188) rfl ?_
        refine ex_iload (pc := 276) 155 rfl rfl ?_
        refine ex_iaload (pc := 278) 156 rfl rfl rfl hs14 ?_
        refine ex_goto (pc := 279) 284 157 rfl (by decide) ?_
        refine ex_invV (pc := 284) (M' := mX5_keep) (As := [.inl (p2 + (mem 20 ((p1 * 4) + 1))), .inl 1, .inl (m12 13 (p2 + (mem 20 (p1 * 4)))), .inl (m12 14 (p2 + (mem 20 (p1 * 4))))]) (st := []) 159 rfl clk5 rfl rfl calX5_keep (Or.inl ww_513) rfl rfl ?_
        refine vm_call.mono h ?_
        rintro m25 _ ⟨r26, rfl, h⟩
        refine ex_if_eq (pc := 287) 340 160 rfl (by decide) (vm_b2i_R _) (fun hb => ?_) (fun hb => ?_)
        · have h := h.1 (vm_b2i_0.mp hb)
          refine ex_iconst (pc := 340) 187 rfl ?_
          exact ex_iret (pc := 341) 188 rfl (Or.inr ⟨rfl, by decide⟩) ⟨false, rfl, h⟩
        · have h := h.2 (vm_b2i_n.mp hb)
          refine ex_aload_n (pc := 290) 161 rfl rfl ?_
          refine ex_iload (pc := 291) 162 rfl rfl ?_
          refine ex_iconst (pc := 293) 163 rfl ?_
          refine ex_aload_n (pc := 294) 164 rfl rfl ?_
          refine ex_geta (pc := 295) 1 165 rfl clk5 rfl rfl (Or.inl ww_186) rfl ?_
          refine ex_iload (pc := 298) 166 rfl rfl ?_
          refine ex_iaload (pc := 300) 167 rfl rfl rfl hs14 ?_
          refine ex_aload_n (pc := 301) 168 rfl rfl ?_
          refine ex_geta (pc := 302) 1 169 rfl clk5 rfl rfl (Or.inl ww_186) rfl ?_
          refine ex_iload (pc := 305) 170 rfl rfl ?_
          refine ex_iaload (pc := 307) 171 rfl rfl rfl hs6 ?_
          refine ex_aload_n (pc := 308) 172 rfl rfl ?_
          refine ex_geta (pc := 309) 2 173 rfl clk5 rfl rfl (Or.inl ww_188) rfl ?_
          refine ex_iload (pc := 312) 174 rfl rfl ?_
          refine ex_iaload (pc := 314) 175 rfl rfl rfl hs14 ?_
          obtain ⟨hs27, h⟩ := h
          obtain ⟨hs28, h⟩ := h
          refine ex_icmp_le (pc := 315) 328 176 rfl (by decide) hs27 hs28 (fun hb => ?_) (fun hb => ?_)
          · have h := h.1 hb
            refine ex_bipush (pc := 328) 182 rfl (by decide) ?_
            refine ex_invV (pc := 330) (M' := mX5_keep) (As := [.inl (p2 + (mem 20 ((p1 * 4) + 2))), .inl 1, .inl (m25 13 (p2 + (mem 20 (p1 * 4)))), .inl 18]) (st := []) 183 rfl clk5 rfl rfl calX5_keep (Or.inl ww_513) rfl rfl ?_
            refine vm_call.mono h ?_
            rintro m29 _ ⟨r30, rfl, h⟩
            refine ex_if_eq (pc := 333) 340 184 rfl (by decide) (vm_b2i_R _) (fun hb => ?_) (fun hb => ?_)
            · have h := h.1 (vm_b2i_0.mp hb)
              refine ex_iconst (pc := 340) 187 rfl ?_
              exact ex_iret (pc := 341) 188 rfl (Or.inr ⟨rfl, by decide⟩) ⟨false, rfl, h⟩
            · have h := h.2 (vm_b2i_n.mp hb)
              refine ex_iconst (pc := 336) 185 rfl ?_
              refine ex_goto (pc := 337) 341 186 rfl (by decide) ?_
              exact ex_iret (pc := 341) 188 rfl (Or.inr ⟨rfl, by decide⟩) ⟨true, rfl, h⟩
          · have h := h.2 hb
            refine ex_aload_n (pc := 318) 177 rfl rfl ?_
            refine ex_geta (pc := 319) 2 178 rfl clk5 rfl rfl (Or.inl ww_188) rfl ?_
            refine ex_iload (pc := 322) 179 rfl rfl ?_
            refine ex_iaload (pc := 324) 180 rfl rfl rfl hs14 ?_
            refine ex_goto (pc := 325) 330 181 rfl (by decide) ?_
            refine ex_invV (pc := 330) (M' := mX5_keep) (As := [.inl (p2 + (mem 20 ((p1 * 4) + 2))), .inl 1, .inl (m25 13 (p2 + (mem 20 (p1 * 4)))), .inl (m25 14 (p2 + (mem 20 (p1 * 4))))]) (st := []) 183 rfl clk5 rfl rfl calX5_keep (Or.inl ww_513) rfl rfl ?_
            refine vm_call.mono h ?_
            rintro m31 _ ⟨r32, rfl, h⟩
            refine ex_if_eq (pc := 333) 340 184 rfl (by decide) (vm_b2i_R _) (fun hb => ?_) (fun hb => ?_)
            · have h := h.1 (vm_b2i_0.mp hb)
              refine ex_iconst (pc := 340) 187 rfl ?_
              exact ex_iret (pc := 341) 188 rfl (Or.inr ⟨rfl, by decide⟩) ⟨false, rfl, h⟩
            · have h := h.2 (vm_b2i_n.mp hb)
              refine ex_iconst (pc := 336) 185 rfl ?_
              refine ex_goto (pc := 337) 341 186 rfl (by decide) ?_
              exact ex_iret (pc := 341) 188 rfl (Or.inr ⟨rfl, by decide⟩) ⟨true, rfl, h⟩
  · have h := h.2 hb
    refine ex_aload_n (pc := 60) 39 rfl rfl ?_
    refine ex_iload (pc := 61) 40 rfl rfl ?_
    refine ex_iconst (pc := 63) 41 rfl ?_
    refine ex_aload_n (pc := 64) 42 rfl rfl ?_
    refine ex_geta (pc := 65) 1 43 rfl clk5 rfl rfl (Or.inl ww_186) rfl ?_
    refine ex_iload (pc := 68) 44 rfl rfl ?_
    obtain ⟨hs33, h⟩ := h
    refine ex_iaload (pc := 70) 45 rfl rfl rfl hs33 ?_
    refine ex_aload_n (pc := 71) 46 rfl rfl ?_
    refine ex_geta (pc := 72) 1 47 rfl clk5 rfl rfl (Or.inl ww_186) rfl ?_
    refine ex_iload (pc := 75) 48 rfl rfl ?_
    obtain ⟨hs34, h⟩ := h
    refine ex_iaload (pc := 77) 49 rfl rfl rfl hs34 ?_
    obtain ⟨hs35, h⟩ := h
    obtain ⟨hs36, h⟩ := h
    refine ex_mmax (pc := 78) 50 rfl ww_471 ww_446 ww_99 ww_447 hs35 hs36 rfl ?_
    refine ex_aload_n (pc := 81) 51 rfl rfl ?_
    refine ex_geta (pc := 82) 2 52 rfl clk5 rfl rfl (Or.inl ww_188) rfl ?_
    refine ex_iload (pc := 85) 53 rfl rfl ?_
    refine ex_iaload (pc := 87) 54 rfl rfl rfl hs33 ?_
    refine ex_aload_n (pc := 88) 55 rfl rfl ?_
    refine ex_geta (pc := 89) 2 56 rfl clk5 rfl rfl (Or.inl ww_188) rfl ?_
    refine ex_iload (pc := 92) 57 rfl rfl ?_
    refine ex_iaload (pc := 94) 58 rfl rfl rfl hs34 ?_
    obtain ⟨hs37, h⟩ := h
    obtain ⟨hs38, h⟩ := h
    refine ex_mmax (pc := 95) 59 rfl ww_471 ww_446 ww_99 ww_447 hs37 hs38 rfl ?_
    refine ex_invV (pc := 98) (M' := mX5_keep) (As := [.inl (p2 + (mem 20 (p1 * 4))), .inl 1, .inl (if (mem 13 (p2 + (mem 20 ((p1 * 4) + 1)))) < (mem 13 (p2 + (mem 20 ((p1 * 4) + 2)))) then (mem 13 (p2 + (mem 20 ((p1 * 4) + 2)))) else (mem 13 (p2 + (mem 20 ((p1 * 4) + 1))))), .inl (if (mem 14 (p2 + (mem 20 ((p1 * 4) + 1)))) < (mem 14 (p2 + (mem 20 ((p1 * 4) + 2)))) then (mem 14 (p2 + (mem 20 ((p1 * 4) + 2)))) else (mem 14 (p2 + (mem 20 ((p1 * 4) + 1)))))]) (st := []) 60 rfl clk5 rfl rfl calX5_keep (Or.inl ww_513) rfl rfl ?_
    refine vm_call.mono h ?_
    rintro m39 _ ⟨r40, rfl, h⟩
    refine ex_if_eq (pc := 101) 198 61 rfl (by decide) (vm_b2i_R _) (fun hb => ?_) (fun hb => ?_)
    · have h := h.1 (vm_b2i_0.mp hb)
      refine ex_iconst (pc := 198) 112 rfl ?_
      exact ex_iret (pc := 199) 113 rfl (Or.inr ⟨rfl, by decide⟩) ⟨false, rfl, h⟩
    · have h := h.2 (vm_b2i_n.mp hb)
      refine ex_aload_n (pc := 104) 62 rfl rfl ?_
      refine ex_iload (pc := 105) 63 rfl rfl ?_
      refine ex_iconst (pc := 107) 64 rfl ?_
      refine ex_aload_n (pc := 108) 65 rfl rfl ?_
      refine ex_geta (pc := 109) 2 66 rfl clk5 rfl rfl (Or.inl ww_188) rfl ?_
      refine ex_iload (pc := 112) 67 rfl rfl ?_
      refine ex_iaload (pc := 114) 68 rfl rfl rfl hs34 ?_
      refine ex_aload_n (pc := 115) 69 rfl rfl ?_
      refine ex_geta (pc := 116) 1 70 rfl clk5 rfl rfl (Or.inl ww_186) rfl ?_
      refine ex_iload (pc := 119) 71 rfl rfl ?_
      obtain ⟨hs41, h⟩ := h
      refine ex_iaload (pc := 121) 72 rfl rfl rfl hs41 ?_
      obtain ⟨hs42, h⟩ := h
      obtain ⟨hs43, h⟩ := h
      refine ex_icmp_ge (pc := 122) 135 73 rfl (by decide) hs42 hs43 (fun hb => ?_) (fun hb => ?_)
      · have h := h.1 hb
        refine ex_iconst (pc := 135) 79 rfl ?_
        refine ex_aload_n (pc := 136) 80 rfl rfl ?_
        refine ex_geta (pc := 137) 2 81 rfl clk5 rfl rfl (Or.inl ww_188) rfl ?_
        refine ex_iload (pc := 140) 82 rfl rfl ?_
        refine ex_iaload (pc := 142) 83 rfl rfl rfl hs41 ?_
        refine ex_invV (pc := 143) (M' := mX5_keep) (As := [.inl (p2 + (mem 20 ((p1 * 4) + 1))), .inl 1, .inl 0, .inl (m39 14 (p2 + (mem 20 (p1 * 4))))]) (st := []) 84 rfl clk5 rfl rfl calX5_keep (Or.inl ww_513) rfl rfl ?_
        refine vm_call.mono h ?_
        rintro m44 _ ⟨r45, rfl, h⟩
        refine ex_if_eq (pc := 146) 198 85 rfl (by decide) (vm_b2i_R _) (fun hb => ?_) (fun hb => ?_)
        · have h := h.1 (vm_b2i_0.mp hb)
          refine ex_iconst (pc := 198) 112 rfl ?_
          exact ex_iret (pc := 199) 113 rfl (Or.inr ⟨rfl, by decide⟩) ⟨false, rfl, h⟩
        · have h := h.2 (vm_b2i_n.mp hb)
          refine ex_aload_n (pc := 149) 86 rfl rfl ?_
          refine ex_iload (pc := 150) 87 rfl rfl ?_
          refine ex_iconst (pc := 152) 88 rfl ?_
          refine ex_aload_n (pc := 153) 89 rfl rfl ?_
          refine ex_geta (pc := 154) 2 90 rfl clk5 rfl rfl (Or.inl ww_188) rfl ?_
          refine ex_iload (pc := 157) 91 rfl rfl ?_
          refine ex_iaload (pc := 159) 92 rfl rfl rfl hs33 ?_
          refine ex_aload_n (pc := 160) 93 rfl rfl ?_
          refine ex_geta (pc := 161) 1 94 rfl clk5 rfl rfl (Or.inl ww_186) rfl ?_
          refine ex_iload (pc := 164) 95 rfl rfl ?_
          refine ex_iaload (pc := 166) 96 rfl rfl rfl hs41 ?_
          obtain ⟨hs46, h⟩ := h
          obtain ⟨hs47, h⟩ := h
          refine ex_icmp_ge (pc := 167) 180 97 rfl (by decide) hs46 hs47 (fun hb => ?_) (fun hb => ?_)
          · have h := h.1 hb
            refine ex_iconst (pc := 180) 103 rfl ?_
            refine ex_aload_n (pc := 181) 104 rfl rfl ?_
            refine ex_geta (pc := 182) 2 105 rfl clk5 rfl rfl (Or.inl ww_188) rfl ?_
            refine ex_iload (pc := 185) 106 rfl rfl ?_
            refine ex_iaload (pc := 187) 107 rfl rfl rfl hs41 ?_
            refine ex_invV (pc := 188) (M' := mX5_keep) (As := [.inl (p2 + (mem 20 ((p1 * 4) + 2))), .inl 1, .inl 0, .inl (m44 14 (p2 + (mem 20 (p1 * 4))))]) (st := []) 108 rfl clk5 rfl rfl calX5_keep (Or.inl ww_513) rfl rfl ?_
            refine vm_call.mono h ?_
            rintro m48 _ ⟨r49, rfl, h⟩
            refine ex_if_eq (pc := 191) 198 109 rfl (by decide) (vm_b2i_R _) (fun hb => ?_) (fun hb => ?_)
            · have h := h.1 (vm_b2i_0.mp hb)
              refine ex_iconst (pc := 198) 112 rfl ?_
              exact ex_iret (pc := 199) 113 rfl (Or.inr ⟨rfl, by decide⟩) ⟨false, rfl, h⟩
            · have h := h.2 (vm_b2i_n.mp hb)
              refine ex_iconst (pc := 194) 110 rfl ?_
              refine ex_goto (pc := 195) 199 111 rfl (by decide) ?_
              exact ex_iret (pc := 199) 113 rfl (Or.inr ⟨rfl, by decide⟩) ⟨true, rfl, h⟩
          · have h := h.2 hb
            refine ex_aload_n (pc := 170) 98 rfl rfl ?_
            refine ex_geta (pc := 171) 1 99 rfl clk5 rfl rfl (Or.inl ww_186) rfl ?_
            refine ex_iload (pc := 174) 100 rfl rfl ?_
            refine ex_iaload (pc := 176) 101 rfl rfl rfl hs41 ?_
            refine ex_goto (pc := 177) 181 102 rfl (by decide) ?_
            refine ex_aload_n (pc := 181) 104 rfl rfl ?_
            refine ex_geta (pc := 182) 2 105 rfl clk5 rfl rfl (Or.inl ww_188) rfl ?_
            refine ex_iload (pc := 185) 106 rfl rfl ?_
            refine ex_iaload (pc := 187) 107 rfl rfl rfl hs41 ?_
            refine ex_invV (pc := 188) (M' := mX5_keep) (As := [.inl (p2 + (mem 20 ((p1 * 4) + 2))), .inl 1, .inl (m44 13 (p2 + (mem 20 (p1 * 4)))), .inl (m44 14 (p2 + (mem 20 (p1 * 4))))]) (st := []) 108 rfl clk5 rfl rfl calX5_keep (Or.inl ww_513) rfl rfl ?_
            refine vm_call.mono h ?_
            rintro m50 _ ⟨r51, rfl, h⟩
            refine ex_if_eq (pc := 191) 198 109 rfl (by decide) (vm_b2i_R _) (fun hb => ?_) (fun hb => ?_)
            · have h := h.1 (vm_b2i_0.mp hb)
              refine ex_iconst (pc := 198) 112 rfl ?_
              exact ex_iret (pc := 199) 113 rfl (Or.inr ⟨rfl, by decide⟩) ⟨false, rfl, h⟩
            · have h := h.2 (vm_b2i_n.mp hb)
              refine ex_iconst (pc := 194) 110 rfl ?_
              refine ex_goto (pc := 195) 199 111 rfl (by decide) ?_
              exact ex_iret (pc := 199) 113 rfl (Or.inr ⟨rfl, by decide⟩) ⟨true, rfl, h⟩
      · have h := h.2 hb
        refine ex_aload_n (pc := 125) 74 rfl rfl ?_
        refine ex_geta (pc := 126) 1 75 rfl clk5 rfl rfl (Or.inl ww_186) rfl ?_
        refine ex_iload (pc := 129) 76 rfl rfl ?_
        refine ex_iaload (pc := 131) 77 rfl rfl rfl hs41 ?_
        refine ex_goto (pc := 132) 136 78 rfl (by decide) ?_
        refine ex_aload_n (pc := 136) 80 rfl rfl ?_
        refine ex_geta (pc := 137) 2 81 rfl clk5 rfl rfl (Or.inl ww_188) rfl ?_
        refine ex_iload (pc := 140) 82 rfl rfl ?_
        refine ex_iaload (pc := 142) 83 rfl rfl rfl hs41 ?_
        refine ex_invV (pc := 143) (M' := mX5_keep) (As := [.inl (p2 + (mem 20 ((p1 * 4) + 1))), .inl 1, .inl (m39 13 (p2 + (mem 20 (p1 * 4)))), .inl (m39 14 (p2 + (mem 20 (p1 * 4))))]) (st := []) 84 rfl clk5 rfl rfl calX5_keep (Or.inl ww_513) rfl rfl ?_
        refine vm_call.mono h ?_
        rintro m52 _ ⟨r53, rfl, h⟩
        refine ex_if_eq (pc := 146) 198 85 rfl (by decide) (vm_b2i_R _) (fun hb => ?_) (fun hb => ?_)
        · have h := h.1 (vm_b2i_0.mp hb)
          refine ex_iconst (pc := 198) 112 rfl ?_
          exact ex_iret (pc := 199) 113 rfl (Or.inr ⟨rfl, by decide⟩) ⟨false, rfl, h⟩
        · have h := h.2 (vm_b2i_n.mp hb)
          refine ex_aload_n (pc := 149) 86 rfl rfl ?_
          refine ex_iload (pc := 150) 87 rfl rfl ?_
          refine ex_iconst (pc := 152) 88 rfl ?_
          refine ex_aload_n (pc := 153) 89 rfl rfl ?_
          refine ex_geta (pc := 154) 2 90 rfl clk5 rfl rfl (Or.inl ww_188) rfl ?_
          refine ex_iload (pc := 157) 91 rfl rfl ?_
          refine ex_iaload (pc := 159) 92 rfl rfl rfl hs33 ?_
          refine ex_aload_n (pc := 160) 93 rfl rfl ?_
          refine ex_geta (pc := 161) 1 94 rfl clk5 rfl rfl (Or.inl ww_186) rfl ?_
          refine ex_iload (pc := 164) 95 rfl rfl ?_
          refine ex_iaload (pc := 166) 96 rfl rfl rfl hs41 ?_
          obtain ⟨hs54, h⟩ := h
          obtain ⟨hs55, h⟩ := h
          refine ex_icmp_ge (pc := 167) 180 97 rfl (by decide) hs54 hs55 (fun hb => ?_) (fun hb => ?_)
          · have h := h.1 hb
            refine ex_iconst (pc := 180) 103 rfl ?_
            refine ex_aload_n (pc := 181) 104 rfl rfl ?_
            refine ex_geta (pc := 182) 2 105 rfl clk5 rfl rfl (Or.inl ww_188) rfl ?_
            refine ex_iload (pc := 185) 106 rfl rfl ?_
            refine ex_iaload (pc := 187) 107 rfl rfl rfl hs41 ?_
            refine ex_invV (pc := 188) (M' := mX5_keep) (As := [.inl (p2 + (mem 20 ((p1 * 4) + 2))), .inl 1, .inl 0, .inl (m52 14 (p2 + (mem 20 (p1 * 4))))]) (st := []) 108 rfl clk5 rfl rfl calX5_keep (Or.inl ww_513) rfl rfl ?_
            refine vm_call.mono h ?_
            rintro m56 _ ⟨r57, rfl, h⟩
            refine ex_if_eq (pc := 191) 198 109 rfl (by decide) (vm_b2i_R _) (fun hb => ?_) (fun hb => ?_)
            · have h := h.1 (vm_b2i_0.mp hb)
              refine ex_iconst (pc := 198) 112 rfl ?_
              exact ex_iret (pc := 199) 113 rfl (Or.inr ⟨rfl, by decide⟩) ⟨false, rfl, h⟩
            · have h := h.2 (vm_b2i_n.mp hb)
              refine ex_iconst (pc := 194) 110 rfl ?_
              refine ex_goto (pc := 195) 199 111 rfl (by decide) ?_
              exact ex_iret (pc := 199) 113 rfl (Or.inr ⟨rfl, by decide⟩) ⟨true, rfl, h⟩
          · have h := h.2 hb
            refine ex_aload_n (pc := 170) 98 rfl rfl ?_
            refine ex_geta (pc := 171) 1 99 rfl clk5 rfl rfl (Or.inl ww_186) rfl ?_
            refine ex_iload (pc := 174) 100 rfl rfl ?_
            refine ex_iaload (pc := 176) 101 rfl rfl rfl hs41 ?_
            refine ex_goto (pc := 177) 181 102 rfl (by decide) ?_
            refine ex_aload_n (pc := 181) 104 rfl rfl ?_
            refine ex_geta (pc := 182) 2 105 rfl clk5 rfl rfl (Or.inl ww_188) rfl ?_
            refine ex_iload (pc := 185) 106 rfl rfl ?_
            refine ex_iaload (pc := 187) 107 rfl rfl rfl hs41 ?_
            refine ex_invV (pc := 188) (M' := mX5_keep) (As := [.inl (p2 + (mem 20 ((p1 * 4) + 2))), .inl 1, .inl (m52 13 (p2 + (mem 20 (p1 * 4)))), .inl (m52 14 (p2 + (mem 20 (p1 * 4))))]) (st := []) 108 rfl clk5 rfl rfl calX5_keep (Or.inl ww_513) rfl rfl ?_
            refine vm_call.mono h ?_
            rintro m58 _ ⟨r59, rfl, h⟩
            refine ex_if_eq (pc := 191) 198 109 rfl (by decide) (vm_b2i_R _) (fun hb => ?_) (fun hb => ?_)
            · have h := h.1 (vm_b2i_0.mp hb)
              refine ex_iconst (pc := 198) 112 rfl ?_
              exact ex_iret (pc := 199) 113 rfl (Or.inr ⟨rfl, by decide⟩) ⟨false, rfl, h⟩
            · have h := h.2 (vm_b2i_n.mp hb)
              refine ex_iconst (pc := 194) 110 rfl ?_
              refine ex_goto (pc := 195) 199 111 rfl (by decide) ?_
              exact ex_iret (pc := 199) 113 rfl (Or.inr ⟨rfl, by decide⟩) ⟨true, rfl, h⟩
set_option maxRecDepth 20000 in
theorem qX5_isSure {G : vm_G} {d : Nat} {p1 : Int} {p2 : Int} {mem : vm_M} {Q : vm_M → Bool → Prop} (h : vm_ex G (d + 1) mX5_isSure 13 [some (.inr (.inr 6)), some (.inl p1), some (.inl p2), some (.inl (p1 * 4)), some (.inl 0), some (.inl 0), some (.inl (p1 * 4))] [] mem (vm_qb Q)) : vm_cb G (d + 1) mX5_isSure [.inr (.inr 6), .inl p1, .inl p2] mem Q := by
  refine vm_enter (al := [some (.inr (.inr 6)), some (.inl p1), some (.inl p2), none, none, none, none]) 4 okX5_isSure (by decide +kernel) rfl rfl ?_
  refine ex_iload_n (pc := 0) 0 rfl rfl ?_
  refine ex_iconst (pc := 1) 1 rfl ?_
  refine ex_imul (pc := 2) 2 rfl ?_
  refine ex_istore_n (pc := 3) 3 rfl rfl rfl ?_
  refine ex_iconst (pc := 4) 4 rfl ?_
  refine ex_istore (pc := 5) 5 rfl rfl rfl ?_
  refine ex_iconst (pc := 7) 6 rfl ?_
  refine ex_istore (pc := 8) 7 rfl rfl rfl ?_
  refine ex_iload_n (pc := 10) 8 rfl rfl ?_
  refine ex_istore (pc := 11) 9 rfl rfl rfl ?_
  exact h
set_option maxRecDepth 20000 in
theorem qX5_isSure_13 {G : vm_G} {d : Nat} {v1 : Int} {v2 : Int} {v3 : Int} {v4 : Int} {v5 : Int} {v6 : Int} {mem : vm_M} {Q : vm_M → Bool → Prop} (h : (0 ≤ v1 ∧ v1 < 128) ∧ (vm_R v6) ∧ (vm_R (v3 + (mem 19 v1))) ∧ (((v3 + (mem 19 v1)) ≤ v6 → (vm_R (mem 15 v1)) ∧ ((¬ (mem 15 v1) = 0 → Q mem false) ∧ ((mem 15 v1) = 0 → (vm_R v4) ∧ (vm_R (mem 16 v1)) ∧ ((v4 < (mem 16 v1) → Q mem false) ∧ (¬ v4 < (mem 16 v1) → (vm_R v5) ∧ (vm_R (mem 17 v1)) ∧ (((mem 17 v1) < v5 → Q mem false) ∧ (¬ (mem 17 v1) < v5 → Q mem true))))))) ∧ (¬ (v3 + (mem 19 v1)) ≤ v6 → vm_ci G d mX5_leastTerm [.inr (.inr 6), .inl v6, .inl v2] mem (fun m9 r10 => vm_ci G d mX5_greatestTerm [.inr (.inr 6), .inl v6, .inl v2] m9 (fun m11 r12 => vm_ex G (d + 1) mX5_isSure 13 [some (.inr (.inr 6)), some (.inl v1), some (.inl v2), some (.inl v3), some (.inl (v4 + r10)), some (.inl (v5 + r12)), some (.inl (v6 + 1))] [] m11 (vm_qb Q)))))) : vm_ex G (d + 1) mX5_isSure 13 [some (.inr (.inr 6)), some (.inl v1), some (.inl v2), some (.inl v3), some (.inl v4), some (.inl v5), some (.inl v6)] [] mem (vm_qb Q) := by
  refine ex_iload (pc := 13) 10 rfl rfl ?_
  refine ex_iload_n (pc := 15) 11 rfl rfl ?_
  refine ex_aload_n (pc := 16) 12 rfl rfl ?_
  refine ex_geta (pc := 17) 0 13 rfl clk5 rfl rfl (Or.inl ww_184) rfl ?_
  refine ex_geta (pc := 20) 4 14 rfl clk4 rfl rfl (Or.inr ⟨_, ww_156⟩) rfl ?_
  refine ex_iload_n (pc := 23) 15 rfl rfl ?_
  obtain ⟨hs1, h⟩ := h
  refine ex_iaload (pc := 24) 16 rfl rfl rfl hs1 ?_
  refine ex_iadd (pc := 25) 17 rfl ?_
  obtain ⟨hs2, h⟩ := h
  obtain ⟨hs3, h⟩ := h
  refine ex_icmp_ge (pc := 26) 59 18 rfl (by decide) hs2 hs3 (fun hb => ?_) (fun hb => ?_)
  · have h := h.1 hb
    refine ex_aload_n (pc := 59) 35 rfl rfl ?_
    refine ex_geta (pc := 60) 0 36 rfl clk5 rfl rfl (Or.inl ww_184) rfl ?_
    refine ex_geta (pc := 63) 0 37 rfl clk4 rfl rfl (Or.inr ⟨_, ww_148⟩) rfl ?_
    refine ex_iload_n (pc := 66) 38 rfl rfl ?_
    refine ex_iaload (pc := 67) 39 rfl rfl rfl hs1 ?_
    obtain ⟨hs4, h⟩ := h
    refine ex_if_ne (pc := 68) 103 40 rfl (by decide) hs4 (fun hb => ?_) (fun hb => ?_)
    · have h := h.1 hb
      refine ex_iconst (pc := 103) 57 rfl ?_
      exact ex_iret (pc := 104) 58 rfl (Or.inr ⟨rfl, by decide⟩) ⟨false, rfl, h⟩
    · have h := h.2 hb
      refine ex_iload (pc := 71) 41 rfl rfl ?_
      refine ex_aload_n (pc := 73) 42 rfl rfl ?_
      refine ex_geta (pc := 74) 0 43 rfl clk5 rfl rfl (Or.inl ww_184) rfl ?_
      refine ex_geta (pc := 77) 1 44 rfl clk4 rfl rfl (Or.inr ⟨_, ww_150⟩) rfl ?_
      refine ex_iload_n (pc := 80) 45 rfl rfl ?_
      refine ex_iaload (pc := 81) 46 rfl rfl rfl hs1 ?_
      obtain ⟨hs5, h⟩ := h
      obtain ⟨hs6, h⟩ := h
      refine ex_icmp_lt (pc := 82) 103 47 rfl (by decide) hs5 hs6 (fun hb => ?_) (fun hb => ?_)
      · have h := h.1 hb
        refine ex_iconst (pc := 103) 57 rfl ?_
        exact ex_iret (pc := 104) 58 rfl (Or.inr ⟨rfl, by decide⟩) ⟨false, rfl, h⟩
      · have h := h.2 hb
        refine ex_iload (pc := 85) 48 rfl rfl ?_
        refine ex_aload_n (pc := 87) 49 rfl rfl ?_
        refine ex_geta (pc := 88) 0 50 rfl clk5 rfl rfl (Or.inl ww_184) rfl ?_
        refine ex_geta (pc := 91) 2 51 rfl clk4 rfl rfl (Or.inr ⟨_, ww_152⟩) rfl ?_
        refine ex_iload_n (pc := 94) 52 rfl rfl ?_
        refine ex_iaload (pc := 95) 53 rfl rfl rfl hs1 ?_
        obtain ⟨hs7, h⟩ := h
        obtain ⟨hs8, h⟩ := h
        refine ex_icmp_gt (pc := 96) 103 54 rfl (by decide) hs7 hs8 (fun hb => ?_) (fun hb => ?_)
        · have h := h.1 hb
          refine ex_iconst (pc := 103) 57 rfl ?_
          exact ex_iret (pc := 104) 58 rfl (Or.inr ⟨rfl, by decide⟩) ⟨false, rfl, h⟩
        · have h := h.2 hb
          refine ex_iconst (pc := 99) 55 rfl ?_
          refine ex_goto (pc := 100) 104 56 rfl (by decide) ?_
          exact ex_iret (pc := 104) 58 rfl (Or.inr ⟨rfl, by decide⟩) ⟨true, rfl, h⟩
  · have h := h.2 hb
    refine ex_iload (pc := 29) 19 rfl rfl ?_
    refine ex_aload_n (pc := 31) 20 rfl rfl ?_
    refine ex_iload (pc := 32) 21 rfl rfl ?_
    refine ex_iload_n (pc := 34) 22 rfl rfl ?_
    refine ex_invV (pc := 35) (M' := mX5_leastTerm) (As := [.inl v6, .inl v2]) (st := [.inl v4]) 23 rfl clk5 rfl rfl calX5_leastTerm (Or.inl ww_505) rfl rfl ?_
    refine vm_call.mono h ?_
    rintro m9 _ ⟨r10, rfl, h⟩
    refine ex_iadd (pc := 38) 24 rfl ?_
    refine ex_istore (pc := 39) 25 rfl rfl rfl ?_
    refine ex_iload (pc := 41) 26 rfl rfl ?_
    refine ex_aload_n (pc := 43) 27 rfl rfl ?_
    refine ex_iload (pc := 44) 28 rfl rfl ?_
    refine ex_iload_n (pc := 46) 29 rfl rfl ?_
    refine ex_invV (pc := 47) (M' := mX5_greatestTerm) (As := [.inl v6, .inl v2]) (st := [.inl v5]) 30 rfl clk5 rfl rfl calX5_greatestTerm (Or.inl ww_509) rfl rfl ?_
    refine vm_call.mono h ?_
    rintro m11 _ ⟨r12, rfl, h⟩
    refine ex_iadd (pc := 50) 31 rfl ?_
    refine ex_istore (pc := 51) 32 rfl rfl rfl ?_
    refine ex_iinc (pc := 53) 33 rfl rfl rfl rfl ?_
    refine ex_goto (pc := 56) 13 34 rfl (by decide) ?_
    exact h
set_option maxRecDepth 20000 in
theorem qX5_leastTerm {G : vm_G} {d : Nat} {p1 : Int} {p2 : Int} {mem : vm_M} {Q : vm_M → Int → Prop} (h : (0 ≤ p1 ∧ p1 < 512) ∧ (vm_R (mem 21 p1)) ∧ (((mem 21 p1) ≤ 0 → (0 ≤ (p2 + (mem 20 p1)) ∧ (p2 + (mem 20 p1)) < 272) ∧ Q mem ((mem 21 p1) * (mem 14 (p2 + (mem 20 p1))))) ∧ (¬ (mem 21 p1) ≤ 0 → (0 ≤ (p2 + (mem 20 p1)) ∧ (p2 + (mem 20 p1)) < 272) ∧ Q mem ((mem 21 p1) * (mem 13 (p2 + (mem 20 p1))))))) : vm_ci G d mX5_leastTerm [.inr (.inr 6), .inl p1, .inl p2] mem Q := by
  refine vm_enter (al := [some (.inr (.inr 6)), some (.inl p1), some (.inl p2), none]) 1 okX5_leastTerm (by decide +kernel) rfl rfl ?_
  refine ex_iload_n (pc := 0) 0 rfl rfl ?_
  refine ex_aload_n (pc := 1) 1 rfl rfl ?_
  refine ex_geta (pc := 2) 0 2 rfl clk5 rfl rfl (Or.inl ww_184) rfl ?_
  refine ex_geta (pc := 5) 5 3 rfl clk4 rfl rfl (Or.inr ⟨_, ww_158⟩) rfl ?_
  refine ex_iload_n (pc := 8) 4 rfl rfl ?_
  obtain ⟨hs1, h⟩ := h
  refine ex_iaload (pc := 9) 5 rfl rfl rfl hs1 ?_
  refine ex_iadd (pc := 10) 6 rfl ?_
  refine ex_istore_n (pc := 11) 7 rfl rfl rfl ?_
  refine ex_aload_n (pc := 12) 8 rfl rfl ?_
  refine ex_geta (pc := 13) 0 9 rfl clk5 rfl rfl (Or.inl ww_184) rfl ?_
  refine ex_geta (pc := 16) 6 10 rfl clk4 rfl rfl (Or.inr ⟨_, ww_160⟩) rfl ?_
  refine ex_iload_n (pc := 19) 11 rfl rfl ?_
  refine ex_iaload (pc := 20) 12 rfl rfl rfl hs1 ?_
  refine ex_aload_n (pc := 21) 13 rfl rfl ?_
  refine ex_geta (pc := 22) 0 14 rfl clk5 rfl rfl (Or.inl ww_184) rfl ?_
  refine ex_geta (pc := 25) 6 15 rfl clk4 rfl rfl (Or.inr ⟨_, ww_160⟩) rfl ?_
  refine ex_iload_n (pc := 28) 16 rfl rfl ?_
  refine ex_iaload (pc := 29) 17 rfl rfl rfl hs1 ?_
  obtain ⟨hs2, h⟩ := h
  refine ex_if_le (pc := 30) 42 18 rfl (by decide) hs2 (fun hb => ?_) (fun hb => ?_)
  · have h := h.1 hb
    refine ex_aload_n (pc := 42) 24 rfl rfl ?_
    refine ex_geta (pc := 43) 2 25 rfl clk5 rfl rfl (Or.inl ww_188) rfl ?_
    refine ex_iload_n (pc := 46) 26 rfl rfl ?_
    obtain ⟨hs3, h⟩ := h
    refine ex_iaload (pc := 47) 27 rfl rfl rfl hs3 ?_
    refine ex_imul (pc := 48) 28 rfl ?_
    exact ex_iret (pc := 49) 29 rfl (Or.inl rfl) ⟨_, rfl, h⟩
  · have h := h.2 hb
    refine ex_aload_n (pc := 33) 19 rfl rfl ?_
    refine ex_geta (pc := 34) 1 20 rfl clk5 rfl rfl (Or.inl ww_186) rfl ?_
    refine ex_iload_n (pc := 37) 21 rfl rfl ?_
    obtain ⟨hs4, h⟩ := h
    refine ex_iaload (pc := 38) 22 rfl rfl rfl hs4 ?_
    refine ex_goto (pc := 39) 48 23 rfl (by decide) ?_
    refine ex_imul (pc := 48) 28 rfl ?_
    exact ex_iret (pc := 49) 29 rfl (Or.inl rfl) ⟨_, rfl, h⟩
set_option maxRecDepth 20000 in
theorem qX5_greatestTerm {G : vm_G} {d : Nat} {p1 : Int} {p2 : Int} {mem : vm_M} {Q : vm_M → Int → Prop} (h : (0 ≤ p1 ∧ p1 < 512) ∧ (vm_R (mem 21 p1)) ∧ (((mem 21 p1) ≤ 0 → (0 ≤ (p2 + (mem 20 p1)) ∧ (p2 + (mem 20 p1)) < 272) ∧ Q mem ((mem 21 p1) * (mem 13 (p2 + (mem 20 p1))))) ∧ (¬ (mem 21 p1) ≤ 0 → (0 ≤ (p2 + (mem 20 p1)) ∧ (p2 + (mem 20 p1)) < 272) ∧ Q mem ((mem 21 p1) * (mem 14 (p2 + (mem 20 p1))))))) : vm_ci G d mX5_greatestTerm [.inr (.inr 6), .inl p1, .inl p2] mem Q := by
  refine vm_enter (al := [some (.inr (.inr 6)), some (.inl p1), some (.inl p2), none]) 1 okX5_greatestTerm (by decide +kernel) rfl rfl ?_
  refine ex_iload_n (pc := 0) 0 rfl rfl ?_
  refine ex_aload_n (pc := 1) 1 rfl rfl ?_
  refine ex_geta (pc := 2) 0 2 rfl clk5 rfl rfl (Or.inl ww_184) rfl ?_
  refine ex_geta (pc := 5) 5 3 rfl clk4 rfl rfl (Or.inr ⟨_, ww_158⟩) rfl ?_
  refine ex_iload_n (pc := 8) 4 rfl rfl ?_
  obtain ⟨hs1, h⟩ := h
  refine ex_iaload (pc := 9) 5 rfl rfl rfl hs1 ?_
  refine ex_iadd (pc := 10) 6 rfl ?_
  refine ex_istore_n (pc := 11) 7 rfl rfl rfl ?_
  refine ex_aload_n (pc := 12) 8 rfl rfl ?_
  refine ex_geta (pc := 13) 0 9 rfl clk5 rfl rfl (Or.inl ww_184) rfl ?_
  refine ex_geta (pc := 16) 6 10 rfl clk4 rfl rfl (Or.inr ⟨_, ww_160⟩) rfl ?_
  refine ex_iload_n (pc := 19) 11 rfl rfl ?_
  refine ex_iaload (pc := 20) 12 rfl rfl rfl hs1 ?_
  refine ex_aload_n (pc := 21) 13 rfl rfl ?_
  refine ex_geta (pc := 22) 0 14 rfl clk5 rfl rfl (Or.inl ww_184) rfl ?_
  refine ex_geta (pc := 25) 6 15 rfl clk4 rfl rfl (Or.inr ⟨_, ww_160⟩) rfl ?_
  refine ex_iload_n (pc := 28) 16 rfl rfl ?_
  refine ex_iaload (pc := 29) 17 rfl rfl rfl hs1 ?_
  obtain ⟨hs2, h⟩ := h
  refine ex_if_le (pc := 30) 42 18 rfl (by decide) hs2 (fun hb => ?_) (fun hb => ?_)
  · have h := h.1 hb
    refine ex_aload_n (pc := 42) 24 rfl rfl ?_
    refine ex_geta (pc := 43) 1 25 rfl clk5 rfl rfl (Or.inl ww_186) rfl ?_
    refine ex_iload_n (pc := 46) 26 rfl rfl ?_
    obtain ⟨hs3, h⟩ := h
    refine ex_iaload (pc := 47) 27 rfl rfl rfl hs3 ?_
    refine ex_imul (pc := 48) 28 rfl ?_
    exact ex_iret (pc := 49) 29 rfl (Or.inl rfl) ⟨_, rfl, h⟩
  · have h := h.2 hb
    refine ex_aload_n (pc := 33) 19 rfl rfl ?_
    refine ex_geta (pc := 34) 2 20 rfl clk5 rfl rfl (Or.inl ww_188) rfl ?_
    refine ex_iload_n (pc := 37) 21 rfl rfl ?_
    obtain ⟨hs4, h⟩ := h
    refine ex_iaload (pc := 38) 22 rfl rfl rfl hs4 ?_
    refine ex_goto (pc := 39) 48 23 rfl (by decide) ?_
    refine ex_imul (pc := 48) 28 rfl ?_
    exact ex_iret (pc := 49) 29 rfl (Or.inl rfl) ⟨_, rfl, h⟩
set_option maxRecDepth 20000 in
theorem qX5_keep {G : vm_G} {d : Nat} {p1 : Int} {p2 : Int} {p3 : Int} {p4 : Int} {mem : vm_M} {Q : vm_M → Bool → Prop} (h : (0 ≤ p1 ∧ p1 < 272) ∧ vm_ex G d mX5_keep 16 [some (.inr (.inr 6)), some (.inl p1), some (.inl p2), some (.inl p3), some (.inl p4), some (.inl (mem 13 p1)), some (.inl (mem 14 p1))] [] mem (vm_qb Q)) : vm_cb G d mX5_keep [.inr (.inr 6), .inl p1, .inl p2, .inl p3, .inl p4] mem Q := by
  refine vm_enter (al := [some (.inr (.inr 6)), some (.inl p1), some (.inl p2), some (.inl p3), some (.inl p4), none, none]) 2 okX5_keep (by decide +kernel) rfl rfl ?_
  refine ex_aload_n (pc := 0) 0 rfl rfl ?_
  refine ex_geta (pc := 1) 1 1 rfl clk5 rfl rfl (Or.inl ww_186) rfl ?_
  refine ex_iload_n (pc := 4) 2 rfl rfl ?_
  obtain ⟨hs1, h⟩ := h
  refine ex_iaload (pc := 5) 3 rfl rfl rfl hs1 ?_
  refine ex_istore (pc := 6) 4 rfl rfl rfl ?_
  refine ex_aload_n (pc := 8) 5 rfl rfl ?_
  refine ex_geta (pc := 9) 2 6 rfl clk5 rfl rfl (Or.inl ww_188) rfl ?_
  refine ex_iload_n (pc := 12) 7 rfl rfl ?_
  refine ex_iaload (pc := 13) 8 rfl rfl rfl hs1 ?_
  refine ex_istore (pc := 14) 9 rfl rfl rfl ?_
  exact h
set_option maxRecDepth 20000 in
theorem qX5_keep_16 {G : vm_G} {d : Nat} {v1 : Int} {v2 : Int} {v3 : Int} {v4 : Int} {v5 : Int} {v6 : Int} {mem : vm_M} {Q : vm_M → Bool → Prop} (h : (vm_R v5) ∧ (vm_R v6) ∧ ((v6 < v5 → vm_ex G d mX5_keep 46 [some (.inr (.inr 6)), some (.inl v1), some (.inl v2), some (.inl v3), some (.inl v4), some (.inl v5), some (.inl v6)] [] mem (vm_qb Q)) ∧ (¬ v6 < v5 → (vm_R (v2 * v5)) ∧ (vm_R v3) ∧ (((v2 * v5) < v3 → vm_ex G d mX5_keep 16 [some (.inr (.inr 6)), some (.inl v1), some (.inl v2), some (.inl v3), some (.inl v4), some (.inl (v5 + 1)), some (.inl v6)] [] mem (vm_qb Q)) ∧ (¬ (v2 * v5) < v3 → (vm_R v4) ∧ (((v2 * v5) ≤ v4 → vm_ex G d mX5_keep 46 [some (.inr (.inr 6)), some (.inl v1), some (.inl v2), some (.inl v3), some (.inl v4), some (.inl v5), some (.inl v6)] [] mem (vm_qb Q)) ∧ (¬ (v2 * v5) ≤ v4 → vm_ex G d mX5_keep 16 [some (.inr (.inr 6)), some (.inl v1), some (.inl v2), some (.inl v3), some (.inl v4), some (.inl (v5 + 1)), some (.inl v6)] [] mem (vm_qb Q)))))))) : vm_ex G d mX5_keep 16 [some (.inr (.inr 6)), some (.inl v1), some (.inl v2), some (.inl v3), some (.inl v4), some (.inl v5), some (.inl v6)] [] mem (vm_qb Q) := by
  refine ex_iload (pc := 16) 10 rfl rfl ?_
  refine ex_iload (pc := 18) 11 rfl rfl ?_
  obtain ⟨hs1, h⟩ := h
  obtain ⟨hs2, h⟩ := h
  refine ex_icmp_gt (pc := 20) 46 12 rfl (by decide) hs1 hs2 (fun hb => ?_) (fun hb => ?_)
  · have h := h.1 hb
    exact h
  · have h := h.2 hb
    refine ex_iload_n (pc := 23) 13 rfl rfl ?_
    refine ex_iload (pc := 24) 14 rfl rfl ?_
    refine ex_imul (pc := 26) 15 rfl ?_
    refine ex_iload_n (pc := 27) 16 rfl rfl ?_
    obtain ⟨hs3, h⟩ := h
    obtain ⟨hs4, h⟩ := h
    refine ex_icmp_lt (pc := 28) 40 17 rfl (by decide) hs3 hs4 (fun hb => ?_) (fun hb => ?_)
    · have h := h.1 hb
      refine ex_iinc (pc := 40) 23 rfl rfl rfl rfl ?_
      refine ex_goto (pc := 43) 16 24 rfl (by decide) ?_
      exact h
    · have h := h.2 hb
      refine ex_iload_n (pc := 31) 18 rfl rfl ?_
      refine ex_iload (pc := 32) 19 rfl rfl ?_
      refine ex_imul (pc := 34) 20 rfl ?_
      refine ex_iload (pc := 35) 21 rfl rfl ?_
      obtain ⟨hs5, h⟩ := h
      refine ex_icmp_le (pc := 37) 46 22 rfl (by decide) hs3 hs5 (fun hb => ?_) (fun hb => ?_)
      · have h := h.1 hb
        exact h
      · have h := h.2 hb
        refine ex_iinc (pc := 40) 23 rfl rfl rfl rfl ?_
        refine ex_goto (pc := 43) 16 24 rfl (by decide) ?_
        exact h
set_option maxRecDepth 20000 in
theorem qX5_keep_46 {G : vm_G} {d : Nat} {v1 : Int} {v2 : Int} {v3 : Int} {v4 : Int} {v5 : Int} {v6 : Int} {mem : vm_M} {Q : vm_M → Bool → Prop} (h : (vm_R v5) ∧ (vm_R v6) ∧ ((v6 < v5 → ((v5 ≤ v6 → (0 ≤ v1 ∧ v1 < 272) ∧ (vm_R (mem 13 v1)) ∧ ((¬ v5 = (mem 13 v1) → (∀ m5, m5 = vm_up mem 13 v1 v5 → (∀ m6, m6 = vm_up m5 14 v1 v6 → (∀ m7, m7 = vm_up m6 6 4 (vm_or (m6 6 4) (vm_shl 1 (vm_rem v1 16))) → Q m7 true)))) ∧ (v5 = (mem 13 v1) → (vm_R (mem 14 v1)) ∧ ((v6 = (mem 14 v1) → Q mem true) ∧ (¬ v6 = (mem 14 v1) → (∀ m9, m9 = vm_up mem 13 v1 v5 → (∀ m10, m10 = vm_up m9 14 v1 v6 → (∀ m11, m11 = vm_up m10 6 4 (vm_or (m10 6 4) (vm_shl 1 (vm_rem v1 16))) → Q m11 true)))))))) ∧ (¬ v5 ≤ v6 → Q mem false))) ∧ (¬ v6 < v5 → (vm_R (v2 * v6)) ∧ (vm_R v3) ∧ (((v2 * v6) < v3 → vm_ex G d mX5_keep 46 [some (.inr (.inr 6)), some (.inl v1), some (.inl v2), some (.inl v3), some (.inl v4), some (.inl v5), some (.inl (v6 + (-1)))] [] mem (vm_qb Q)) ∧ (¬ (v2 * v6) < v3 → (vm_R v4) ∧ (((v2 * v6) ≤ v4 → ((v5 ≤ v6 → (0 ≤ v1 ∧ v1 < 272) ∧ (vm_R (mem 13 v1)) ∧ ((¬ v5 = (mem 13 v1) → (∀ m17, m17 = vm_up mem 13 v1 v5 → (∀ m18, m18 = vm_up m17 14 v1 v6 → (∀ m19, m19 = vm_up m18 6 4 (vm_or (m18 6 4) (vm_shl 1 (vm_rem v1 16))) → Q m19 true)))) ∧ (v5 = (mem 13 v1) → (vm_R (mem 14 v1)) ∧ ((v6 = (mem 14 v1) → Q mem true) ∧ (¬ v6 = (mem 14 v1) → (∀ m21, m21 = vm_up mem 13 v1 v5 → (∀ m22, m22 = vm_up m21 14 v1 v6 → (∀ m23, m23 = vm_up m22 6 4 (vm_or (m22 6 4) (vm_shl 1 (vm_rem v1 16))) → Q m23 true)))))))) ∧ (¬ v5 ≤ v6 → Q mem false))) ∧ (¬ (v2 * v6) ≤ v4 → vm_ex G d mX5_keep 46 [some (.inr (.inr 6)), some (.inl v1), some (.inl v2), some (.inl v3), some (.inl v4), some (.inl v5), some (.inl (v6 + (-1)))] [] mem (vm_qb Q)))))))) : vm_ex G d mX5_keep 46 [some (.inr (.inr 6)), some (.inl v1), some (.inl v2), some (.inl v3), some (.inl v4), some (.inl v5), some (.inl v6)] [] mem (vm_qb Q) := by
  refine ex_iload (pc := 46) 25 rfl rfl ?_
  refine ex_iload (pc := 48) 26 rfl rfl ?_
  obtain ⟨hs1, h⟩ := h
  obtain ⟨hs2, h⟩ := h
  refine ex_icmp_gt (pc := 50) 76 27 rfl (by decide) hs1 hs2 (fun hb => ?_) (fun hb => ?_)
  · have h := h.1 hb
    refine ex_iload (pc := 76) 40 rfl rfl ?_
    refine ex_iload (pc := 78) 41 rfl rfl ?_
    refine ex_icmp_le (pc := 80) 85 42 rfl (by decide) hs1 hs2 (fun hb => ?_) (fun hb => ?_)
    · have h := h.1 hb
      refine ex_iload (pc := 85) 45 rfl rfl ?_
      refine ex_aload_n (pc := 87) 46 rfl rfl ?_
      refine ex_geta (pc := 88) 1 47 rfl clk5 rfl rfl (Or.inl ww_186) rfl ?_
      refine ex_iload_n (pc := 91) 48 rfl rfl ?_
      obtain ⟨hs3, h⟩ := h
      refine ex_iaload (pc := 92) 49 rfl rfl rfl hs3 ?_
      obtain ⟨hs4, h⟩ := h
      refine ex_icmp_ne (pc := 93) 107 50 rfl (by decide) hs1 hs4 (fun hb => ?_) (fun hb => ?_)
      · have h := h.1 hb
        refine ex_aload_n (pc := 107) 57 rfl rfl ?_
        refine ex_geta (pc := 108) 1 58 rfl clk5 rfl rfl (Or.inl ww_186) rfl ?_
        refine ex_iload_n (pc := 111) 59 rfl rfl ?_
        refine ex_iload (pc := 112) 60 rfl rfl ?_
        have h := h _ rfl
        refine ex_iastore (pc := 114) 61 rfl rfl rfl hs3 ?_
        generalize vm_up mem 13 v1 v5 = m5 at h ⊢
        refine ex_aload_n (pc := 115) 62 rfl rfl ?_
        refine ex_geta (pc := 116) 2 63 rfl clk5 rfl rfl (Or.inl ww_188) rfl ?_
        refine ex_iload_n (pc := 119) 64 rfl rfl ?_
        refine ex_iload (pc := 120) 65 rfl rfl ?_
        have h := h _ rfl
        refine ex_iastore (pc := 122) 66 rfl rfl rfl hs3 ?_
        generalize vm_up m5 14 v1 v6 = m6 at h ⊢
        refine ex_aload_n (pc := 123) 67 rfl rfl ?_
        refine ex_dupa (pc := 124) 68 rfl ?_
        refine ex_geti (pc := 125) 4 69 rfl clk5 rfl rfl (Or.inl ww_191) rfl ?_
        refine ex_iconst (pc := 128) 70 rfl ?_
        refine ex_iload_n (pc := 129) 71 rfl rfl ?_
        refine ex_bipush (pc := 130) 72 rfl (by decide) ?_
        refine ex_irem (pc := 132) 73 rfl ⟨⟨by decide, by decide⟩, by decide⟩ ?_
        refine ex_ishl (pc := 133) 74 rfl ?_
        refine ex_ior (pc := 134) 75 rfl ?_
        have h := h _ rfl
        refine ex_puti (pc := 135) 4 76 rfl clk5 rfl rfl (Or.inl ww_191) rfl rfl rfl ?_
        generalize vm_up m6 6 _ (vm_or (m6 6 4) (vm_shl 1 (vm_rem v1 16))) = m7 at h ⊢
        refine ex_iconst (pc := 138) 77 rfl ?_
        exact ex_iret (pc := 139) 78 rfl (Or.inr ⟨rfl, by decide⟩) ⟨true, rfl, h⟩
      · have h := h.2 hb
        refine ex_iload (pc := 96) 51 rfl rfl ?_
        refine ex_aload_n (pc := 98) 52 rfl rfl ?_
        refine ex_geta (pc := 99) 2 53 rfl clk5 rfl rfl (Or.inl ww_188) rfl ?_
        refine ex_iload_n (pc := 102) 54 rfl rfl ?_
        refine ex_iaload (pc := 103) 55 rfl rfl rfl hs3 ?_
        obtain ⟨hs8, h⟩ := h
        refine ex_icmp_eq (pc := 104) 138 56 rfl (by decide) hs2 hs8 (fun hb => ?_) (fun hb => ?_)
        · have h := h.1 hb
          refine ex_iconst (pc := 138) 77 rfl ?_
          exact ex_iret (pc := 139) 78 rfl (Or.inr ⟨rfl, by decide⟩) ⟨true, rfl, h⟩
        · have h := h.2 hb
          refine ex_aload_n (pc := 107) 57 rfl rfl ?_
          refine ex_geta (pc := 108) 1 58 rfl clk5 rfl rfl (Or.inl ww_186) rfl ?_
          refine ex_iload_n (pc := 111) 59 rfl rfl ?_
          refine ex_iload (pc := 112) 60 rfl rfl ?_
          have h := h _ rfl
          refine ex_iastore (pc := 114) 61 rfl rfl rfl hs3 ?_
          generalize vm_up mem 13 v1 v5 = m9 at h ⊢
          refine ex_aload_n (pc := 115) 62 rfl rfl ?_
          refine ex_geta (pc := 116) 2 63 rfl clk5 rfl rfl (Or.inl ww_188) rfl ?_
          refine ex_iload_n (pc := 119) 64 rfl rfl ?_
          refine ex_iload (pc := 120) 65 rfl rfl ?_
          have h := h _ rfl
          refine ex_iastore (pc := 122) 66 rfl rfl rfl hs3 ?_
          generalize vm_up m9 14 v1 v6 = m10 at h ⊢
          refine ex_aload_n (pc := 123) 67 rfl rfl ?_
          refine ex_dupa (pc := 124) 68 rfl ?_
          refine ex_geti (pc := 125) 4 69 rfl clk5 rfl rfl (Or.inl ww_191) rfl ?_
          refine ex_iconst (pc := 128) 70 rfl ?_
          refine ex_iload_n (pc := 129) 71 rfl rfl ?_
          refine ex_bipush (pc := 130) 72 rfl (by decide) ?_
          refine ex_irem (pc := 132) 73 rfl ⟨⟨by decide, by decide⟩, by decide⟩ ?_
          refine ex_ishl (pc := 133) 74 rfl ?_
          refine ex_ior (pc := 134) 75 rfl ?_
          have h := h _ rfl
          refine ex_puti (pc := 135) 4 76 rfl clk5 rfl rfl (Or.inl ww_191) rfl rfl rfl ?_
          generalize vm_up m10 6 _ (vm_or (m10 6 4) (vm_shl 1 (vm_rem v1 16))) = m11 at h ⊢
          refine ex_iconst (pc := 138) 77 rfl ?_
          exact ex_iret (pc := 139) 78 rfl (Or.inr ⟨rfl, by decide⟩) ⟨true, rfl, h⟩
    · have h := h.2 hb
      refine ex_iconst (pc := 83) 43 rfl ?_
      exact ex_iret (pc := 84) 44 rfl (Or.inr ⟨rfl, by decide⟩) ⟨false, rfl, h⟩
  · have h := h.2 hb
    refine ex_iload_n (pc := 53) 28 rfl rfl ?_
    refine ex_iload (pc := 54) 29 rfl rfl ?_
    refine ex_imul (pc := 56) 30 rfl ?_
    refine ex_iload_n (pc := 57) 31 rfl rfl ?_
    obtain ⟨hs12, h⟩ := h
    obtain ⟨hs13, h⟩ := h
    refine ex_icmp_lt (pc := 58) 70 32 rfl (by decide) hs12 hs13 (fun hb => ?_) (fun hb => ?_)
    · have h := h.1 hb
      refine ex_iinc (pc := 70) 38 rfl rfl rfl rfl ?_
      refine ex_goto (pc := 73) 46 39 rfl (by decide) ?_
      exact h
    · have h := h.2 hb
      refine ex_iload_n (pc := 61) 33 rfl rfl ?_
      refine ex_iload (pc := 62) 34 rfl rfl ?_
      refine ex_imul (pc := 64) 35 rfl ?_
      refine ex_iload (pc := 65) 36 rfl rfl ?_
      obtain ⟨hs14, h⟩ := h
      refine ex_icmp_le (pc := 67) 76 37 rfl (by decide) hs12 hs14 (fun hb => ?_) (fun hb => ?_)
      · have h := h.1 hb
        refine ex_iload (pc := 76) 40 rfl rfl ?_
        refine ex_iload (pc := 78) 41 rfl rfl ?_
        refine ex_icmp_le (pc := 80) 85 42 rfl (by decide) hs1 hs2 (fun hb => ?_) (fun hb => ?_)
        · have h := h.1 hb
          refine ex_iload (pc := 85) 45 rfl rfl ?_
          refine ex_aload_n (pc := 87) 46 rfl rfl ?_
          refine ex_geta (pc := 88) 1 47 rfl clk5 rfl rfl (Or.inl ww_186) rfl ?_
          refine ex_iload_n (pc := 91) 48 rfl rfl ?_
          obtain ⟨hs15, h⟩ := h
          refine ex_iaload (pc := 92) 49 rfl rfl rfl hs15 ?_
          obtain ⟨hs16, h⟩ := h
          refine ex_icmp_ne (pc := 93) 107 50 rfl (by decide) hs1 hs16 (fun hb => ?_) (fun hb => ?_)
          · have h := h.1 hb
            refine ex_aload_n (pc := 107) 57 rfl rfl ?_
            refine ex_geta (pc := 108) 1 58 rfl clk5 rfl rfl (Or.inl ww_186) rfl ?_
            refine ex_iload_n (pc := 111) 59 rfl rfl ?_
            refine ex_iload (pc := 112) 60 rfl rfl ?_
            have h := h _ rfl
            refine ex_iastore (pc := 114) 61 rfl rfl rfl hs15 ?_
            generalize vm_up mem 13 v1 v5 = m17 at h ⊢
            refine ex_aload_n (pc := 115) 62 rfl rfl ?_
            refine ex_geta (pc := 116) 2 63 rfl clk5 rfl rfl (Or.inl ww_188) rfl ?_
            refine ex_iload_n (pc := 119) 64 rfl rfl ?_
            refine ex_iload (pc := 120) 65 rfl rfl ?_
            have h := h _ rfl
            refine ex_iastore (pc := 122) 66 rfl rfl rfl hs15 ?_
            generalize vm_up m17 14 v1 v6 = m18 at h ⊢
            refine ex_aload_n (pc := 123) 67 rfl rfl ?_
            refine ex_dupa (pc := 124) 68 rfl ?_
            refine ex_geti (pc := 125) 4 69 rfl clk5 rfl rfl (Or.inl ww_191) rfl ?_
            refine ex_iconst (pc := 128) 70 rfl ?_
            refine ex_iload_n (pc := 129) 71 rfl rfl ?_
            refine ex_bipush (pc := 130) 72 rfl (by decide) ?_
            refine ex_irem (pc := 132) 73 rfl ⟨⟨by decide, by decide⟩, by decide⟩ ?_
            refine ex_ishl (pc := 133) 74 rfl ?_
            refine ex_ior (pc := 134) 75 rfl ?_
            have h := h _ rfl
            refine ex_puti (pc := 135) 4 76 rfl clk5 rfl rfl (Or.inl ww_191) rfl rfl rfl ?_
            generalize vm_up m18 6 _ (vm_or (m18 6 4) (vm_shl 1 (vm_rem v1 16))) = m19 at h ⊢
            refine ex_iconst (pc := 138) 77 rfl ?_
            exact ex_iret (pc := 139) 78 rfl (Or.inr ⟨rfl, by decide⟩) ⟨true, rfl, h⟩
          · have h := h.2 hb
            refine ex_iload (pc := 96) 51 rfl rfl ?_
            refine ex_aload_n (pc := 98) 52 rfl rfl ?_
            refine ex_geta (pc := 99) 2 53 rfl clk5 rfl rfl (Or.inl ww_188) rfl ?_
            refine ex_iload_n (pc := 102) 54 rfl rfl ?_
            refine ex_iaload (pc := 103) 55 rfl rfl rfl hs15 ?_
            obtain ⟨hs20, h⟩ := h
            refine ex_icmp_eq (pc := 104) 138 56 rfl (by decide) hs2 hs20 (fun hb => ?_) (fun hb => ?_)
            · have h := h.1 hb
              refine ex_iconst (pc := 138) 77 rfl ?_
              exact ex_iret (pc := 139) 78 rfl (Or.inr ⟨rfl, by decide⟩) ⟨true, rfl, h⟩
            · have h := h.2 hb
              refine ex_aload_n (pc := 107) 57 rfl rfl ?_
              refine ex_geta (pc := 108) 1 58 rfl clk5 rfl rfl (Or.inl ww_186) rfl ?_
              refine ex_iload_n (pc := 111) 59 rfl rfl ?_
              refine ex_iload (pc := 112) 60 rfl rfl ?_
              have h := h _ rfl
              refine ex_iastore (pc := 114) 61 rfl rfl rfl hs15 ?_
              generalize vm_up mem 13 v1 v5 = m21 at h ⊢
              refine ex_aload_n (pc := 115) 62 rfl rfl ?_
              refine ex_geta (pc := 116) 2 63 rfl clk5 rfl rfl (Or.inl ww_188) rfl ?_
              refine ex_iload_n (pc := 119) 64 rfl rfl ?_
              refine ex_iload (pc := 120) 65 rfl rfl ?_
              have h := h _ rfl
              refine ex_iastore (pc := 122) 66 rfl rfl rfl hs15 ?_
              generalize vm_up m21 14 v1 v6 = m22 at h ⊢
              refine ex_aload_n (pc := 123) 67 rfl rfl ?_
              refine ex_dupa (pc := 124) 68 rfl ?_
              refine ex_geti (pc := 125) 4 69 rfl clk5 rfl rfl (Or.inl ww_191) rfl ?_
              refine ex_iconst (pc := 128) 70 rfl ?_
              refine ex_iload_n (pc := 129) 71 rfl rfl ?_
              refine ex_bipush (pc := 130) 72 rfl (by decide) ?_
              refine ex_irem (pc := 132) 73 rfl ⟨⟨by decide, by decide⟩, by decide⟩ ?_
              refine ex_ishl (pc := 133) 74 rfl ?_
              refine ex_ior (pc := 134) 75 rfl ?_
              have h := h _ rfl
              refine ex_puti (pc := 135) 4 76 rfl clk5 rfl rfl (Or.inl ww_191) rfl rfl rfl ?_
              generalize vm_up m22 6 _ (vm_or (m22 6 4) (vm_shl 1 (vm_rem v1 16))) = m23 at h ⊢
              refine ex_iconst (pc := 138) 77 rfl ?_
              exact ex_iret (pc := 139) 78 rfl (Or.inr ⟨rfl, by decide⟩) ⟨true, rfl, h⟩
        · have h := h.2 hb
          refine ex_iconst (pc := 83) 43 rfl ?_
          exact ex_iret (pc := 84) 44 rfl (Or.inr ⟨rfl, by decide⟩) ⟨false, rfl, h⟩
      · have h := h.2 hb
        refine ex_iinc (pc := 70) 38 rfl rfl rfl rfl ?_
        refine ex_goto (pc := 73) 46 39 rfl (by decide) ?_
        exact h
