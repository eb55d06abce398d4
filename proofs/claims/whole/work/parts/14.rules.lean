set_option maxRecDepth 20000 in
theorem qX4_clear {G : vm_G} {d : Nat}  {mem : vm_M} {Q : vm_M → Prop} (h : (∀ m1, m1 = vm_up mem 8 8 0 → vm_ex G d mX4_clear 7 [some (.inr (.inr 8)), some (.inl 0)] [] m1 (vm_qn Q))) : vm_cn G d mX4_clear [.inr (.inr 8)] mem Q := by
  refine vm_enter (al := [some (.inr (.inr 8)), none]) 1 okX4_clear (by decide +kernel) rfl rfl ?_
  refine ex_aload_n (pc := 0) 0 rfl rfl ?_
  refine ex_iconst (pc := 1) 1 rfl ?_
  have h := h _ rfl
  refine ex_puti (pc := 2) 8 2 rfl clk4 rfl rfl (Or.inl ww_163) rfl rfl rfl ?_
  generalize vm_up mem 8 _ 0 = m1 at h ⊢
  refine ex_iconst (pc := 5) 3 rfl ?_
  refine ex_istore_n (pc := 6) 4 rfl rfl rfl ?_
  exact h
set_option maxRecDepth 20000 in
theorem qX4_clear_7 {G : vm_G} {d : Nat} {v1 : Int} {mem : vm_M} {Q : vm_M → Prop} (h : (vm_R v1) ∧ ((16 ≤ v1 → Q mem) ∧ (¬ 16 ≤ v1 → (0 ≤ v1 ∧ v1 < 16) ∧ (∀ m3, m3 = vm_up mem 22 v1 0 → vm_ex G d mX4_clear 7 [some (.inr (.inr 8)), some (.inl (v1 + 1))] [] m3 (vm_qn Q))))) : vm_ex G d mX4_clear 7 [some (.inr (.inr 8)), some (.inl v1)] [] mem (vm_qn Q) := by
  refine ex_iload_n (pc := 7) 5 rfl rfl ?_
  refine ex_bipush (pc := 8) 6 rfl (by decide) ?_
  obtain ⟨hs1, h⟩ := h
  refine ex_icmp_ge (pc := 10) 26 7 rfl (by decide) hs1 ⟨by decide, by decide⟩ (fun hb => ?_) (fun hb => ?_)
  · have h := h.1 hb
    exact ex_ret (pc := 26) 15 rfl rfl ⟨rfl, h⟩
  · have h := h.2 hb
    refine ex_aload_n (pc := 13) 8 rfl rfl ?_
    refine ex_geta (pc := 14) 7 9 rfl clk4 rfl rfl (Or.inl ww_161) rfl ?_
    refine ex_iload_n (pc := 17) 10 rfl rfl ?_
    refine ex_iconst (pc := 18) 11 rfl ?_
    obtain ⟨hs2, h⟩ := h
    have h := h _ rfl
    refine ex_iastore (pc := 19) 12 rfl rfl rfl hs2 ?_
    generalize vm_up mem 22 v1 0 = m3 at h ⊢
    refine ex_iinc (pc := 20) 13 rfl rfl rfl rfl ?_
    refine ex_goto (pc := 23) 7 14 rfl (by decide) ?_
    exact h
set_option maxRecDepth 20000 in
theorem qX4_total {G : vm_G} {d : Nat} {p1 : Int} {mem : vm_M} {Q : vm_M → Prop} (h : vm_cn G d mX4_open [.inr (.inr 8), .inl 0, .inl 0, .inl 0] mem (fun m1 => vm_ex G (d + 1) mX4_total 9 [some (.inr (.inr 8)), some (.inl p1), some (.inl 0)] [] m1 (vm_qn Q))) : vm_cn G (d + 1) mX4_total [.inr (.inr 8), .inl p1] mem Q := by
  refine vm_enter (al := [some (.inr (.inr 8)), some (.inl p1), none]) 1 okX4_total (by decide +kernel) rfl rfl ?_
  refine ex_aload_n (pc := 0) 0 rfl rfl ?_
  refine ex_iconst (pc := 1) 1 rfl ?_
  refine ex_iconst (pc := 2) 2 rfl ?_
  refine ex_iconst (pc := 3) 3 rfl ?_
  refine ex_invV (pc := 4) (M' := mX4_open) (As := [.inl 0, .inl 0, .inl 0]) (st := []) 4 rfl clk4 rfl rfl calX4_open (Or.inl ww_413) rfl rfl ?_
  refine vm_call.mono h ?_
  rintro m1 _ ⟨rfl, h⟩
  refine ex_iconst (pc := 7) 5 rfl ?_
  refine ex_istore_n (pc := 8) 6 rfl rfl rfl ?_
  exact h
set_option maxRecDepth 20000 in
theorem qX4_total_9 {G : vm_G} {d : Nat} {v1 : Int} {v2 : Int} {mem : vm_M} {Q : vm_M → Prop} (h : (vm_R v2) ∧ ((3 ≤ v2 → vm_ci G d mX5_variable [.inl v1, .inl 3] mem (fun m2 r3 => vm_cn G d mX4_plus [.inr (.inr 8), .inl (-1), .inl r3] m2 (fun m4 => Q m4))) ∧ (¬ 3 ≤ v2 → vm_ci G d mX5_variable [.inl v1, .inl v2] mem (fun m6 r7 => vm_cn G d mX4_plus [.inr (.inr 8), .inl 1, .inl r7] m6 (fun m8 => vm_ex G (d + 1) mX4_total 9 [some (.inr (.inr 8)), some (.inl v1), some (.inl (v2 + 1))] [] m8 (vm_qn Q)))))) : vm_ex G (d + 1) mX4_total 9 [some (.inr (.inr 8)), some (.inl v1), some (.inl v2)] [] mem (vm_qn Q) := by
  refine ex_iload_n (pc := 9) 7 rfl rfl ?_
  refine ex_iconst (pc := 10) 8 rfl ?_
  obtain ⟨hs1, h⟩ := h
  refine ex_icmp_ge (pc := 11) 30 9 rfl (by decide) hs1 ⟨by decide, by decide⟩ (fun hb => ?_) (fun hb => ?_)
  · have h := h.1 hb
    refine ex_aload_n (pc := 30) 18 rfl rfl ?_
    refine ex_iconst (pc := 31) 19 rfl ?_
    refine ex_iload_n (pc := 32) 20 rfl rfl ?_
    refine ex_iconst (pc := 33) 21 rfl ?_
    refine ex_invS (pc := 34) (M' := mX5_variable) (As := [.inl v1, .inl 3]) (st := [.inl (-1), .inr (.inr 8)]) 22 rfl calX5_variable (Or.inl ww_417) rfl rfl ?_
    refine vm_call.mono h ?_
    rintro m2 _ ⟨r3, rfl, h⟩
    refine ex_invV (pc := 37) (M' := mX4_plus) (As := [.inl (-1), .inl r3]) (st := []) 23 rfl clk4 rfl rfl calX4_plus (Or.inl ww_420) rfl rfl ?_
    refine vm_call.mono h ?_
    rintro m4 _ ⟨rfl, h⟩
    exact ex_ret (pc := 40) 24 rfl rfl ⟨rfl, h⟩
  · have h := h.2 hb
    refine ex_aload_n (pc := 14) 10 rfl rfl ?_
    refine ex_iconst (pc := 15) 11 rfl ?_
    refine ex_iload_n (pc := 16) 12 rfl rfl ?_
    refine ex_iload_n (pc := 17) 13 rfl rfl ?_
    refine ex_invS (pc := 18) (M' := mX5_variable) (As := [.inl v1, .inl v2]) (st := [.inl 1, .inr (.inr 8)]) 14 rfl calX5_variable (Or.inl ww_417) rfl rfl ?_
    refine vm_call.mono h ?_
    rintro m6 _ ⟨r7, rfl, h⟩
    refine ex_invV (pc := 21) (M' := mX4_plus) (As := [.inl 1, .inl r7]) (st := []) 15 rfl clk4 rfl rfl calX4_plus (Or.inl ww_420) rfl rfl ?_
    refine vm_call.mono h ?_
    rintro m8 _ ⟨rfl, h⟩
    refine ex_iinc (pc := 24) 16 rfl rfl rfl rfl ?_
    refine ex_goto (pc := 27) 9 17 rfl (by decide) ?_
    exact h
set_option maxRecDepth 20000 in
theorem qX4_difference {G : vm_G} {d : Nat} {p1 : Int} {p2 : Int} {p3 : Int} {mem : vm_M} {Q : vm_M → Prop} (h : vm_cn G d mX4_open [.inr (.inr 8), .inl 0, .inl p3, .inl 18] mem (fun m1 => vm_cn G d mX4_plus [.inr (.inr 8), .inl 1, .inl p1] m1 (fun m3 => vm_cn G d mX4_plus [.inr (.inr 8), .inl (-1), .inl p2] m3 (fun m5 => Q m5)))) : vm_cn G (d + 1) mX4_difference [.inr (.inr 8), .inl p1, .inl p2, .inl p3] mem Q := by
  refine vm_enter (al := [some (.inr (.inr 8)), some (.inl p1), some (.inl p2), some (.inl p3)]) 0 okX4_difference (by decide +kernel) rfl rfl ?_
  refine ex_aload_n (pc := 0) 0 rfl rfl ?_
  refine ex_iconst (pc := 1) 1 rfl ?_
  refine ex_iload_n (pc := 2) 2 rfl rfl ?_
  refine ex_bipush (pc := 3) 3 rfl (by decide) ?_
  refine ex_invV (pc := 5) (M' := mX4_open) (As := [.inl 0, .inl p3, .inl 18]) (st := []) 4 rfl clk4 rfl rfl calX4_open (Or.inl ww_413) rfl rfl ?_
  refine vm_call.mono h ?_
  rintro m1 _ ⟨rfl, h⟩
  refine ex_aload_n (pc := 8) 5 rfl rfl ?_
  refine ex_iconst (pc := 9) 6 rfl ?_
  refine ex_iload_n (pc := 10) 7 rfl rfl ?_
  refine ex_invV (pc := 11) (M' := mX4_plus) (As := [.inl 1, .inl p1]) (st := []) 8 rfl clk4 rfl rfl calX4_plus (Or.inl ww_420) rfl rfl ?_
  refine vm_call.mono h ?_
  rintro m3 _ ⟨rfl, h⟩
  refine ex_aload_n (pc := 14) 9 rfl rfl ?_
  refine ex_iconst (pc := 15) 10 rfl ?_
  refine ex_iload_n (pc := 16) 11 rfl rfl ?_
  refine ex_invV (pc := 17) (M' := mX4_plus) (As := [.inl (-1), .inl p2]) (st := []) 12 rfl clk4 rfl rfl calX4_plus (Or.inl ww_420) rfl rfl ?_
  refine vm_call.mono h ?_
  rintro m5 _ ⟨rfl, h⟩
  exact ex_ret (pc := 20) 13 rfl rfl ⟨rfl, h⟩
set_option maxRecDepth 20000 in
theorem qX4_sum {G : vm_G} {d : Nat} {p1 : Int} {p2 : Int} {p3 : Int} {p4 : Int} {p5 : Int} {mem : vm_M} {Q : vm_M → Prop} (h : vm_cn G d mX4_open [.inr (.inr 8), .inl 0, .inl p4, .inl p5] mem (fun m1 => vm_cn G d mX4_plus [.inr (.inr 8), .inl 1, .inl p1] m1 (fun m3 => vm_cn G d mX4_plus [.inr (.inr 8), .inl (-1), .inl p2] m3 (fun m5 => vm_cn G d mX4_plus [.inr (.inr 8), .inl (-1), .inl p3] m5 (fun m7 => Q m7))))) : vm_cn G (d + 1) mX4_sum [.inr (.inr 8), .inl p1, .inl p2, .inl p3, .inl p4, .inl p5] mem Q := by
  refine vm_enter (al := [some (.inr (.inr 8)), some (.inl p1), some (.inl p2), some (.inl p3), some (.inl p4), some (.inl p5)]) 0 okX4_sum (by decide +kernel) rfl rfl ?_
  refine ex_aload_n (pc := 0) 0 rfl rfl ?_
  refine ex_iconst (pc := 1) 1 rfl ?_
  refine ex_iload (pc := 2) 2 rfl rfl ?_
  refine ex_iload (pc := 4) 3 rfl rfl ?_
  refine ex_invV (pc := 6) (M' := mX4_open) (As := [.inl 0, .inl p4, .inl p5]) (st := []) 4 rfl clk4 rfl rfl calX4_open (Or.inl ww_413) rfl rfl ?_
  refine vm_call.mono h ?_
  rintro m1 _ ⟨rfl, h⟩
  refine ex_aload_n (pc := 9) 5 rfl rfl ?_
  refine ex_iconst (pc := 10) 6 rfl ?_
  refine ex_iload_n (pc := 11) 7 rfl rfl ?_
  refine ex_invV (pc := 12) (M' := mX4_plus) (As := [.inl 1, .inl p1]) (st := []) 8 rfl clk4 rfl rfl calX4_plus (Or.inl ww_420) rfl rfl ?_
  refine vm_call.mono h ?_
  rintro m3 _ ⟨rfl, h⟩
  refine ex_aload_n (pc := 15) 9 rfl rfl ?_
  refine ex_iconst (pc := 16) 10 rfl ?_
  refine ex_iload_n (pc := 17) 11 rfl rfl ?_
  refine ex_invV (pc := 18) (M' := mX4_plus) (As := [.inl (-1), .inl p2]) (st := []) 12 rfl clk4 rfl rfl calX4_plus (Or.inl ww_420) rfl rfl ?_
  refine vm_call.mono h ?_
  rintro m5 _ ⟨rfl, h⟩
  refine ex_aload_n (pc := 21) 13 rfl rfl ?_
  refine ex_iconst (pc := 22) 14 rfl ?_
  refine ex_iload_n (pc := 23) 15 rfl rfl ?_
  refine ex_invV (pc := 24) (M' := mX4_plus) (As := [.inl (-1), .inl p3]) (st := []) 16 rfl clk4 rfl rfl calX4_plus (Or.inl ww_420) rfl rfl ?_
  refine vm_call.mono h ?_
  rintro m7 _ ⟨rfl, h⟩
  exact ex_ret (pc := 27) 17 rfl rfl ⟨rfl, h⟩
set_option maxRecDepth 20000 in
theorem qX4_choice {G : vm_G} {d : Nat} {p1 : Int} {p2 : Int} {p3 : Int} {p4 : Int} {mem : vm_M} {Q : vm_M → Prop} (h : vm_cn G d mX4_open [.inr (.inr 8), .inl p1, .inl 0, .inl 0] mem (fun m1 => vm_cn G d mX4_addTerm [.inr (.inr 8), .inl 1, .inl p2] m1 (fun m3 => vm_cn G d mX4_addTerm [.inr (.inr 8), .inl 1, .inl p3] m3 (fun m5 => vm_cn G d mX4_addTerm [.inr (.inr 8), .inl 1, .inl p4] m5 (fun m7 => Q m7))))) : vm_cn G (d + 1) mX4_choice [.inr (.inr 8), .inl p1, .inl p2, .inl p3, .inl p4] mem Q := by
  refine vm_enter (al := [some (.inr (.inr 8)), some (.inl p1), some (.inl p2), some (.inl p3), some (.inl p4)]) 0 okX4_choice (by decide +kernel) rfl rfl ?_
  refine ex_aload_n (pc := 0) 0 rfl rfl ?_
  refine ex_iload_n (pc := 1) 1 rfl rfl ?_
  refine ex_iconst (pc := 2) 2 rfl ?_
  refine ex_iconst (pc := 3) 3 rfl ?_
  refine ex_invV (pc := 4) (M' := mX4_open) (As := [.inl p1, .inl 0, .inl 0]) (st := []) 4 rfl clk4 rfl rfl calX4_open (Or.inl ww_413) rfl rfl ?_
  refine vm_call.mono h ?_
  rintro m1 _ ⟨rfl, h⟩
  refine ex_aload_n (pc := 7) 5 rfl rfl ?_
  refine ex_iconst (pc := 8) 6 rfl ?_
  refine ex_iload_n (pc := 9) 7 rfl rfl ?_
  refine ex_invV (pc := 10) (M' := mX4_addTerm) (As := [.inl 1, .inl p2]) (st := []) 8 rfl clk4 rfl rfl calX4_addTerm (Or.inl ww_424) rfl rfl ?_
  refine vm_call.mono h ?_
  rintro m3 _ ⟨rfl, h⟩
  refine ex_aload_n (pc := 13) 9 rfl rfl ?_
  refine ex_iconst (pc := 14) 10 rfl ?_
  refine ex_iload_n (pc := 15) 11 rfl rfl ?_
  refine ex_invV (pc := 16) (M' := mX4_addTerm) (As := [.inl 1, .inl p3]) (st := []) 12 rfl clk4 rfl rfl calX4_addTerm (Or.inl ww_424) rfl rfl ?_
  refine vm_call.mono h ?_
  rintro m5 _ ⟨rfl, h⟩
  refine ex_aload_n (pc := 19) 13 rfl rfl ?_
  refine ex_iconst (pc := 20) 14 rfl ?_
  refine ex_iload (pc := 21) 15 rfl rfl ?_
  refine ex_invV (pc := 23) (M' := mX4_addTerm) (As := [.inl 1, .inl p4]) (st := []) 16 rfl clk4 rfl rfl calX4_addTerm (Or.inl ww_424) rfl rfl ?_
  refine vm_call.mono h ?_
  rintro m7 _ ⟨rfl, h⟩
  exact ex_ret (pc := 26) 17 rfl rfl ⟨rfl, h⟩
set_option maxRecDepth 20000 in
theorem qX4_open {G : vm_G} {d : Nat} {p1 : Int} {p2 : Int} {p3 : Int} {mem : vm_M} {Q : vm_M → Prop} (h : (vm_R (mem 8 8)) ∧ (((mem 8 8) < 128 → (0 ≤ (mem 8 8) ∧ (mem 8 8) < 128) ∧ (∀ m3, m3 = vm_up mem 15 (mem 8 8) p1 → (0 ≤ (m3 8 8) ∧ (m3 8 8) < 128) ∧ (∀ m5, m5 = vm_up m3 16 (m3 8 8) p2 → (0 ≤ (m5 8 8) ∧ (m5 8 8) < 128) ∧ (∀ m7, m7 = vm_up m5 17 (m5 8 8) p3 → (0 ≤ (m7 8 8) ∧ (m7 8 8) < 128) ∧ (∀ m9, m9 = vm_up m7 18 (m7 8 8) 0 → (0 ≤ (m9 8 8) ∧ (m9 8 8) < 128) ∧ (∀ m11, m11 = vm_up m9 19 (m9 8 8) 0 → (∀ m12, m12 = vm_up m11 8 8 ((m11 8 8) + 1) → Q m12))))))) ∧ (¬ (mem 8 8) < 128 → Q mem))) : vm_cn G d mX4_open [.inr (.inr 8), .inl p1, .inl p2, .inl p3] mem Q := by
  refine vm_enter (al := [some (.inr (.inr 8)), some (.inl p1), some (.inl p2), some (.inl p3)]) 0 okX4_open (by decide +kernel) rfl rfl ?_
  refine ex_aload_n (pc := 0) 0 rfl rfl ?_
  refine ex_geti (pc := 1) 8 1 rfl clk4 rfl rfl (Or.inl ww_163) rfl ?_
  refine ex_sipush (pc := 4) 2 rfl (by decide) ?_
  obtain ⟨hs1, h⟩ := h
  refine ex_icmp_lt (pc := 7) 11 3 rfl (by decide) hs1 ⟨by decide, by decide⟩ (fun hb => ?_) (fun hb => ?_)
  · have h := h.1 hb
    refine ex_aload_n (pc := 11) 5 rfl rfl ?_
    refine ex_geta (pc := 12) 0 6 rfl clk4 rfl rfl (Or.inl ww_147) rfl ?_
    refine ex_aload_n (pc := 15) 7 rfl rfl ?_
    refine ex_geti (pc := 16) 8 8 rfl clk4 rfl rfl (Or.inl ww_163) rfl ?_
    refine ex_iload_n (pc := 19) 9 rfl rfl ?_
    obtain ⟨hs2, h⟩ := h
    have h := h _ rfl
    refine ex_iastore (pc := 20) 10 rfl rfl rfl hs2 ?_
    generalize vm_up mem 15 (mem 8 8) p1 = m3 at h ⊢
    refine ex_aload_n (pc := 21) 11 rfl rfl ?_
    refine ex_geta (pc := 22) 1 12 rfl clk4 rfl rfl (Or.inl ww_149) rfl ?_
    refine ex_aload_n (pc := 25) 13 rfl rfl ?_
    refine ex_geti (pc := 26) 8 14 rfl clk4 rfl rfl (Or.inl ww_163) rfl ?_
    refine ex_iload_n (pc := 29) 15 rfl rfl ?_
    obtain ⟨hs4, h⟩ := h
    have h := h _ rfl
    refine ex_iastore (pc := 30) 16 rfl rfl rfl hs4 ?_
    generalize vm_up m3 16 (m3 8 8) p2 = m5 at h ⊢
    refine ex_aload_n (pc := 31) 17 rfl rfl ?_
    refine ex_geta (pc := 32) 2 18 rfl clk4 rfl rfl (Or.inl ww_151) rfl ?_
    refine ex_aload_n (pc := 35) 19 rfl rfl ?_
    refine ex_geti (pc := 36) 8 20 rfl clk4 rfl rfl (Or.inl ww_163) rfl ?_
    refine ex_iload_n (pc := 39) 21 rfl rfl ?_
    obtain ⟨hs6, h⟩ := h
    have h := h _ rfl
    refine ex_iastore (pc := 40) 22 rfl rfl rfl hs6 ?_
    generalize vm_up m5 17 (m5 8 8) p3 = m7 at h ⊢
    refine ex_aload_n (pc := 41) 23 rfl rfl ?_
    refine ex_geta (pc := 42) 3 24 rfl clk4 rfl rfl (Or.inl ww_153) rfl ?_
    refine ex_aload_n (pc := 45) 25 rfl rfl ?_
    refine ex_geti (pc := 46) 8 26 rfl clk4 rfl rfl (Or.inl ww_163) rfl ?_
    refine ex_iconst (pc := 49) 27 rfl ?_
    obtain ⟨hs8, h⟩ := h
    have h := h _ rfl
    refine ex_iastore (pc := 50) 28 rfl rfl rfl hs8 ?_
    generalize vm_up m7 18 (m7 8 8) 0 = m9 at h ⊢
    refine ex_aload_n (pc := 51) 29 rfl rfl ?_
    refine ex_geta (pc := 52) 4 30 rfl clk4 rfl rfl (Or.inl ww_155) rfl ?_
    refine ex_aload_n (pc := 55) 31 rfl rfl ?_
    refine ex_geti (pc := 56) 8 32 rfl clk4 rfl rfl (Or.inl ww_163) rfl ?_
    refine ex_iconst (pc := 59) 33 rfl ?_
    obtain ⟨hs10, h⟩ := h
    have h := h _ rfl
    refine ex_iastore (pc := 60) 34 rfl rfl rfl hs10 ?_
    generalize vm_up m9 19 (m9 8 8) 0 = m11 at h ⊢
    refine ex_aload_n (pc := 61) 35 rfl rfl ?_
    refine ex_dupa (pc := 62) 36 rfl ?_
    refine ex_geti (pc := 63) 8 37 rfl clk4 rfl rfl (Or.inl ww_163) rfl ?_
    refine ex_iconst (pc := 66) 38 rfl ?_
    refine ex_iadd (pc := 67) 39 rfl ?_
    have h := h _ rfl
    refine ex_puti (pc := 68) 8 40 rfl clk4 rfl rfl (Or.inl ww_163) rfl rfl rfl ?_
    generalize vm_up m11 8 _ ((m11 8 8) + 1) = m12 at h ⊢
    exact ex_ret (pc := 71) 41 rfl rfl ⟨rfl, h⟩
  · have h := h.2 hb
    exact ex_ret (pc := 10) 4 rfl rfl ⟨rfl, h⟩
set_option maxRecDepth 20000 in
theorem qX4_plus {G : vm_G} {d : Nat} {p1 : Int} {p2 : Int} {mem : vm_M} {Q : vm_M → Prop} (h : (vm_R ((mem 8 8) - 1)) ∧ ((0 ≤ ((mem 8 8) - 1) → vm_ex G (d + 1) mX4_plus 17 [some (.inr (.inr 8)), some (.inl p1), some (.inl p2), some (.inl ((mem 8 8) - 1)), some (.inl (((mem 8 8) - 1) * 4))] [] mem (vm_qn Q)) ∧ (¬ 0 ≤ ((mem 8 8) - 1) → Q mem))) : vm_cn G (d + 1) mX4_plus [.inr (.inr 8), .inl p1, .inl p2] mem Q := by
  refine vm_enter (al := [some (.inr (.inr 8)), some (.inl p1), some (.inl p2), none, none]) 2 okX4_plus (by decide +kernel) rfl rfl ?_
  refine ex_aload_n (pc := 0) 0 rfl rfl ?_
  refine ex_geti (pc := 1) 8 1 rfl clk4 rfl rfl (Or.inl ww_163) rfl ?_
  refine ex_iconst (pc := 4) 2 rfl ?_
  refine ex_isub (pc := 5) 3 rfl ?_
  refine ex_istore_n (pc := 6) 4 rfl rfl rfl ?_
  refine ex_iload_n (pc := 7) 5 rfl rfl ?_
  obtain ⟨hs1, h⟩ := h
  refine ex_if_ge (pc := 8) 12 6 rfl (by decide) hs1 (fun hb => ?_) (fun hb => ?_)
  · have h := h.1 hb
    refine ex_iload_n (pc := 12) 8 rfl rfl ?_
    refine ex_iconst (pc := 13) 9 rfl ?_
    refine ex_imul (pc := 14) 10 rfl ?_
    refine ex_istore (pc := 15) 11 rfl rfl rfl ?_
    exact h
  · have h := h.2 hb
    exact ex_ret (pc := 11) 7 rfl rfl ⟨rfl, h⟩
set_option maxRecDepth 20000 in
theorem qX4_plus_17 {G : vm_G} {d : Nat} {v1 : Int} {v2 : Int} {v3 : Int} {v4 : Int} {mem : vm_M} {Q : vm_M → Prop} (h : (0 ≤ v3 ∧ v3 < 128) ∧ (vm_R v4) ∧ (vm_R ((v3 * 4) + (mem 19 v3))) ∧ ((((v3 * 4) + (mem 19 v3)) ≤ v4 → vm_cn G d mX4_addTerm [.inr (.inr 8), .inl v1, .inl v2] mem (fun m4 => Q m4)) ∧ (¬ ((v3 * 4) + (mem 19 v3)) ≤ v4 → (0 ≤ v4 ∧ v4 < 512) ∧ (vm_R (mem 20 v4)) ∧ (vm_R v2) ∧ ((¬ (mem 20 v4) = v2 → vm_ex G (d + 1) mX4_plus 17 [some (.inr (.inr 8)), some (.inl v1), some (.inl v2), some (.inl v3), some (.inl (v4 + 1))] [] mem (vm_qn Q)) ∧ ((mem 20 v4) = v2 → (∀ m9, m9 = vm_up mem 21 v4 ((mem 21 v4) + v1) → Q m9)))))) : vm_ex G (d + 1) mX4_plus 17 [some (.inr (.inr 8)), some (.inl v1), some (.inl v2), some (.inl v3), some (.inl v4)] [] mem (vm_qn Q) := by
  refine ex_iload (pc := 17) 12 rfl rfl ?_
  refine ex_iload_n (pc := 19) 13 rfl rfl ?_
  refine ex_iconst (pc := 20) 14 rfl ?_
  refine ex_imul (pc := 21) 15 rfl ?_
  refine ex_aload_n (pc := 22) 16 rfl rfl ?_
  refine ex_geta (pc := 23) 4 17 rfl clk4 rfl rfl (Or.inl ww_155) rfl ?_
  refine ex_iload_n (pc := 26) 18 rfl rfl ?_
  obtain ⟨hs1, h⟩ := h
  refine ex_iaload (pc := 27) 19 rfl rfl rfl hs1 ?_
  refine ex_iadd (pc := 28) 20 rfl ?_
  obtain ⟨hs2, h⟩ := h
  obtain ⟨hs3, h⟩ := h
  refine ex_icmp_ge (pc := 29) 61 21 rfl (by decide) hs2 hs3 (fun hb => ?_) (fun hb => ?_)
  · have h := h.1 hb
    refine ex_aload_n (pc := 61) 39 rfl rfl ?_
    refine ex_iload_n (pc := 62) 40 rfl rfl ?_
    refine ex_iload_n (pc := 63) 41 rfl rfl ?_
    refine ex_invV (pc := 64) (M' := mX4_addTerm) (As := [.inl v1, .inl v2]) (st := []) 42 rfl clk4 rfl rfl calX4_addTerm (Or.inl ww_424) rfl rfl ?_
    refine vm_call.mono h ?_
    rintro m4 _ ⟨rfl, h⟩
    exact ex_ret (pc := 67) 43 rfl rfl ⟨rfl, h⟩
  · have h := h.2 hb
    refine ex_aload_n (pc := 32) 22 rfl rfl ?_
    refine ex_geta (pc := 33) 5 23 rfl clk4 rfl rfl (Or.inl ww_157) rfl ?_
    refine ex_iload (pc := 36) 24 rfl rfl ?_
    obtain ⟨hs6, h⟩ := h
    refine ex_iaload (pc := 38) 25 rfl rfl rfl hs6 ?_
    refine ex_iload_n (pc := 39) 26 rfl rfl ?_
    obtain ⟨hs7, h⟩ := h
    obtain ⟨hs8, h⟩ := h
    refine ex_icmp_ne (pc := 40) 55 27 rfl (by decide) hs7 hs8 (fun hb => ?_) (fun hb => ?_)
    · have h := h.1 hb
      refine ex_iinc (pc := 55) 37 rfl rfl rfl rfl ?_
      refine ex_goto (pc := 58) 17 38 rfl (by decide) ?_
      exact h
    · have h := h.2 hb
      refine ex_aload_n (pc := 43) 28 rfl rfl ?_
      refine ex_geta (pc := 44) 6 29 rfl clk4 rfl rfl (Or.inl ww_159) rfl ?_
      refine ex_iload (pc := 47) 30 rfl rfl ?_
      refine ex_dup2 (pc := 49) 31 rfl ?_
      refine ex_iaload (pc := 50) 32 rfl rfl rfl hs6 ?_
      refine ex_iload_n (pc := 51) 33 rfl rfl ?_
      refine ex_iadd (pc := 52) 34 rfl ?_
      have h := h _ rfl
      refine ex_iastore (pc := 53) 35 rfl rfl rfl hs6 ?_
      generalize vm_up mem 21 v4 ((mem 21 v4) + v1) = m9 at h ⊢
      exact ex_ret (pc := 54) 36 rfl rfl ⟨rfl, h⟩
set_option maxRecDepth 20000 in
theorem qX4_addTerm {G : vm_G} {d : Nat} {p1 : Int} {p2 : Int} {mem : vm_M} {Q : vm_M → Prop} (h : (vm_R ((mem 8 8) - 1)) ∧ ((((mem 8 8) - 1) < 0 → Q mem) ∧ (¬ ((mem 8 8) - 1) < 0 → (0 ≤ ((mem 8 8) - 1) ∧ ((mem 8 8) - 1) < 128) ∧ (vm_R (mem 19 ((mem 8 8) - 1))) ∧ ((4 ≤ (mem 19 ((mem 8 8) - 1)) → Q mem) ∧ (¬ 4 ≤ (mem 19 ((mem 8 8) - 1)) → (vm_R p2) ∧ ((p2 < 0 → Q mem) ∧ (¬ p2 < 0 → ((p2 < 16 → (0 ≤ ((((mem 8 8) - 1) * 4) + (mem 19 ((mem 8 8) - 1))) ∧ ((((mem 8 8) - 1) * 4) + (mem 19 ((mem 8 8) - 1))) < 512) ∧ (∀ m6, m6 = vm_up mem 20 ((((mem 8 8) - 1) * 4) + (mem 19 ((mem 8 8) - 1))) p2 → (∀ m7, m7 = vm_up m6 21 ((((mem 8 8) - 1) * 4) + (mem 19 ((mem 8 8) - 1))) p1 → (∀ m8, m8 = vm_up m7 19 ((mem 8 8) - 1) ((m7 19 ((mem 8 8) - 1)) + 1) → (∀ m9, m9 = vm_up m8 18 ((mem 8 8) - 1) (vm_or (m8 18 ((mem 8 8) - 1)) (vm_shl 1 p2)) → (0 ≤ p2 ∧ p2 < 16) ∧ (∀ m11, m11 = vm_up m9 22 p2 ((m9 22 p2) + 1) → Q m11)))))) ∧ (¬ p2 < 16 → Q mem))))))))) : vm_cn G d mX4_addTerm [.inr (.inr 8), .inl p1, .inl p2] mem Q := by
  refine vm_enter (al := [some (.inr (.inr 8)), some (.inl p1), some (.inl p2), none, none]) 2 okX4_addTerm (by decide +kernel) rfl rfl ?_
  refine ex_aload_n (pc := 0) 0 rfl rfl ?_
  refine ex_geti (pc := 1) 8 1 rfl clk4 rfl rfl (Or.inl ww_163) rfl ?_
  refine ex_iconst (pc := 4) 2 rfl ?_
  refine ex_isub (pc := 5) 3 rfl ?_
  refine ex_istore_n (pc := 6) 4 rfl rfl rfl ?_
  refine ex_iload_n (pc := 7) 5 rfl rfl ?_
  obtain ⟨hs1, h⟩ := h
  refine ex_if_lt (pc := 8) 31 6 rfl (by decide) hs1 (fun hb => ?_) (fun hb => ?_)
  · have h := h.1 hb
    exact ex_ret (pc := 31) 18 rfl rfl ⟨rfl, h⟩
  · have h := h.2 hb
    refine ex_aload_n (pc := 11) 7 rfl rfl ?_
    refine ex_geta (pc := 12) 4 8 rfl clk4 rfl rfl (Or.inl ww_155) rfl ?_
    refine ex_iload_n (pc := 15) 9 rfl rfl ?_
    obtain ⟨hs2, h⟩ := h
    refine ex_iaload (pc := 16) 10 rfl rfl rfl hs2 ?_
    refine ex_iconst (pc := 17) 11 rfl ?_
    obtain ⟨hs3, h⟩ := h
    refine ex_icmp_ge (pc := 18) 31 12 rfl (by decide) hs3 ⟨by decide, by decide⟩ (fun hb => ?_) (fun hb => ?_)
    · have h := h.1 hb
      exact ex_ret (pc := 31) 18 rfl rfl ⟨rfl, h⟩
    · have h := h.2 hb
      refine ex_iload_n (pc := 21) 13 rfl rfl ?_
      obtain ⟨hs4, h⟩ := h
      refine ex_if_lt (pc := 22) 31 14 rfl (by decide) hs4 (fun hb => ?_) (fun hb => ?_)
      · have h := h.1 hb
        exact ex_ret (pc := 31) 18 rfl rfl ⟨rfl, h⟩
      · have h := h.2 hb
        refine ex_iload_n (pc := 25) 15 rfl rfl ?_
        refine ex_bipush (pc := 26) 16 rfl (by decide) ?_
        refine ex_icmp_lt (pc := 28) 32 17 rfl (by decide) hs4 ⟨by decide, by decide⟩ (fun hb => ?_) (fun hb => ?_)
        · have h := h.1 hb
          refine ex_iload_n (pc := 32) 19 rfl rfl ?_
          refine ex_iconst (pc := 33) 20 rfl ?_
          refine ex_imul (pc := 34) 21 rfl ?_
          refine ex_aload_n (pc := 35) 22 rfl rfl ?_
          refine ex_geta (pc := 36) 4 23 rfl clk4 rfl rfl (Or.inl ww_155) rfl ?_
          refine ex_iload_n (pc := 39) 24 rfl rfl ?_
          refine ex_iaload (pc := 40) 25 rfl rfl rfl hs2 ?_
          refine ex_iadd (pc := 41) 26 rfl ?_
          refine ex_istore (pc := 42) 27 rfl rfl rfl ?_
          refine ex_aload_n (pc := 44) 28 rfl rfl ?_
          refine ex_geta (pc := 45) 5 29 rfl clk4 rfl rfl (Or.inl ww_157) rfl ?_
          refine ex_iload (pc := 48) 30 rfl rfl ?_
          refine ex_iload_n (pc := 50) 31 rfl rfl ?_
          obtain ⟨hs5, h⟩ := h
          have h := h _ rfl
          refine ex_iastore (pc := 51) 32 rfl rfl rfl hs5 ?_
          generalize vm_up mem 20 ((((mem 8 8) - 1) * 4) + (mem 19 ((mem 8 8) - 1))) p2 = m6 at h ⊢
          refine ex_aload_n (pc := 52) 33 rfl rfl ?_
          refine ex_geta (pc := 53) 6 34 rfl clk4 rfl rfl (Or.inl ww_159) rfl ?_
          refine ex_iload (pc := 56) 35 rfl rfl ?_
          refine ex_iload_n (pc := 58) 36 rfl rfl ?_
          have h := h _ rfl
          refine ex_iastore (pc := 59) 37 rfl rfl rfl hs5 ?_
          generalize vm_up m6 21 ((((mem 8 8) - 1) * 4) + (mem 19 ((mem 8 8) - 1))) p1 = m7 at h ⊢
          refine ex_aload_n (pc := 60) 38 rfl rfl ?_
          refine ex_geta (pc := 61) 4 39 rfl clk4 rfl rfl (Or.inl ww_155) rfl ?_
          refine ex_iload_n (pc := 64) 40 rfl rfl ?_
          refine ex_dup2 (pc := 65) 41 rfl ?_
          refine ex_iaload (pc := 66) 42 rfl rfl rfl hs2 ?_
          refine ex_iconst (pc := 67) 43 rfl ?_
          refine ex_iadd (pc := 68) 44 rfl ?_
          have h := h _ rfl
          refine ex_iastore (pc := 69) 45 rfl rfl rfl hs2 ?_
          generalize vm_up m7 19 ((mem 8 8) - 1) ((m7 19 ((mem 8 8) - 1)) + 1) = m8 at h ⊢
          refine ex_aload_n (pc := 70) 46 rfl rfl ?_
          refine ex_geta (pc := 71) 3 47 rfl clk4 rfl rfl (Or.inl ww_153) rfl ?_
          refine ex_iload_n (pc := 74) 48 rfl rfl ?_
          refine ex_dup2 (pc := 75) 49 rfl ?_
          refine ex_iaload (pc := 76) 50 rfl rfl rfl hs2 ?_
          refine ex_iconst (pc := 77) 51 rfl ?_
          refine ex_iload_n (pc := 78) 52 rfl rfl ?_
          refine ex_ishl (pc := 79) 53 rfl ?_
          refine ex_ior (pc := 80) 54 rfl ?_
          have h := h _ rfl
          refine ex_iastore (pc := 81) 55 rfl rfl rfl hs2 ?_
          generalize vm_up m8 18 ((mem 8 8) - 1) (vm_or (m8 18 ((mem 8 8) - 1)) (vm_shl 1 p2)) = m9 at h ⊢
          refine ex_aload_n (pc := 82) 56 rfl rfl ?_
          refine ex_geta (pc := 83) 7 57 rfl clk4 rfl rfl (Or.inl ww_161) rfl ?_
          refine ex_iload_n (pc := 86) 58 rfl rfl ?_
          refine ex_dup2 (pc := 87) 59 rfl ?_
          obtain ⟨hs10, h⟩ := h
          refine ex_iaload (pc := 88) 60 rfl rfl rfl hs10 ?_
          refine ex_iconst (pc := 89) 61 rfl ?_
          refine ex_iadd (pc := 90) 62 rfl ?_
          have h := h _ rfl
          refine ex_iastore (pc := 91) 63 rfl rfl rfl hs10 ?_
          generalize vm_up m9 22 p2 ((m9 22 p2) + 1) = m11 at h ⊢
          exact ex_ret (pc := 92) 64 rfl rfl ⟨rfl, h⟩
        · have h := h.2 hb
          exact ex_ret (pc := 31) 18 rfl rfl ⟨rfl, h⟩
