set_option maxRecDepth 20000 in
theorem qX7_most {G : vm_G} {d : Nat} {p1 : Int} {mem : vm_M} {Q : vm_M → Int → Prop} (h : vm_cb G d mX7_isWithin [.inl p1, .inl 1, .inl 6] mem (fun m1 r2 => (r2 = true → vm_cn G d mX7_recordState [.inr (.inr 0)] m1 (fun m3 => (∀ m5, m5 = vm_up m3 1 2 p1 → Q m5 (m3 1 2)))) ∧ (r2 = false → Q m1 (-2)))) : vm_ci G (d + 1) mX7_most [.inr (.inr 0), .inl p1] mem Q := by
  refine vm_enter (al := [some (.inr (.inr 0)), some (.inl p1), none]) 1 okX7_most (by decide +kernel) rfl rfl ?_
  refine ex_iload_n (pc := 0) 0 rfl rfl ?_
  refine ex_iconst (pc := 1) 1 rfl ?_
  refine ex_bipush (pc := 2) 2 rfl (by decide) ?_
  refine ex_invS (pc := 4) (M' := mX7_isWithin) (As := [.inl p1, .inl 1, .inl 6]) (st := []) 3 rfl calX7_isWithin (Or.inl ww_301) rfl rfl ?_
  refine vm_call.mono h ?_
  rintro m1 _ ⟨r2, rfl, h⟩
  refine ex_if_ne (pc := 7) 13 4 rfl (by decide) (vm_b2i_R _) (fun hb => ?_) (fun hb => ?_)
  · have h := h.1 (vm_b2i_n.mp hb)
    refine ex_aload_n (pc := 13) 7 rfl rfl ?_
    refine ex_invV (pc := 14) (M' := mX7_recordState) (As := []) (st := []) 8 rfl clk7 rfl rfl calX7_recordState (Or.inl ww_304) rfl rfl ?_
    refine vm_call.mono h ?_
    rintro m3 _ ⟨rfl, h⟩
    refine ex_aload_n (pc := 17) 9 rfl rfl ?_
    refine ex_geta (pc := 18) 0 10 rfl clk7 rfl rfl (Or.inl ww_275) rfl ?_
    refine ex_geti (pc := 21) 2 11 rfl clk0 rfl rfl (Or.inr ⟨_, ww_119⟩) rfl ?_
    refine ex_istore_n (pc := 24) 12 rfl rfl rfl ?_
    refine ex_aload_n (pc := 25) 13 rfl rfl ?_
    refine ex_geta (pc := 26) 0 14 rfl clk7 rfl rfl (Or.inl ww_275) rfl ?_
    refine ex_iload_n (pc := 29) 15 rfl rfl ?_
    have h := h _ rfl
    refine ex_puti (pc := 30) 2 16 rfl clk0 rfl rfl (Or.inr ⟨_, ww_119⟩) rfl rfl rfl ?_
    generalize vm_up m3 1 _ p1 = m5 at h ⊢
    refine ex_iload_n (pc := 33) 17 rfl rfl ?_
    exact ex_iret (pc := 34) 18 rfl (Or.inl rfl) ⟨_, rfl, h⟩
  · have h := h.2 (vm_b2i_0.mp hb)
    refine ex_bipush (pc := 10) 5 rfl (by decide) ?_
    exact ex_iret (pc := 12) 6 rfl (Or.inl rfl) ⟨_, rfl, h⟩
set_option maxRecDepth 20000 in
theorem qX7_fact {G : vm_G} {d : Nat} {p1 : Int} {p2 : Int} {p3 : Int} {p4 : Int} {p5 : Int} {p6 : Int} {mem : vm_M} {Q : vm_M → Int → Prop} (h : vm_cb G d mX0_ask [.inr (.inr 1), .inl p1, .inl p2, .inl p3, .inl p4, .inl p5, .inl p6] mem (fun m1 r2 => (r2 = true → vm_cb G d mX0_isFull [.inr (.inr 1)] m1 (fun m3 r4 => (r4 = false → vm_cn G d mX7_recordState [.inr (.inr 0)] m3 (fun m5 => vm_ci G d mX0_keepAsked [.inr (.inr 1)] m5 (fun m7 r8 => Q m7 r8))) ∧ (r4 = true → Q m3 (-4)))) ∧ (r2 = false → Q m1 (-2)))) : vm_ci G (d + 1) mX7_fact [.inr (.inr 0), .inl p1, .inl p2, .inl p3, .inl p4, .inl p5, .inl p6] mem Q := by
  refine vm_enter (al := [some (.inr (.inr 0)), some (.inl p1), some (.inl p2), some (.inl p3), some (.inl p4), some (.inl p5), some (.inl p6)]) 0 okX7_fact (by decide +kernel) rfl rfl ?_
  refine ex_aload_n (pc := 0) 0 rfl rfl ?_
  refine ex_geta (pc := 1) 0 1 rfl clk7 rfl rfl (Or.inl ww_275) rfl ?_
  refine ex_iload_n (pc := 4) 2 rfl rfl ?_
  refine ex_iload_n (pc := 5) 3 rfl rfl ?_
  refine ex_iload_n (pc := 6) 4 rfl rfl ?_
  refine ex_iload (pc := 7) 5 rfl rfl ?_
  refine ex_iload (pc := 9) 6 rfl rfl ?_
  refine ex_iload (pc := 11) 7 rfl rfl ?_
  refine ex_invV (pc := 13) (M' := mX0_ask) (As := [.inl p1, .inl p2, .inl p3, .inl p4, .inl p5, .inl p6]) (st := []) 8 rfl clk0 rfl rfl calX0_ask (Or.inl ww_329) rfl rfl ?_
  refine vm_call.mono h ?_
  rintro m1 _ ⟨r2, rfl, h⟩
  refine ex_if_ne (pc := 16) 22 9 rfl (by decide) (vm_b2i_R _) (fun hb => ?_) (fun hb => ?_)
  · have h := h.1 (vm_b2i_n.mp hb)
    refine ex_aload_n (pc := 22) 12 rfl rfl ?_
    refine ex_geta (pc := 23) 0 13 rfl clk7 rfl rfl (Or.inl ww_275) rfl ?_
    refine ex_invV (pc := 26) (M' := mX0_isFull) (As := []) (st := []) 14 rfl clk0 rfl rfl calX0_isFull (Or.inl ww_346) rfl rfl ?_
    refine vm_call.mono h ?_
    rintro m3 _ ⟨r4, rfl, h⟩
    refine ex_if_eq (pc := 29) 35 15 rfl (by decide) (vm_b2i_R _) (fun hb => ?_) (fun hb => ?_)
    · have h := h.1 (vm_b2i_0.mp hb)
      refine ex_aload_n (pc := 35) 18 rfl rfl ?_
      refine ex_invV (pc := 36) (M' := mX7_recordState) (As := []) (st := []) 19 rfl clk7 rfl rfl calX7_recordState (Or.inl ww_304) rfl rfl ?_
      refine vm_call.mono h ?_
      rintro m5 _ ⟨rfl, h⟩
      refine ex_aload_n (pc := 39) 20 rfl rfl ?_
      refine ex_geta (pc := 40) 0 21 rfl clk7 rfl rfl (Or.inl ww_275) rfl ?_
      refine ex_invV (pc := 43) (M' := mX0_keepAsked) (As := []) (st := []) 22 rfl clk0 rfl rfl calX0_keepAsked (Or.inl ww_350) rfl rfl ?_
      refine vm_call.mono h ?_
      rintro m7 _ ⟨r8, rfl, h⟩
      exact ex_iret (pc := 46) 23 rfl (Or.inl rfl) ⟨_, rfl, h⟩
    · have h := h.2 (vm_b2i_n.mp hb)
      refine ex_bipush (pc := 32) 16 rfl (by decide) ?_
      exact ex_iret (pc := 34) 17 rfl (Or.inl rfl) ⟨_, rfl, h⟩
  · have h := h.2 (vm_b2i_0.mp hb)
    refine ex_bipush (pc := 19) 10 rfl (by decide) ?_
    exact ex_iret (pc := 21) 11 rfl (Or.inl rfl) ⟨_, rfl, h⟩
set_option maxRecDepth 20000 in
theorem qX7_drop {G : vm_G} {d : Nat} {p1 : Int} {mem : vm_M} {Q : vm_M → Int → Prop} (h : vm_cb G d mX0_has [.inr (.inr 1), .inl p1] mem (fun m1 r2 => (r2 = true → vm_cn G d mX7_recordState [.inr (.inr 0)] m1 (fun m3 => vm_cn G d mX0_remove [.inr (.inr 1), .inl p1] m3 (fun m5 => Q m5 (m5 1 1)))) ∧ (r2 = false → Q m1 (-1)))) : vm_ci G (d + 1) mX7_drop [.inr (.inr 0), .inl p1] mem Q := by
  refine vm_enter (al := [some (.inr (.inr 0)), some (.inl p1)]) 0 okX7_drop (by decide +kernel) rfl rfl ?_
  refine ex_aload_n (pc := 0) 0 rfl rfl ?_
  refine ex_geta (pc := 1) 0 1 rfl clk7 rfl rfl (Or.inl ww_275) rfl ?_
  refine ex_iload_n (pc := 4) 2 rfl rfl ?_
  refine ex_invV (pc := 5) (M' := mX0_has) (As := [.inl p1]) (st := []) 3 rfl clk0 rfl rfl calX0_has (Or.inl ww_359) rfl rfl ?_
  refine vm_call.mono h ?_
  rintro m1 _ ⟨r2, rfl, h⟩
  refine ex_if_ne (pc := 8) 13 4 rfl (by decide) (vm_b2i_R _) (fun hb => ?_) (fun hb => ?_)
  · have h := h.1 (vm_b2i_n.mp hb)
    refine ex_aload_n (pc := 13) 7 rfl rfl ?_
    refine ex_invV (pc := 14) (M' := mX7_recordState) (As := []) (st := []) 8 rfl clk7 rfl rfl calX7_recordState (Or.inl ww_304) rfl rfl ?_
    refine vm_call.mono h ?_
    rintro m3 _ ⟨rfl, h⟩
    refine ex_aload_n (pc := 17) 9 rfl rfl ?_
    refine ex_geta (pc := 18) 0 10 rfl clk7 rfl rfl (Or.inl ww_275) rfl ?_
    refine ex_iload_n (pc := 21) 11 rfl rfl ?_
    refine ex_invV (pc := 22) (M' := mX0_remove) (As := [.inl p1]) (st := []) 12 rfl clk0 rfl rfl calX0_remove (Or.inl ww_363) rfl rfl ?_
    refine vm_call.mono h ?_
    rintro m5 _ ⟨rfl, h⟩
    refine ex_aload_n (pc := 25) 13 rfl rfl ?_
    refine ex_geta (pc := 26) 0 14 rfl clk7 rfl rfl (Or.inl ww_275) rfl ?_
    refine ex_geti (pc := 29) 1 15 rfl clk0 rfl rfl (Or.inr ⟨_, ww_116⟩) rfl ?_
    exact ex_iret (pc := 32) 16 rfl (Or.inl rfl) ⟨_, rfl, h⟩
  · have h := h.2 (vm_b2i_0.mp hb)
    refine ex_iconst (pc := 11) 5 rfl ?_
    exact ex_iret (pc := 12) 6 rfl (Or.inl rfl) ⟨_, rfl, h⟩
set_option maxRecDepth 20000 in
theorem qX7_ofFact {G : vm_G} {d : Nat} {p1 : Int} {p2 : Int} {mem : vm_M} {Q : vm_M → Int → Prop} (h : vm_cb G d mX0_has [.inr (.inr 1), .inl p1] mem (fun m1 r2 => (r2 = true → vm_cb G d mX7_isWithin [.inl p2, .inl 0, .inl 5] m1 (fun m3 r4 => (r4 = true → vm_ci G d mX0_number [.inr (.inr 1), .inl p1, .inl p2] m3 (fun m5 r6 => (vm_R p2) ∧ ((¬ p2 = 5 → Q m5 r6) ∧ (p2 = 5 → Q m5 (r6 + 100))))) ∧ (r4 = false → Q m3 (-2)))) ∧ (r2 = false → Q m1 (-1)))) : vm_ci G (d + 1) mX7_ofFact [.inr (.inr 0), .inl p1, .inl p2] mem Q := by
  refine vm_enter (al := [some (.inr (.inr 0)), some (.inl p1), some (.inl p2), none]) 1 okX7_ofFact (by decide +kernel) rfl rfl ?_
  refine ex_aload_n (pc := 0) 0 rfl rfl ?_
  refine ex_geta (pc := 1) 0 1 rfl clk7 rfl rfl (Or.inl ww_275) rfl ?_
  refine ex_iload_n (pc := 4) 2 rfl rfl ?_
  refine ex_invV (pc := 5) (M' := mX0_has) (As := [.inl p1]) (st := []) 3 rfl clk0 rfl rfl calX0_has (Or.inl ww_359) rfl rfl ?_
  refine vm_call.mono h ?_
  rintro m1 _ ⟨r2, rfl, h⟩
  refine ex_if_ne (pc := 8) 13 4 rfl (by decide) (vm_b2i_R _) (fun hb => ?_) (fun hb => ?_)
  · have h := h.1 (vm_b2i_n.mp hb)
    refine ex_iload_n (pc := 13) 7 rfl rfl ?_
    refine ex_iconst (pc := 14) 8 rfl ?_
    refine ex_iconst (pc := 15) 9 rfl ?_
    refine ex_invS (pc := 16) (M' := mX7_isWithin) (As := [.inl p2, .inl 0, .inl 5]) (st := []) 10 rfl calX7_isWithin (Or.inl ww_301) rfl rfl ?_
    refine vm_call.mono h ?_
    rintro m3 _ ⟨r4, rfl, h⟩
    refine ex_if_ne (pc := 19) 25 11 rfl (by decide) (vm_b2i_R _) (fun hb => ?_) (fun hb => ?_)
    · have h := h.1 (vm_b2i_n.mp hb)
      refine ex_aload_n (pc := 25) 14 rfl rfl ?_
      refine ex_geta (pc := 26) 0 15 rfl clk7 rfl rfl (Or.inl ww_275) rfl ?_
      refine ex_iload_n (pc := 29) 16 rfl rfl ?_
      refine ex_iload_n (pc := 30) 17 rfl rfl ?_
      refine ex_invV (pc := 31) (M' := mX0_number) (As := [.inl p1, .inl p2]) (st := []) 18 rfl clk0 rfl rfl calX0_number (Or.inl ww_372) rfl rfl ?_
      refine vm_call.mono h ?_
      rintro m5 _ ⟨r6, rfl, h⟩
      refine ex_istore_n (pc := 34) 19 rfl rfl rfl ?_
      refine ex_iload_n (pc := 35) 20 rfl rfl ?_
      refine ex_iconst (pc := 36) 21 rfl ?_
      obtain ⟨hs7, h⟩ := h
      refine ex_icmp_ne (pc := 37) 47 22 rfl (by decide) hs7 ⟨by decide, by decide⟩ (fun hb => ?_) (fun hb => ?_)
      · have h := h.1 hb
        refine ex_iload_n (pc := 47) 27 rfl rfl ?_
        exact ex_iret (pc := 48) 28 rfl (Or.inl rfl) ⟨_, rfl, h⟩
      · have h := h.2 hb
        refine ex_iload_n (pc := 40) 23 rfl rfl ?_
        refine ex_bipush (pc := 41) 24 rfl (by decide) ?_
        refine ex_iadd (pc := 43) 25 rfl ?_
        refine ex_goto (pc := 44) 48 26 rfl (by decide) ?_
        exact ex_iret (pc := 48) 28 rfl (Or.inl rfl) ⟨_, rfl, h⟩
    · have h := h.2 (vm_b2i_0.mp hb)
      refine ex_bipush (pc := 22) 12 rfl (by decide) ?_
      exact ex_iret (pc := 24) 13 rfl (Or.inl rfl) ⟨_, rfl, h⟩
  · have h := h.2 (vm_b2i_0.mp hb)
    refine ex_iconst (pc := 11) 5 rfl ?_
    exact ex_iret (pc := 12) 6 rfl (Or.inl rfl) ⟨_, rfl, h⟩
set_option maxRecDepth 20000 in
theorem qX7_count {G : vm_G} {d : Nat} {p1 : Int} {mem : vm_M} {Q : vm_M → Int → Prop} (h : (vm_R p1) ∧ ((p1 = 0 → Q mem (mem 1 1)) ∧ (p1 = 1 → Q mem (mem 1 2)) ∧ (p1 = 2 → Q mem (mem 3 1)) ∧ (p1 = 3 → Q mem (mem 0 5)) ∧ (p1 < 0 ∨ 3 < p1 → Q mem (-2)))) : vm_ci G d mX7_count [.inr (.inr 0), .inl p1] mem Q := by
  refine vm_enter (al := [some (.inr (.inr 0)), some (.inl p1)]) 0 okX7_count (by decide +kernel) rfl rfl ?_
  refine ex_iload_n (pc := 0) 0 rfl rfl ?_
  obtain ⟨hs1, h⟩ := h
  obtain ⟨h0, h1, h2, h3, h4⟩ := h
  refine ex_tsw (pc := 1) 1 rfl hs1 rfl ⟨fun hb => ⟨?_, by decide⟩, fun hb => ⟨?_, by decide⟩, fun hb => ⟨?_, by decide⟩, fun hb => ⟨?_, by decide⟩, trivial⟩ (fun hb => ?_) (by decide)
  · have h := h0 hb
    refine ex_aload_n (pc := 32) 2 rfl rfl ?_
    refine ex_geta (pc := 33) 0 3 rfl clk7 rfl rfl (Or.inl ww_275) rfl ?_
    refine ex_geti (pc := 36) 1 4 rfl clk0 rfl rfl (Or.inr ⟨_, ww_116⟩) rfl ?_
    exact ex_iret (pc := 39) 5 rfl (Or.inl rfl) ⟨_, rfl, h⟩
  · have h := h1 hb
    refine ex_aload_n (pc := 40) 6 rfl rfl ?_
    refine ex_geta (pc := 41) 0 7 rfl clk7 rfl rfl (Or.inl ww_275) rfl ?_
    refine ex_geti (pc := 44) 2 8 rfl clk0 rfl rfl (Or.inr ⟨_, ww_119⟩) rfl ?_
    exact ex_iret (pc := 47) 9 rfl (Or.inl rfl) ⟨_, rfl, h⟩
  · have h := h2 hb
    refine ex_aload_n (pc := 48) 10 rfl rfl ?_
    refine ex_geta (pc := 49) 2 11 rfl clk7 rfl rfl (Or.inl ww_277) rfl ?_
    refine ex_geti (pc := 52) 1 12 rfl clk3 rfl rfl (Or.inr ⟨_, ww_234⟩) rfl ?_
    exact ex_iret (pc := 55) 13 rfl (Or.inl rfl) ⟨_, rfl, h⟩
  · have h := h3 hb
    refine ex_aload_n (pc := 56) 14 rfl rfl ?_
    refine ex_geti (pc := 57) 5 15 rfl clk7 rfl rfl (Or.inl ww_280) rfl ?_
    exact ex_iret (pc := 60) 16 rfl (Or.inl rfl) ⟨_, rfl, h⟩
  · have h := h4 hb
    refine ex_bipush (pc := 61) 17 rfl (by decide) ?_
    exact ex_iret (pc := 63) 18 rfl (Or.inl rfl) ⟨_, rfl, h⟩
set_option maxRecDepth 20000 in
theorem qX7_isPossible {G : vm_G} {d : Nat}  {mem : vm_M} {Q : vm_M → Int → Prop} (h : vm_ci G d mX0_all [.inr (.inr 1)] mem (fun m1 r2 => vm_cb G d mX2_canHold [.inr (.inr 2), .inr (.inr 1), .inl r2] m1 (fun m3 r4 => (r4 = false → Q m3 0) ∧ (r4 = true → Q m3 1)))) : vm_ci G (d + 1) mX7_isPossible [.inr (.inr 0)] mem Q := by
  refine vm_enter (al := [some (.inr (.inr 0))]) 0 okX7_isPossible (by decide +kernel) rfl rfl ?_
  refine ex_aload_n (pc := 0) 0 rfl rfl ?_
  refine ex_geta (pc := 1) 1 1 rfl clk7 rfl rfl (Or.inl ww_276) rfl ?_
  refine ex_aload_n (pc := 4) 2 rfl rfl ?_
  refine ex_geta (pc := 5) 0 3 rfl clk7 rfl rfl (Or.inl ww_275) rfl ?_
  refine ex_aload_n (pc := 8) 4 rfl rfl ?_
  refine ex_geta (pc := 9) 0 5 rfl clk7 rfl rfl (Or.inl ww_275) rfl ?_
  refine ex_invV (pc := 12) (M' := mX0_all) (As := []) (st := [.inr (.inr 1), .inr (.inr 2)]) 6 rfl clk0 rfl rfl calX0_all (Or.inl ww_384) rfl rfl ?_
  refine vm_call.mono h ?_
  rintro m1 _ ⟨r2, rfl, h⟩
  refine ex_invV (pc := 15) (M' := mX2_canHold) (As := [.inr (.inr 1), .inl r2]) (st := []) 7 rfl clk2 rfl rfl calX2_canHold (Or.inl ww_388) rfl rfl ?_
  refine vm_call.mono h ?_
  rintro m3 _ ⟨r4, rfl, h⟩
  refine ex_if_eq (pc := 18) 25 8 rfl (by decide) (vm_b2i_R _) (fun hb => ?_) (fun hb => ?_)
  · have h := h.1 (vm_b2i_0.mp hb)
    refine ex_iconst (pc := 25) 11 rfl ?_
    exact ex_iret (pc := 26) 12 rfl (Or.inl rfl) ⟨_, rfl, h⟩
  · have h := h.2 (vm_b2i_n.mp hb)
    refine ex_iconst (pc := 21) 9 rfl ?_
    refine ex_goto (pc := 22) 26 10 rfl (by decide) ?_
    exact ex_iret (pc := 26) 12 rfl (Or.inl rfl) ⟨_, rfl, h⟩
set_option maxRecDepth 20000 in
theorem qX7_bound {G : vm_G} {d : Nat} {p1 : Int} {p2 : Int} {p3 : Int} {mem : vm_M} {Q : vm_M → Int → Prop} (h : vm_ci G d mX7_refusalOfBound [.inl p1, .inl p2, .inl p3] mem (fun m1 r2 => (vm_R r2) ∧ ((r2 = 0 → vm_ci G d mX0_all [.inr (.inr 1)] m1 (fun m4 r5 => vm_ci G d mX5_variable [.inl p1, .inl p2] m4 (fun m6 r7 => (vm_R p3) ∧ ((¬ p3 = 1 → vm_ci G d mX2_extreme [.inr (.inr 2), .inr (.inr 1), .inl r5, .inl r7, .inl 0] m6 (fun m9 r10 => Q m9 r10)) ∧ (p3 = 1 → vm_ci G d mX2_extreme [.inr (.inr 2), .inr (.inr 1), .inl r5, .inl r7, .inl 1] m6 (fun m11 r12 => Q m11 r12)))))) ∧ (¬ r2 = 0 → Q m1 r2)))) : vm_ci G (d + 1) mX7_bound [.inr (.inr 0), .inl p1, .inl p2, .inl p3] mem Q := by
  refine vm_enter (al := [some (.inr (.inr 0)), some (.inl p1), some (.inl p2), some (.inl p3), none]) 1 okX7_bound (by decide +kernel) rfl rfl ?_
  refine ex_iload_n (pc := 0) 0 rfl rfl ?_
  refine ex_iload_n (pc := 1) 1 rfl rfl ?_
  refine ex_iload_n (pc := 2) 2 rfl rfl ?_
  refine ex_invS (pc := 3) (M' := mX7_refusalOfBound) (As := [.inl p1, .inl p2, .inl p3]) (st := []) 3 rfl calX7_refusalOfBound (Or.inl ww_553) rfl rfl ?_
  refine vm_call.mono h ?_
  rintro m1 _ ⟨r2, rfl, h⟩
  refine ex_istore (pc := 6) 4 rfl rfl rfl ?_
  refine ex_iload (pc := 8) 5 rfl rfl ?_
  obtain ⟨hs3, h⟩ := h
  refine ex_if_eq (pc := 10) 18 6 rfl (by decide) hs3 (fun hb => ?_) (fun hb => ?_)
  · have h := h.1 hb
    refine ex_aload_n (pc := 18) 9 rfl rfl ?_
    refine ex_geta (pc := 19) 1 10 rfl clk7 rfl rfl (Or.inl ww_276) rfl ?_
    refine ex_aload_n (pc := 22) 11 rfl rfl ?_
    refine ex_geta (pc := 23) 0 12 rfl clk7 rfl rfl (Or.inl ww_275) rfl ?_
    refine ex_aload_n (pc := 26) 13 rfl rfl ?_
    refine ex_geta (pc := 27) 0 14 rfl clk7 rfl rfl (Or.inl ww_275) rfl ?_
    refine ex_invV (pc := 30) (M' := mX0_all) (As := []) (st := [.inr (.inr 1), .inr (.inr 2)]) 15 rfl clk0 rfl rfl calX0_all (Or.inl ww_384) rfl rfl ?_
    refine vm_call.mono h ?_
    rintro m4 _ ⟨r5, rfl, h⟩
    refine ex_iload_n (pc := 33) 16 rfl rfl ?_
    refine ex_iload_n (pc := 34) 17 rfl rfl ?_
    refine ex_invS (pc := 35) (M' := mX5_variable) (As := [.inl p1, .inl p2]) (st := [.inl r5, .inr (.inr 1), .inr (.inr 2)]) 18 rfl calX5_variable (Or.inl ww_558) rfl rfl ?_
    refine vm_call.mono h ?_
    rintro m6 _ ⟨r7, rfl, h⟩
    refine ex_iload_n (pc := 38) 19 rfl rfl ?_
    refine ex_iconst (pc := 39) 20 rfl ?_
    obtain ⟨hs8, h⟩ := h
    refine ex_icmp_ne (pc := 40) 47 21 rfl (by decide) hs8 ⟨by decide, by decide⟩ (fun hb => ?_) (fun hb => ?_)
    · have h := h.1 hb
      refine ex_iconst (pc := 47) 24 rfl ?_
      refine ex_invV (pc := 48) (M' := mX2_extreme) (As := [.inr (.inr 1), .inl r5, .inl r7, .inl 0]) (st := []) 25 rfl clk2 rfl rfl calX2_extreme (Or.inl ww_559) rfl rfl ?_
      refine vm_call.mono h ?_
      rintro m9 _ ⟨r10, rfl, h⟩
      exact ex_iret (pc := 51) 26 rfl (Or.inl rfl) ⟨_, rfl, h⟩
    · have h := h.2 hb
      refine ex_iconst (pc := 43) 22 rfl ?_
      refine ex_goto (pc := 44) 48 23 rfl (by decide) ?_
      refine ex_invV (pc := 48) (M' := mX2_extreme) (As := [.inr (.inr 1), .inl r5, .inl r7, .inl 1]) (st := []) 25 rfl clk2 rfl rfl calX2_extreme (Or.inl ww_559) rfl rfl ?_
      refine vm_call.mono h ?_
      rintro m11 _ ⟨r12, rfl, h⟩
      exact ex_iret (pc := 51) 26 rfl (Or.inl rfl) ⟨_, rfl, h⟩
  · have h := h.2 hb
    refine ex_iload (pc := 13) 7 rfl rfl ?_
    refine ex_goto (pc := 15) 51 8 rfl (by decide) ?_
    exact ex_iret (pc := 51) 26 rfl (Or.inl rfl) ⟨_, rfl, h⟩
set_option maxRecDepth 20000 in
theorem qX7_sizeOf {G : vm_G} {d : Nat} {p1 : Int} {p2 : Int} {mem : vm_M} {Q : vm_M → Int → Prop} (h : vm_ci G d mX7_refusalOfBound [.inl p1, .inl 0, .inl p2] mem (fun m1 r2 => (vm_R r2) ∧ ((r2 = 0 → vm_ci G d mX0_all [.inr (.inr 1)] m1 (fun m4 r5 => vm_ci G d mX5_variable [.inl p1, .inl 3] m4 (fun m6 r7 => (vm_R p2) ∧ ((¬ p2 = 1 → vm_ci G d mX2_extreme [.inr (.inr 2), .inr (.inr 1), .inl r5, .inl r7, .inl 0] m6 (fun m9 r10 => Q m9 r10)) ∧ (p2 = 1 → vm_ci G d mX2_extreme [.inr (.inr 2), .inr (.inr 1), .inl r5, .inl r7, .inl 1] m6 (fun m11 r12 => Q m11 r12)))))) ∧ (¬ r2 = 0 → Q m1 r2)))) : vm_ci G (d + 1) mX7_sizeOf [.inr (.inr 0), .inl p1, .inl p2] mem Q := by
  refine vm_enter (al := [some (.inr (.inr 0)), some (.inl p1), some (.inl p2), none]) 1 okX7_sizeOf (by decide +kernel) rfl rfl ?_
  refine ex_iload_n (pc := 0) 0 rfl rfl ?_
  refine ex_iconst (pc := 1) 1 rfl ?_
  refine ex_iload_n (pc := 2) 2 rfl rfl ?_
  refine ex_invS (pc := 3) (M' := mX7_refusalOfBound) (As := [.inl p1, .inl 0, .inl p2]) (st := []) 3 rfl calX7_refusalOfBound (Or.inl ww_553) rfl rfl ?_
  refine vm_call.mono h ?_
  rintro m1 _ ⟨r2, rfl, h⟩
  refine ex_istore_n (pc := 6) 4 rfl rfl rfl ?_
  refine ex_iload_n (pc := 7) 5 rfl rfl ?_
  obtain ⟨hs3, h⟩ := h
  refine ex_if_eq (pc := 8) 15 6 rfl (by decide) hs3 (fun hb => ?_) (fun hb => ?_)
  · have h := h.1 hb
    refine ex_aload_n (pc := 15) 9 rfl rfl ?_
    refine ex_geta (pc := 16) 1 10 rfl clk7 rfl rfl (Or.inl ww_276) rfl ?_
    refine ex_aload_n (pc := 19) 11 rfl rfl ?_
    refine ex_geta (pc := 20) 0 12 rfl clk7 rfl rfl (Or.inl ww_275) rfl ?_
    refine ex_aload_n (pc := 23) 13 rfl rfl ?_
    refine ex_geta (pc := 24) 0 14 rfl clk7 rfl rfl (Or.inl ww_275) rfl ?_
    refine ex_invV (pc := 27) (M' := mX0_all) (As := []) (st := [.inr (.inr 1), .inr (.inr 2)]) 15 rfl clk0 rfl rfl calX0_all (Or.inl ww_384) rfl rfl ?_
    refine vm_call.mono h ?_
    rintro m4 _ ⟨r5, rfl, h⟩
    refine ex_iload_n (pc := 30) 16 rfl rfl ?_
    refine ex_iconst (pc := 31) 17 rfl ?_
    refine ex_invS (pc := 32) (M' := mX5_variable) (As := [.inl p1, .inl 3]) (st := [.inl r5, .inr (.inr 1), .inr (.inr 2)]) 18 rfl calX5_variable (Or.inl ww_558) rfl rfl ?_
    refine vm_call.mono h ?_
    rintro m6 _ ⟨r7, rfl, h⟩
    refine ex_iload_n (pc := 35) 19 rfl rfl ?_
    refine ex_iconst (pc := 36) 20 rfl ?_
    obtain ⟨hs8, h⟩ := h
    refine ex_icmp_ne (pc := 37) 44 21 rfl (by decide) hs8 ⟨by decide, by decide⟩ (fun hb => ?_) (fun hb => ?_)
    · have h := h.1 hb
      refine ex_iconst (pc := 44) 24 rfl ?_
      refine ex_invV (pc := 45) (M' := mX2_extreme) (As := [.inr (.inr 1), .inl r5, .inl r7, .inl 0]) (st := []) 25 rfl clk2 rfl rfl calX2_extreme (Or.inl ww_559) rfl rfl ?_
      refine vm_call.mono h ?_
      rintro m9 _ ⟨r10, rfl, h⟩
      exact ex_iret (pc := 48) 26 rfl (Or.inl rfl) ⟨_, rfl, h⟩
    · have h := h.2 hb
      refine ex_iconst (pc := 40) 22 rfl ?_
      refine ex_goto (pc := 41) 45 23 rfl (by decide) ?_
      refine ex_invV (pc := 45) (M' := mX2_extreme) (As := [.inr (.inr 1), .inl r5, .inl r7, .inl 1]) (st := []) 25 rfl clk2 rfl rfl calX2_extreme (Or.inl ww_559) rfl rfl ?_
      refine vm_call.mono h ?_
      rintro m11 _ ⟨r12, rfl, h⟩
      exact ex_iret (pc := 48) 26 rfl (Or.inl rfl) ⟨_, rfl, h⟩
  · have h := h.2 hb
    refine ex_iload_n (pc := 11) 7 rfl rfl ?_
    refine ex_goto (pc := 12) 48 8 rfl (by decide) ?_
    exact ex_iret (pc := 48) 26 rfl (Or.inl rfl) ⟨_, rfl, h⟩
set_option maxRecDepth 20000 in
theorem qX7_least {G : vm_G} {d : Nat} {p1 : Int} {p2 : Int} {mem : vm_M} {Q : vm_M → Int → Prop} (h : vm_cb G d mX7_isBag [.inl p1] mem (fun m1 r2 => (r2 = false → Q m1 (-1)) ∧ (r2 = true → vm_cb G d mX7_isKind [.inl p2] m1 (fun m3 r4 => (r4 = true → vm_ci G d mX5_variable [.inl p1, .inl p2] m3 (fun m5 r6 => vm_ci G d mX2_inLeastSolution [.inr (.inr 2), .inr (.inr 1), .inl r6] m5 (fun m7 r8 => Q m7 r8))) ∧ (r4 = false → Q m3 (-1)))))) : vm_ci G (d + 1) mX7_least [.inr (.inr 0), .inl p1, .inl p2] mem Q := by
  refine vm_enter (al := [some (.inr (.inr 0)), some (.inl p1), some (.inl p2)]) 0 okX7_least (by decide +kernel) rfl rfl ?_
  refine ex_iload_n (pc := 0) 0 rfl rfl ?_
  refine ex_invS (pc := 1) (M' := mX7_isBag) (As := [.inl p1]) (st := []) 1 rfl calX7_isBag (Or.inl ww_556) rfl rfl ?_
  refine vm_call.mono h ?_
  rintro m1 _ ⟨r2, rfl, h⟩
  refine ex_if_eq (pc := 4) 14 2 rfl (by decide) (vm_b2i_R _) (fun hb => ?_) (fun hb => ?_)
  · have h := h.1 (vm_b2i_0.mp hb)
    refine ex_iconst (pc := 14) 6 rfl ?_
    exact ex_iret (pc := 15) 7 rfl (Or.inl rfl) ⟨_, rfl, h⟩
  · have h := h.2 (vm_b2i_n.mp hb)
    refine ex_iload_n (pc := 7) 3 rfl rfl ?_
    refine ex_invS (pc := 8) (M' := mX7_isKind) (As := [.inl p2]) (st := []) 4 rfl calX7_isKind (Or.inl ww_557) rfl rfl ?_
    refine vm_call.mono h ?_
    rintro m3 _ ⟨r4, rfl, h⟩
    refine ex_if_ne (pc := 11) 16 5 rfl (by decide) (vm_b2i_R _) (fun hb => ?_) (fun hb => ?_)
    · have h := h.1 (vm_b2i_n.mp hb)
      refine ex_aload_n (pc := 16) 8 rfl rfl ?_
      refine ex_geta (pc := 17) 1 9 rfl clk7 rfl rfl (Or.inl ww_276) rfl ?_
      refine ex_aload_n (pc := 20) 10 rfl rfl ?_
      refine ex_geta (pc := 21) 0 11 rfl clk7 rfl rfl (Or.inl ww_275) rfl ?_
      refine ex_iload_n (pc := 24) 12 rfl rfl ?_
      refine ex_iload_n (pc := 25) 13 rfl rfl ?_
      refine ex_invS (pc := 26) (M' := mX5_variable) (As := [.inl p1, .inl p2]) (st := [.inr (.inr 1), .inr (.inr 2)]) 14 rfl calX5_variable (Or.inl ww_558) rfl rfl ?_
      refine vm_call.mono h ?_
      rintro m5 _ ⟨r6, rfl, h⟩
      refine ex_invV (pc := 29) (M' := mX2_inLeastSolution) (As := [.inr (.inr 1), .inl r6]) (st := []) 15 rfl clk2 rfl rfl calX2_inLeastSolution (Or.inl ww_576) rfl rfl ?_
      refine vm_call.mono h ?_
      rintro m7 _ ⟨r8, rfl, h⟩
      exact ex_iret (pc := 32) 16 rfl (Or.inl rfl) ⟨_, rfl, h⟩
    · have h := h.2 (vm_b2i_0.mp hb)
      refine ex_iconst (pc := 14) 6 rfl ?_
      exact ex_iret (pc := 15) 7 rfl (Or.inl rfl) ⟨_, rfl, h⟩
set_option maxRecDepth 20000 in
theorem qX7_solutions {G : vm_G} {d : Nat} {p1 : Int} {mem : vm_M} {Q : vm_M → Int → Prop} (h : vm_cb G d mX7_isWithin [.inl p1, .inl 1, .inl 500] mem (fun m1 r2 => (r2 = true → vm_ci G d mX2_howMany [.inr (.inr 2), .inr (.inr 1), .inl p1] m1 (fun m3 r4 => Q m3 r4)) ∧ (r2 = false → Q m1 (-2)))) : vm_ci G (d + 1) mX7_solutions [.inr (.inr 0), .inl p1] mem Q := by
  refine vm_enter (al := [some (.inr (.inr 0)), some (.inl p1)]) 0 okX7_solutions (by decide +kernel) rfl rfl ?_
  refine ex_iload_n (pc := 0) 0 rfl rfl ?_
  refine ex_iconst (pc := 1) 1 rfl ?_
  refine ex_sipush (pc := 2) 2 rfl (by decide) ?_
  refine ex_invS (pc := 5) (M' := mX7_isWithin) (As := [.inl p1, .inl 1, .inl 500]) (st := []) 3 rfl calX7_isWithin (Or.inl ww_301) rfl rfl ?_
  refine vm_call.mono h ?_
  rintro m1 _ ⟨r2, rfl, h⟩
  refine ex_if_ne (pc := 8) 14 4 rfl (by decide) (vm_b2i_R _) (fun hb => ?_) (fun hb => ?_)
  · have h := h.1 (vm_b2i_n.mp hb)
    refine ex_aload_n (pc := 14) 7 rfl rfl ?_
    refine ex_geta (pc := 15) 1 8 rfl clk7 rfl rfl (Or.inl ww_276) rfl ?_
    refine ex_aload_n (pc := 18) 9 rfl rfl ?_
    refine ex_geta (pc := 19) 0 10 rfl clk7 rfl rfl (Or.inl ww_275) rfl ?_
    refine ex_iload_n (pc := 22) 11 rfl rfl ?_
    refine ex_invV (pc := 23) (M' := mX2_howMany) (As := [.inr (.inr 1), .inl p1]) (st := []) 12 rfl clk2 rfl rfl calX2_howMany (Or.inl ww_590) rfl rfl ?_
    refine vm_call.mono h ?_
    rintro m3 _ ⟨r4, rfl, h⟩
    exact ex_iret (pc := 26) 13 rfl (Or.inl rfl) ⟨_, rfl, h⟩
  · have h := h.2 (vm_b2i_0.mp hb)
    refine ex_bipush (pc := 11) 5 rfl (by decide) ?_
    exact ex_iret (pc := 13) 6 rfl (Or.inl rfl) ⟨_, rfl, h⟩
set_option maxRecDepth 20000 in
theorem qX7_follows {G : vm_G} {d : Nat} {p1 : Int} {p2 : Int} {p3 : Int} {p4 : Int} {p5 : Int} {p6 : Int} {mem : vm_M} {Q : vm_M → Int → Prop} (h : vm_cb G d mX0_ask [.inr (.inr 1), .inl p1, .inl p2, .inl p3, .inl p4, .inl p5, .inl p6] mem (fun m1 r2 => (r2 = true → vm_ci G d mX0_all [.inr (.inr 1)] m1 (fun m3 r4 => vm_cb G d mX2_canHold [.inr (.inr 2), .inr (.inr 1), .inl r4] m3 (fun m5 r6 => (r6 = true → vm_ci G d mX0_all [.inr (.inr 1)] m5 (fun m7 r8 => vm_cb G d mX2_canFail [.inr (.inr 2), .inr (.inr 1), .inl 10, .inl r8] m7 (fun m9 r10 => (r10 = true → vm_ci G d mX0_all [.inr (.inr 1)] m9 (fun m11 r12 => vm_cb G d mX2_canHold [.inr (.inr 2), .inr (.inr 1), .inl (vm_or r12 1024)] m11 (fun m13 r14 => (r14 = false → Q m13 0) ∧ (r14 = true → Q m13 2)))) ∧ (r10 = false → Q m9 1)))) ∧ (r6 = false → Q m5 (-6))))) ∧ (r2 = false → Q m1 (-2)))) : vm_ci G (d + 1) mX7_follows [.inr (.inr 0), .inl p1, .inl p2, .inl p3, .inl p4, .inl p5, .inl p6] mem Q := by
  refine vm_enter (al := [some (.inr (.inr 0)), some (.inl p1), some (.inl p2), some (.inl p3), some (.inl p4), some (.inl p5), some (.inl p6)]) 0 okX7_follows (by decide +kernel) rfl rfl ?_
  refine ex_aload_n (pc := 0) 0 rfl rfl ?_
  refine ex_geta (pc := 1) 0 1 rfl clk7 rfl rfl (Or.inl ww_275) rfl ?_
  refine ex_iload_n (pc := 4) 2 rfl rfl ?_
  refine ex_iload_n (pc := 5) 3 rfl rfl ?_
  refine ex_iload_n (pc := 6) 4 rfl rfl ?_
  refine ex_iload (pc := 7) 5 rfl rfl ?_
  refine ex_iload (pc := 9) 6 rfl rfl ?_
  refine ex_iload (pc := 11) 7 rfl rfl ?_
  refine ex_invV (pc := 13) (M' := mX0_ask) (As := [.inl p1, .inl p2, .inl p3, .inl p4, .inl p5, .inl p6]) (st := []) 8 rfl clk0 rfl rfl calX0_ask (Or.inl ww_329) rfl rfl ?_
  refine vm_call.mono h ?_
  rintro m1 _ ⟨r2, rfl, h⟩
  refine ex_if_ne (pc := 16) 22 9 rfl (by decide) (vm_b2i_R _) (fun hb => ?_) (fun hb => ?_)
  · have h := h.1 (vm_b2i_n.mp hb)
    refine ex_aload_n (pc := 22) 12 rfl rfl ?_
    refine ex_geta (pc := 23) 1 13 rfl clk7 rfl rfl (Or.inl ww_276) rfl ?_
    refine ex_aload_n (pc := 26) 14 rfl rfl ?_
    refine ex_geta (pc := 27) 0 15 rfl clk7 rfl rfl (Or.inl ww_275) rfl ?_
    refine ex_aload_n (pc := 30) 16 rfl rfl ?_
    refine ex_geta (pc := 31) 0 17 rfl clk7 rfl rfl (Or.inl ww_275) rfl ?_
    refine ex_invV (pc := 34) (M' := mX0_all) (As := []) (st := [.inr (.inr 1), .inr (.inr 2)]) 18 rfl clk0 rfl rfl calX0_all (Or.inl ww_384) rfl rfl ?_
    refine vm_call.mono h ?_
    rintro m3 _ ⟨r4, rfl, h⟩
    refine ex_invV (pc := 37) (M' := mX2_canHold) (As := [.inr (.inr 1), .inl r4]) (st := []) 19 rfl clk2 rfl rfl calX2_canHold (Or.inl ww_388) rfl rfl ?_
    refine vm_call.mono h ?_
    rintro m5 _ ⟨r6, rfl, h⟩
    refine ex_if_ne (pc := 40) 46 20 rfl (by decide) (vm_b2i_R _) (fun hb => ?_) (fun hb => ?_)
    · have h := h.1 (vm_b2i_n.mp hb)
      refine ex_aload_n (pc := 46) 23 rfl rfl ?_
      refine ex_geta (pc := 47) 1 24 rfl clk7 rfl rfl (Or.inl ww_276) rfl ?_
      refine ex_aload_n (pc := 50) 25 rfl rfl ?_
      refine ex_geta (pc := 51) 0 26 rfl clk7 rfl rfl (Or.inl ww_275) rfl ?_
      refine ex_bipush (pc := 54) 27 rfl (by decide) ?_
      refine ex_aload_n (pc := 56) 28 rfl rfl ?_
      refine ex_geta (pc := 57) 0 29 rfl clk7 rfl rfl (Or.inl ww_275) rfl ?_
      refine ex_invV (pc := 60) (M' := mX0_all) (As := []) (st := [.inl 10, .inr (.inr 1), .inr (.inr 2)]) 30 rfl clk0 rfl rfl calX0_all (Or.inl ww_384) rfl rfl ?_
      refine vm_call.mono h ?_
      rintro m7 _ ⟨r8, rfl, h⟩
      refine ex_invV (pc := 63) (M' := mX2_canFail) (As := [.inr (.inr 1), .inl 10, .inl r8]) (st := []) 31 rfl clk2 rfl rfl calX2_canFail (Or.inl ww_598) rfl rfl ?_
      refine vm_call.mono h ?_
      rintro m9 _ ⟨r10, rfl, h⟩
      refine ex_if_ne (pc := 66) 71 32 rfl (by decide) (vm_b2i_R _) (fun hb => ?_) (fun hb => ?_)
      · have h := h.1 (vm_b2i_n.mp hb)
        refine ex_aload_n (pc := 71) 35 rfl rfl ?_
        refine ex_geta (pc := 72) 1 36 rfl clk7 rfl rfl (Or.inl ww_276) rfl ?_
        refine ex_aload_n (pc := 75) 37 rfl rfl ?_
        refine ex_geta (pc := 76) 0 38 rfl clk7 rfl rfl (Or.inl ww_275) rfl ?_
        refine ex_aload_n (pc := 79) 39 rfl rfl ?_
        refine ex_geta (pc := 80) 0 40 rfl clk7 rfl rfl (Or.inl ww_275) rfl ?_
        refine ex_invV (pc := 83) (M' := mX0_all) (As := []) (st := [.inr (.inr 1), .inr (.inr 2)]) 41 rfl clk0 rfl rfl calX0_all (Or.inl ww_384) rfl rfl ?_
        refine vm_call.mono h ?_
        rintro m11 _ ⟨r12, rfl, h⟩
        refine ex_sipush (pc := 86) 42 rfl (by decide) ?_
        refine ex_ior (pc := 89) 43 rfl ?_
        refine ex_invV (pc := 90) (M' := mX2_canHold) (As := [.inr (.inr 1), .inl (vm_or r12 1024)]) (st := []) 44 rfl clk2 rfl rfl calX2_canHold (Or.inl ww_388) rfl rfl ?_
        refine vm_call.mono h ?_
        rintro m13 _ ⟨r14, rfl, h⟩
        refine ex_if_eq (pc := 93) 100 45 rfl (by decide) (vm_b2i_R _) (fun hb => ?_) (fun hb => ?_)
        · have h := h.1 (vm_b2i_0.mp hb)
          refine ex_iconst (pc := 100) 48 rfl ?_
          exact ex_iret (pc := 101) 49 rfl (Or.inl rfl) ⟨_, rfl, h⟩
        · have h := h.2 (vm_b2i_n.mp hb)
          refine ex_iconst (pc := 96) 46 rfl ?_
          refine ex_goto (pc := 97) 101 47 rfl (by decide) ?_
          exact ex_iret (pc := 101) 49 rfl (Or.inl rfl) ⟨_, rfl, h⟩
      · have h := h.2 (vm_b2i_0.mp hb)
        refine ex_iconst (pc := 69) 33 rfl ?_
        exact ex_iret (pc := 70) 34 rfl (Or.inl rfl) ⟨_, rfl, h⟩
    · have h := h.2 (vm_b2i_0.mp hb)
      refine ex_bipush (pc := 43) 21 rfl (by decide) ?_
      exact ex_iret (pc := 45) 22 rfl (Or.inl rfl) ⟨_, rfl, h⟩
  · have h := h.2 (vm_b2i_0.mp hb)
    refine ex_bipush (pc := 19) 10 rfl (by decide) ?_
    exact ex_iret (pc := 21) 11 rfl (Or.inl rfl) ⟨_, rfl, h⟩
set_option maxRecDepth 20000 in
theorem qX7_contradiction {G : vm_G} {d : Nat}  {mem : vm_M} {Q : vm_M → Int → Prop} (h : vm_ci G d mX0_all [.inr (.inr 1)] mem (fun m1 r2 => vm_cb G d mX2_canHold [.inr (.inr 2), .inr (.inr 1), .inl r2] m1 (fun m3 r4 => (r4 = false → vm_ex G (d + 1) mX7_contradiction 28 [some (.inr (.inr 0)), some (.inl r2), some (.inl 0), none] [] m3 (vm_qi Q)) ∧ (r4 = true → Q m3 (-6))))) : vm_ci G (d + 1) mX7_contradiction [.inr (.inr 0)] mem Q := by
  refine vm_enter (al := [some (.inr (.inr 0)), none, none, none]) 3 okX7_contradiction (by decide +kernel) rfl rfl ?_
  refine ex_aload_n (pc := 0) 0 rfl rfl ?_
  refine ex_geta (pc := 1) 0 1 rfl clk7 rfl rfl (Or.inl ww_275) rfl ?_
  refine ex_invV (pc := 4) (M' := mX0_all) (As := []) (st := []) 2 rfl clk0 rfl rfl calX0_all (Or.inl ww_384) rfl rfl ?_
  refine vm_call.mono h ?_
  rintro m1 _ ⟨r2, rfl, h⟩
  refine ex_istore_n (pc := 7) 3 rfl rfl rfl ?_
  refine ex_aload_n (pc := 8) 4 rfl rfl ?_
  refine ex_geta (pc := 9) 1 5 rfl clk7 rfl rfl (Or.inl ww_276) rfl ?_
  refine ex_aload_n (pc := 12) 6 rfl rfl ?_
  refine ex_geta (pc := 13) 0 7 rfl clk7 rfl rfl (Or.inl ww_275) rfl ?_
  refine ex_iload_n (pc := 16) 8 rfl rfl ?_
  refine ex_invV (pc := 17) (M' := mX2_canHold) (As := [.inr (.inr 1), .inl r2]) (st := []) 9 rfl clk2 rfl rfl calX2_canHold (Or.inl ww_388) rfl rfl ?_
  refine vm_call.mono h ?_
  rintro m3 _ ⟨r4, rfl, h⟩
  refine ex_if_eq (pc := 20) 26 10 rfl (by decide) (vm_b2i_R _) (fun hb => ?_) (fun hb => ?_)
  · have h := h.1 (vm_b2i_0.mp hb)
    refine ex_iconst (pc := 26) 13 rfl ?_
    refine ex_istore_n (pc := 27) 14 rfl rfl rfl ?_
    exact h
  · have h := h.2 (vm_b2i_n.mp hb)
    refine ex_bipush (pc := 23) 11 rfl (by decide) ?_
    exact ex_iret (pc := 25) 12 rfl (Or.inl rfl) ⟨_, rfl, h⟩
set_option maxRecDepth 20000 in
theorem qX7_contradiction_28 {G : vm_G} {d : Nat} {v1 : Int} {v2 : Int} {mem : vm_M} {Q : vm_M → Int → Prop} (h : (vm_R v2) ∧ (vm_R (mem 1 1)) ∧ (((mem 1 1) ≤ v2 → Q mem v1) ∧ (¬ (mem 1 1) ≤ v2 → vm_cb G d mX2_canHold [.inr (.inr 2), .inr (.inr 1), .inl (vm_and v1 (vm_xor (vm_shl 1 v2) (-1)))] mem (fun m3 r4 => (r4 = true → vm_ex G (d + 1) mX7_contradiction 28 [some (.inr (.inr 0)), some (.inl v1), some (.inl (v2 + 1)), none] [] m3 (vm_qi Q)) ∧ (r4 = false → vm_ex G (d + 1) mX7_contradiction 28 [some (.inr (.inr 0)), some (.inl (vm_and v1 (vm_xor (vm_shl 1 v2) (-1)))), some (.inl (v2 + 1)), none] [] m3 (vm_qi Q)))))) : vm_ex G (d + 1) mX7_contradiction 28 [some (.inr (.inr 0)), some (.inl v1), some (.inl v2), none] [] mem (vm_qi Q) := by
  refine ex_iload_n (pc := 28) 15 rfl rfl ?_
  refine ex_aload_n (pc := 29) 16 rfl rfl ?_
  refine ex_geta (pc := 30) 0 17 rfl clk7 rfl rfl (Or.inl ww_275) rfl ?_
  refine ex_geti (pc := 33) 1 18 rfl clk0 rfl rfl (Or.inr ⟨_, ww_116⟩) rfl ?_
  obtain ⟨hs1, h⟩ := h
  obtain ⟨hs2, h⟩ := h
  refine ex_icmp_ge (pc := 36) 70 19 rfl (by decide) hs1 hs2 (fun hb => ?_) (fun hb => ?_)
  · have h := h.1 hb
    refine ex_iload_n (pc := 70) 39 rfl rfl ?_
    exact ex_iret (pc := 71) 40 rfl (Or.inl rfl) ⟨_, rfl, h⟩
  · have h := h.2 hb
    refine ex_iload_n (pc := 39) 20 rfl rfl ?_
    refine ex_iconst (pc := 40) 21 rfl ?_
    refine ex_iload_n (pc := 41) 22 rfl rfl ?_
    refine ex_ishl (pc := 42) 23 rfl ?_
    refine ex_iconst (pc := 43) 24 rfl ?_
    refine ex_ixor (pc := 44) 25 rfl ?_
    refine ex_iand (pc := 45) 26 rfl ?_
    refine ex_istore_n (pc := 46) 27 rfl rfl rfl ?_
    refine ex_aload_n (pc := 47) 28 rfl rfl ?_
    refine ex_geta (pc := 48) 1 29 rfl clk7 rfl rfl (Or.inl ww_276) rfl ?_
    refine ex_aload_n (pc := 51) 30 rfl rfl ?_
    refine ex_geta (pc := 52) 0 31 rfl clk7 rfl rfl (Or.inl ww_275) rfl ?_
    refine ex_iload_n (pc := 55) 32 rfl rfl ?_
    refine ex_invV (pc := 56) (M' := mX2_canHold) (As := [.inr (.inr 1), .inl (vm_and v1 (vm_xor (vm_shl 1 v2) (-1)))]) (st := []) 33 rfl clk2 rfl rfl calX2_canHold (Or.inl ww_388) rfl rfl ?_
    refine vm_call.mono h ?_
    rintro m3 _ ⟨r4, rfl, h⟩
    refine ex_if_ne (pc := 59) 64 34 rfl (by decide) (vm_b2i_R _) (fun hb => ?_) (fun hb => ?_)
    · have h := h.1 (vm_b2i_n.mp hb)
      refine ex_iinc (pc := 64) 37 rfl rfl rfl rfl ?_
      refine ex_goto (pc := 67) 28 38 rfl (by decide) ?_
      exact ex_less [some (.inr (.inr 0)), some (.inl v1), some (.inl (v2 + 1)), none] (And.intro rfl (And.intro rfl (And.intro rfl (True.intro)))) h
    · have h := h.2 (vm_b2i_0.mp hb)
      refine ex_iload_n (pc := 62) 35 rfl rfl ?_
      refine ex_istore_n (pc := 63) 36 rfl rfl rfl ?_
      refine ex_iinc (pc := 64) 37 rfl rfl rfl rfl ?_
      refine ex_goto (pc := 67) 28 38 rfl (by decide) ?_
      exact ex_less [some (.inr (.inr 0)), some (.inl (vm_and v1 (vm_xor (vm_shl 1 v2) (-1)))), some (.inl (v2 + 1)), none] (And.intro rfl (And.intro rfl (And.intro rfl (True.intro)))) h
set_option maxRecDepth 20000 in
theorem qX7_reason {G : vm_G} {d : Nat} {p1 : Int} {p2 : Int} {p3 : Int} {mem : vm_M} {Q : vm_M → Int → Prop} (h : vm_ci G d mX7_refusalOfBound [.inl p1, .inl p2, .inl p3] mem (fun m1 r2 => (vm_R r2) ∧ ((r2 = 0 → vm_ci G d mX0_all [.inr (.inr 1)] m1 (fun m4 r5 => vm_ci G d mX5_variable [.inl p1, .inl p2] m4 (fun m6 r7 => (vm_R p3) ∧ ((¬ p3 = 1 → vm_ci G d mX2_extreme [.inr (.inr 2), .inr (.inr 1), .inl r5, .inl r7, .inl 0] m6 (fun m9 r10 => (vm_R r10) ∧ ((¬ r10 = (-6) → vm_ex G (d + 1) mX7_reason 72 [some (.inr (.inr 0)), some (.inl p1), some (.inl p2), some (.inl p3), some (.inl r2), some (.inl r5), some (.inl r7), some (.inl r10), some (.inl 0), none] [] m9 (vm_qi Q)) ∧ (r10 = (-6) → Q m9 (-6))))) ∧ (p3 = 1 → vm_ci G d mX2_extreme [.inr (.inr 2), .inr (.inr 1), .inl r5, .inl r7, .inl 1] m6 (fun m12 r13 => (vm_R r13) ∧ ((¬ r13 = (-6) → vm_ex G (d + 1) mX7_reason 72 [some (.inr (.inr 0)), some (.inl p1), some (.inl p2), some (.inl p3), some (.inl r2), some (.inl r5), some (.inl r7), some (.inl r13), some (.inl 0), none] [] m12 (vm_qi Q)) ∧ (r13 = (-6) → Q m12 (-6))))))))) ∧ (¬ r2 = 0 → Q m1 r2)))) : vm_ci G (d + 1) mX7_reason [.inr (.inr 0), .inl p1, .inl p2, .inl p3] mem Q := by
  refine vm_enter (al := [some (.inr (.inr 0)), some (.inl p1), some (.inl p2), some (.inl p3), none, none, none, none, none, none]) 6 okX7_reason (by decide +kernel) rfl rfl ?_
  refine ex_iload_n (pc := 0) 0 rfl rfl ?_
  refine ex_iload_n (pc := 1) 1 rfl rfl ?_
  refine ex_iload_n (pc := 2) 2 rfl rfl ?_
  refine ex_invS (pc := 3) (M' := mX7_refusalOfBound) (As := [.inl p1, .inl p2, .inl p3]) (st := []) 3 rfl calX7_refusalOfBound (Or.inl ww_553) rfl rfl ?_
  refine vm_call.mono h ?_
  rintro m1 _ ⟨r2, rfl, h⟩
  refine ex_istore (pc := 6) 4 rfl rfl rfl ?_
  refine ex_iload (pc := 8) 5 rfl rfl ?_
  obtain ⟨hs3, h⟩ := h
  refine ex_if_eq (pc := 10) 16 6 rfl (by decide) hs3 (fun hb => ?_) (fun hb => ?_)
  · have h := h.1 hb
    refine ex_aload_n (pc := 16) 9 rfl rfl ?_
    refine ex_geta (pc := 17) 0 10 rfl clk7 rfl rfl (Or.inl ww_275) rfl ?_
    refine ex_invV (pc := 20) (M' := mX0_all) (As := []) (st := []) 11 rfl clk0 rfl rfl calX0_all (Or.inl ww_384) rfl rfl ?_
    refine vm_call.mono h ?_
    rintro m4 _ ⟨r5, rfl, h⟩
    refine ex_istore (pc := 23) 12 rfl rfl rfl ?_
    refine ex_iload_n (pc := 25) 13 rfl rfl ?_
    refine ex_iload_n (pc := 26) 14 rfl rfl ?_
    refine ex_invS (pc := 27) (M' := mX5_variable) (As := [.inl p1, .inl p2]) (st := []) 15 rfl calX5_variable (Or.inl ww_558) rfl rfl ?_
    refine vm_call.mono h ?_
    rintro m6 _ ⟨r7, rfl, h⟩
    refine ex_istore (pc := 30) 16 rfl rfl rfl ?_
    refine ex_aload_n (pc := 32) 17 rfl rfl ?_
    refine ex_geta (pc := 33) 1 18 rfl clk7 rfl rfl (Or.inl ww_276) rfl ?_
    refine ex_aload_n (pc := 36) 19 rfl rfl ?_
    refine ex_geta (pc := 37) 0 20 rfl clk7 rfl rfl (Or.inl ww_275) rfl ?_
    refine ex_iload (pc := 40) 21 rfl rfl ?_
    refine ex_iload (pc := 42) 22 rfl rfl ?_
    refine ex_iload_n (pc := 44) 23 rfl rfl ?_
    refine ex_iconst (pc := 45) 24 rfl ?_
    obtain ⟨hs8, h⟩ := h
    refine ex_icmp_ne (pc := 46) 53 25 rfl (by decide) hs8 ⟨by decide, by decide⟩ (fun hb => ?_) (fun hb => ?_)
    · have h := h.1 hb
      refine ex_iconst (pc := 53) 28 rfl ?_
      refine ex_invV (pc := 54) (M' := mX2_extreme) (As := [.inr (.inr 1), .inl r5, .inl r7, .inl 0]) (st := []) 29 rfl clk2 rfl rfl calX2_extreme (Or.inl ww_559) rfl rfl ?_
      refine vm_call.mono h ?_
      rintro m9 _ ⟨r10, rfl, h⟩
      refine ex_istore (pc := 57) 30 rfl rfl rfl ?_
      refine ex_iload (pc := 59) 31 rfl rfl ?_
      refine ex_bipush (pc := 61) 32 rfl (by decide) ?_
      obtain ⟨hs11, h⟩ := h
      refine ex_icmp_ne (pc := 63) 69 33 rfl (by decide) hs11 ⟨by decide, by decide⟩ (fun hb => ?_) (fun hb => ?_)
      · have h := h.1 hb
        refine ex_iconst (pc := 69) 36 rfl ?_
        refine ex_istore (pc := 70) 37 rfl rfl rfl ?_
        exact h
      · have h := h.2 hb
        refine ex_bipush (pc := 66) 34 rfl (by decide) ?_
        exact ex_iret (pc := 68) 35 rfl (Or.inl rfl) ⟨_, rfl, h⟩
    · have h := h.2 hb
      refine ex_iconst (pc := 49) 26 rfl ?_
      refine ex_goto (pc := 50) 54 27 rfl (by decide) ?_
      refine ex_invV (pc := 54) (M' := mX2_extreme) (As := [.inr (.inr 1), .inl r5, .inl r7, .inl 1]) (st := []) 29 rfl clk2 rfl rfl calX2_extreme (Or.inl ww_559) rfl rfl ?_
      refine vm_call.mono h ?_
      rintro m12 _ ⟨r13, rfl, h⟩
      refine ex_istore (pc := 57) 30 rfl rfl rfl ?_
      refine ex_iload (pc := 59) 31 rfl rfl ?_
      refine ex_bipush (pc := 61) 32 rfl (by decide) ?_
      obtain ⟨hs14, h⟩ := h
      refine ex_icmp_ne (pc := 63) 69 33 rfl (by decide) hs14 ⟨by decide, by decide⟩ (fun hb => ?_) (fun hb => ?_)
      · have h := h.1 hb
        refine ex_iconst (pc := 69) 36 rfl ?_
        refine ex_istore (pc := 70) 37 rfl rfl rfl ?_
        exact h
      · have h := h.2 hb
        refine ex_bipush (pc := 66) 34 rfl (by decide) ?_
        exact ex_iret (pc := 68) 35 rfl (Or.inl rfl) ⟨_, rfl, h⟩
  · have h := h.2 hb
    refine ex_iload (pc := 13) 7 rfl rfl ?_
    exact ex_iret (pc := 15) 8 rfl (Or.inl rfl) ⟨_, rfl, h⟩
set_option maxRecDepth 20000 in
theorem qX7_reason_72 {G : vm_G} {d : Nat} {v1 : Int} {v2 : Int} {v3 : Int} {v4 : Int} {v5 : Int} {v6 : Int} {v7 : Int} {v8 : Int} {mem : vm_M} {Q : vm_M → Int → Prop} (h : (vm_R v8) ∧ (vm_R (mem 1 1)) ∧ (((mem 1 1) ≤ v8 → Q mem v5) ∧ (¬ (mem 1 1) ≤ v8 → (vm_R v3) ∧ ((¬ v3 = 1 → vm_ci G d mX2_extreme [.inr (.inr 2), .inr (.inr 1), .inl (vm_and v5 (vm_xor (vm_shl 1 v8) (-1))), .inl v6, .inl 0] mem (fun m4 r5 => (vm_R r5) ∧ (vm_R v7) ∧ ((¬ r5 = v7 → vm_ex G (d + 1) mX7_reason 72 [some (.inr (.inr 0)), some (.inl v1), some (.inl v2), some (.inl v3), some (.inl v4), some (.inl v5), some (.inl v6), some (.inl v7), some (.inl (v8 + 1)), none] [] m4 (vm_qi Q)) ∧ (r5 = v7 → vm_ex G (d + 1) mX7_reason 72 [some (.inr (.inr 0)), some (.inl v1), some (.inl v2), some (.inl v3), some (.inl v4), some (.inl (vm_and v5 (vm_xor (vm_shl 1 v8) (-1)))), some (.inl v6), some (.inl v7), some (.inl (v8 + 1)), none] [] m4 (vm_qi Q))))) ∧ (v3 = 1 → vm_ci G d mX2_extreme [.inr (.inr 2), .inr (.inr 1), .inl (vm_and v5 (vm_xor (vm_shl 1 v8) (-1))), .inl v6, .inl 1] mem (fun m8 r9 => (vm_R r9) ∧ (vm_R v7) ∧ ((¬ r9 = v7 → vm_ex G (d + 1) mX7_reason 72 [some (.inr (.inr 0)), some (.inl v1), some (.inl v2), some (.inl v3), some (.inl v4), some (.inl v5), some (.inl v6), some (.inl v7), some (.inl (v8 + 1)), none] [] m8 (vm_qi Q)) ∧ (r9 = v7 → vm_ex G (d + 1) mX7_reason 72 [some (.inr (.inr 0)), some (.inl v1), some (.inl v2), some (.inl v3), some (.inl v4), some (.inl (vm_and v5 (vm_xor (vm_shl 1 v8) (-1)))), some (.inl v6), some (.inl v7), some (.inl (v8 + 1)), none] [] m8 (vm_qi Q))))))))) : vm_ex G (d + 1) mX7_reason 72 [some (.inr (.inr 0)), some (.inl v1), some (.inl v2), some (.inl v3), some (.inl v4), some (.inl v5), some (.inl v6), some (.inl v7), some (.inl v8), none] [] mem (vm_qi Q) := by
  refine ex_iload (pc := 72) 38 rfl rfl ?_
  refine ex_aload_n (pc := 74) 39 rfl rfl ?_
  refine ex_geta (pc := 75) 0 40 rfl clk7 rfl rfl (Or.inl ww_275) rfl ?_
  refine ex_geti (pc := 78) 1 41 rfl clk0 rfl rfl (Or.inr ⟨_, ww_116⟩) rfl ?_
  obtain ⟨hs1, h⟩ := h
  obtain ⟨hs2, h⟩ := h
  refine ex_icmp_ge (pc := 81) 135 42 rfl (by decide) hs1 hs2 (fun hb => ?_) (fun hb => ?_)
  · have h := h.1 hb
    refine ex_iload (pc := 135) 70 rfl rfl ?_
    exact ex_iret (pc := 137) 71 rfl (Or.inl rfl) ⟨_, rfl, h⟩
  · have h := h.2 hb
    refine ex_iload (pc := 84) 43 rfl rfl ?_
    refine ex_iconst (pc := 86) 44 rfl ?_
    refine ex_iload (pc := 87) 45 rfl rfl ?_
    refine ex_ishl (pc := 89) 46 rfl ?_
    refine ex_iconst (pc := 90) 47 rfl ?_
    refine ex_ixor (pc := 91) 48 rfl ?_
    refine ex_iand (pc := 92) 49 rfl ?_
    refine ex_istore (pc := 93) 50 rfl rfl rfl ?_
    refine ex_aload_n (pc := 95) 51 rfl rfl ?_
    refine ex_geta (pc := 96) 1 52 rfl clk7 rfl rfl (Or.inl ww_276) rfl ?_
    refine ex_aload_n (pc := 99) 53 rfl rfl ?_
    refine ex_geta (pc := 100) 0 54 rfl clk7 rfl rfl (Or.inl ww_275) rfl ?_
    refine ex_iload (pc := 103) 55 rfl rfl ?_
    refine ex_iload (pc := 105) 56 rfl rfl ?_
    refine ex_iload_n (pc := 107) 57 rfl rfl ?_
    refine ex_iconst (pc := 108) 58 rfl ?_
    obtain ⟨hs3, h⟩ := h
    refine ex_icmp_ne (pc := 109) 116 59 rfl (by decide) hs3 ⟨by decide, by decide⟩ (fun hb => ?_) (fun hb => ?_)
    · have h := h.1 hb
      refine ex_iconst (pc := 116) 62 rfl ?_
      refine ex_invV (pc := 117) (M' := mX2_extreme) (As := [.inr (.inr 1), .inl (vm_and v5 (vm_xor (vm_shl 1 v8) (-1))), .inl v6, .inl 0]) (st := []) 63 rfl clk2 rfl rfl calX2_extreme (Or.inl ww_559) rfl rfl ?_
      refine vm_call.mono h ?_
      rintro m4 _ ⟨r5, rfl, h⟩
      refine ex_iload (pc := 120) 64 rfl rfl ?_
      obtain ⟨hs6, h⟩ := h
      obtain ⟨hs7, h⟩ := h
      refine ex_icmp_ne (pc := 122) 129 65 rfl (by decide) hs6 hs7 (fun hb => ?_) (fun hb => ?_)
      · have h := h.1 hb
        refine ex_iinc (pc := 129) 68 rfl rfl rfl rfl ?_
        refine ex_goto (pc := 132) 72 69 rfl (by decide) ?_
        exact ex_less [some (.inr (.inr 0)), some (.inl v1), some (.inl v2), some (.inl v3), some (.inl v4), some (.inl v5), some (.inl v6), some (.inl v7), some (.inl (v8 + 1)), none] (And.intro rfl (And.intro rfl (And.intro rfl (And.intro rfl (And.intro rfl (And.intro rfl (And.intro rfl (And.intro rfl (And.intro rfl (True.intro)))))))))) h
      · have h := h.2 hb
        refine ex_iload (pc := 125) 66 rfl rfl ?_
        refine ex_istore (pc := 127) 67 rfl rfl rfl ?_
        refine ex_iinc (pc := 129) 68 rfl rfl rfl rfl ?_
        refine ex_goto (pc := 132) 72 69 rfl (by decide) ?_
        exact ex_less [some (.inr (.inr 0)), some (.inl v1), some (.inl v2), some (.inl v3), some (.inl v4), some (.inl (vm_and v5 (vm_xor (vm_shl 1 v8) (-1)))), some (.inl v6), some (.inl v7), some (.inl (v8 + 1)), none] (And.intro rfl (And.intro rfl (And.intro rfl (And.intro rfl (And.intro rfl (And.intro rfl (And.intro rfl (And.intro rfl (And.intro rfl (True.intro)))))))))) h
    · have h := h.2 hb
      refine ex_iconst (pc := 112) 60 rfl ?_
      refine ex_goto (pc := 113) 117 61 rfl (by decide) ?_
      refine ex_invV (pc := 117) (M' := mX2_extreme) (As := [.inr (.inr 1), .inl (vm_and v5 (vm_xor (vm_shl 1 v8) (-1))), .inl v6, .inl 1]) (st := []) 63 rfl clk2 rfl rfl calX2_extreme (Or.inl ww_559) rfl rfl ?_
      refine vm_call.mono h ?_
      rintro m8 _ ⟨r9, rfl, h⟩
      refine ex_iload (pc := 120) 64 rfl rfl ?_
      obtain ⟨hs10, h⟩ := h
      obtain ⟨hs11, h⟩ := h
      refine ex_icmp_ne (pc := 122) 129 65 rfl (by decide) hs10 hs11 (fun hb => ?_) (fun hb => ?_)
      · have h := h.1 hb
        refine ex_iinc (pc := 129) 68 rfl rfl rfl rfl ?_
        refine ex_goto (pc := 132) 72 69 rfl (by decide) ?_
        exact ex_less [some (.inr (.inr 0)), some (.inl v1), some (.inl v2), some (.inl v3), some (.inl v4), some (.inl v5), some (.inl v6), some (.inl v7), some (.inl (v8 + 1)), none] (And.intro rfl (And.intro rfl (And.intro rfl (And.intro rfl (And.intro rfl (And.intro rfl (And.intro rfl (And.intro rfl (And.intro rfl (True.intro)))))))))) h
      · have h := h.2 hb
        refine ex_iload (pc := 125) 66 rfl rfl ?_
        refine ex_istore (pc := 127) 67 rfl rfl rfl ?_
        refine ex_iinc (pc := 129) 68 rfl rfl rfl rfl ?_
        refine ex_goto (pc := 132) 72 69 rfl (by decide) ?_
        exact ex_less [some (.inr (.inr 0)), some (.inl v1), some (.inl v2), some (.inl v3), some (.inl v4), some (.inl (vm_and v5 (vm_xor (vm_shl 1 v8) (-1)))), some (.inl v6), some (.inl v7), some (.inl (v8 + 1)), none] (And.intro rfl (And.intro rfl (And.intro rfl (And.intro rfl (And.intro rfl (And.intro rfl (And.intro rfl (And.intro rfl (And.intro rfl (True.intro)))))))))) h
set_option maxRecDepth 20000 in
theorem qX7_needless {G : vm_G} {d : Nat}  {mem : vm_M} {Q : vm_M → Int → Prop} (h : vm_ci G d mX0_all [.inr (.inr 1)] mem (fun m1 r2 => vm_cb G d mX2_canHold [.inr (.inr 2), .inr (.inr 1), .inl r2] m1 (fun m3 r4 => (r4 = true → vm_ex G (d + 1) mX7_needless 30 [some (.inr (.inr 0)), some (.inl r2), some (.inl 0), some (.inl 0)] [] m3 (vm_qi Q)) ∧ (r4 = false → Q m3 (-6))))) : vm_ci G (d + 1) mX7_needless [.inr (.inr 0)] mem Q := by
  refine vm_enter (al := [some (.inr (.inr 0)), none, none, none]) 3 okX7_needless (by decide +kernel) rfl rfl ?_
  refine ex_aload_n (pc := 0) 0 rfl rfl ?_
  refine ex_geta (pc := 1) 0 1 rfl clk7 rfl rfl (Or.inl ww_275) rfl ?_
  refine ex_invV (pc := 4) (M' := mX0_all) (As := []) (st := []) 2 rfl clk0 rfl rfl calX0_all (Or.inl ww_384) rfl rfl ?_
  refine vm_call.mono h ?_
  rintro m1 _ ⟨r2, rfl, h⟩
  refine ex_istore_n (pc := 7) 3 rfl rfl rfl ?_
  refine ex_aload_n (pc := 8) 4 rfl rfl ?_
  refine ex_geta (pc := 9) 1 5 rfl clk7 rfl rfl (Or.inl ww_276) rfl ?_
  refine ex_aload_n (pc := 12) 6 rfl rfl ?_
  refine ex_geta (pc := 13) 0 7 rfl clk7 rfl rfl (Or.inl ww_275) rfl ?_
  refine ex_iload_n (pc := 16) 8 rfl rfl ?_
  refine ex_invV (pc := 17) (M' := mX2_canHold) (As := [.inr (.inr 1), .inl r2]) (st := []) 9 rfl clk2 rfl rfl calX2_canHold (Or.inl ww_388) rfl rfl ?_
  refine vm_call.mono h ?_
  rintro m3 _ ⟨r4, rfl, h⟩
  refine ex_if_ne (pc := 20) 26 10 rfl (by decide) (vm_b2i_R _) (fun hb => ?_) (fun hb => ?_)
  · have h := h.1 (vm_b2i_n.mp hb)
    refine ex_iconst (pc := 26) 13 rfl ?_
    refine ex_istore_n (pc := 27) 14 rfl rfl rfl ?_
    refine ex_iconst (pc := 28) 15 rfl ?_
    refine ex_istore_n (pc := 29) 16 rfl rfl rfl ?_
    exact h
  · have h := h.2 (vm_b2i_0.mp hb)
    refine ex_bipush (pc := 23) 11 rfl (by decide) ?_
    exact ex_iret (pc := 25) 12 rfl (Or.inl rfl) ⟨_, rfl, h⟩
set_option maxRecDepth 20000 in
theorem qX7_needless_30 {G : vm_G} {d : Nat} {v1 : Int} {v2 : Int} {v3 : Int} {mem : vm_M} {Q : vm_M → Int → Prop} (h : (vm_R v3) ∧ (vm_R (mem 1 1)) ∧ (((mem 1 1) ≤ v3 → Q mem v2) ∧ (¬ (mem 1 1) ≤ v3 → vm_cb G d mX2_canFail [.inr (.inr 2), .inr (.inr 1), .inl v3, .inl (vm_and v1 (vm_xor (vm_shl 1 v3) (-1)))] mem (fun m3 r4 => (r4 = true → vm_ex G (d + 1) mX7_needless 30 [some (.inr (.inr 0)), some (.inl v1), some (.inl v2), some (.inl (v3 + 1))] [] m3 (vm_qi Q)) ∧ (r4 = false → vm_ex G (d + 1) mX7_needless 30 [some (.inr (.inr 0)), some (.inl v1), some (.inl (vm_or v2 (vm_shl 1 v3))), some (.inl (v3 + 1))] [] m3 (vm_qi Q)))))) : vm_ex G (d + 1) mX7_needless 30 [some (.inr (.inr 0)), some (.inl v1), some (.inl v2), some (.inl v3)] [] mem (vm_qi Q) := by
  refine ex_iload_n (pc := 30) 17 rfl rfl ?_
  refine ex_aload_n (pc := 31) 18 rfl rfl ?_
  refine ex_geta (pc := 32) 0 19 rfl clk7 rfl rfl (Or.inl ww_275) rfl ?_
  refine ex_geti (pc := 35) 1 20 rfl clk0 rfl rfl (Or.inr ⟨_, ww_116⟩) rfl ?_
  obtain ⟨hs1, h⟩ := h
  obtain ⟨hs2, h⟩ := h
  refine ex_icmp_ge (pc := 38) 75 21 rfl (by decide) hs1 hs2 (fun hb => ?_) (fun hb => ?_)
  · have h := h.1 hb
    refine ex_iload_n (pc := 75) 44 rfl rfl ?_
    exact ex_iret (pc := 76) 45 rfl (Or.inl rfl) ⟨_, rfl, h⟩
  · have h := h.2 hb
    refine ex_aload_n (pc := 41) 22 rfl rfl ?_
    refine ex_geta (pc := 42) 1 23 rfl clk7 rfl rfl (Or.inl ww_276) rfl ?_
    refine ex_aload_n (pc := 45) 24 rfl rfl ?_
    refine ex_geta (pc := 46) 0 25 rfl clk7 rfl rfl (Or.inl ww_275) rfl ?_
    refine ex_iload_n (pc := 49) 26 rfl rfl ?_
    refine ex_iload_n (pc := 50) 27 rfl rfl ?_
    refine ex_iconst (pc := 51) 28 rfl ?_
    refine ex_iload_n (pc := 52) 29 rfl rfl ?_
    refine ex_ishl (pc := 53) 30 rfl ?_
    refine ex_iconst (pc := 54) 31 rfl ?_
    refine ex_ixor (pc := 55) 32 rfl ?_
    refine ex_iand (pc := 56) 33 rfl ?_
    refine ex_invV (pc := 57) (M' := mX2_canFail) (As := [.inr (.inr 1), .inl v3, .inl (vm_and v1 (vm_xor (vm_shl 1 v3) (-1)))]) (st := []) 34 rfl clk2 rfl rfl calX2_canFail (Or.inl ww_598) rfl rfl ?_
    refine vm_call.mono h ?_
    rintro m3 _ ⟨r4, rfl, h⟩
    refine ex_if_ne (pc := 60) 69 35 rfl (by decide) (vm_b2i_R _) (fun hb => ?_) (fun hb => ?_)
    · have h := h.1 (vm_b2i_n.mp hb)
      refine ex_iinc (pc := 69) 42 rfl rfl rfl rfl ?_
      refine ex_goto (pc := 72) 30 43 rfl (by decide) ?_
      exact h
    · have h := h.2 (vm_b2i_0.mp hb)
      refine ex_iload_n (pc := 63) 36 rfl rfl ?_
      refine ex_iconst (pc := 64) 37 rfl ?_
      refine ex_iload_n (pc := 65) 38 rfl rfl ?_
      refine ex_ishl (pc := 66) 39 rfl ?_
      refine ex_ior (pc := 67) 40 rfl ?_
      refine ex_istore_n (pc := 68) 41 rfl rfl rfl ?_
      refine ex_iinc (pc := 69) 42 rfl rfl rfl rfl ?_
      refine ex_goto (pc := 72) 30 43 rfl (by decide) ?_
      exact h
set_option maxRecDepth 20000 in
theorem qX7_put {G : vm_G} {d : Nat} {p1 : Int} {mem : vm_M} {Q : vm_M → Int → Prop} (h : vm_ci G d mX3_lengthOf [.inr (.inl p1)] mem (fun m1 r2 => (vm_R r2) ∧ ((¬ r2 = 0 → vm_cb G d mX3_hasRoomFor [.inr (.inr 3), .inl r2] m1 (fun m4 r5 => (r5 = true → vm_cn G d mX3_append [.inr (.inr 3), .inr (.inl p1), .inl r2] m4 (fun m6 => Q m6 (m6 3 1))) ∧ (r5 = false → Q m4 (-4)))) ∧ (r2 = 0 → Q m1 (-2))))) : vm_ci G (d + 1) mX7_put [.inr (.inr 0), .inr (.inl p1)] mem Q := by
  refine vm_enter (al := [some (.inr (.inr 0)), some (.inr (.inl p1)), none, none]) 1 okX7_put (by decide +kernel) rfl rfl ?_
  refine ex_lload_n (pc := 0) 0 rfl rfl ?_
  refine ex_invS (pc := 1) (M' := mX3_lengthOf) (As := [.inr (.inl p1)]) (st := []) 1 rfl calX3_lengthOf (Or.inl ww_633) rfl rfl ?_
  refine vm_call.mono h ?_
  rintro m1 _ ⟨r2, rfl, h⟩
  refine ex_istore_n (pc := 4) 2 rfl rfl rfl ?_
  refine ex_iload_n (pc := 5) 3 rfl rfl ?_
  obtain ⟨hs3, h⟩ := h
  refine ex_if_ne (pc := 6) 12 4 rfl (by decide) hs3 (fun hb => ?_) (fun hb => ?_)
  · have h := h.1 hb
    refine ex_aload_n (pc := 12) 7 rfl rfl ?_
    refine ex_geta (pc := 13) 2 8 rfl clk7 rfl rfl (Or.inl ww_277) rfl ?_
    refine ex_iload_n (pc := 16) 9 rfl rfl ?_
    refine ex_invV (pc := 17) (M' := mX3_hasRoomFor) (As := [.inl r2]) (st := []) 10 rfl clk3 rfl rfl calX3_hasRoomFor (Or.inl ww_638) rfl rfl ?_
    refine vm_call.mono h ?_
    rintro m4 _ ⟨r5, rfl, h⟩
    refine ex_if_ne (pc := 20) 26 11 rfl (by decide) (vm_b2i_R _) (fun hb => ?_) (fun hb => ?_)
    · have h := h.1 (vm_b2i_n.mp hb)
      refine ex_aload_n (pc := 26) 14 rfl rfl ?_
      refine ex_geta (pc := 27) 2 15 rfl clk7 rfl rfl (Or.inl ww_277) rfl ?_
      refine ex_lload_n (pc := 30) 16 rfl rfl ?_
      refine ex_iload_n (pc := 31) 17 rfl rfl ?_
      refine ex_invV (pc := 32) (M' := mX3_append) (As := [.inr (.inl p1), .inl r2]) (st := []) 18 rfl clk3 rfl rfl calX3_append (Or.inl ww_642) rfl rfl ?_
      refine vm_call.mono h ?_
      rintro m6 _ ⟨rfl, h⟩
      refine ex_aload_n (pc := 35) 19 rfl rfl ?_
      refine ex_geta (pc := 36) 2 20 rfl clk7 rfl rfl (Or.inl ww_277) rfl ?_
      refine ex_geti (pc := 39) 1 21 rfl clk3 rfl rfl (Or.inr ⟨_, ww_234⟩) rfl ?_
      exact ex_iret (pc := 42) 22 rfl (Or.inl rfl) ⟨_, rfl, h⟩
    · have h := h.2 (vm_b2i_0.mp hb)
      refine ex_bipush (pc := 23) 12 rfl (by decide) ?_
      exact ex_iret (pc := 25) 13 rfl (Or.inl rfl) ⟨_, rfl, h⟩
  · have h := h.2 hb
    refine ex_bipush (pc := 9) 5 rfl (by decide) ?_
    exact ex_iret (pc := 11) 6 rfl (Or.inl rfl) ⟨_, rfl, h⟩
set_option maxRecDepth 20000 in
theorem qX7_wipe {G : vm_G} {d : Nat}  {mem : vm_M} {Q : vm_M → Int → Prop} (h : vm_ci G d mX3_clear [.inr (.inr 3)] mem (fun m1 r2 => Q m1 r2)) : vm_ci G (d + 1) mX7_wipe [.inr (.inr 0)] mem Q := by
  refine vm_enter (al := [some (.inr (.inr 0))]) 0 okX7_wipe (by decide +kernel) rfl rfl ?_
  refine ex_aload_n (pc := 0) 0 rfl rfl ?_
  refine ex_geta (pc := 1) 2 1 rfl clk7 rfl rfl (Or.inl ww_277) rfl ?_
  refine ex_invV (pc := 4) (M' := mX3_clear) (As := []) (st := []) 2 rfl clk3 rfl rfl calX3_clear (Or.inl ww_651) rfl rfl ?_
  refine vm_call.mono h ?_
  rintro m1 _ ⟨r2, rfl, h⟩
  exact ex_iret (pc := 7) 3 rfl (Or.inl rfl) ⟨_, rfl, h⟩
set_option maxRecDepth 20000 in
theorem qX7_fault {G : vm_G} {d : Nat}  {mem : vm_M} {Q : vm_M → Int → Prop} (h : vm_ci G d mX3_firstFault [.inr (.inr 3)] mem (fun m1 r2 => Q m1 r2)) : vm_ci G (d + 1) mX7_fault [.inr (.inr 0)] mem Q := by
  refine vm_enter (al := [some (.inr (.inr 0))]) 0 okX7_fault (by decide +kernel) rfl rfl ?_
  refine ex_aload_n (pc := 0) 0 rfl rfl ?_
  refine ex_geta (pc := 1) 2 1 rfl clk7 rfl rfl (Or.inl ww_277) rfl ?_
  refine ex_invV (pc := 4) (M' := mX3_firstFault) (As := []) (st := []) 2 rfl clk3 rfl rfl calX3_firstFault (Or.inl ww_659) rfl rfl ?_
  refine vm_call.mono h ?_
  rintro m1 _ ⟨r2, rfl, h⟩
  exact ex_iret (pc := 7) 3 rfl (Or.inl rfl) ⟨_, rfl, h⟩
set_option maxRecDepth 20000 in
theorem qX7_tell {G : vm_G} {d : Nat}  {mem : vm_M} {Q : vm_M → Int → Prop} (h : vm_ci G d mX3_firstFault [.inr (.inr 3)] mem (fun m1 r2 => (vm_R r2) ∧ ((r2 = (-6) → vm_cn G d mX7_recordState [.inr (.inr 0)] m1 (fun m4 => vm_ci G d mX3_tellAll [.inr (.inr 3), .inr (.inr 1)] m4 (fun m6 r7 => vm_ci G d mX3_clear [.inr (.inr 3)] m6 (fun m8 r9 => Q m8 r7)))) ∧ (¬ r2 = (-6) → Q m1 (-3))))) : vm_ci G (d + 1) mX7_tell [.inr (.inr 0)] mem Q := by
  refine vm_enter (al := [some (.inr (.inr 0)), none]) 1 okX7_tell (by decide +kernel) rfl rfl ?_
  refine ex_aload_n (pc := 0) 0 rfl rfl ?_
  refine ex_geta (pc := 1) 2 1 rfl clk7 rfl rfl (Or.inl ww_277) rfl ?_
  refine ex_invV (pc := 4) (M' := mX3_firstFault) (As := []) (st := []) 2 rfl clk3 rfl rfl calX3_firstFault (Or.inl ww_659) rfl rfl ?_
  refine vm_call.mono h ?_
  rintro m1 _ ⟨r2, rfl, h⟩
  refine ex_bipush (pc := 7) 3 rfl (by decide) ?_
  obtain ⟨hs3, h⟩ := h
  refine ex_icmp_eq (pc := 9) 15 4 rfl (by decide) hs3 ⟨by decide, by decide⟩ (fun hb => ?_) (fun hb => ?_)
  · have h := h.1 hb
    refine ex_aload_n (pc := 15) 7 rfl rfl ?_
    refine ex_invV (pc := 16) (M' := mX7_recordState) (As := []) (st := []) 8 rfl clk7 rfl rfl calX7_recordState (Or.inl ww_304) rfl rfl ?_
    refine vm_call.mono h ?_
    rintro m4 _ ⟨rfl, h⟩
    refine ex_aload_n (pc := 19) 9 rfl rfl ?_
    refine ex_geta (pc := 20) 2 10 rfl clk7 rfl rfl (Or.inl ww_277) rfl ?_
    refine ex_aload_n (pc := 23) 11 rfl rfl ?_
    refine ex_geta (pc := 24) 0 12 rfl clk7 rfl rfl (Or.inl ww_275) rfl ?_
    refine ex_invV (pc := 27) (M' := mX3_tellAll) (As := [.inr (.inr 1)]) (st := []) 13 rfl clk3 rfl rfl calX3_tellAll (Or.inl ww_707) rfl rfl ?_
    refine vm_call.mono h ?_
    rintro m6 _ ⟨r7, rfl, h⟩
    refine ex_istore_n (pc := 30) 14 rfl rfl rfl ?_
    refine ex_aload_n (pc := 31) 15 rfl rfl ?_
    refine ex_geta (pc := 32) 2 16 rfl clk7 rfl rfl (Or.inl ww_277) rfl ?_
    refine ex_invV (pc := 35) (M' := mX3_clear) (As := []) (st := []) 17 rfl clk3 rfl rfl calX3_clear (Or.inl ww_651) rfl rfl ?_
    refine vm_call.mono h ?_
    rintro m8 _ ⟨r9, rfl, h⟩
    refine ex_popi (pc := 38) 18 rfl ?_
    refine ex_iload_n (pc := 39) 19 rfl rfl ?_
    exact ex_iret (pc := 40) 20 rfl (Or.inl rfl) ⟨_, rfl, h⟩
  · have h := h.2 hb
    refine ex_bipush (pc := 12) 5 rfl (by decide) ?_
    exact ex_iret (pc := 14) 6 rfl (Or.inl rfl) ⟨_, rfl, h⟩
set_option maxRecDepth 20000 in
theorem qX7_undo {G : vm_G} {d : Nat}  {mem : vm_M} {Q : vm_M → Int → Prop} (h : (vm_R (mem 0 5)) ∧ ((¬ (mem 0 5) = 0 → (∀ m2, m2 = vm_up mem 0 5 ((mem 0 5) - 1) → vm_cn G d mX6_load [.inr (.inr 4), .inl (m2 0 5), .inr (.inr 1)] m2 (fun m3 => Q m3 (m3 0 5)))) ∧ ((mem 0 5) = 0 → Q mem (-5)))) : vm_ci G (d + 1) mX7_undo [.inr (.inr 0)] mem Q := by
  refine vm_enter (al := [some (.inr (.inr 0))]) 0 okX7_undo (by decide +kernel) rfl rfl ?_
  refine ex_aload_n (pc := 0) 0 rfl rfl ?_
  refine ex_geti (pc := 1) 5 1 rfl clk7 rfl rfl (Or.inl ww_280) rfl ?_
  obtain ⟨hs1, h⟩ := h
  refine ex_if_ne (pc := 4) 10 2 rfl (by decide) hs1 (fun hb => ?_) (fun hb => ?_)
  · have h := h.1 hb
    refine ex_aload_n (pc := 10) 5 rfl rfl ?_
    refine ex_dupa (pc := 11) 6 rfl ?_
    refine ex_geti (pc := 12) 5 7 rfl clk7 rfl rfl (Or.inl ww_280) rfl ?_
    refine ex_iconst (pc := 15) 8 rfl ?_
    refine ex_isub (pc := 16) 9 rfl ?_
    have h := h _ rfl
    refine ex_puti (pc := 17) 5 10 rfl clk7 rfl rfl (Or.inl ww_280) rfl rfl rfl ?_
    generalize vm_up mem 0 _ ((mem 0 5) - 1) = m2 at h ⊢
    refine ex_aload_n (pc := 20) 11 rfl rfl ?_
    refine ex_geta (pc := 21) 3 12 rfl clk7 rfl rfl (Or.inl ww_278) rfl ?_
    refine ex_aload_n (pc := 24) 13 rfl rfl ?_
    refine ex_geti (pc := 25) 5 14 rfl clk7 rfl rfl (Or.inl ww_280) rfl ?_
    refine ex_aload_n (pc := 28) 15 rfl rfl ?_
    refine ex_geta (pc := 29) 0 16 rfl clk7 rfl rfl (Or.inl ww_275) rfl ?_
    refine ex_invV (pc := 32) (M' := mX6_load) (As := [.inl (m2 0 5), .inr (.inr 1)]) (st := []) 17 rfl clk6 rfl rfl calX6_load (Or.inl ww_718) rfl rfl ?_
    refine vm_call.mono h ?_
    rintro m3 _ ⟨rfl, h⟩
    refine ex_aload_n (pc := 35) 18 rfl rfl ?_
    refine ex_geti (pc := 36) 5 19 rfl clk7 rfl rfl (Or.inl ww_280) rfl ?_
    exact ex_iret (pc := 39) 20 rfl (Or.inl rfl) ⟨_, rfl, h⟩
  · have h := h.2 hb
    refine ex_bipush (pc := 7) 3 rfl (by decide) ?_
    exact ex_iret (pc := 9) 4 rfl (Or.inl rfl) ⟨_, rfl, h⟩
set_option maxRecDepth 20000 in
theorem qX7_save {G : vm_G} {d : Nat} {p1 : Int} {mem : vm_M} {Q : vm_M → Int → Prop} (h : vm_cb G d mX7_isWithin [.inl p1, .inl 0, .inl 1] mem (fun m1 r2 => (r2 = true → vm_cn G d mX6_store [.inr (.inr 5), .inl p1, .inr (.inr 1)] m1 (fun m3 => (∀ m5, m5 = vm_up m3 0 6 (vm_or (m3 0 6) (vm_shl 1 p1)) → Q m5 (m5 1 1)))) ∧ (r2 = false → Q m1 (-2)))) : vm_ci G (d + 1) mX7_save [.inr (.inr 0), .inl p1] mem Q := by
  refine vm_enter (al := [some (.inr (.inr 0)), some (.inl p1)]) 0 okX7_save (by decide +kernel) rfl rfl ?_
  refine ex_iload_n (pc := 0) 0 rfl rfl ?_
  refine ex_iconst (pc := 1) 1 rfl ?_
  refine ex_iconst (pc := 2) 2 rfl ?_
  refine ex_invS (pc := 3) (M' := mX7_isWithin) (As := [.inl p1, .inl 0, .inl 1]) (st := []) 3 rfl calX7_isWithin (Or.inl ww_301) rfl rfl ?_
  refine vm_call.mono h ?_
  rintro m1 _ ⟨r2, rfl, h⟩
  refine ex_if_ne (pc := 6) 12 4 rfl (by decide) (vm_b2i_R _) (fun hb => ?_) (fun hb => ?_)
  · have h := h.1 (vm_b2i_n.mp hb)
    refine ex_aload_n (pc := 12) 7 rfl rfl ?_
    refine ex_geta (pc := 13) 4 8 rfl clk7 rfl rfl (Or.inl ww_279) rfl ?_
    refine ex_iload_n (pc := 16) 9 rfl rfl ?_
    refine ex_aload_n (pc := 17) 10 rfl rfl ?_
    refine ex_geta (pc := 18) 0 11 rfl clk7 rfl rfl (Or.inl ww_275) rfl ?_
    refine ex_invV (pc := 21) (M' := mX6_store) (As := [.inl p1, .inr (.inr 1)]) (st := []) 12 rfl clk6 rfl rfl calX6_store (Or.inl ww_315) rfl rfl ?_
    refine vm_call.mono h ?_
    rintro m3 _ ⟨rfl, h⟩
    refine ex_aload_n (pc := 24) 13 rfl rfl ?_
    refine ex_dupa (pc := 25) 14 rfl ?_
    refine ex_geti (pc := 26) 6 15 rfl clk7 rfl rfl (Or.inl ww_281) rfl ?_
    refine ex_iconst (pc := 29) 16 rfl ?_
    refine ex_iload_n (pc := 30) 17 rfl rfl ?_
    refine ex_ishl (pc := 31) 18 rfl ?_
    refine ex_ior (pc := 32) 19 rfl ?_
    have h := h _ rfl
    refine ex_puti (pc := 33) 6 20 rfl clk7 rfl rfl (Or.inl ww_281) rfl rfl rfl ?_
    generalize vm_up m3 0 _ (vm_or (m3 0 6) (vm_shl 1 p1)) = m5 at h ⊢
    refine ex_aload_n (pc := 36) 21 rfl rfl ?_
    refine ex_geta (pc := 37) 0 22 rfl clk7 rfl rfl (Or.inl ww_275) rfl ?_
    refine ex_geti (pc := 40) 1 23 rfl clk0 rfl rfl (Or.inr ⟨_, ww_116⟩) rfl ?_
    exact ex_iret (pc := 43) 24 rfl (Or.inl rfl) ⟨_, rfl, h⟩
  · have h := h.2 (vm_b2i_0.mp hb)
    refine ex_bipush (pc := 9) 5 rfl (by decide) ?_
    exact ex_iret (pc := 11) 6 rfl (Or.inl rfl) ⟨_, rfl, h⟩
set_option maxRecDepth 20000 in
theorem qX7_restore {G : vm_G} {d : Nat} {p1 : Int} {mem : vm_M} {Q : vm_M → Int → Prop} (h : vm_cb G d mX7_isWithin [.inl p1, .inl 0, .inl 1] mem (fun m1 r2 => (r2 = true → (vm_R (vm_and (m1 0 6) (vm_shl 1 p1))) ∧ ((¬ (vm_and (m1 0 6) (vm_shl 1 p1)) = 0 → vm_cn G d mX7_recordState [.inr (.inr 0)] m1 (fun m4 => vm_cn G d mX6_load [.inr (.inr 5), .inl p1, .inr (.inr 1)] m4 (fun m6 => Q m6 (m6 1 1)))) ∧ ((vm_and (m1 0 6) (vm_shl 1 p1)) = 0 → Q m1 (-5)))) ∧ (r2 = false → Q m1 (-2)))) : vm_ci G (d + 1) mX7_restore [.inr (.inr 0), .inl p1] mem Q := by
  refine vm_enter (al := [some (.inr (.inr 0)), some (.inl p1)]) 0 okX7_restore (by decide +kernel) rfl rfl ?_
  refine ex_iload_n (pc := 0) 0 rfl rfl ?_
  refine ex_iconst (pc := 1) 1 rfl ?_
  refine ex_iconst (pc := 2) 2 rfl ?_
  refine ex_invS (pc := 3) (M' := mX7_isWithin) (As := [.inl p1, .inl 0, .inl 1]) (st := []) 3 rfl calX7_isWithin (Or.inl ww_301) rfl rfl ?_
  refine vm_call.mono h ?_
  rintro m1 _ ⟨r2, rfl, h⟩
  refine ex_if_ne (pc := 6) 12 4 rfl (by decide) (vm_b2i_R _) (fun hb => ?_) (fun hb => ?_)
  · have h := h.1 (vm_b2i_n.mp hb)
    refine ex_aload_n (pc := 12) 7 rfl rfl ?_
    refine ex_geti (pc := 13) 6 8 rfl clk7 rfl rfl (Or.inl ww_281) rfl ?_
    refine ex_iconst (pc := 16) 9 rfl ?_
    refine ex_iload_n (pc := 17) 10 rfl rfl ?_
    refine ex_ishl (pc := 18) 11 rfl ?_
    refine ex_iand (pc := 19) 12 rfl ?_
    obtain ⟨hs3, h⟩ := h
    refine ex_if_ne (pc := 20) 26 13 rfl (by decide) hs3 (fun hb => ?_) (fun hb => ?_)
    · have h := h.1 hb
      refine ex_aload_n (pc := 26) 16 rfl rfl ?_
      refine ex_invV (pc := 27) (M' := mX7_recordState) (As := []) (st := []) 17 rfl clk7 rfl rfl calX7_recordState (Or.inl ww_304) rfl rfl ?_
      refine vm_call.mono h ?_
      rintro m4 _ ⟨rfl, h⟩
      refine ex_aload_n (pc := 30) 18 rfl rfl ?_
      refine ex_geta (pc := 31) 4 19 rfl clk7 rfl rfl (Or.inl ww_279) rfl ?_
      refine ex_iload_n (pc := 34) 20 rfl rfl ?_
      refine ex_aload_n (pc := 35) 21 rfl rfl ?_
      refine ex_geta (pc := 36) 0 22 rfl clk7 rfl rfl (Or.inl ww_275) rfl ?_
      refine ex_invV (pc := 39) (M' := mX6_load) (As := [.inl p1, .inr (.inr 1)]) (st := []) 23 rfl clk6 rfl rfl calX6_load (Or.inl ww_718) rfl rfl ?_
      refine vm_call.mono h ?_
      rintro m6 _ ⟨rfl, h⟩
      refine ex_aload_n (pc := 42) 24 rfl rfl ?_
      refine ex_geta (pc := 43) 0 25 rfl clk7 rfl rfl (Or.inl ww_275) rfl ?_
      refine ex_geti (pc := 46) 1 26 rfl clk0 rfl rfl (Or.inr ⟨_, ww_116⟩) rfl ?_
      exact ex_iret (pc := 49) 27 rfl (Or.inl rfl) ⟨_, rfl, h⟩
    · have h := h.2 hb
      refine ex_bipush (pc := 23) 14 rfl (by decide) ?_
      exact ex_iret (pc := 25) 15 rfl (Or.inl rfl) ⟨_, rfl, h⟩
  · have h := h.2 (vm_b2i_0.mp hb)
    refine ex_bipush (pc := 9) 5 rfl (by decide) ?_
    exact ex_iret (pc := 11) 6 rfl (Or.inl rfl) ⟨_, rfl, h⟩
set_option maxRecDepth 20000 in
theorem qX7_recordState {G : vm_G} {d : Nat}  {mem : vm_M} {Q : vm_M → Prop} (h : (vm_R (mem 0 5)) ∧ ((¬ (mem 0 5) = 6 → vm_cn G d mX6_store [.inr (.inr 4), .inl (mem 0 5), .inr (.inr 1)] mem (fun m2 => (∀ m4, m4 = vm_up m2 0 5 ((m2 0 5) + 1) → Q m4))) ∧ ((mem 0 5) = 6 → vm_cn G d mX6_dropFirst [.inr (.inr 4)] mem (fun m5 => (∀ m7, m7 = vm_up m5 0 5 ((m5 0 5) - 1) → vm_cn G d mX6_store [.inr (.inr 4), .inl (m7 0 5), .inr (.inr 1)] m7 (fun m8 => (∀ m10, m10 = vm_up m8 0 5 ((m8 0 5) + 1) → Q m10))))))) : vm_cn G (d + 1) mX7_recordState [.inr (.inr 0)] mem Q := by
  refine vm_enter (al := [some (.inr (.inr 0))]) 0 okX7_recordState (by decide +kernel) rfl rfl ?_
  refine ex_aload_n (pc := 0) 0 rfl rfl ?_
  refine ex_geti (pc := 1) 5 1 rfl clk7 rfl rfl (Or.inl ww_280) rfl ?_
  refine ex_bipush (pc := 4) 2 rfl (by decide) ?_
  obtain ⟨hs1, h⟩ := h
  refine ex_icmp_ne (pc := 6) 26 3 rfl (by decide) hs1 ⟨by decide, by decide⟩ (fun hb => ?_) (fun hb => ?_)
  · have h := h.1 hb
    refine ex_aload_n (pc := 26) 13 rfl rfl ?_
    refine ex_geta (pc := 27) 3 14 rfl clk7 rfl rfl (Or.inl ww_278) rfl ?_
    refine ex_aload_n (pc := 30) 15 rfl rfl ?_
    refine ex_geti (pc := 31) 5 16 rfl clk7 rfl rfl (Or.inl ww_280) rfl ?_
    refine ex_aload_n (pc := 34) 17 rfl rfl ?_
    refine ex_geta (pc := 35) 0 18 rfl clk7 rfl rfl (Or.inl ww_275) rfl ?_
    refine ex_invV (pc := 38) (M' := mX6_store) (As := [.inl (mem 0 5), .inr (.inr 1)]) (st := []) 19 rfl clk6 rfl rfl calX6_store (Or.inl ww_315) rfl rfl ?_
    refine vm_call.mono h ?_
    rintro m2 _ ⟨rfl, h⟩
    refine ex_aload_n (pc := 41) 20 rfl rfl ?_
    refine ex_dupa (pc := 42) 21 rfl ?_
    refine ex_geti (pc := 43) 5 22 rfl clk7 rfl rfl (Or.inl ww_280) rfl ?_
    refine ex_iconst (pc := 46) 23 rfl ?_
    refine ex_iadd (pc := 47) 24 rfl ?_
    have h := h _ rfl
    refine ex_puti (pc := 48) 5 25 rfl clk7 rfl rfl (Or.inl ww_280) rfl rfl rfl ?_
    generalize vm_up m2 0 _ ((m2 0 5) + 1) = m4 at h ⊢
    exact ex_ret (pc := 51) 26 rfl rfl ⟨rfl, h⟩
  · have h := h.2 hb
    refine ex_aload_n (pc := 9) 4 rfl rfl ?_
    refine ex_geta (pc := 10) 3 5 rfl clk7 rfl rfl (Or.inl ww_278) rfl ?_
    refine ex_invV (pc := 13) (M' := mX6_dropFirst) (As := []) (st := []) 6 rfl clk6 rfl rfl calX6_dropFirst (Or.inl ww_308) rfl rfl ?_
    refine vm_call.mono h ?_
    rintro m5 _ ⟨rfl, h⟩
    refine ex_aload_n (pc := 16) 7 rfl rfl ?_
    refine ex_dupa (pc := 17) 8 rfl ?_
    refine ex_geti (pc := 18) 5 9 rfl clk7 rfl rfl (Or.inl ww_280) rfl ?_
    refine ex_iconst (pc := 21) 10 rfl ?_
    refine ex_isub (pc := 22) 11 rfl ?_
    have h := h _ rfl
    refine ex_puti (pc := 23) 5 12 rfl clk7 rfl rfl (Or.inl ww_280) rfl rfl rfl ?_
    generalize vm_up m5 0 _ ((m5 0 5) - 1) = m7 at h ⊢
    refine ex_aload_n (pc := 26) 13 rfl rfl ?_
    refine ex_geta (pc := 27) 3 14 rfl clk7 rfl rfl (Or.inl ww_278) rfl ?_
    refine ex_aload_n (pc := 30) 15 rfl rfl ?_
    refine ex_geti (pc := 31) 5 16 rfl clk7 rfl rfl (Or.inl ww_280) rfl ?_
    refine ex_aload_n (pc := 34) 17 rfl rfl ?_
    refine ex_geta (pc := 35) 0 18 rfl clk7 rfl rfl (Or.inl ww_275) rfl ?_
    refine ex_invV (pc := 38) (M' := mX6_store) (As := [.inl (m7 0 5), .inr (.inr 1)]) (st := []) 19 rfl clk6 rfl rfl calX6_store (Or.inl ww_315) rfl rfl ?_
    refine vm_call.mono h ?_
    rintro m8 _ ⟨rfl, h⟩
    refine ex_aload_n (pc := 41) 20 rfl rfl ?_
    refine ex_dupa (pc := 42) 21 rfl ?_
    refine ex_geti (pc := 43) 5 22 rfl clk7 rfl rfl (Or.inl ww_280) rfl ?_
    refine ex_iconst (pc := 46) 23 rfl ?_
    refine ex_iadd (pc := 47) 24 rfl ?_
    have h := h _ rfl
    refine ex_puti (pc := 48) 5 25 rfl clk7 rfl rfl (Or.inl ww_280) rfl rfl rfl ?_
    generalize vm_up m8 0 _ ((m8 0 5) + 1) = m10 at h ⊢
    exact ex_ret (pc := 51) 26 rfl rfl ⟨rfl, h⟩
set_option maxRecDepth 20000 in
theorem qX7_refusalOfBound {G : vm_G} {d : Nat} {p0 : Int} {p1 : Int} {p2 : Int} {mem : vm_M} {Q : vm_M → Int → Prop} (h : vm_cb G d mX7_isBag [.inl p0] mem (fun m1 r2 => (r2 = false → Q m1 (-1)) ∧ (r2 = true → vm_cb G d mX7_isKind [.inl p1] m1 (fun m3 r4 => (r4 = true → vm_cb G d mX7_isWithin [.inl p2, .inl 0, .inl 1] m3 (fun m5 r6 => (r6 = false → Q m5 (-2)) ∧ (r6 = true → Q m5 0))) ∧ (r4 = false → Q m3 (-1)))))) : vm_ci G (d + 1) mX7_refusalOfBound [.inl p0, .inl p1, .inl p2] mem Q := by
  refine vm_enter (al := [some (.inl p0), some (.inl p1), some (.inl p2)]) 0 okX7_refusalOfBound (by decide +kernel) rfl rfl ?_
  refine ex_iload_n (pc := 0) 0 rfl rfl ?_
  refine ex_invS (pc := 1) (M' := mX7_isBag) (As := [.inl p0]) (st := []) 1 rfl calX7_isBag (Or.inl ww_556) rfl rfl ?_
  refine vm_call.mono h ?_
  rintro m1 _ ⟨r2, rfl, h⟩
  refine ex_if_eq (pc := 4) 14 2 rfl (by decide) (vm_b2i_R _) (fun hb => ?_) (fun hb => ?_)
  · have h := h.1 (vm_b2i_0.mp hb)
    refine ex_iconst (pc := 14) 6 rfl ?_
    exact ex_iret (pc := 15) 7 rfl (Or.inl rfl) ⟨_, rfl, h⟩
  · have h := h.2 (vm_b2i_n.mp hb)
    refine ex_iload_n (pc := 7) 3 rfl rfl ?_
    refine ex_invS (pc := 8) (M' := mX7_isKind) (As := [.inl p1]) (st := []) 4 rfl calX7_isKind (Or.inl ww_557) rfl rfl ?_
    refine vm_call.mono h ?_
    rintro m3 _ ⟨r4, rfl, h⟩
    refine ex_if_ne (pc := 11) 16 5 rfl (by decide) (vm_b2i_R _) (fun hb => ?_) (fun hb => ?_)
    · have h := h.1 (vm_b2i_n.mp hb)
      refine ex_iload_n (pc := 16) 8 rfl rfl ?_
      refine ex_iconst (pc := 17) 9 rfl ?_
      refine ex_iconst (pc := 18) 10 rfl ?_
      refine ex_invS (pc := 19) (M' := mX7_isWithin) (As := [.inl p2, .inl 0, .inl 1]) (st := []) 11 rfl calX7_isWithin (Or.inl ww_301) rfl rfl ?_
      refine vm_call.mono h ?_
      rintro m5 _ ⟨r6, rfl, h⟩
      refine ex_if_eq (pc := 22) 29 12 rfl (by decide) (vm_b2i_R _) (fun hb => ?_) (fun hb => ?_)
      · have h := h.1 (vm_b2i_0.mp hb)
        refine ex_bipush (pc := 29) 15 rfl (by decide) ?_
        exact ex_iret (pc := 31) 16 rfl (Or.inl rfl) ⟨_, rfl, h⟩
      · have h := h.2 (vm_b2i_n.mp hb)
        refine ex_iconst (pc := 25) 13 rfl ?_
        refine ex_goto (pc := 26) 31 14 rfl (by decide) ?_
        exact ex_iret (pc := 31) 16 rfl (Or.inl rfl) ⟨_, rfl, h⟩
    · have h := h.2 (vm_b2i_0.mp hb)
      refine ex_iconst (pc := 14) 6 rfl ?_
      exact ex_iret (pc := 15) 7 rfl (Or.inl rfl) ⟨_, rfl, h⟩
set_option maxRecDepth 20000 in
theorem qX7_isBag {G : vm_G} {d : Nat} {p0 : Int} {mem : vm_M} {Q : vm_M → Bool → Prop} (h : vm_cb G d mX7_isWithin [.inl p0, .inl 0, .inl 3] mem (fun m1 r2 => Q m1 r2)) : vm_cb G (d + 1) mX7_isBag [.inl p0] mem Q := by
  refine vm_enter (al := [some (.inl p0)]) 0 okX7_isBag (by decide +kernel) rfl rfl ?_
  refine ex_iload_n (pc := 0) 0 rfl rfl ?_
  refine ex_iconst (pc := 1) 1 rfl ?_
  refine ex_iconst (pc := 2) 2 rfl ?_
  refine ex_invS (pc := 3) (M' := mX7_isWithin) (As := [.inl p0, .inl 0, .inl 3]) (st := []) 3 rfl calX7_isWithin (Or.inl ww_301) rfl rfl ?_
  refine vm_call.mono h ?_
  rintro m1 _ ⟨r2, rfl, h⟩
  exact ex_iret (pc := 6) 4 rfl (Or.inr ⟨rfl, vm_b2i_01 _⟩) ⟨_, rfl, h⟩
set_option maxRecDepth 20000 in
theorem qX7_isKind {G : vm_G} {d : Nat} {p0 : Int} {mem : vm_M} {Q : vm_M → Bool → Prop} (h : vm_cb G d mX7_isWithin [.inl p0, .inl 0, .inl 2] mem (fun m1 r2 => Q m1 r2)) : vm_cb G (d + 1) mX7_isKind [.inl p0] mem Q := by
  refine vm_enter (al := [some (.inl p0)]) 0 okX7_isKind (by decide +kernel) rfl rfl ?_
  refine ex_iload_n (pc := 0) 0 rfl rfl ?_
  refine ex_iconst (pc := 1) 1 rfl ?_
  refine ex_iconst (pc := 2) 2 rfl ?_
  refine ex_invS (pc := 3) (M' := mX7_isWithin) (As := [.inl p0, .inl 0, .inl 2]) (st := []) 3 rfl calX7_isWithin (Or.inl ww_301) rfl rfl ?_
  refine vm_call.mono h ?_
  rintro m1 _ ⟨r2, rfl, h⟩
  exact ex_iret (pc := 6) 4 rfl (Or.inr ⟨rfl, vm_b2i_01 _⟩) ⟨_, rfl, h⟩
set_option maxRecDepth 20000 in
theorem qX7_isWithin {G : vm_G} {d : Nat} {p0 : Int} {p1 : Int} {p2 : Int} {mem : vm_M} {Q : vm_M → Bool → Prop} (h : (vm_R p0) ∧ (vm_R p1) ∧ ((p0 < p1 → Q mem false) ∧ (¬ p0 < p1 → (vm_R p2) ∧ ((p2 < p0 → Q mem false) ∧ (¬ p2 < p0 → Q mem true))))) : vm_cb G d mX7_isWithin [.inl p0, .inl p1, .inl p2] mem Q := by
  refine vm_enter (al := [some (.inl p0), some (.inl p1), some (.inl p2)]) 0 okX7_isWithin (by decide +kernel) rfl rfl ?_
  refine ex_iload_n (pc := 0) 0 rfl rfl ?_
  refine ex_iload_n (pc := 1) 1 rfl rfl ?_
  obtain ⟨hs1, h⟩ := h
  obtain ⟨hs2, h⟩ := h
  refine ex_icmp_lt (pc := 2) 14 2 rfl (by decide) hs1 hs2 (fun hb => ?_) (fun hb => ?_)
  · have h := h.1 hb
    refine ex_iconst (pc := 14) 8 rfl ?_
    exact ex_iret (pc := 15) 9 rfl (Or.inr ⟨rfl, by decide⟩) ⟨false, rfl, h⟩
  · have h := h.2 hb
    refine ex_iload_n (pc := 5) 3 rfl rfl ?_
    refine ex_iload_n (pc := 6) 4 rfl rfl ?_
    obtain ⟨hs3, h⟩ := h
    refine ex_icmp_gt (pc := 7) 14 5 rfl (by decide) hs1 hs3 (fun hb => ?_) (fun hb => ?_)
    · have h := h.1 hb
      refine ex_iconst (pc := 14) 8 rfl ?_
      exact ex_iret (pc := 15) 9 rfl (Or.inr ⟨rfl, by decide⟩) ⟨false, rfl, h⟩
    · have h := h.2 hb
      refine ex_iconst (pc := 10) 6 rfl ?_
      refine ex_goto (pc := 11) 15 7 rfl (by decide) ?_
      exact ex_iret (pc := 15) 9 rfl (Or.inr ⟨rfl, by decide⟩) ⟨true, rfl, h⟩
