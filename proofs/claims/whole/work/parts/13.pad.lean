set_option maxRecDepth 20000 in
theorem qX3_lengthOf {G : vm_G} {d : Nat} {p0 : Int} {mem : vm_M} {Q : vm_M → Int → Prop} (h : vm_ex G (d + 1) mX3_lengthOf 7 [some (.inr (.inl p0)), none, some (.inl 0), some (.inr (.inl p0)), none, some (.inl 0), none] [] mem (vm_qi Q)) : vm_ci G (d + 1) mX3_lengthOf [.inr (.inl p0)] mem Q := by
  refine vm_enter (al := [some (.inr (.inl p0)), none, none, none, none, none, none]) 5 okX3_lengthOf (by decide +kernel) rfl rfl ?_
  refine ex_iconst (pc := 0) 0 rfl ?_
  refine ex_istore_n (pc := 1) 1 rfl rfl rfl ?_
  refine ex_lload_n (pc := 2) 2 rfl rfl ?_
  refine ex_lstore_n (pc := 3) 3 rfl rfl rfl ?_
  refine ex_iconst (pc := 4) 4 rfl ?_
  refine ex_istore (pc := 5) 5 rfl rfl rfl ?_
  exact h
set_option maxRecDepth 20000 in
theorem qX3_lengthOf_7 {G : vm_G} {d : Nat} {v0 : Int} {v2 : Int} {v3 : Int} {v5 : Int} {mem : vm_M} {Q : vm_M → Int → Prop} (h : (vm_R v5) ∧ ((8 ≤ v5 → Q mem v2) ∧ (¬ 8 ≤ v5 → (vm_R (vm_lcmp v3 0)) ∧ (((vm_lcmp v3 0) = 0 → Q mem v2) ∧ (¬ (vm_lcmp v3 0) = 0 → vm_cb G d mX7_isWithin [.inl (vm_l2i (vm_land v3 255)), .inl 33, .inl 126] mem (fun m3 r4 => (r4 = true → vm_ex G (d + 1) mX3_lengthOf 7 [some (.inr (.inl v0)), none, some (.inl (v2 + 1)), some (.inr (.inl (vm_lushr v3 8))), none, some (.inl (v5 + 1)), none] [] m3 (vm_qi Q)) ∧ (r4 = false → Q m3 0))))))) : vm_ex G (d + 1) mX3_lengthOf 7 [some (.inr (.inl v0)), none, some (.inl v2), some (.inr (.inl v3)), none, some (.inl v5), none] [] mem (vm_qi Q) := by
  refine ex_iload (pc := 7) 6 rfl rfl ?_
  refine ex_bipush (pc := 9) 7 rfl (by decide) ?_
  obtain ⟨hs1, h⟩ := h
  refine ex_icmp_ge (pc := 11) 56 8 rfl (by decide) hs1 ⟨by decide, by decide⟩ (fun hb => ?_) (fun hb => ?_)
  · have h := h.1 hb
    refine ex_iload_n (pc := 56) 32 rfl rfl ?_
    exact ex_iret (pc := 57) 33 rfl (Or.inl rfl) ⟨_, rfl, h⟩
  · have h := h.2 hb
    refine ex_lload_n (pc := 14) 9 rfl rfl ?_
    refine ex_lconst (n := 0) (pc := 15) 10 rfl (by decide) ?_
    refine ex_lcmp (pc := 16) 11 rfl ?_
    obtain ⟨hs2, h⟩ := h
    refine ex_if_eq (pc := 17) 56 12 rfl (by decide) hs2 (fun hb => ?_) (fun hb => ?_)
    · have h := h.1 hb
      refine ex_iload_n (pc := 56) 32 rfl rfl ?_
      exact ex_iret (pc := 57) 33 rfl (Or.inl rfl) ⟨_, rfl, h⟩
    · have h := h.2 hb
      refine ex_lload_n (pc := 20) 13 rfl rfl ?_
      refine ex_ldc2 (n := 255) (pc := 21) 14 rfl ww_636 (by decide) ?_
      refine ex_land (pc := 24) 15 rfl ?_
      refine ex_l2i (pc := 25) 16 rfl ?_
      refine ex_istore (pc := 26) 17 rfl rfl rfl ?_
      refine ex_iload (pc := 28) 18 rfl rfl ?_
      refine ex_bipush (pc := 30) 19 rfl (by decide) ?_
      refine ex_bipush (pc := 32) 20 rfl (by decide) ?_
      refine ex_invS (pc := 34) (M' := mX7_isWithin) (As := [.inl (vm_l2i (vm_land v3 255)), .inl 33, .inl 126]) (st := []) 21 rfl calX7_isWithin (Or.inr ⟨_, ww_637⟩) rfl rfl ?_
      refine vm_call.mono h ?_
      rintro m3 _ ⟨r4, rfl, h⟩
      refine ex_if_ne (pc := 37) 42 22 rfl (by decide) (vm_b2i_R _) (fun hb => ?_) (fun hb => ?_)
      · have h := h.1 (vm_b2i_n.mp hb)
        refine ex_iinc (pc := 42) 25 rfl rfl rfl rfl ?_
        refine ex_lload_n (pc := 45) 26 rfl rfl ?_
        refine ex_bipush (pc := 46) 27 rfl (by decide) ?_
        refine ex_lushr (pc := 48) 28 rfl ?_
        refine ex_lstore_n (pc := 49) 29 rfl rfl rfl ?_
        refine ex_iinc (pc := 50) 30 rfl rfl rfl rfl ?_
        refine ex_goto (pc := 53) 7 31 rfl (by decide) ?_
        exact ex_less [some (.inr (.inl v0)), none, some (.inl (v2 + 1)), some (.inr (.inl (vm_lushr v3 8))), none, some (.inl (v5 + 1)), none] (And.intro rfl (And.intro rfl (And.intro rfl (And.intro rfl (True.intro))))) h
      · have h := h.2 (vm_b2i_0.mp hb)
        refine ex_iconst (pc := 40) 23 rfl ?_
        exact ex_iret (pc := 41) 24 rfl (Or.inl rfl) ⟨_, rfl, h⟩
set_option maxRecDepth 20000 in
theorem qX3_hasRoomFor {G : vm_G} {d : Nat} {p1 : Int} {mem : vm_M} {Q : vm_M → Bool → Prop} (h : (vm_R p1) ∧ (vm_R (80 - (mem 3 1))) ∧ (((80 - (mem 3 1)) < p1 → Q mem false) ∧ (¬ (80 - (mem 3 1)) < p1 → Q mem true))) : vm_cb G d mX3_hasRoomFor [.inr (.inr 3), .inl p1] mem Q := by
  refine vm_enter (al := [some (.inr (.inr 3)), some (.inl p1)]) 0 okX3_hasRoomFor (by decide +kernel) rfl rfl ?_
  refine ex_iload_n (pc := 0) 0 rfl rfl ?_
  refine ex_bipush (pc := 1) 1 rfl (by decide) ?_
  refine ex_aload_n (pc := 3) 2 rfl rfl ?_
  refine ex_geti (pc := 4) 1 3 rfl clk3 rfl rfl (Or.inl ww_233) rfl ?_
  refine ex_isub (pc := 7) 4 rfl ?_
  obtain ⟨hs1, h⟩ := h
  obtain ⟨hs2, h⟩ := h
  refine ex_icmp_gt (pc := 8) 15 5 rfl (by decide) hs1 hs2 (fun hb => ?_) (fun hb => ?_)
  · have h := h.1 hb
    refine ex_iconst (pc := 15) 8 rfl ?_
    exact ex_iret (pc := 16) 9 rfl (Or.inr ⟨rfl, by decide⟩) ⟨false, rfl, h⟩
  · have h := h.2 hb
    refine ex_iconst (pc := 11) 6 rfl ?_
    refine ex_goto (pc := 12) 16 7 rfl (by decide) ?_
    exact ex_iret (pc := 16) 9 rfl (Or.inr ⟨rfl, by decide⟩) ⟨true, rfl, h⟩
set_option maxRecDepth 20000 in
theorem qX3_append {G : vm_G} {d : Nat} {p1 : Int} {p3 : Int} {mem : vm_M} {Q : vm_M → Prop} (h : vm_cb G d mX3_hasRoomFor [.inr (.inr 3), .inl p3] mem (fun m1 r2 => (r2 = true → vm_ex G (d + 1) mX3_append 22 [some (.inr (.inr 3)), some (.inr (.inl p1)), none, some (.inl p3), some (.inr (.inl p1)), none, some (.inl (((m1 3 1) + p3) - 1))] [] m1 (vm_qn Q)) ∧ (r2 = false → Q m1))) : vm_cn G (d + 1) mX3_append [.inr (.inr 3), .inr (.inl p1), .inl p3] mem Q := by
  refine vm_enter (al := [some (.inr (.inr 3)), some (.inr (.inl p1)), none, some (.inl p3), none, none, none]) 3 okX3_append (by decide +kernel) rfl rfl ?_
  refine ex_aload_n (pc := 0) 0 rfl rfl ?_
  refine ex_iload_n (pc := 1) 1 rfl rfl ?_
  refine ex_invV (pc := 2) (M' := mX3_hasRoomFor) (As := [.inl p3]) (st := []) 2 rfl clk3 rfl rfl calX3_hasRoomFor (Or.inl ww_646) rfl rfl ?_
  refine vm_call.mono h ?_
  rintro m1 _ ⟨r2, rfl, h⟩
  refine ex_if_ne (pc := 5) 9 3 rfl (by decide) (vm_b2i_R _) (fun hb => ?_) (fun hb => ?_)
  · have h := h.1 (vm_b2i_n.mp hb)
    refine ex_lload_n (pc := 9) 5 rfl rfl ?_
    refine ex_lstore (pc := 10) 6 rfl rfl rfl ?_
    refine ex_aload_n (pc := 12) 7 rfl rfl ?_
    refine ex_geti (pc := 13) 1 8 rfl clk3 rfl rfl (Or.inl ww_233) rfl ?_
    refine ex_iload_n (pc := 16) 9 rfl rfl ?_
    refine ex_iadd (pc := 17) 10 rfl ?_
    refine ex_iconst (pc := 18) 11 rfl ?_
    refine ex_isub (pc := 19) 12 rfl ?_
    refine ex_istore (pc := 20) 13 rfl rfl rfl ?_
    exact h
  · have h := h.2 (vm_b2i_0.mp hb)
    exact ex_ret (pc := 8) 4 rfl rfl ⟨rfl, h⟩
set_option maxRecDepth 20000 in
theorem qX3_append_22 {G : vm_G} {d : Nat} {v1 : Int} {v3 : Int} {v4 : Int} {v6 : Int} {mem : vm_M} {Q : vm_M → Prop} (h : (vm_R v6) ∧ (vm_R (mem 3 1)) ∧ ((v6 < (mem 3 1) → (∀ m3, m3 = vm_up mem 3 1 ((mem 3 1) + v3) → Q m3)) ∧ (¬ v6 < (mem 3 1) → (0 ≤ v6 ∧ v6 < 80) ∧ (∀ m5, m5 = vm_up mem 10 v6 (vm_chr (vm_i2c (vm_l2i (vm_land v4 255)))) → vm_ex G (d + 1) mX3_append 22 [some (.inr (.inr 3)), some (.inr (.inl v1)), none, some (.inl v3), some (.inr (.inl (vm_lushr v4 8))), none, some (.inl (v6 + (-1)))] [] m5 (vm_qn Q))))) : vm_ex G (d + 1) mX3_append 22 [some (.inr (.inr 3)), some (.inr (.inl v1)), none, some (.inl v3), some (.inr (.inl v4)), none, some (.inl v6)] [] mem (vm_qn Q) := by
  refine ex_iload (pc := 22) 14 rfl rfl ?_
  refine ex_aload_n (pc := 24) 15 rfl rfl ?_
  refine ex_geti (pc := 25) 1 16 rfl clk3 rfl rfl (Or.inl ww_233) rfl ?_
  obtain ⟨hs1, h⟩ := h
  obtain ⟨hs2, h⟩ := h
  refine ex_icmp_lt (pc := 28) 59 17 rfl (by decide) hs1 hs2 (fun hb => ?_) (fun hb => ?_)
  · have h := h.1 hb
    refine ex_aload_n (pc := 59) 33 rfl rfl ?_
    refine ex_dupa (pc := 60) 34 rfl ?_
    refine ex_geti (pc := 61) 1 35 rfl clk3 rfl rfl (Or.inl ww_233) rfl ?_
    refine ex_iload_n (pc := 64) 36 rfl rfl ?_
    refine ex_iadd (pc := 65) 37 rfl ?_
    have h := h _ rfl
    refine ex_puti (pc := 66) 1 38 rfl clk3 rfl rfl (Or.inl ww_233) rfl rfl rfl ?_
    generalize vm_up mem 3 _ ((mem 3 1) + v3) = m3 at h ⊢
    exact ex_ret (pc := 69) 39 rfl rfl ⟨rfl, h⟩
  · have h := h.2 hb
    refine ex_aload_n (pc := 31) 18 rfl rfl ?_
    refine ex_geta (pc := 32) 0 19 rfl clk3 rfl rfl (Or.inl ww_232) rfl ?_
    refine ex_iload (pc := 35) 20 rfl rfl ?_
    refine ex_lload (pc := 37) 21 rfl rfl ?_
    refine ex_ldc2 (n := 255) (pc := 39) 22 rfl ww_636 (by decide) ?_
    refine ex_land (pc := 42) 23 rfl ?_
    refine ex_l2i (pc := 43) 24 rfl ?_
    refine ex_i2c (pc := 44) 25 rfl ?_
    obtain ⟨hs4, h⟩ := h
    have h := h _ rfl
    refine ex_castore (pc := 45) 26 rfl rfl rfl hs4 ?_
    generalize vm_up mem 10 v6 (vm_chr (vm_i2c (vm_l2i (vm_land v4 255)))) = m5 at h ⊢
    refine ex_lload (pc := 46) 27 rfl rfl ?_
    refine ex_bipush (pc := 48) 28 rfl (by decide) ?_
    refine ex_lushr (pc := 50) 29 rfl ?_
    refine ex_lstore (pc := 51) 30 rfl rfl rfl ?_
    refine ex_iinc (pc := 53) 31 rfl rfl rfl rfl ?_
    refine ex_goto (pc := 56) 22 32 rfl (by decide) ?_
    exact h
set_option maxRecDepth 20000 in
theorem qX3_clear {G : vm_G} {d : Nat}  {mem : vm_M} {Q : vm_M → Int → Prop} (h : (∀ m1, m1 = vm_up mem 3 1 0 → Q m1 (mem 3 1))) : vm_ci G d mX3_clear [.inr (.inr 3)] mem Q := by
  refine vm_enter (al := [some (.inr (.inr 3)), none]) 1 okX3_clear (by decide +kernel) rfl rfl ?_
  refine ex_aload_n (pc := 0) 0 rfl rfl ?_
  refine ex_geti (pc := 1) 1 1 rfl clk3 rfl rfl (Or.inl ww_233) rfl ?_
  refine ex_istore_n (pc := 4) 2 rfl rfl rfl ?_
  refine ex_aload_n (pc := 5) 3 rfl rfl ?_
  refine ex_iconst (pc := 6) 4 rfl ?_
  have h := h _ rfl
  refine ex_puti (pc := 7) 1 5 rfl clk3 rfl rfl (Or.inl ww_233) rfl rfl rfl ?_
  generalize vm_up mem 3 _ 0 = m1 at h ⊢
  refine ex_iload_n (pc := 10) 6 rfl rfl ?_
  exact ex_iret (pc := 11) 7 rfl (Or.inl rfl) ⟨_, rfl, h⟩
set_option maxRecDepth 20000 in
theorem qX3_firstFault {G : vm_G} {d : Nat}  {mem : vm_M} {Q : vm_M → Int → Prop} (h : (∀ m1, m1 = vm_up mem 3 2 0 → vm_ex G (d + 1) mX3_firstFault 7 [some (.inr (.inr 3)), some (.inl 0)] [] m1 (vm_qi Q))) : vm_ci G (d + 1) mX3_firstFault [.inr (.inr 3)] mem Q := by
  refine vm_enter (al := [some (.inr (.inr 3)), none]) 1 okX3_firstFault (by decide +kernel) rfl rfl ?_
  refine ex_aload_n (pc := 0) 0 rfl rfl ?_
  refine ex_iconst (pc := 1) 1 rfl ?_
  have h := h _ rfl
  refine ex_puti (pc := 2) 2 2 rfl clk3 rfl rfl (Or.inl ww_235) rfl rfl rfl ?_
  generalize vm_up mem 3 _ 0 = m1 at h ⊢
  refine ex_iconst (pc := 5) 3 rfl ?_
  refine ex_istore_n (pc := 6) 4 rfl rfl rfl ?_
  exact h
set_option maxRecDepth 20000 in
theorem qX3_firstFault_7 {G : vm_G} {d : Nat} {v1 : Int} {mem : vm_M} {Q : vm_M → Int → Prop} (h : (vm_R v1) ∧ ((80 ≤ v1 → Q mem (mem 3 2)) ∧ (¬ 80 ≤ v1 → vm_cb G d mX3_readFact [.inr (.inr 3)] mem (fun m2 r3 => (r3 = true → (vm_R (m2 3 2)) ∧ (vm_R (m2 3 1)) ∧ ((¬ (m2 3 2) = (m2 3 1) → vm_cb G d mX3_skip [.inr (.inr 3), .inl 59] m2 (fun m6 r7 => (r7 = true → vm_ex G (d + 1) mX3_firstFault 7 [some (.inr (.inr 3)), some (.inl (v1 + 1))] [] m6 (vm_qi Q)) ∧ (r7 = false → Q m6 (m6 3 2)))) ∧ ((m2 3 2) = (m2 3 1) → Q m2 (-6)))) ∧ (r3 = false → Q m2 (m2 3 2)))))) : vm_ex G (d + 1) mX3_firstFault 7 [some (.inr (.inr 3)), some (.inl v1)] [] mem (vm_qi Q) := by
  refine ex_iload_n (pc := 7) 5 rfl rfl ?_
  refine ex_bipush (pc := 8) 6 rfl (by decide) ?_
  obtain ⟨hs1, h⟩ := h
  refine ex_icmp_ge (pc := 10) 59 7 rfl (by decide) hs1 ⟨by decide, by decide⟩ (fun hb => ?_) (fun hb => ?_)
  · have h := h.1 hb
    refine ex_aload_n (pc := 59) 30 rfl rfl ?_
    refine ex_geti (pc := 60) 2 31 rfl clk3 rfl rfl (Or.inl ww_235) rfl ?_
    exact ex_iret (pc := 63) 32 rfl (Or.inl rfl) ⟨_, rfl, h⟩
  · have h := h.2 hb
    refine ex_aload_n (pc := 13) 8 rfl rfl ?_
    refine ex_invV (pc := 14) (M' := mX3_readFact) (As := []) (st := []) 9 rfl clk3 rfl rfl calX3_readFact (Or.inl ww_663) rfl rfl ?_
    refine vm_call.mono h ?_
    rintro m2 _ ⟨r3, rfl, h⟩
    refine ex_if_ne (pc := 17) 25 10 rfl (by decide) (vm_b2i_R _) (fun hb => ?_) (fun hb => ?_)
    · have h := h.1 (vm_b2i_n.mp hb)
      refine ex_aload_n (pc := 25) 14 rfl rfl ?_
      refine ex_geti (pc := 26) 2 15 rfl clk3 rfl rfl (Or.inl ww_235) rfl ?_
      refine ex_aload_n (pc := 29) 16 rfl rfl ?_
      refine ex_geti (pc := 30) 1 17 rfl clk3 rfl rfl (Or.inl ww_233) rfl ?_
      obtain ⟨hs4, h⟩ := h
      obtain ⟨hs5, h⟩ := h
      refine ex_icmp_ne (pc := 33) 39 18 rfl (by decide) hs4 hs5 (fun hb => ?_) (fun hb => ?_)
      · have h := h.1 hb
        refine ex_aload_n (pc := 39) 21 rfl rfl ?_
        refine ex_bipush (pc := 40) 22 rfl (by decide) ?_
        refine ex_invV (pc := 42) (M' := mX3_skip) (As := [.inl 59]) (st := []) 23 rfl clk3 rfl rfl calX3_skip (Or.inl ww_667) rfl rfl ?_
        refine vm_call.mono h ?_
        rintro m6 _ ⟨r7, rfl, h⟩
        refine ex_if_ne (pc := 45) 53 24 rfl (by decide) (vm_b2i_R _) (fun hb => ?_) (fun hb => ?_)
        · have h := h.1 (vm_b2i_n.mp hb)
          refine ex_iinc (pc := 53) 28 rfl rfl rfl rfl ?_
          refine ex_goto (pc := 56) 7 29 rfl (by decide) ?_
          exact h
        · have h := h.2 (vm_b2i_0.mp hb)
          refine ex_aload_n (pc := 48) 25 rfl rfl ?_
          refine ex_geti (pc := 49) 2 26 rfl clk3 rfl rfl (Or.inl ww_235) rfl ?_
          exact ex_iret (pc := 52) 27 rfl (Or.inl rfl) ⟨_, rfl, h⟩
      · have h := h.2 hb
        refine ex_bipush (pc := 36) 19 rfl (by decide) ?_
        exact ex_iret (pc := 38) 20 rfl (Or.inl rfl) ⟨_, rfl, h⟩
    · have h := h.2 (vm_b2i_0.mp hb)
      refine ex_aload_n (pc := 20) 11 rfl rfl ?_
      refine ex_geti (pc := 21) 2 12 rfl clk3 rfl rfl (Or.inl ww_235) rfl ?_
      exact ex_iret (pc := 24) 13 rfl (Or.inl rfl) ⟨_, rfl, h⟩
set_option maxRecDepth 20000 in
theorem qX3_tellAll {G : vm_G} {d : Nat}  {mem : vm_M} {Q : vm_M → Int → Prop} (h : (∀ m1, m1 = vm_up mem 3 2 0 → vm_ex G (d + 1) mX3_tellAll 9 [some (.inr (.inr 3)), some (.inr (.inr 1)), some (.inl 0), some (.inl 0)] [] m1 (vm_qi Q))) : vm_ci G (d + 1) mX3_tellAll [.inr (.inr 3), .inr (.inr 1)] mem Q := by
  refine vm_enter (al := [some (.inr (.inr 3)), some (.inr (.inr 1)), none, none]) 2 okX3_tellAll (by decide +kernel) rfl rfl ?_
  refine ex_aload_n (pc := 0) 0 rfl rfl ?_
  refine ex_iconst (pc := 1) 1 rfl ?_
  have h := h _ rfl
  refine ex_puti (pc := 2) 2 2 rfl clk3 rfl rfl (Or.inl ww_235) rfl rfl rfl ?_
  generalize vm_up mem 3 _ 0 = m1 at h ⊢
  refine ex_iconst (pc := 5) 3 rfl ?_
  refine ex_istore_n (pc := 6) 4 rfl rfl rfl ?_
  refine ex_iconst (pc := 7) 5 rfl ?_
  refine ex_istore_n (pc := 8) 6 rfl rfl rfl ?_
  exact h
set_option maxRecDepth 20000 in
theorem qX3_tellAll_9 {G : vm_G} {d : Nat} {v2 : Int} {v3 : Int} {mem : vm_M} {Q : vm_M → Int → Prop} (h : (vm_R v3) ∧ ((80 ≤ v3 → Q mem v2) ∧ (¬ 80 ≤ v3 → vm_cb G d mX3_readFact [.inr (.inr 3)] mem (fun m2 r3 => (r3 = false → Q m2 v2) ∧ (r3 = true → vm_cb G d mX0_ask [.inr (.inr 1), .inl (m2 3 3), .inl (m2 3 4), .inl (m2 3 5), .inl (m2 3 6), .inl (m2 3 7), .inl (m2 3 8)] m2 (fun m4 r5 => (r5 = false → Q m4 v2) ∧ (r5 = true → vm_cb G d mX0_isFull [.inr (.inr 1)] m4 (fun m6 r7 => (r7 = false → vm_ci G d mX0_keepAsked [.inr (.inr 1)] m6 (fun m8 r9 => vm_cb G d mX3_skip [.inr (.inr 3), .inl 59] m8 (fun m10 r11 => (r11 = true → vm_ex G (d + 1) mX3_tellAll 9 [some (.inr (.inr 3)), some (.inr (.inr 1)), some (.inl (v2 + 1)), some (.inl (v3 + 1))] [] m10 (vm_qi Q)) ∧ (r11 = false → Q m10 (v2 + 1))))) ∧ (r7 = true → Q m6 v2))))))))) : vm_ex G (d + 1) mX3_tellAll 9 [some (.inr (.inr 3)), some (.inr (.inr 1)), some (.inl v2), some (.inl v3)] [] mem (vm_qi Q) := by
  refine ex_iload_n (pc := 9) 7 rfl rfl ?_
  refine ex_bipush (pc := 10) 8 rfl (by decide) ?_
  obtain ⟨hs1, h⟩ := h
  refine ex_icmp_ge (pc := 12) 87 9 rfl (by decide) hs1 ⟨by decide, by decide⟩ (fun hb => ?_) (fun hb => ?_)
  · have h := h.1 hb
    refine ex_iload_n (pc := 87) 45 rfl rfl ?_
    exact ex_iret (pc := 88) 46 rfl (Or.inl rfl) ⟨_, rfl, h⟩
  · have h := h.2 hb
    refine ex_aload_n (pc := 15) 10 rfl rfl ?_
    refine ex_invV (pc := 16) (M' := mX3_readFact) (As := []) (st := []) 11 rfl clk3 rfl rfl calX3_readFact (Or.inl ww_663) rfl rfl ?_
    refine vm_call.mono h ?_
    rintro m2 _ ⟨r3, rfl, h⟩
    refine ex_if_eq (pc := 19) 87 12 rfl (by decide) (vm_b2i_R _) (fun hb => ?_) (fun hb => ?_)
    · have h := h.1 (vm_b2i_0.mp hb)
      refine ex_iload_n (pc := 87) 45 rfl rfl ?_
      exact ex_iret (pc := 88) 46 rfl (Or.inl rfl) ⟨_, rfl, h⟩
    · have h := h.2 (vm_b2i_n.mp hb)
      refine ex_aload_n (pc := 22) 13 rfl rfl ?_
      refine ex_aload_n (pc := 23) 14 rfl rfl ?_
      refine ex_geti (pc := 24) 3 15 rfl clk3 rfl rfl (Or.inl ww_236) rfl ?_
      refine ex_aload_n (pc := 27) 16 rfl rfl ?_
      refine ex_geti (pc := 28) 4 17 rfl clk3 rfl rfl (Or.inl ww_237) rfl ?_
      refine ex_aload_n (pc := 31) 18 rfl rfl ?_
      refine ex_geti (pc := 32) 5 19 rfl clk3 rfl rfl (Or.inl ww_238) rfl ?_
      refine ex_aload_n (pc := 35) 20 rfl rfl ?_
      refine ex_geti (pc := 36) 6 21 rfl clk3 rfl rfl (Or.inl ww_239) rfl ?_
      refine ex_aload_n (pc := 39) 22 rfl rfl ?_
      refine ex_geti (pc := 40) 7 23 rfl clk3 rfl rfl (Or.inl ww_240) rfl ?_
      refine ex_aload_n (pc := 43) 24 rfl rfl ?_
      refine ex_geti (pc := 44) 8 25 rfl clk3 rfl rfl (Or.inl ww_241) rfl ?_
      refine ex_invV (pc := 47) (M' := mX0_ask) (As := [.inl (m2 3 3), .inl (m2 3 4), .inl (m2 3 5), .inl (m2 3 6), .inl (m2 3 7), .inl (m2 3 8)]) (st := []) 26 rfl clk0 rfl rfl calX0_ask (Or.inl ww_711) rfl rfl ?_
      refine vm_call.mono h ?_
      rintro m4 _ ⟨r5, rfl, h⟩
      refine ex_if_eq (pc := 50) 60 27 rfl (by decide) (vm_b2i_R _) (fun hb => ?_) (fun hb => ?_)
      · have h := h.1 (vm_b2i_0.mp hb)
        refine ex_iload_n (pc := 60) 31 rfl rfl ?_
        exact ex_iret (pc := 61) 32 rfl (Or.inl rfl) ⟨_, rfl, h⟩
      · have h := h.2 (vm_b2i_n.mp hb)
        refine ex_aload_n (pc := 53) 28 rfl rfl ?_
        refine ex_invV (pc := 54) (M' := mX0_isFull) (As := []) (st := []) 29 rfl clk0 rfl rfl calX0_isFull (Or.inl ww_712) rfl rfl ?_
        refine vm_call.mono h ?_
        rintro m6 _ ⟨r7, rfl, h⟩
        refine ex_if_eq (pc := 57) 62 30 rfl (by decide) (vm_b2i_R _) (fun hb => ?_) (fun hb => ?_)
        · have h := h.1 (vm_b2i_0.mp hb)
          refine ex_aload_n (pc := 62) 33 rfl rfl ?_
          refine ex_invV (pc := 63) (M' := mX0_keepAsked) (As := []) (st := []) 34 rfl clk0 rfl rfl calX0_keepAsked (Or.inl ww_713) rfl rfl ?_
          refine vm_call.mono h ?_
          rintro m8 _ ⟨r9, rfl, h⟩
          refine ex_popi (pc := 66) 35 rfl ?_
          refine ex_iinc (pc := 67) 36 rfl rfl rfl rfl ?_
          refine ex_aload_n (pc := 70) 37 rfl rfl ?_
          refine ex_bipush (pc := 71) 38 rfl (by decide) ?_
          refine ex_invV (pc := 73) (M' := mX3_skip) (As := [.inl 59]) (st := []) 39 rfl clk3 rfl rfl calX3_skip (Or.inl ww_667) rfl rfl ?_
          refine vm_call.mono h ?_
          rintro m10 _ ⟨r11, rfl, h⟩
          refine ex_if_ne (pc := 76) 81 40 rfl (by decide) (vm_b2i_R _) (fun hb => ?_) (fun hb => ?_)
          · have h := h.1 (vm_b2i_n.mp hb)
            refine ex_iinc (pc := 81) 43 rfl rfl rfl rfl ?_
            refine ex_goto (pc := 84) 9 44 rfl (by decide) ?_
            exact h
          · have h := h.2 (vm_b2i_0.mp hb)
            refine ex_iload_n (pc := 79) 41 rfl rfl ?_
            exact ex_iret (pc := 80) 42 rfl (Or.inl rfl) ⟨_, rfl, h⟩
        · have h := h.2 (vm_b2i_n.mp hb)
          refine ex_iload_n (pc := 60) 31 rfl rfl ?_
          exact ex_iret (pc := 61) 32 rfl (Or.inl rfl) ⟨_, rfl, h⟩
set_option maxRecDepth 20000 in
theorem qX3_readFact {G : vm_G} {d : Nat}  {mem : vm_M} {Q : vm_M → Bool → Prop} (h : (∀ m1, m1 = vm_up mem 3 6 0 → (∀ m2, m2 = vm_up m1 3 7 0 → (∀ m3, m3 = vm_up m2 3 8 0 → vm_cb G d mX3_skip [.inr (.inr 3), .inl 35] m3 (fun m4 r5 => (r5 = false → vm_ci G d mX3_take [.inr (.inr 3), .inl 65, .inl 68] m4 (fun m6 r7 => (∀ m8, m8 = vm_up m6 3 4 r7 → (vm_R (m8 3 4)) ∧ ((0 ≤ (m8 3 4) → vm_ci G d mX3_take [.inr (.inr 3), .inl 120, .inl 122] m8 (fun m10 r11 => (∀ m12, m12 = vm_up m10 3 5 r11 → (vm_R (m12 3 5)) ∧ (((m12 3 5) < 0 → vm_cb G d mX3_skip [.inr (.inr 3), .inl 60] m12 (fun m14 r15 => (r15 = false → vm_cb G d mX3_readOfThreeBags [.inr (.inr 3)] m14 (fun m16 r17 => Q m16 r17)) ∧ (r15 = true → (∀ m18, m18 = vm_up m14 3 3 5 → vm_ci G d mX3_take [.inr (.inr 3), .inl 65, .inl 68] m18 (fun m19 r20 => (∀ m21, m21 = vm_up m19 3 5 r20 → (vm_R (m21 3 5)) ∧ (((m21 3 5) < 0 → Q m21 false) ∧ (¬ (m21 3 5) < 0 → Q m21 true)))))))) ∧ (¬ (m12 3 5) < 0 → vm_cb G d mX3_readOfKind [.inr (.inr 3)] m12 (fun m23 r24 => Q m23 r24)))))) ∧ (¬ 0 ≤ (m8 3 4) → Q m8 false))))) ∧ (r5 = true → vm_cb G d mX3_readSize [.inr (.inr 3)] m4 (fun m25 r26 => Q m25 r26))))))) : vm_cb G (d + 1) mX3_readFact [.inr (.inr 3)] mem Q := by
  refine vm_enter (al := [some (.inr (.inr 3))]) 0 okX3_readFact (by decide +kernel) rfl rfl ?_
  refine ex_aload_n (pc := 0) 0 rfl rfl ?_
  refine ex_iconst (pc := 1) 1 rfl ?_
  have h := h _ rfl
  refine ex_puti (pc := 2) 6 2 rfl clk3 rfl rfl (Or.inl ww_239) rfl rfl rfl ?_
  generalize vm_up mem 3 _ 0 = m1 at h ⊢
  refine ex_aload_n (pc := 5) 3 rfl rfl ?_
  refine ex_iconst (pc := 6) 4 rfl ?_
  have h := h _ rfl
  refine ex_puti (pc := 7) 7 5 rfl clk3 rfl rfl (Or.inl ww_240) rfl rfl rfl ?_
  generalize vm_up m1 3 _ 0 = m2 at h ⊢
  refine ex_aload_n (pc := 10) 6 rfl rfl ?_
  refine ex_iconst (pc := 11) 7 rfl ?_
  have h := h _ rfl
  refine ex_puti (pc := 12) 8 8 rfl clk3 rfl rfl (Or.inl ww_241) rfl rfl rfl ?_
  generalize vm_up m2 3 _ 0 = m3 at h ⊢
  refine ex_aload_n (pc := 15) 9 rfl rfl ?_
  refine ex_bipush (pc := 16) 10 rfl (by decide) ?_
  refine ex_invV (pc := 18) (M' := mX3_skip) (As := [.inl 35]) (st := []) 11 rfl clk3 rfl rfl calX3_skip (Or.inl ww_667) rfl rfl ?_
  refine vm_call.mono h ?_
  rintro m4 _ ⟨r5, rfl, h⟩
  refine ex_if_eq (pc := 21) 29 12 rfl (by decide) (vm_b2i_R _) (fun hb => ?_) (fun hb => ?_)
  · have h := h.1 (vm_b2i_0.mp hb)
    refine ex_aload_n (pc := 29) 16 rfl rfl ?_
    refine ex_aload_n (pc := 30) 17 rfl rfl ?_
    refine ex_bipush (pc := 31) 18 rfl (by decide) ?_
    refine ex_bipush (pc := 33) 19 rfl (by decide) ?_
    refine ex_invV (pc := 35) (M' := mX3_take) (As := [.inl 65, .inl 68]) (st := [.inr (.inr 3)]) 20 rfl clk3 rfl rfl calX3_take (Or.inl ww_671) rfl rfl ?_
    refine vm_call.mono h ?_
    rintro m6 _ ⟨r7, rfl, h⟩
    have h := h _ rfl
    refine ex_puti (pc := 38) 4 21 rfl clk3 rfl rfl (Or.inl ww_237) rfl rfl rfl ?_
    generalize vm_up m6 3 _ r7 = m8 at h ⊢
    refine ex_aload_n (pc := 41) 22 rfl rfl ?_
    refine ex_geti (pc := 42) 4 23 rfl clk3 rfl rfl (Or.inl ww_237) rfl ?_
    obtain ⟨hs9, h⟩ := h
    refine ex_if_ge (pc := 45) 50 24 rfl (by decide) hs9 (fun hb => ?_) (fun hb => ?_)
    · have h := h.1 hb
      refine ex_aload_n (pc := 50) 27 rfl rfl ?_
      refine ex_aload_n (pc := 51) 28 rfl rfl ?_
      refine ex_bipush (pc := 52) 29 rfl (by decide) ?_
      refine ex_bipush (pc := 54) 30 rfl (by decide) ?_
      refine ex_invV (pc := 56) (M' := mX3_take) (As := [.inl 120, .inl 122]) (st := [.inr (.inr 3)]) 31 rfl clk3 rfl rfl calX3_take (Or.inl ww_671) rfl rfl ?_
      refine vm_call.mono h ?_
      rintro m10 _ ⟨r11, rfl, h⟩
      have h := h _ rfl
      refine ex_puti (pc := 59) 5 32 rfl clk3 rfl rfl (Or.inl ww_238) rfl rfl rfl ?_
      generalize vm_up m10 3 _ r11 = m12 at h ⊢
      refine ex_aload_n (pc := 62) 33 rfl rfl ?_
      refine ex_geti (pc := 63) 5 34 rfl clk3 rfl rfl (Or.inl ww_238) rfl ?_
      obtain ⟨hs13, h⟩ := h
      refine ex_if_lt (pc := 66) 74 35 rfl (by decide) hs13 (fun hb => ?_) (fun hb => ?_)
      · have h := h.1 hb
        refine ex_aload_n (pc := 74) 39 rfl rfl ?_
        refine ex_bipush (pc := 75) 40 rfl (by decide) ?_
        refine ex_invV (pc := 77) (M' := mX3_skip) (As := [.inl 60]) (st := []) 41 rfl clk3 rfl rfl calX3_skip (Or.inl ww_667) rfl rfl ?_
        refine vm_call.mono h ?_
        rintro m14 _ ⟨r15, rfl, h⟩
        refine ex_if_eq (pc := 80) 113 42 rfl (by decide) (vm_b2i_R _) (fun hb => ?_) (fun hb => ?_)
        · have h := h.1 (vm_b2i_0.mp hb)
          refine ex_aload_n (pc := 113) 59 rfl rfl ?_
          refine ex_invV (pc := 114) (M' := mX3_readOfThreeBags) (As := []) (st := []) 60 rfl clk3 rfl rfl calX3_readOfThreeBags (Or.inl ww_695) rfl rfl ?_
          refine vm_call.mono h ?_
          rintro m16 _ ⟨r17, rfl, h⟩
          exact ex_iret (pc := 117) 61 rfl (Or.inr ⟨rfl, vm_b2i_01 _⟩) ⟨_, rfl, h⟩
        · have h := h.2 (vm_b2i_n.mp hb)
          refine ex_aload_n (pc := 83) 43 rfl rfl ?_
          refine ex_iconst (pc := 84) 44 rfl ?_
          have h := h _ rfl
          refine ex_puti (pc := 85) 3 45 rfl clk3 rfl rfl (Or.inl ww_236) rfl rfl rfl ?_
          generalize vm_up m14 3 _ 5 = m18 at h ⊢
          refine ex_aload_n (pc := 88) 46 rfl rfl ?_
          refine ex_aload_n (pc := 89) 47 rfl rfl ?_
          refine ex_bipush (pc := 90) 48 rfl (by decide) ?_
          refine ex_bipush (pc := 92) 49 rfl (by decide) ?_
          refine ex_invV (pc := 94) (M' := mX3_take) (As := [.inl 65, .inl 68]) (st := [.inr (.inr 3)]) 50 rfl clk3 rfl rfl calX3_take (Or.inl ww_671) rfl rfl ?_
          refine vm_call.mono h ?_
          rintro m19 _ ⟨r20, rfl, h⟩
          have h := h _ rfl
          refine ex_puti (pc := 97) 5 51 rfl clk3 rfl rfl (Or.inl ww_238) rfl rfl rfl ?_
          generalize vm_up m19 3 _ r20 = m21 at h ⊢
          refine ex_aload_n (pc := 100) 52 rfl rfl ?_
          refine ex_geti (pc := 101) 5 53 rfl clk3 rfl rfl (Or.inl ww_238) rfl ?_
          obtain ⟨hs22, h⟩ := h
          refine ex_if_lt (pc := 104) 111 54 rfl (by decide) hs22 (fun hb => ?_) (fun hb => ?_)
          · have h := h.1 hb
            refine ex_iconst (pc := 111) 57 rfl ?_
            exact ex_iret (pc := 112) 58 rfl (Or.inr ⟨rfl, by decide⟩) ⟨false, rfl, h⟩
          · have h := h.2 hb
            refine ex_iconst (pc := 107) 55 rfl ?_
            refine ex_goto (pc := 108) 112 56 rfl (by decide) ?_
            exact ex_iret (pc := 112) 58 rfl (Or.inr ⟨rfl, by decide⟩) ⟨true, rfl, h⟩
      · have h := h.2 hb
        refine ex_aload_n (pc := 69) 36 rfl rfl ?_
        refine ex_invV (pc := 70) (M' := mX3_readOfKind) (As := []) (st := []) 37 rfl clk3 rfl rfl calX3_readOfKind (Or.inl ww_687) rfl rfl ?_
        refine vm_call.mono h ?_
        rintro m23 _ ⟨r24, rfl, h⟩
        exact ex_iret (pc := 73) 38 rfl (Or.inr ⟨rfl, vm_b2i_01 _⟩) ⟨_, rfl, h⟩
    · have h := h.2 hb
      refine ex_iconst (pc := 48) 25 rfl ?_
      exact ex_iret (pc := 49) 26 rfl (Or.inr ⟨rfl, by decide⟩) ⟨false, rfl, h⟩
  · have h := h.2 (vm_b2i_n.mp hb)
    refine ex_aload_n (pc := 24) 13 rfl rfl ?_
    refine ex_invV (pc := 25) (M' := mX3_readSize) (As := []) (st := []) 14 rfl clk3 rfl rfl calX3_readSize (Or.inl ww_675) rfl rfl ?_
    refine vm_call.mono h ?_
    rintro m25 _ ⟨r26, rfl, h⟩
    exact ex_iret (pc := 28) 15 rfl (Or.inr ⟨rfl, vm_b2i_01 _⟩) ⟨_, rfl, h⟩
set_option maxRecDepth 20000 in
theorem qX3_readSize {G : vm_G} {d : Nat}  {mem : vm_M} {Q : vm_M → Bool → Prop} (h : (∀ m1, m1 = vm_up mem 3 3 1 → vm_ci G d mX3_take [.inr (.inr 3), .inl 65, .inl 68] m1 (fun m2 r3 => (∀ m4, m4 = vm_up m2 3 4 r3 → (vm_R (m4 3 4)) ∧ (((m4 3 4) < 0 → Q m4 false) ∧ (¬ (m4 3 4) < 0 → vm_cb G d mX3_skip [.inr (.inr 3), .inl 61] m4 (fun m6 r7 => (r7 = true → vm_ci G d mX3_takeNumber [.inr (.inr 3)] m6 (fun m8 r9 => (∀ m10, m10 = vm_up m8 3 5 r9 → vm_ci G d mX3_takeRangeEnd [.inr (.inr 3), .inl (m10 3 5)] m10 (fun m11 r12 => (∀ m13, m13 = vm_up m11 3 6 r12 → (vm_R (m13 3 6)) ∧ (((m13 3 6) < 0 → Q m13 false) ∧ (¬ (m13 3 6) < 0 → Q m13 true))))))) ∧ (r7 = false → Q m6 false)))))))) : vm_cb G (d + 1) mX3_readSize [.inr (.inr 3)] mem Q := by
  refine vm_enter (al := [some (.inr (.inr 3))]) 0 okX3_readSize (by decide +kernel) rfl rfl ?_
  refine ex_aload_n (pc := 0) 0 rfl rfl ?_
  refine ex_iconst (pc := 1) 1 rfl ?_
  have h := h _ rfl
  refine ex_puti (pc := 2) 3 2 rfl clk3 rfl rfl (Or.inl ww_236) rfl rfl rfl ?_
  generalize vm_up mem 3 _ 1 = m1 at h ⊢
  refine ex_aload_n (pc := 5) 3 rfl rfl ?_
  refine ex_aload_n (pc := 6) 4 rfl rfl ?_
  refine ex_bipush (pc := 7) 5 rfl (by decide) ?_
  refine ex_bipush (pc := 9) 6 rfl (by decide) ?_
  refine ex_invV (pc := 11) (M' := mX3_take) (As := [.inl 65, .inl 68]) (st := [.inr (.inr 3)]) 7 rfl clk3 rfl rfl calX3_take (Or.inl ww_671) rfl rfl ?_
  refine vm_call.mono h ?_
  rintro m2 _ ⟨r3, rfl, h⟩
  have h := h _ rfl
  refine ex_puti (pc := 14) 4 8 rfl clk3 rfl rfl (Or.inl ww_237) rfl rfl rfl ?_
  generalize vm_up m2 3 _ r3 = m4 at h ⊢
  refine ex_aload_n (pc := 17) 9 rfl rfl ?_
  refine ex_geti (pc := 18) 4 10 rfl clk3 rfl rfl (Or.inl ww_237) rfl ?_
  obtain ⟨hs5, h⟩ := h
  refine ex_if_lt (pc := 21) 33 11 rfl (by decide) hs5 (fun hb => ?_) (fun hb => ?_)
  · have h := h.1 hb
    refine ex_iconst (pc := 33) 16 rfl ?_
    exact ex_iret (pc := 34) 17 rfl (Or.inr ⟨rfl, by decide⟩) ⟨false, rfl, h⟩
  · have h := h.2 hb
    refine ex_aload_n (pc := 24) 12 rfl rfl ?_
    refine ex_bipush (pc := 25) 13 rfl (by decide) ?_
    refine ex_invV (pc := 27) (M' := mX3_skip) (As := [.inl 61]) (st := []) 14 rfl clk3 rfl rfl calX3_skip (Or.inl ww_667) rfl rfl ?_
    refine vm_call.mono h ?_
    rintro m6 _ ⟨r7, rfl, h⟩
    refine ex_if_ne (pc := 30) 35 15 rfl (by decide) (vm_b2i_R _) (fun hb => ?_) (fun hb => ?_)
    · have h := h.1 (vm_b2i_n.mp hb)
      refine ex_aload_n (pc := 35) 18 rfl rfl ?_
      refine ex_aload_n (pc := 36) 19 rfl rfl ?_
      refine ex_invV (pc := 37) (M' := mX3_takeNumber) (As := []) (st := [.inr (.inr 3)]) 20 rfl clk3 rfl rfl calX3_takeNumber (Or.inl ww_679) rfl rfl ?_
      refine vm_call.mono h ?_
      rintro m8 _ ⟨r9, rfl, h⟩
      have h := h _ rfl
      refine ex_puti (pc := 40) 5 21 rfl clk3 rfl rfl (Or.inl ww_238) rfl rfl rfl ?_
      generalize vm_up m8 3 _ r9 = m10 at h ⊢
      refine ex_aload_n (pc := 43) 22 rfl rfl ?_
      refine ex_aload_n (pc := 44) 23 rfl rfl ?_
      refine ex_aload_n (pc := 45) 24 rfl rfl ?_
      refine ex_geti (pc := 46) 5 25 rfl clk3 rfl rfl (Or.inl ww_238) rfl ?_
      refine ex_invV (pc := 49) (M' := mX3_takeRangeEnd) (As := [.inl (m10 3 5)]) (st := [.inr (.inr 3)]) 26 rfl clk3 rfl rfl calX3_takeRangeEnd (Or.inl ww_683) rfl rfl ?_
      refine vm_call.mono h ?_
      rintro m11 _ ⟨r12, rfl, h⟩
      have h := h _ rfl
      refine ex_puti (pc := 52) 6 27 rfl clk3 rfl rfl (Or.inl ww_239) rfl rfl rfl ?_
      generalize vm_up m11 3 _ r12 = m13 at h ⊢
      refine ex_aload_n (pc := 55) 28 rfl rfl ?_
      refine ex_geti (pc := 56) 6 29 rfl clk3 rfl rfl (Or.inl ww_239) rfl ?_
      obtain ⟨hs14, h⟩ := h
      refine ex_if_lt (pc := 59) 66 30 rfl (by decide) hs14 (fun hb => ?_) (fun hb => ?_)
      · have h := h.1 hb
        refine ex_iconst (pc := 66) 33 rfl ?_
        exact ex_iret (pc := 67) 34 rfl (Or.inr ⟨rfl, by decide⟩) ⟨false, rfl, h⟩
      · have h := h.2 hb
        refine ex_iconst (pc := 62) 31 rfl ?_
        refine ex_goto (pc := 63) 67 32 rfl (by decide) ?_
        exact ex_iret (pc := 67) 34 rfl (Or.inr ⟨rfl, by decide⟩) ⟨true, rfl, h⟩
    · have h := h.2 (vm_b2i_0.mp hb)
      refine ex_iconst (pc := 33) 16 rfl ?_
      exact ex_iret (pc := 34) 17 rfl (Or.inr ⟨rfl, by decide⟩) ⟨false, rfl, h⟩
set_option maxRecDepth 20000 in
theorem qX3_readOfThreeBags {G : vm_G} {d : Nat}  {mem : vm_M} {Q : vm_M → Bool → Prop} (h : vm_ci G d mX3_takeSign [.inr (.inr 3)] mem (fun m1 r2 => (∀ m3, m3 = vm_up m1 3 3 r2 → (vm_R (m3 3 3)) ∧ ((0 ≤ (m3 3 3) → (∀ m5, m5 = vm_up m3 3 5 (m3 3 4) → vm_ci G d mX3_take [.inr (.inr 3), .inl 65, .inl 68] m5 (fun m6 r7 => (∀ m8, m8 = vm_up m6 3 6 r7 → (vm_R (m8 3 6)) ∧ (((m8 3 6) < 0 → Q m8 false) ∧ (¬ (m8 3 6) < 0 → vm_cb G d mX3_skip [.inr (.inr 3), .inl 61] m8 (fun m10 r11 => (r11 = true → vm_ci G d mX3_take [.inr (.inr 3), .inl 65, .inl 68] m10 (fun m12 r13 => (∀ m14, m14 = vm_up m12 3 4 r13 → (vm_R (m14 3 4)) ∧ (((m14 3 4) < 0 → Q m14 false) ∧ (¬ (m14 3 4) < 0 → Q m14 true))))) ∧ (r11 = false → Q m10 false)))))))) ∧ (¬ 0 ≤ (m3 3 3) → Q m3 false))))) : vm_cb G (d + 1) mX3_readOfThreeBags [.inr (.inr 3)] mem Q := by
  refine vm_enter (al := [some (.inr (.inr 3))]) 0 okX3_readOfThreeBags (by decide +kernel) rfl rfl ?_
  refine ex_aload_n (pc := 0) 0 rfl rfl ?_
  refine ex_aload_n (pc := 1) 1 rfl rfl ?_
  refine ex_invV (pc := 2) (M' := mX3_takeSign) (As := []) (st := [.inr (.inr 3)]) 2 rfl clk3 rfl rfl calX3_takeSign (Or.inl ww_699) rfl rfl ?_
  refine vm_call.mono h ?_
  rintro m1 _ ⟨r2, rfl, h⟩
  have h := h _ rfl
  refine ex_puti (pc := 5) 3 3 rfl clk3 rfl rfl (Or.inl ww_236) rfl rfl rfl ?_
  generalize vm_up m1 3 _ r2 = m3 at h ⊢
  refine ex_aload_n (pc := 8) 4 rfl rfl ?_
  refine ex_geti (pc := 9) 3 5 rfl clk3 rfl rfl (Or.inl ww_236) rfl ?_
  obtain ⟨hs4, h⟩ := h
  refine ex_if_ge (pc := 12) 17 6 rfl (by decide) hs4 (fun hb => ?_) (fun hb => ?_)
  · have h := h.1 hb
    refine ex_aload_n (pc := 17) 9 rfl rfl ?_
    refine ex_aload_n (pc := 18) 10 rfl rfl ?_
    refine ex_geti (pc := 19) 4 11 rfl clk3 rfl rfl (Or.inl ww_237) rfl ?_
    have h := h _ rfl
    refine ex_puti (pc := 22) 5 12 rfl clk3 rfl rfl (Or.inl ww_238) rfl rfl rfl ?_
    generalize vm_up m3 3 _ (m3 3 4) = m5 at h ⊢
    refine ex_aload_n (pc := 25) 13 rfl rfl ?_
    refine ex_aload_n (pc := 26) 14 rfl rfl ?_
    refine ex_bipush (pc := 27) 15 rfl (by decide) ?_
    refine ex_bipush (pc := 29) 16 rfl (by decide) ?_
    refine ex_invV (pc := 31) (M' := mX3_take) (As := [.inl 65, .inl 68]) (st := [.inr (.inr 3)]) 17 rfl clk3 rfl rfl calX3_take (Or.inl ww_671) rfl rfl ?_
    refine vm_call.mono h ?_
    rintro m6 _ ⟨r7, rfl, h⟩
    have h := h _ rfl
    refine ex_puti (pc := 34) 6 18 rfl clk3 rfl rfl (Or.inl ww_239) rfl rfl rfl ?_
    generalize vm_up m6 3 _ r7 = m8 at h ⊢
    refine ex_aload_n (pc := 37) 19 rfl rfl ?_
    refine ex_geti (pc := 38) 6 20 rfl clk3 rfl rfl (Or.inl ww_239) rfl ?_
    obtain ⟨hs9, h⟩ := h
    refine ex_if_lt (pc := 41) 53 21 rfl (by decide) hs9 (fun hb => ?_) (fun hb => ?_)
    · have h := h.1 hb
      refine ex_iconst (pc := 53) 26 rfl ?_
      exact ex_iret (pc := 54) 27 rfl (Or.inr ⟨rfl, by decide⟩) ⟨false, rfl, h⟩
    · have h := h.2 hb
      refine ex_aload_n (pc := 44) 22 rfl rfl ?_
      refine ex_bipush (pc := 45) 23 rfl (by decide) ?_
      refine ex_invV (pc := 47) (M' := mX3_skip) (As := [.inl 61]) (st := []) 24 rfl clk3 rfl rfl calX3_skip (Or.inl ww_667) rfl rfl ?_
      refine vm_call.mono h ?_
      rintro m10 _ ⟨r11, rfl, h⟩
      refine ex_if_ne (pc := 50) 55 25 rfl (by decide) (vm_b2i_R _) (fun hb => ?_) (fun hb => ?_)
      · have h := h.1 (vm_b2i_n.mp hb)
        refine ex_aload_n (pc := 55) 28 rfl rfl ?_
        refine ex_aload_n (pc := 56) 29 rfl rfl ?_
        refine ex_bipush (pc := 57) 30 rfl (by decide) ?_
        refine ex_bipush (pc := 59) 31 rfl (by decide) ?_
        refine ex_invV (pc := 61) (M' := mX3_take) (As := [.inl 65, .inl 68]) (st := [.inr (.inr 3)]) 32 rfl clk3 rfl rfl calX3_take (Or.inl ww_671) rfl rfl ?_
        refine vm_call.mono h ?_
        rintro m12 _ ⟨r13, rfl, h⟩
        have h := h _ rfl
        refine ex_puti (pc := 64) 4 33 rfl clk3 rfl rfl (Or.inl ww_237) rfl rfl rfl ?_
        generalize vm_up m12 3 _ r13 = m14 at h ⊢
        refine ex_aload_n (pc := 67) 34 rfl rfl ?_
        refine ex_geti (pc := 68) 4 35 rfl clk3 rfl rfl (Or.inl ww_237) rfl ?_
        obtain ⟨hs15, h⟩ := h
        refine ex_if_lt (pc := 71) 78 36 rfl (by decide) hs15 (fun hb => ?_) (fun hb => ?_)
        · have h := h.1 hb
          refine ex_iconst (pc := 78) 39 rfl ?_
          exact ex_iret (pc := 79) 40 rfl (Or.inr ⟨rfl, by decide⟩) ⟨false, rfl, h⟩
        · have h := h.2 hb
          refine ex_iconst (pc := 74) 37 rfl ?_
          refine ex_goto (pc := 75) 79 38 rfl (by decide) ?_
          exact ex_iret (pc := 79) 40 rfl (Or.inr ⟨rfl, by decide⟩) ⟨true, rfl, h⟩
      · have h := h.2 (vm_b2i_0.mp hb)
        refine ex_iconst (pc := 53) 26 rfl ?_
        exact ex_iret (pc := 54) 27 rfl (Or.inr ⟨rfl, by decide⟩) ⟨false, rfl, h⟩
  · have h := h.2 hb
    refine ex_iconst (pc := 15) 7 rfl ?_
    exact ex_iret (pc := 16) 8 rfl (Or.inr ⟨rfl, by decide⟩) ⟨false, rfl, h⟩
set_option maxRecDepth 20000 in
theorem qX3_readOfKind {G : vm_G} {d : Nat}  {mem : vm_M} {Q : vm_M → Bool → Prop} (h : vm_cb G d mX3_skip [.inr (.inr 3), .inl 61] mem (fun m1 r2 => (r2 = false → (∀ m3, m3 = vm_up m1 3 3 6 → vm_cb G d mX3_skip [.inr (.inr 3), .inl 62] m3 (fun m4 r5 => (r5 = true → vm_ci G d mX3_take [.inr (.inr 3), .inl 65, .inl 68] m4 (fun m6 r7 => (∀ m8, m8 = vm_up m6 3 6 r7 → (vm_R (m8 3 6)) ∧ ((0 ≤ (m8 3 6) → vm_ci G d mX3_take [.inr (.inr 3), .inl 120, .inl 122] m8 (fun m10 r11 => (∀ m12, m12 = vm_up m10 3 7 r11 → (vm_R (m12 3 7)) ∧ (((m12 3 7) < 0 → Q m12 false) ∧ (¬ (m12 3 7) < 0 → vm_cb G d mX3_readDifference [.inr (.inr 3)] m12 (fun m14 r15 => (r15 = false → Q m14 false) ∧ (r15 = true → Q m14 true))))))) ∧ (¬ 0 ≤ (m8 3 6) → Q m8 false))))) ∧ (r5 = false → Q m4 false)))) ∧ (r2 = true → (∀ m16, m16 = vm_up m1 3 3 0 → vm_ci G d mX3_takeNumber [.inr (.inr 3)] m16 (fun m17 r18 => (∀ m19, m19 = vm_up m17 3 6 r18 → vm_ci G d mX3_takeRangeEnd [.inr (.inr 3), .inl (m19 3 6)] m19 (fun m20 r21 => (∀ m22, m22 = vm_up m20 3 7 r21 → (vm_R (m22 3 7)) ∧ (((m22 3 7) < 0 → Q m22 false) ∧ (¬ (m22 3 7) < 0 → Q m22 true)))))))))) : vm_cb G (d + 1) mX3_readOfKind [.inr (.inr 3)] mem Q := by
  refine vm_enter (al := [some (.inr (.inr 3))]) 0 okX3_readOfKind (by decide +kernel) rfl rfl ?_
  refine ex_aload_n (pc := 0) 0 rfl rfl ?_
  refine ex_bipush (pc := 1) 1 rfl (by decide) ?_
  refine ex_invV (pc := 3) (M' := mX3_skip) (As := [.inl 61]) (st := []) 2 rfl clk3 rfl rfl calX3_skip (Or.inl ww_667) rfl rfl ?_
  refine vm_call.mono h ?_
  rintro m1 _ ⟨r2, rfl, h⟩
  refine ex_if_eq (pc := 6) 47 3 rfl (by decide) (vm_b2i_R _) (fun hb => ?_) (fun hb => ?_)
  · have h := h.1 (vm_b2i_0.mp hb)
    refine ex_aload_n (pc := 47) 24 rfl rfl ?_
    refine ex_bipush (pc := 48) 25 rfl (by decide) ?_
    have h := h _ rfl
    refine ex_puti (pc := 50) 3 26 rfl clk3 rfl rfl (Or.inl ww_236) rfl rfl rfl ?_
    generalize vm_up m1 3 _ 6 = m3 at h ⊢
    refine ex_aload_n (pc := 53) 27 rfl rfl ?_
    refine ex_bipush (pc := 54) 28 rfl (by decide) ?_
    refine ex_invV (pc := 56) (M' := mX3_skip) (As := [.inl 62]) (st := []) 29 rfl clk3 rfl rfl calX3_skip (Or.inl ww_667) rfl rfl ?_
    refine vm_call.mono h ?_
    rintro m4 _ ⟨r5, rfl, h⟩
    refine ex_if_ne (pc := 59) 64 30 rfl (by decide) (vm_b2i_R _) (fun hb => ?_) (fun hb => ?_)
    · have h := h.1 (vm_b2i_n.mp hb)
      refine ex_aload_n (pc := 64) 33 rfl rfl ?_
      refine ex_aload_n (pc := 65) 34 rfl rfl ?_
      refine ex_bipush (pc := 66) 35 rfl (by decide) ?_
      refine ex_bipush (pc := 68) 36 rfl (by decide) ?_
      refine ex_invV (pc := 70) (M' := mX3_take) (As := [.inl 65, .inl 68]) (st := [.inr (.inr 3)]) 37 rfl clk3 rfl rfl calX3_take (Or.inl ww_671) rfl rfl ?_
      refine vm_call.mono h ?_
      rintro m6 _ ⟨r7, rfl, h⟩
      have h := h _ rfl
      refine ex_puti (pc := 73) 6 38 rfl clk3 rfl rfl (Or.inl ww_239) rfl rfl rfl ?_
      generalize vm_up m6 3 _ r7 = m8 at h ⊢
      refine ex_aload_n (pc := 76) 39 rfl rfl ?_
      refine ex_geti (pc := 77) 6 40 rfl clk3 rfl rfl (Or.inl ww_239) rfl ?_
      obtain ⟨hs9, h⟩ := h
      refine ex_if_ge (pc := 80) 85 41 rfl (by decide) hs9 (fun hb => ?_) (fun hb => ?_)
      · have h := h.1 hb
        refine ex_aload_n (pc := 85) 44 rfl rfl ?_
        refine ex_aload_n (pc := 86) 45 rfl rfl ?_
        refine ex_bipush (pc := 87) 46 rfl (by decide) ?_
        refine ex_bipush (pc := 89) 47 rfl (by decide) ?_
        refine ex_invV (pc := 91) (M' := mX3_take) (As := [.inl 120, .inl 122]) (st := [.inr (.inr 3)]) 48 rfl clk3 rfl rfl calX3_take (Or.inl ww_671) rfl rfl ?_
        refine vm_call.mono h ?_
        rintro m10 _ ⟨r11, rfl, h⟩
        have h := h _ rfl
        refine ex_puti (pc := 94) 7 49 rfl clk3 rfl rfl (Or.inl ww_240) rfl rfl rfl ?_
        generalize vm_up m10 3 _ r11 = m12 at h ⊢
        refine ex_aload_n (pc := 97) 50 rfl rfl ?_
        refine ex_geti (pc := 98) 7 51 rfl clk3 rfl rfl (Or.inl ww_240) rfl ?_
        obtain ⟨hs13, h⟩ := h
        refine ex_if_lt (pc := 101) 115 52 rfl (by decide) hs13 (fun hb => ?_) (fun hb => ?_)
        · have h := h.1 hb
          refine ex_iconst (pc := 115) 58 rfl ?_
          exact ex_iret (pc := 116) 59 rfl (Or.inr ⟨rfl, by decide⟩) ⟨false, rfl, h⟩
        · have h := h.2 hb
          refine ex_aload_n (pc := 104) 53 rfl rfl ?_
          refine ex_invV (pc := 105) (M' := mX3_readDifference) (As := []) (st := []) 54 rfl clk3 rfl rfl calX3_readDifference (Or.inl ww_691) rfl rfl ?_
          refine vm_call.mono h ?_
          rintro m14 _ ⟨r15, rfl, h⟩
          refine ex_if_eq (pc := 108) 115 55 rfl (by decide) (vm_b2i_R _) (fun hb => ?_) (fun hb => ?_)
          · have h := h.1 (vm_b2i_0.mp hb)
            refine ex_iconst (pc := 115) 58 rfl ?_
            exact ex_iret (pc := 116) 59 rfl (Or.inr ⟨rfl, by decide⟩) ⟨false, rfl, h⟩
          · have h := h.2 (vm_b2i_n.mp hb)
            refine ex_iconst (pc := 111) 56 rfl ?_
            refine ex_goto (pc := 112) 116 57 rfl (by decide) ?_
            exact ex_iret (pc := 116) 59 rfl (Or.inr ⟨rfl, by decide⟩) ⟨true, rfl, h⟩
      · have h := h.2 hb
        refine ex_iconst (pc := 83) 42 rfl ?_
        exact ex_iret (pc := 84) 43 rfl (Or.inr ⟨rfl, by decide⟩) ⟨false, rfl, h⟩
    · have h := h.2 (vm_b2i_0.mp hb)
      refine ex_iconst (pc := 62) 31 rfl ?_
      exact ex_iret (pc := 63) 32 rfl (Or.inr ⟨rfl, by decide⟩) ⟨false, rfl, h⟩
  · have h := h.2 (vm_b2i_n.mp hb)
    refine ex_aload_n (pc := 9) 4 rfl rfl ?_
    refine ex_iconst (pc := 10) 5 rfl ?_
    have h := h _ rfl
    refine ex_puti (pc := 11) 3 6 rfl clk3 rfl rfl (Or.inl ww_236) rfl rfl rfl ?_
    generalize vm_up m1 3 _ 0 = m16 at h ⊢
    refine ex_aload_n (pc := 14) 7 rfl rfl ?_
    refine ex_aload_n (pc := 15) 8 rfl rfl ?_
    refine ex_invV (pc := 16) (M' := mX3_takeNumber) (As := []) (st := [.inr (.inr 3)]) 9 rfl clk3 rfl rfl calX3_takeNumber (Or.inl ww_679) rfl rfl ?_
    refine vm_call.mono h ?_
    rintro m17 _ ⟨r18, rfl, h⟩
    have h := h _ rfl
    refine ex_puti (pc := 19) 6 10 rfl clk3 rfl rfl (Or.inl ww_239) rfl rfl rfl ?_
    generalize vm_up m17 3 _ r18 = m19 at h ⊢
    refine ex_aload_n (pc := 22) 11 rfl rfl ?_
    refine ex_aload_n (pc := 23) 12 rfl rfl ?_
    refine ex_aload_n (pc := 24) 13 rfl rfl ?_
    refine ex_geti (pc := 25) 6 14 rfl clk3 rfl rfl (Or.inl ww_239) rfl ?_
    refine ex_invV (pc := 28) (M' := mX3_takeRangeEnd) (As := [.inl (m19 3 6)]) (st := [.inr (.inr 3)]) 15 rfl clk3 rfl rfl calX3_takeRangeEnd (Or.inl ww_683) rfl rfl ?_
    refine vm_call.mono h ?_
    rintro m20 _ ⟨r21, rfl, h⟩
    have h := h _ rfl
    refine ex_puti (pc := 31) 7 16 rfl clk3 rfl rfl (Or.inl ww_240) rfl rfl rfl ?_
    generalize vm_up m20 3 _ r21 = m22 at h ⊢
    refine ex_aload_n (pc := 34) 17 rfl rfl ?_
    refine ex_geti (pc := 35) 7 18 rfl clk3 rfl rfl (Or.inl ww_240) rfl ?_
    obtain ⟨hs23, h⟩ := h
    refine ex_if_lt (pc := 38) 45 19 rfl (by decide) hs23 (fun hb => ?_) (fun hb => ?_)
    · have h := h.1 hb
      refine ex_iconst (pc := 45) 22 rfl ?_
      exact ex_iret (pc := 46) 23 rfl (Or.inr ⟨rfl, by decide⟩) ⟨false, rfl, h⟩
    · have h := h.2 hb
      refine ex_iconst (pc := 41) 20 rfl ?_
      refine ex_goto (pc := 42) 46 21 rfl (by decide) ?_
      exact ex_iret (pc := 46) 23 rfl (Or.inr ⟨rfl, by decide⟩) ⟨true, rfl, h⟩
set_option maxRecDepth 20000 in
theorem qX3_readDifference {G : vm_G} {d : Nat}  {mem : vm_M} {Q : vm_M → Bool → Prop} (h : vm_cb G d mX3_skip [.inr (.inr 3), .inl 43] mem (fun m1 r2 => (r2 = false → vm_cb G d mX3_skip [.inr (.inr 3), .inl 45] m1 (fun m3 r4 => (r4 = false → Q m3 true) ∧ (r4 = true → vm_ci G d mX3_take [.inr (.inr 3), .inl 48, .inl 54] m3 (fun m5 r6 => (∀ m7, m7 = vm_up m5 3 8 (-r6) → (vm_R r6) ∧ ((r6 < 0 → Q m7 false) ∧ (¬ r6 < 0 → Q m7 true))))))) ∧ (r2 = true → vm_ci G d mX3_take [.inr (.inr 3), .inl 48, .inl 54] m1 (fun m9 r10 => (∀ m11, m11 = vm_up m9 3 8 r10 → (vm_R (m11 3 8)) ∧ (((m11 3 8) < 0 → Q m11 false) ∧ (¬ (m11 3 8) < 0 → Q m11 true))))))) : vm_cb G (d + 1) mX3_readDifference [.inr (.inr 3)] mem Q := by
  refine vm_enter (al := [some (.inr (.inr 3)), none]) 1 okX3_readDifference (by decide +kernel) rfl rfl ?_
  refine ex_aload_n (pc := 0) 0 rfl rfl ?_
  refine ex_bipush (pc := 1) 1 rfl (by decide) ?_
  refine ex_invV (pc := 3) (M' := mX3_skip) (As := [.inl 43]) (st := []) 2 rfl clk3 rfl rfl calX3_skip (Or.inl ww_667) rfl rfl ?_
  refine vm_call.mono h ?_
  rintro m1 _ ⟨r2, rfl, h⟩
  refine ex_if_eq (pc := 6) 34 3 rfl (by decide) (vm_b2i_R _) (fun hb => ?_) (fun hb => ?_)
  · have h := h.1 (vm_b2i_0.mp hb)
    refine ex_aload_n (pc := 34) 17 rfl rfl ?_
    refine ex_bipush (pc := 35) 18 rfl (by decide) ?_
    refine ex_invV (pc := 37) (M' := mX3_skip) (As := [.inl 45]) (st := []) 19 rfl clk3 rfl rfl calX3_skip (Or.inl ww_667) rfl rfl ?_
    refine vm_call.mono h ?_
    rintro m3 _ ⟨r4, rfl, h⟩
    refine ex_if_eq (pc := 40) 68 20 rfl (by decide) (vm_b2i_R _) (fun hb => ?_) (fun hb => ?_)
    · have h := h.1 (vm_b2i_0.mp hb)
      refine ex_iconst (pc := 68) 36 rfl ?_
      exact ex_iret (pc := 69) 37 rfl (Or.inr ⟨rfl, by decide⟩) ⟨true, rfl, h⟩
    · have h := h.2 (vm_b2i_n.mp hb)
      refine ex_aload_n (pc := 43) 21 rfl rfl ?_
      refine ex_bipush (pc := 44) 22 rfl (by decide) ?_
      refine ex_bipush (pc := 46) 23 rfl (by decide) ?_
      refine ex_invV (pc := 48) (M' := mX3_take) (As := [.inl 48, .inl 54]) (st := []) 24 rfl clk3 rfl rfl calX3_take (Or.inl ww_671) rfl rfl ?_
      refine vm_call.mono h ?_
      rintro m5 _ ⟨r6, rfl, h⟩
      refine ex_istore_n (pc := 51) 25 rfl rfl rfl ?_
      refine ex_aload_n (pc := 52) 26 rfl rfl ?_
      refine ex_iload_n (pc := 53) 27 rfl rfl ?_
      refine ex_ineg (pc := 54) 28 rfl ?_
      have h := h _ rfl
      refine ex_puti (pc := 55) 8 29 rfl clk3 rfl rfl (Or.inl ww_241) rfl rfl rfl ?_
      generalize vm_up m5 3 _ (-r6) = m7 at h ⊢
      refine ex_iload_n (pc := 58) 30 rfl rfl ?_
      obtain ⟨hs8, h⟩ := h
      refine ex_if_lt (pc := 59) 66 31 rfl (by decide) hs8 (fun hb => ?_) (fun hb => ?_)
      · have h := h.1 hb
        refine ex_iconst (pc := 66) 34 rfl ?_
        exact ex_iret (pc := 67) 35 rfl (Or.inr ⟨rfl, by decide⟩) ⟨false, rfl, h⟩
      · have h := h.2 hb
        refine ex_iconst (pc := 62) 32 rfl ?_
        refine ex_goto (pc := 63) 67 33 rfl (by decide) ?_
        exact ex_iret (pc := 67) 35 rfl (Or.inr ⟨rfl, by decide⟩) ⟨true, rfl, h⟩
  · have h := h.2 (vm_b2i_n.mp hb)
    refine ex_aload_n (pc := 9) 4 rfl rfl ?_
    refine ex_aload_n (pc := 10) 5 rfl rfl ?_
    refine ex_bipush (pc := 11) 6 rfl (by decide) ?_
    refine ex_bipush (pc := 13) 7 rfl (by decide) ?_
    refine ex_invV (pc := 15) (M' := mX3_take) (As := [.inl 48, .inl 54]) (st := [.inr (.inr 3)]) 8 rfl clk3 rfl rfl calX3_take (Or.inl ww_671) rfl rfl ?_
    refine vm_call.mono h ?_
    rintro m9 _ ⟨r10, rfl, h⟩
    have h := h _ rfl
    refine ex_puti (pc := 18) 8 9 rfl clk3 rfl rfl (Or.inl ww_241) rfl rfl rfl ?_
    generalize vm_up m9 3 _ r10 = m11 at h ⊢
    refine ex_aload_n (pc := 21) 10 rfl rfl ?_
    refine ex_geti (pc := 22) 8 11 rfl clk3 rfl rfl (Or.inl ww_241) rfl ?_
    obtain ⟨hs12, h⟩ := h
    refine ex_if_lt (pc := 25) 32 12 rfl (by decide) hs12 (fun hb => ?_) (fun hb => ?_)
    · have h := h.1 hb
      refine ex_iconst (pc := 32) 15 rfl ?_
      exact ex_iret (pc := 33) 16 rfl (Or.inr ⟨rfl, by decide⟩) ⟨false, rfl, h⟩
    · have h := h.2 hb
      refine ex_iconst (pc := 28) 13 rfl ?_
      refine ex_goto (pc := 29) 33 14 rfl (by decide) ?_
      exact ex_iret (pc := 33) 16 rfl (Or.inr ⟨rfl, by decide⟩) ⟨true, rfl, h⟩
set_option maxRecDepth 20000 in
theorem qX3_takeSign {G : vm_G} {d : Nat}  {mem : vm_M} {Q : vm_M → Int → Prop} (h : vm_cb G d mX3_skip [.inr (.inr 3), .inl 43] mem (fun m1 r2 => (r2 = false → vm_cb G d mX3_skip [.inr (.inr 3), .inl 124] m1 (fun m3 r4 => (r4 = false → vm_cb G d mX3_skip [.inr (.inr 3), .inl 38] m3 (fun m5 r6 => (r6 = false → Q m5 (-1)) ∧ (r6 = true → Q m5 4))) ∧ (r4 = true → Q m3 3))) ∧ (r2 = true → Q m1 2))) : vm_ci G (d + 1) mX3_takeSign [.inr (.inr 3)] mem Q := by
  refine vm_enter (al := [some (.inr (.inr 3))]) 0 okX3_takeSign (by decide +kernel) rfl rfl ?_
  refine ex_aload_n (pc := 0) 0 rfl rfl ?_
  refine ex_bipush (pc := 1) 1 rfl (by decide) ?_
  refine ex_invV (pc := 3) (M' := mX3_skip) (As := [.inl 43]) (st := []) 2 rfl clk3 rfl rfl calX3_skip (Or.inl ww_667) rfl rfl ?_
  refine vm_call.mono h ?_
  rintro m1 _ ⟨r2, rfl, h⟩
  refine ex_if_eq (pc := 6) 11 3 rfl (by decide) (vm_b2i_R _) (fun hb => ?_) (fun hb => ?_)
  · have h := h.1 (vm_b2i_0.mp hb)
    refine ex_aload_n (pc := 11) 6 rfl rfl ?_
    refine ex_bipush (pc := 12) 7 rfl (by decide) ?_
    refine ex_invV (pc := 14) (M' := mX3_skip) (As := [.inl 124]) (st := []) 8 rfl clk3 rfl rfl calX3_skip (Or.inl ww_667) rfl rfl ?_
    refine vm_call.mono h ?_
    rintro m3 _ ⟨r4, rfl, h⟩
    refine ex_if_eq (pc := 17) 22 9 rfl (by decide) (vm_b2i_R _) (fun hb => ?_) (fun hb => ?_)
    · have h := h.1 (vm_b2i_0.mp hb)
      refine ex_aload_n (pc := 22) 12 rfl rfl ?_
      refine ex_bipush (pc := 23) 13 rfl (by decide) ?_
      refine ex_invV (pc := 25) (M' := mX3_skip) (As := [.inl 38]) (st := []) 14 rfl clk3 rfl rfl calX3_skip (Or.inl ww_667) rfl rfl ?_
      refine vm_call.mono h ?_
      rintro m5 _ ⟨r6, rfl, h⟩
      refine ex_if_eq (pc := 28) 35 15 rfl (by decide) (vm_b2i_R _) (fun hb => ?_) (fun hb => ?_)
      · have h := h.1 (vm_b2i_0.mp hb)
        refine ex_iconst (pc := 35) 18 rfl ?_
        exact ex_iret (pc := 36) 19 rfl (Or.inl rfl) ⟨_, rfl, h⟩
      · have h := h.2 (vm_b2i_n.mp hb)
        refine ex_iconst (pc := 31) 16 rfl ?_
        refine ex_goto (pc := 32) 36 17 rfl (by decide) ?_
        exact ex_iret (pc := 36) 19 rfl (Or.inl rfl) ⟨_, rfl, h⟩
    · have h := h.2 (vm_b2i_n.mp hb)
      refine ex_iconst (pc := 20) 10 rfl ?_
      exact ex_iret (pc := 21) 11 rfl (Or.inl rfl) ⟨_, rfl, h⟩
  · have h := h.2 (vm_b2i_n.mp hb)
    refine ex_iconst (pc := 9) 4 rfl ?_
    exact ex_iret (pc := 10) 5 rfl (Or.inl rfl) ⟨_, rfl, h⟩
set_option maxRecDepth 20000 in
theorem qX3_takeRangeEnd {G : vm_G} {d : Nat} {p1 : Int} {mem : vm_M} {Q : vm_M → Int → Prop} (h : (vm_R p1) ∧ ((0 ≤ p1 → vm_cb G d mX3_skip [.inr (.inr 3), .inl 45] mem (fun m2 r3 => (r3 = false → Q m2 p1) ∧ (r3 = true → vm_ci G d mX3_takeNumber [.inr (.inr 3)] m2 (fun m4 r5 => Q m4 r5)))) ∧ (¬ 0 ≤ p1 → Q mem (-1)))) : vm_ci G (d + 1) mX3_takeRangeEnd [.inr (.inr 3), .inl p1] mem Q := by
  refine vm_enter (al := [some (.inr (.inr 3)), some (.inl p1)]) 0 okX3_takeRangeEnd (by decide +kernel) rfl rfl ?_
  refine ex_iload_n (pc := 0) 0 rfl rfl ?_
  obtain ⟨hs1, h⟩ := h
  refine ex_if_ge (pc := 1) 6 1 rfl (by decide) hs1 (fun hb => ?_) (fun hb => ?_)
  · have h := h.1 hb
    refine ex_aload_n (pc := 6) 4 rfl rfl ?_
    refine ex_bipush (pc := 7) 5 rfl (by decide) ?_
    refine ex_invV (pc := 9) (M' := mX3_skip) (As := [.inl 45]) (st := []) 6 rfl clk3 rfl rfl calX3_skip (Or.inl ww_667) rfl rfl ?_
    refine vm_call.mono h ?_
    rintro m2 _ ⟨r3, rfl, h⟩
    refine ex_if_eq (pc := 12) 22 7 rfl (by decide) (vm_b2i_R _) (fun hb => ?_) (fun hb => ?_)
    · have h := h.1 (vm_b2i_0.mp hb)
      refine ex_iload_n (pc := 22) 11 rfl rfl ?_
      exact ex_iret (pc := 23) 12 rfl (Or.inl rfl) ⟨_, rfl, h⟩
    · have h := h.2 (vm_b2i_n.mp hb)
      refine ex_aload_n (pc := 15) 8 rfl rfl ?_
      refine ex_invV (pc := 16) (M' := mX3_takeNumber) (As := []) (st := []) 9 rfl clk3 rfl rfl calX3_takeNumber (Or.inl ww_679) rfl rfl ?_
      refine vm_call.mono h ?_
      rintro m4 _ ⟨r5, rfl, h⟩
      refine ex_goto (pc := 19) 23 10 rfl (by decide) ?_
      exact ex_iret (pc := 23) 12 rfl (Or.inl rfl) ⟨_, rfl, h⟩
  · have h := h.2 hb
    refine ex_iconst (pc := 4) 2 rfl ?_
    exact ex_iret (pc := 5) 3 rfl (Or.inl rfl) ⟨_, rfl, h⟩
set_option maxRecDepth 20000 in
theorem qX3_takeNumber {G : vm_G} {d : Nat}  {mem : vm_M} {Q : vm_M → Int → Prop} (h : vm_ci G d mX3_take [.inr (.inr 3), .inl 48, .inl 57] mem (fun m1 r2 => (vm_R r2) ∧ ((r2 = 1 → vm_ci G d mX3_take [.inr (.inr 3), .inl 48, .inl 56] m1 (fun m4 r5 => (vm_R r5) ∧ ((0 ≤ r5 → Q m4 (10 + r5)) ∧ (¬ 0 ≤ r5 → Q m4 1)))) ∧ (¬ r2 = 1 → Q m1 r2)))) : vm_ci G (d + 1) mX3_takeNumber [.inr (.inr 3)] mem Q := by
  refine vm_enter (al := [some (.inr (.inr 3)), none, none]) 2 okX3_takeNumber (by decide +kernel) rfl rfl ?_
  refine ex_aload_n (pc := 0) 0 rfl rfl ?_
  refine ex_bipush (pc := 1) 1 rfl (by decide) ?_
  refine ex_bipush (pc := 3) 2 rfl (by decide) ?_
  refine ex_invV (pc := 5) (M' := mX3_take) (As := [.inl 48, .inl 57]) (st := []) 3 rfl clk3 rfl rfl calX3_take (Or.inl ww_671) rfl rfl ?_
  refine vm_call.mono h ?_
  rintro m1 _ ⟨r2, rfl, h⟩
  refine ex_istore_n (pc := 8) 4 rfl rfl rfl ?_
  refine ex_iload_n (pc := 9) 5 rfl rfl ?_
  refine ex_iconst (pc := 10) 6 rfl ?_
  obtain ⟨hs3, h⟩ := h
  refine ex_icmp_eq (pc := 11) 16 7 rfl (by decide) hs3 ⟨by decide, by decide⟩ (fun hb => ?_) (fun hb => ?_)
  · have h := h.1 hb
    refine ex_aload_n (pc := 16) 10 rfl rfl ?_
    refine ex_bipush (pc := 17) 11 rfl (by decide) ?_
    refine ex_bipush (pc := 19) 12 rfl (by decide) ?_
    refine ex_invV (pc := 21) (M' := mX3_take) (As := [.inl 48, .inl 56]) (st := []) 13 rfl clk3 rfl rfl calX3_take (Or.inl ww_671) rfl rfl ?_
    refine vm_call.mono h ?_
    rintro m4 _ ⟨r5, rfl, h⟩
    refine ex_istore_n (pc := 24) 14 rfl rfl rfl ?_
    refine ex_iload_n (pc := 25) 15 rfl rfl ?_
    obtain ⟨hs6, h⟩ := h
    refine ex_if_ge (pc := 26) 33 16 rfl (by decide) hs6 (fun hb => ?_) (fun hb => ?_)
    · have h := h.1 hb
      refine ex_bipush (pc := 33) 19 rfl (by decide) ?_
      refine ex_iload_n (pc := 35) 20 rfl rfl ?_
      refine ex_iadd (pc := 36) 21 rfl ?_
      exact ex_iret (pc := 37) 22 rfl (Or.inl rfl) ⟨_, rfl, h⟩
    · have h := h.2 hb
      refine ex_iconst (pc := 29) 17 rfl ?_
      refine ex_goto (pc := 30) 37 18 rfl (by decide) ?_
      exact ex_iret (pc := 37) 22 rfl (Or.inl rfl) ⟨_, rfl, h⟩
  · have h := h.2 hb
    refine ex_iload_n (pc := 14) 8 rfl rfl ?_
    exact ex_iret (pc := 15) 9 rfl (Or.inl rfl) ⟨_, rfl, h⟩
set_option maxRecDepth 20000 in
theorem qX3_skip {G : vm_G} {d : Nat} {p1 : Int} {mem : vm_M} {Q : vm_M → Bool → Prop} (h : vm_ci G d mX3_take [.inr (.inr 3), .inl p1, .inl p1] mem (fun m1 r2 => (vm_R r2) ∧ ((¬ r2 = 0 → Q m1 false) ∧ (r2 = 0 → Q m1 true)))) : vm_cb G (d + 1) mX3_skip [.inr (.inr 3), .inl p1] mem Q := by
  refine vm_enter (al := [some (.inr (.inr 3)), some (.inl p1)]) 0 okX3_skip (by decide +kernel) rfl rfl ?_
  refine ex_aload_n (pc := 0) 0 rfl rfl ?_
  refine ex_iload_n (pc := 1) 1 rfl rfl ?_
  refine ex_iload_n (pc := 2) 2 rfl rfl ?_
  refine ex_invV (pc := 3) (M' := mX3_take) (As := [.inl p1, .inl p1]) (st := []) 3 rfl clk3 rfl rfl calX3_take (Or.inl ww_671) rfl rfl ?_
  refine vm_call.mono h ?_
  rintro m1 _ ⟨r2, rfl, h⟩
  obtain ⟨hs3, h⟩ := h
  refine ex_if_ne (pc := 6) 13 4 rfl (by decide) hs3 (fun hb => ?_) (fun hb => ?_)
  · have h := h.1 hb
    refine ex_iconst (pc := 13) 7 rfl ?_
    exact ex_iret (pc := 14) 8 rfl (Or.inr ⟨rfl, by decide⟩) ⟨false, rfl, h⟩
  · have h := h.2 hb
    refine ex_iconst (pc := 9) 5 rfl ?_
    refine ex_goto (pc := 10) 14 6 rfl (by decide) ?_
    exact ex_iret (pc := 14) 8 rfl (Or.inr ⟨rfl, by decide⟩) ⟨true, rfl, h⟩
set_option maxRecDepth 20000 in
theorem qX3_take {G : vm_G} {d : Nat} {p1 : Int} {p2 : Int} {mem : vm_M} {Q : vm_M → Int → Prop} (h : (vm_R (mem 3 2)) ∧ (((mem 3 2) < 0 → Q mem (-1)) ∧ (¬ (mem 3 2) < 0 → (vm_R (mem 3 1)) ∧ (((mem 3 1) ≤ (mem 3 2) → Q mem (-1)) ∧ (¬ (mem 3 1) ≤ (mem 3 2) → (((mem 3 2) < 80 → (0 ≤ (mem 3 2) ∧ (mem 3 2) < 80) ∧ (vm_R (mem 10 (mem 3 2))) ∧ (vm_R p1) ∧ (((mem 10 (mem 3 2)) < p1 → Q mem (-1)) ∧ (¬ (mem 10 (mem 3 2)) < p1 → (vm_R p2) ∧ (((mem 10 (mem 3 2)) ≤ p2 → (∀ m7, m7 = vm_up mem 3 2 ((mem 3 2) + 1) → Q m7 ((mem 10 (mem 3 2)) - p1))) ∧ (¬ (mem 10 (mem 3 2)) ≤ p2 → Q mem (-1)))))) ∧ (¬ (mem 3 2) < 80 → Q mem (-1)))))))) : vm_ci G d mX3_take [.inr (.inr 3), .inl p1, .inl p2] mem Q := by
  refine vm_enter (al := [some (.inr (.inr 3)), some (.inl p1), some (.inl p2), none]) 1 okX3_take (by decide +kernel) rfl rfl ?_
  refine ex_aload_n (pc := 0) 0 rfl rfl ?_
  refine ex_geti (pc := 1) 2 1 rfl clk3 rfl rfl (Or.inl ww_235) rfl ?_
  obtain ⟨hs1, h⟩ := h
  refine ex_if_lt (pc := 4) 27 2 rfl (by decide) hs1 (fun hb => ?_) (fun hb => ?_)
  · have h := h.1 hb
    refine ex_iconst (pc := 27) 12 rfl ?_
    exact ex_iret (pc := 28) 13 rfl (Or.inl rfl) ⟨_, rfl, h⟩
  · have h := h.2 hb
    refine ex_aload_n (pc := 7) 3 rfl rfl ?_
    refine ex_geti (pc := 8) 2 4 rfl clk3 rfl rfl (Or.inl ww_235) rfl ?_
    refine ex_aload_n (pc := 11) 5 rfl rfl ?_
    refine ex_geti (pc := 12) 1 6 rfl clk3 rfl rfl (Or.inl ww_233) rfl ?_
    obtain ⟨hs2, h⟩ := h
    refine ex_icmp_ge (pc := 15) 27 7 rfl (by decide) hs1 hs2 (fun hb => ?_) (fun hb => ?_)
    · have h := h.1 hb
      refine ex_iconst (pc := 27) 12 rfl ?_
      exact ex_iret (pc := 28) 13 rfl (Or.inl rfl) ⟨_, rfl, h⟩
    · have h := h.2 hb
      refine ex_aload_n (pc := 18) 8 rfl rfl ?_
      refine ex_geti (pc := 19) 2 9 rfl clk3 rfl rfl (Or.inl ww_235) rfl ?_
      refine ex_bipush (pc := 22) 10 rfl (by decide) ?_
      refine ex_icmp_lt (pc := 24) 29 11 rfl (by decide) hs1 ⟨by decide, by decide⟩ (fun hb => ?_) (fun hb => ?_)
      · have h := h.1 hb
        refine ex_aload_n (pc := 29) 14 rfl rfl ?_
        refine ex_geta (pc := 30) 0 15 rfl clk3 rfl rfl (Or.inl ww_232) rfl ?_
        refine ex_aload_n (pc := 33) 16 rfl rfl ?_
        refine ex_geti (pc := 34) 2 17 rfl clk3 rfl rfl (Or.inl ww_235) rfl ?_
        obtain ⟨hs3, h⟩ := h
        refine ex_caload (pc := 37) 18 rfl rfl rfl hs3 ?_
        refine ex_istore_n (pc := 38) 19 rfl rfl rfl ?_
        refine ex_iload_n (pc := 39) 20 rfl rfl ?_
        refine ex_iload_n (pc := 40) 21 rfl rfl ?_
        obtain ⟨hs4, h⟩ := h
        obtain ⟨hs5, h⟩ := h
        refine ex_icmp_lt (pc := 41) 49 22 rfl (by decide) hs4 hs5 (fun hb => ?_) (fun hb => ?_)
        · have h := h.1 hb
          refine ex_iconst (pc := 49) 26 rfl ?_
          exact ex_iret (pc := 50) 27 rfl (Or.inl rfl) ⟨_, rfl, h⟩
        · have h := h.2 hb
          refine ex_iload_n (pc := 44) 23 rfl rfl ?_
          refine ex_iload_n (pc := 45) 24 rfl rfl ?_
          obtain ⟨hs6, h⟩ := h
          refine ex_icmp_le (pc := 46) 51 25 rfl (by decide) hs4 hs6 (fun hb => ?_) (fun hb => ?_)
          · have h := h.1 hb
            refine ex_aload_n (pc := 51) 28 rfl rfl ?_
            refine ex_dupa (pc := 52) 29 rfl ?_
            refine ex_geti (pc := 53) 2 30 rfl clk3 rfl rfl (Or.inl ww_235) rfl ?_
            refine ex_iconst (pc := 56) 31 rfl ?_
            refine ex_iadd (pc := 57) 32 rfl ?_
            have h := h _ rfl
            refine ex_puti (pc := 58) 2 33 rfl clk3 rfl rfl (Or.inl ww_235) rfl rfl rfl ?_
            generalize vm_up mem 3 _ ((mem 3 2) + 1) = m7 at h ⊢
            refine ex_iload_n (pc := 61) 34 rfl rfl ?_
            refine ex_iload_n (pc := 62) 35 rfl rfl ?_
            refine ex_isub (pc := 63) 36 rfl ?_
            exact ex_iret (pc := 64) 37 rfl (Or.inl rfl) ⟨_, rfl, h⟩
          · have h := h.2 hb
            refine ex_iconst (pc := 49) 26 rfl ?_
            exact ex_iret (pc := 50) 27 rfl (Or.inl rfl) ⟨_, rfl, h⟩
      · have h := h.2 hb
        refine ex_iconst (pc := 27) 12 rfl ?_
        exact ex_iret (pc := 28) 13 rfl (Or.inl rfl) ⟨_, rfl, h⟩
