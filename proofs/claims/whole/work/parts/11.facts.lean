set_option maxRecDepth 20000 in
theorem qX0_has {G : vm_G} {d : Nat} {p1 : Int} {mem : vm_M} {Q : vm_M → Bool → Prop} (h : (vm_R p1) ∧ ((p1 < 0 → Q mem false) ∧ (¬ p1 < 0 → (vm_R (mem 1 1)) ∧ (((mem 1 1) ≤ p1 → Q mem false) ∧ (¬ (mem 1 1) ≤ p1 → Q mem true))))) : vm_cb G d mX0_has [.inr (.inr 1), .inl p1] mem Q := by
  refine vm_enter (al := [some (.inr (.inr 1)), some (.inl p1)]) 0 okX0_has (by decide +kernel) rfl rfl ?_
  refine ex_iload_n (pc := 0) 0 rfl rfl ?_
  obtain ⟨hs1, h⟩ := h
  refine ex_if_lt (pc := 1) 16 1 rfl (by decide) hs1 (fun hb => ?_) (fun hb => ?_)
  · have h := h.1 hb
    refine ex_iconst (pc := 16) 8 rfl ?_
    exact ex_iret (pc := 17) 9 rfl (Or.inr ⟨rfl, by decide⟩) ⟨false, rfl, h⟩
  · have h := h.2 hb
    refine ex_iload_n (pc := 4) 2 rfl rfl ?_
    refine ex_aload_n (pc := 5) 3 rfl rfl ?_
    refine ex_geti (pc := 6) 1 4 rfl clk0 rfl rfl (Or.inl ww_115) rfl ?_
    obtain ⟨hs2, h⟩ := h
    refine ex_icmp_ge (pc := 9) 16 5 rfl (by decide) hs1 hs2 (fun hb => ?_) (fun hb => ?_)
    · have h := h.1 hb
      refine ex_iconst (pc := 16) 8 rfl ?_
      exact ex_iret (pc := 17) 9 rfl (Or.inr ⟨rfl, by decide⟩) ⟨false, rfl, h⟩
    · have h := h.2 hb
      refine ex_iconst (pc := 12) 6 rfl ?_
      refine ex_goto (pc := 13) 17 7 rfl (by decide) ?_
      exact ex_iret (pc := 17) 9 rfl (Or.inr ⟨rfl, by decide⟩) ⟨true, rfl, h⟩
set_option maxRecDepth 20000 in
theorem qX0_isFull {G : vm_G} {d : Nat}  {mem : vm_M} {Q : vm_M → Bool → Prop} (h : (vm_R (mem 1 1)) ∧ (((mem 1 1) < 10 → Q mem false) ∧ (¬ (mem 1 1) < 10 → Q mem true))) : vm_cb G d mX0_isFull [.inr (.inr 1)] mem Q := by
  refine vm_enter (al := [some (.inr (.inr 1))]) 0 okX0_isFull (by decide +kernel) rfl rfl ?_
  refine ex_aload_n (pc := 0) 0 rfl rfl ?_
  refine ex_geti (pc := 1) 1 1 rfl clk0 rfl rfl (Or.inl ww_115) rfl ?_
  refine ex_bipush (pc := 4) 2 rfl (by decide) ?_
  obtain ⟨hs1, h⟩ := h
  refine ex_icmp_lt (pc := 6) 13 3 rfl (by decide) hs1 ⟨by decide, by decide⟩ (fun hb => ?_) (fun hb => ?_)
  · have h := h.1 hb
    refine ex_iconst (pc := 13) 6 rfl ?_
    exact ex_iret (pc := 14) 7 rfl (Or.inr ⟨rfl, by decide⟩) ⟨false, rfl, h⟩
  · have h := h.2 hb
    refine ex_iconst (pc := 9) 4 rfl ?_
    refine ex_goto (pc := 10) 14 5 rfl (by decide) ?_
    exact ex_iret (pc := 14) 7 rfl (Or.inr ⟨rfl, by decide⟩) ⟨true, rfl, h⟩
set_option maxRecDepth 20000 in
theorem qX0_all {G : vm_G} {d : Nat}  {mem : vm_M} {Q : vm_M → Int → Prop} (h : Q mem ((vm_shl 1 (mem 1 1)) - 1)) : vm_ci G d mX0_all [.inr (.inr 1)] mem Q := by
  refine vm_enter (al := [some (.inr (.inr 1))]) 0 okX0_all (by decide +kernel) rfl rfl ?_
  refine ex_iconst (pc := 0) 0 rfl ?_
  refine ex_aload_n (pc := 1) 1 rfl rfl ?_
  refine ex_geti (pc := 2) 1 2 rfl clk0 rfl rfl (Or.inl ww_115) rfl ?_
  refine ex_ishl (pc := 5) 3 rfl ?_
  refine ex_iconst (pc := 6) 4 rfl ?_
  refine ex_isub (pc := 7) 5 rfl ?_
  exact ex_iret (pc := 8) 6 rfl (Or.inl rfl) ⟨_, rfl, h⟩
set_option maxRecDepth 20000 in
theorem qX0_number {G : vm_G} {d : Nat} {p1 : Int} {p2 : Int} {mem : vm_M} {Q : vm_M → Int → Prop} (h : vm_cb G d mX7_isWithin [.inl p1, .inl 0, .inl 10] mem (fun m1 r2 => (r2 = false → Q m1 0) ∧ (r2 = true → vm_cb G d mX7_isWithin [.inl p2, .inl 0, .inl 5] m1 (fun m3 r4 => (r4 = false → Q m3 0) ∧ (r4 = true → (0 ≤ ((p1 * 6) + p2) ∧ ((p1 * 6) + p2) < 66) ∧ Q m3 (m3 9 ((p1 * 6) + p2))))))) : vm_ci G (d + 1) mX0_number [.inr (.inr 1), .inl p1, .inl p2] mem Q := by
  refine vm_enter (al := [some (.inr (.inr 1)), some (.inl p1), some (.inl p2)]) 0 okX0_number (by decide +kernel) rfl rfl ?_
  refine ex_iload_n (pc := 0) 0 rfl rfl ?_
  refine ex_iconst (pc := 1) 1 rfl ?_
  refine ex_bipush (pc := 2) 2 rfl (by decide) ?_
  refine ex_invS (pc := 4) (M' := mX7_isWithin) (As := [.inl p1, .inl 0, .inl 10]) (st := []) 3 rfl calX7_isWithin (Or.inr ⟨_, ww_345⟩) rfl rfl ?_
  refine vm_call.mono h ?_
  rintro m1 _ ⟨r2, rfl, h⟩
  refine ex_if_eq (pc := 7) 33 4 rfl (by decide) (vm_b2i_R _) (fun hb => ?_) (fun hb => ?_)
  · have h := h.1 (vm_b2i_0.mp hb)
    refine ex_iconst (pc := 33) 19 rfl ?_
    exact ex_iret (pc := 34) 20 rfl (Or.inl rfl) ⟨_, rfl, h⟩
  · have h := h.2 (vm_b2i_n.mp hb)
    refine ex_iload_n (pc := 10) 5 rfl rfl ?_
    refine ex_iconst (pc := 11) 6 rfl ?_
    refine ex_iconst (pc := 12) 7 rfl ?_
    refine ex_invS (pc := 13) (M' := mX7_isWithin) (As := [.inl p2, .inl 0, .inl 5]) (st := []) 8 rfl calX7_isWithin (Or.inr ⟨_, ww_345⟩) rfl rfl ?_
    refine vm_call.mono h ?_
    rintro m3 _ ⟨r4, rfl, h⟩
    refine ex_if_eq (pc := 16) 33 9 rfl (by decide) (vm_b2i_R _) (fun hb => ?_) (fun hb => ?_)
    · have h := h.1 (vm_b2i_0.mp hb)
      refine ex_iconst (pc := 33) 19 rfl ?_
      exact ex_iret (pc := 34) 20 rfl (Or.inl rfl) ⟨_, rfl, h⟩
    · have h := h.2 (vm_b2i_n.mp hb)
      refine ex_aload_n (pc := 19) 10 rfl rfl ?_
      refine ex_geta (pc := 20) 0 11 rfl clk0 rfl rfl (Or.inl ww_114) rfl ?_
      refine ex_iload_n (pc := 23) 12 rfl rfl ?_
      refine ex_bipush (pc := 24) 13 rfl (by decide) ?_
      refine ex_imul (pc := 26) 14 rfl ?_
      refine ex_iload_n (pc := 27) 15 rfl rfl ?_
      refine ex_iadd (pc := 28) 16 rfl ?_
      obtain ⟨hs5, h⟩ := h
      refine ex_iaload (pc := 29) 17 rfl rfl rfl hs5 ?_
      refine ex_goto (pc := 30) 34 18 rfl (by decide) ?_
      exact ex_iret (pc := 34) 20 rfl (Or.inl rfl) ⟨_, rfl, h⟩
set_option maxRecDepth 20000 in
theorem qX0_ask {G : vm_G} {d : Nat} {p1 : Int} {p2 : Int} {p3 : Int} {p4 : Int} {p5 : Int} {p6 : Int} {mem : vm_M} {Q : vm_M → Bool → Prop} (h : vm_cb G d mX0_isFact [.inl p1, .inl p2, .inl p3, .inl p4, .inl p5, .inl p6] mem (fun m1 r2 => (r2 = true → (∀ m3, m3 = vm_up m1 9 (60 + 0) p1 → (∀ m4, m4 = vm_up m3 9 (60 + 1) p2 → (∀ m5, m5 = vm_up m4 9 (60 + 2) p3 → (∀ m6, m6 = vm_up m5 9 (60 + 3) p4 → (∀ m7, m7 = vm_up m6 9 (60 + 4) p5 → (∀ m8, m8 = vm_up m7 9 (60 + 5) p6 → Q m8 true))))))) ∧ (r2 = false → Q m1 false))) : vm_cb G (d + 1) mX0_ask [.inr (.inr 1), .inl p1, .inl p2, .inl p3, .inl p4, .inl p5, .inl p6] mem Q := by
  refine vm_enter (al := [some (.inr (.inr 1)), some (.inl p1), some (.inl p2), some (.inl p3), some (.inl p4), some (.inl p5), some (.inl p6), none]) 1 okX0_ask (by decide +kernel) rfl rfl ?_
  refine ex_iload_n (pc := 0) 0 rfl rfl ?_
  refine ex_iload_n (pc := 1) 1 rfl rfl ?_
  refine ex_iload_n (pc := 2) 2 rfl rfl ?_
  refine ex_iload (pc := 3) 3 rfl rfl ?_
  refine ex_iload (pc := 5) 4 rfl rfl ?_
  refine ex_iload (pc := 7) 5 rfl rfl ?_
  refine ex_invS (pc := 9) (M' := mX0_isFact) (As := [.inl p1, .inl p2, .inl p3, .inl p4, .inl p5, .inl p6]) (st := []) 6 rfl calX0_isFact (Or.inl ww_333) rfl rfl ?_
  refine vm_call.mono h ?_
  rintro m1 _ ⟨r2, rfl, h⟩
  refine ex_if_ne (pc := 12) 17 7 rfl (by decide) (vm_b2i_R _) (fun hb => ?_) (fun hb => ?_)
  · have h := h.1 (vm_b2i_n.mp hb)
    refine ex_bipush (pc := 17) 10 rfl (by decide) ?_
    refine ex_istore (pc := 19) 11 rfl rfl rfl ?_
    refine ex_aload_n (pc := 21) 12 rfl rfl ?_
    refine ex_geta (pc := 22) 0 13 rfl clk0 rfl rfl (Or.inl ww_114) rfl ?_
    refine ex_iload (pc := 25) 14 rfl rfl ?_
    refine ex_iconst (pc := 27) 15 rfl ?_
    refine ex_iadd (pc := 28) 16 rfl ?_
    refine ex_iload_n (pc := 29) 17 rfl rfl ?_
    have h := h _ rfl
    refine ex_iastore (pc := 30) 18 rfl rfl rfl ⟨by decide, by decide⟩ ?_
    generalize vm_up m1 9 (60 + 0) p1 = m3 at h ⊢
    refine ex_aload_n (pc := 31) 19 rfl rfl ?_
    refine ex_geta (pc := 32) 0 20 rfl clk0 rfl rfl (Or.inl ww_114) rfl ?_
    refine ex_iload (pc := 35) 21 rfl rfl ?_
    refine ex_iconst (pc := 37) 22 rfl ?_
    refine ex_iadd (pc := 38) 23 rfl ?_
    refine ex_iload_n (pc := 39) 24 rfl rfl ?_
    have h := h _ rfl
    refine ex_iastore (pc := 40) 25 rfl rfl rfl ⟨by decide, by decide⟩ ?_
    generalize vm_up m3 9 (60 + 1) p2 = m4 at h ⊢
    refine ex_aload_n (pc := 41) 26 rfl rfl ?_
    refine ex_geta (pc := 42) 0 27 rfl clk0 rfl rfl (Or.inl ww_114) rfl ?_
    refine ex_iload (pc := 45) 28 rfl rfl ?_
    refine ex_iconst (pc := 47) 29 rfl ?_
    refine ex_iadd (pc := 48) 30 rfl ?_
    refine ex_iload_n (pc := 49) 31 rfl rfl ?_
    have h := h _ rfl
    refine ex_iastore (pc := 50) 32 rfl rfl rfl ⟨by decide, by decide⟩ ?_
    generalize vm_up m4 9 (60 + 2) p3 = m5 at h ⊢
    refine ex_aload_n (pc := 51) 33 rfl rfl ?_
    refine ex_geta (pc := 52) 0 34 rfl clk0 rfl rfl (Or.inl ww_114) rfl ?_
    refine ex_iload (pc := 55) 35 rfl rfl ?_
    refine ex_iconst (pc := 57) 36 rfl ?_
    refine ex_iadd (pc := 58) 37 rfl ?_
    refine ex_iload (pc := 59) 38 rfl rfl ?_
    have h := h _ rfl
    refine ex_iastore (pc := 61) 39 rfl rfl rfl ⟨by decide, by decide⟩ ?_
    generalize vm_up m5 9 (60 + 3) p4 = m6 at h ⊢
    refine ex_aload_n (pc := 62) 40 rfl rfl ?_
    refine ex_geta (pc := 63) 0 41 rfl clk0 rfl rfl (Or.inl ww_114) rfl ?_
    refine ex_iload (pc := 66) 42 rfl rfl ?_
    refine ex_iconst (pc := 68) 43 rfl ?_
    refine ex_iadd (pc := 69) 44 rfl ?_
    refine ex_iload (pc := 70) 45 rfl rfl ?_
    have h := h _ rfl
    refine ex_iastore (pc := 72) 46 rfl rfl rfl ⟨by decide, by decide⟩ ?_
    generalize vm_up m6 9 (60 + 4) p5 = m7 at h ⊢
    refine ex_aload_n (pc := 73) 47 rfl rfl ?_
    refine ex_geta (pc := 74) 0 48 rfl clk0 rfl rfl (Or.inl ww_114) rfl ?_
    refine ex_iload (pc := 77) 49 rfl rfl ?_
    refine ex_iconst (pc := 79) 50 rfl ?_
    refine ex_iadd (pc := 80) 51 rfl ?_
    refine ex_iload (pc := 81) 52 rfl rfl ?_
    have h := h _ rfl
    refine ex_iastore (pc := 83) 53 rfl rfl rfl ⟨by decide, by decide⟩ ?_
    generalize vm_up m7 9 (60 + 5) p6 = m8 at h ⊢
    refine ex_iconst (pc := 84) 54 rfl ?_
    exact ex_iret (pc := 85) 55 rfl (Or.inr ⟨rfl, by decide⟩) ⟨true, rfl, h⟩
  · have h := h.2 (vm_b2i_0.mp hb)
    refine ex_iconst (pc := 15) 8 rfl ?_
    exact ex_iret (pc := 16) 9 rfl (Or.inr ⟨rfl, by decide⟩) ⟨false, rfl, h⟩
set_option maxRecDepth 20000 in
theorem qX0_keepAsked {G : vm_G} {d : Nat}  {mem : vm_M} {Q : vm_M → Int → Prop} (h : vm_cb G d mX0_isFull [.inr (.inr 1)] mem (fun m1 r2 => (r2 = false → ((0 : Int) ≤ 60 ∧ (0 : Int) ≤ ((m1 1 1) * 6) ∧ (0 : Int) ≤ 6 ∧ (60 + 6 : Int) ≤ 66 ∧ (((m1 1 1) * 6) + 6 : Int) ≤ 66) ∧ (∀ m4, m4 = vm_cpy m1 9 9 60 ((m1 1 1) * 6) 6 → (∀ m5, m5 = vm_up m4 1 1 ((m4 1 1) + 1) → Q m5 ((m5 1 1) - 1)))) ∧ (r2 = true → Q m1 (-4)))) : vm_ci G (d + 1) mX0_keepAsked [.inr (.inr 1)] mem Q := by
  refine vm_enter (al := [some (.inr (.inr 1))]) 0 okX0_keepAsked (by decide +kernel) rfl rfl ?_
  refine ex_aload_n (pc := 0) 0 rfl rfl ?_
  refine ex_invV (pc := 1) (M' := mX0_isFull) (As := []) (st := []) 1 rfl clk0 rfl rfl calX0_isFull (Or.inl ww_354) rfl rfl ?_
  refine vm_call.mono h ?_
  rintro m1 _ ⟨r2, rfl, h⟩
  refine ex_if_eq (pc := 4) 10 2 rfl (by decide) (vm_b2i_R _) (fun hb => ?_) (fun hb => ?_)
  · have h := h.1 (vm_b2i_0.mp hb)
    refine ex_aload_n (pc := 10) 5 rfl rfl ?_
    refine ex_geta (pc := 11) 0 6 rfl clk0 rfl rfl (Or.inl ww_114) rfl ?_
    refine ex_bipush (pc := 14) 7 rfl (by decide) ?_
    refine ex_aload_n (pc := 16) 8 rfl rfl ?_
    refine ex_geta (pc := 17) 0 9 rfl clk0 rfl rfl (Or.inl ww_114) rfl ?_
    refine ex_aload_n (pc := 20) 10 rfl rfl ?_
    refine ex_geti (pc := 21) 1 11 rfl clk0 rfl rfl (Or.inl ww_115) rfl ?_
    refine ex_bipush (pc := 24) 12 rfl (by decide) ?_
    refine ex_imul (pc := 26) 13 rfl ?_
    refine ex_bipush (pc := 27) 14 rfl (by decide) ?_
    obtain ⟨hs3, h⟩ := h
    have h := h _ rfl
    refine ex_copy (pc := 29) 15 rfl ww_324 ww_314 ww_313 ww_98 rfl rfl rfl hs3 rfl ?_
    generalize vm_cpy m1 9 9 60 ((m1 1 1) * 6) 6 = m4 at h ⊢
    refine ex_aload_n (pc := 32) 16 rfl rfl ?_
    refine ex_dupa (pc := 33) 17 rfl ?_
    refine ex_geti (pc := 34) 1 18 rfl clk0 rfl rfl (Or.inl ww_115) rfl ?_
    refine ex_iconst (pc := 37) 19 rfl ?_
    refine ex_iadd (pc := 38) 20 rfl ?_
    have h := h _ rfl
    refine ex_puti (pc := 39) 1 21 rfl clk0 rfl rfl (Or.inl ww_115) rfl rfl rfl ?_
    generalize vm_up m4 1 _ ((m4 1 1) + 1) = m5 at h ⊢
    refine ex_aload_n (pc := 42) 22 rfl rfl ?_
    refine ex_geti (pc := 43) 1 23 rfl clk0 rfl rfl (Or.inl ww_115) rfl ?_
    refine ex_iconst (pc := 46) 24 rfl ?_
    refine ex_isub (pc := 47) 25 rfl ?_
    exact ex_iret (pc := 48) 26 rfl (Or.inl rfl) ⟨_, rfl, h⟩
  · have h := h.2 (vm_b2i_n.mp hb)
    refine ex_bipush (pc := 7) 3 rfl (by decide) ?_
    exact ex_iret (pc := 9) 4 rfl (Or.inl rfl) ⟨_, rfl, h⟩
set_option maxRecDepth 20000 in
theorem qX0_remove {G : vm_G} {d : Nat} {p1 : Int} {mem : vm_M} {Q : vm_M → Prop} (h : vm_cb G d mX0_has [.inr (.inr 1), .inl p1] mem (fun m1 r2 => (r2 = true → ((0 : Int) ≤ ((p1 * 6) + 6) ∧ (0 : Int) ≤ (p1 * 6) ∧ (0 : Int) ≤ ((((m1 1 1) * 6) - (p1 * 6)) - 6) ∧ (((p1 * 6) + 6) + ((((m1 1 1) * 6) - (p1 * 6)) - 6) : Int) ≤ 66 ∧ ((p1 * 6) + ((((m1 1 1) * 6) - (p1 * 6)) - 6) : Int) ≤ 66) ∧ (∀ m4, m4 = vm_cpy m1 9 9 ((p1 * 6) + 6) (p1 * 6) ((((m1 1 1) * 6) - (p1 * 6)) - 6) → (∀ m5, m5 = vm_up m4 1 1 ((m4 1 1) - 1) → Q m5))) ∧ (r2 = false → Q m1))) : vm_cn G (d + 1) mX0_remove [.inr (.inr 1), .inl p1] mem Q := by
  refine vm_enter (al := [some (.inr (.inr 1)), some (.inl p1), none]) 1 okX0_remove (by decide +kernel) rfl rfl ?_
  refine ex_aload_n (pc := 0) 0 rfl rfl ?_
  refine ex_iload_n (pc := 1) 1 rfl rfl ?_
  refine ex_invV (pc := 2) (M' := mX0_has) (As := [.inl p1]) (st := []) 2 rfl clk0 rfl rfl calX0_has (Or.inl ww_367) rfl rfl ?_
  refine vm_call.mono h ?_
  rintro m1 _ ⟨r2, rfl, h⟩
  refine ex_if_ne (pc := 5) 9 3 rfl (by decide) (vm_b2i_R _) (fun hb => ?_) (fun hb => ?_)
  · have h := h.1 (vm_b2i_n.mp hb)
    refine ex_iload_n (pc := 9) 5 rfl rfl ?_
    refine ex_bipush (pc := 10) 6 rfl (by decide) ?_
    refine ex_imul (pc := 12) 7 rfl ?_
    refine ex_istore_n (pc := 13) 8 rfl rfl rfl ?_
    refine ex_aload_n (pc := 14) 9 rfl rfl ?_
    refine ex_geta (pc := 15) 0 10 rfl clk0 rfl rfl (Or.inl ww_114) rfl ?_
    refine ex_iload_n (pc := 18) 11 rfl rfl ?_
    refine ex_bipush (pc := 19) 12 rfl (by decide) ?_
    refine ex_iadd (pc := 21) 13 rfl ?_
    refine ex_aload_n (pc := 22) 14 rfl rfl ?_
    refine ex_geta (pc := 23) 0 15 rfl clk0 rfl rfl (Or.inl ww_114) rfl ?_
    refine ex_iload_n (pc := 26) 16 rfl rfl ?_
    refine ex_aload_n (pc := 27) 17 rfl rfl ?_
    refine ex_geti (pc := 28) 1 18 rfl clk0 rfl rfl (Or.inl ww_115) rfl ?_
    refine ex_bipush (pc := 31) 19 rfl (by decide) ?_
    refine ex_imul (pc := 33) 20 rfl ?_
    refine ex_iload_n (pc := 34) 21 rfl rfl ?_
    refine ex_isub (pc := 35) 22 rfl ?_
    refine ex_bipush (pc := 36) 23 rfl (by decide) ?_
    refine ex_isub (pc := 38) 24 rfl ?_
    obtain ⟨hs3, h⟩ := h
    have h := h _ rfl
    refine ex_copy (pc := 39) 25 rfl ww_324 ww_314 ww_313 ww_98 rfl rfl rfl hs3 rfl ?_
    generalize vm_cpy m1 9 9 ((p1 * 6) + 6) (p1 * 6) ((((m1 1 1) * 6) - (p1 * 6)) - 6) = m4 at h ⊢
    refine ex_aload_n (pc := 42) 26 rfl rfl ?_
    refine ex_dupa (pc := 43) 27 rfl ?_
    refine ex_geti (pc := 44) 1 28 rfl clk0 rfl rfl (Or.inl ww_115) rfl ?_
    refine ex_iconst (pc := 47) 29 rfl ?_
    refine ex_isub (pc := 48) 30 rfl ?_
    have h := h _ rfl
    refine ex_puti (pc := 49) 1 31 rfl clk0 rfl rfl (Or.inl ww_115) rfl rfl rfl ?_
    generalize vm_up m4 1 _ ((m4 1 1) - 1) = m5 at h ⊢
    exact ex_ret (pc := 52) 32 rfl rfl ⟨rfl, h⟩
  · have h := h.2 (vm_b2i_0.mp hb)
    exact ex_ret (pc := 8) 4 rfl rfl ⟨rfl, h⟩
set_option maxRecDepth 20000 in
theorem qX0_writeTo_a11 {G : vm_G} {d : Nat} {p2 : Int} {mem : vm_M} {Q : vm_M → Prop} (h : (0 ≤ p2 ∧ p2 < 372) ∧ (∀ m2, m2 = vm_up mem 11 p2 (mem 1 2) → (0 ≤ (p2 + 1) ∧ (p2 + 1) < 372) ∧ (∀ m4, m4 = vm_up m2 11 (p2 + 1) (m2 1 1) → ((0 : Int) ≤ 0 ∧ (0 : Int) ≤ (p2 + 2) ∧ (0 : Int) ≤ 60 ∧ (0 + 60 : Int) ≤ 66 ∧ ((p2 + 2) + 60 : Int) ≤ 372) ∧ (∀ m6, m6 = vm_cpy m4 9 11 0 (p2 + 2) 60 → Q m6)))) : vm_cn G (d + 1) mX0_writeTo [.inr (.inr 1), .inr (.inr 11), .inl p2] mem Q := by
  refine vm_enter (al := [some (.inr (.inr 1)), some (.inr (.inr 11)), some (.inl p2)]) 0 okX0_writeTo (by decide +kernel) rfl rfl ?_
  refine ex_aload_n (pc := 0) 0 rfl rfl ?_
  refine ex_iload_n (pc := 1) 1 rfl rfl ?_
  refine ex_aload_n (pc := 2) 2 rfl rfl ?_
  refine ex_geti (pc := 3) 2 3 rfl clk0 rfl rfl (Or.inl ww_117) rfl ?_
  obtain ⟨hs1, h⟩ := h
  have h := h _ rfl
  refine ex_iastore (pc := 6) 4 rfl rfl rfl hs1 ?_
  generalize vm_up mem 11 p2 (mem 1 2) = m2 at h ⊢
  refine ex_aload_n (pc := 7) 5 rfl rfl ?_
  refine ex_iload_n (pc := 8) 6 rfl rfl ?_
  refine ex_iconst (pc := 9) 7 rfl ?_
  refine ex_iadd (pc := 10) 8 rfl ?_
  refine ex_aload_n (pc := 11) 9 rfl rfl ?_
  refine ex_geti (pc := 12) 1 10 rfl clk0 rfl rfl (Or.inl ww_115) rfl ?_
  obtain ⟨hs3, h⟩ := h
  have h := h _ rfl
  refine ex_iastore (pc := 15) 11 rfl rfl rfl hs3 ?_
  generalize vm_up m2 11 (p2 + 1) (m2 1 1) = m4 at h ⊢
  refine ex_aload_n (pc := 16) 12 rfl rfl ?_
  refine ex_geta (pc := 17) 0 13 rfl clk0 rfl rfl (Or.inl ww_114) rfl ?_
  refine ex_iconst (pc := 20) 14 rfl ?_
  refine ex_aload_n (pc := 21) 15 rfl rfl ?_
  refine ex_iload_n (pc := 22) 16 rfl rfl ?_
  refine ex_iconst (pc := 23) 17 rfl ?_
  refine ex_iadd (pc := 24) 18 rfl ?_
  refine ex_bipush (pc := 25) 19 rfl (by decide) ?_
  obtain ⟨hs5, h⟩ := h
  have h := h _ rfl
  refine ex_copy (pc := 27) 20 rfl ww_324 ww_314 ww_313 ww_98 rfl rfl rfl hs5 rfl ?_
  generalize vm_cpy m4 9 11 0 (p2 + 2) 60 = m6 at h ⊢
  exact ex_ret (pc := 30) 21 rfl rfl ⟨rfl, h⟩
set_option maxRecDepth 20000 in
theorem qX0_writeTo_a12 {G : vm_G} {d : Nat} {p2 : Int} {mem : vm_M} {Q : vm_M → Prop} (h : (0 ≤ p2 ∧ p2 < 124) ∧ (∀ m2, m2 = vm_up mem 12 p2 (mem 1 2) → (0 ≤ (p2 + 1) ∧ (p2 + 1) < 124) ∧ (∀ m4, m4 = vm_up m2 12 (p2 + 1) (m2 1 1) → ((0 : Int) ≤ 0 ∧ (0 : Int) ≤ (p2 + 2) ∧ (0 : Int) ≤ 60 ∧ (0 + 60 : Int) ≤ 66 ∧ ((p2 + 2) + 60 : Int) ≤ 124) ∧ (∀ m6, m6 = vm_cpy m4 9 12 0 (p2 + 2) 60 → Q m6)))) : vm_cn G (d + 1) mX0_writeTo [.inr (.inr 1), .inr (.inr 12), .inl p2] mem Q := by
  refine vm_enter (al := [some (.inr (.inr 1)), some (.inr (.inr 12)), some (.inl p2)]) 0 okX0_writeTo (by decide +kernel) rfl rfl ?_
  refine ex_aload_n (pc := 0) 0 rfl rfl ?_
  refine ex_iload_n (pc := 1) 1 rfl rfl ?_
  refine ex_aload_n (pc := 2) 2 rfl rfl ?_
  refine ex_geti (pc := 3) 2 3 rfl clk0 rfl rfl (Or.inl ww_117) rfl ?_
  obtain ⟨hs1, h⟩ := h
  have h := h _ rfl
  refine ex_iastore (pc := 6) 4 rfl rfl rfl hs1 ?_
  generalize vm_up mem 12 p2 (mem 1 2) = m2 at h ⊢
  refine ex_aload_n (pc := 7) 5 rfl rfl ?_
  refine ex_iload_n (pc := 8) 6 rfl rfl ?_
  refine ex_iconst (pc := 9) 7 rfl ?_
  refine ex_iadd (pc := 10) 8 rfl ?_
  refine ex_aload_n (pc := 11) 9 rfl rfl ?_
  refine ex_geti (pc := 12) 1 10 rfl clk0 rfl rfl (Or.inl ww_115) rfl ?_
  obtain ⟨hs3, h⟩ := h
  have h := h _ rfl
  refine ex_iastore (pc := 15) 11 rfl rfl rfl hs3 ?_
  generalize vm_up m2 12 (p2 + 1) (m2 1 1) = m4 at h ⊢
  refine ex_aload_n (pc := 16) 12 rfl rfl ?_
  refine ex_geta (pc := 17) 0 13 rfl clk0 rfl rfl (Or.inl ww_114) rfl ?_
  refine ex_iconst (pc := 20) 14 rfl ?_
  refine ex_aload_n (pc := 21) 15 rfl rfl ?_
  refine ex_iload_n (pc := 22) 16 rfl rfl ?_
  refine ex_iconst (pc := 23) 17 rfl ?_
  refine ex_iadd (pc := 24) 18 rfl ?_
  refine ex_bipush (pc := 25) 19 rfl (by decide) ?_
  obtain ⟨hs5, h⟩ := h
  have h := h _ rfl
  refine ex_copy (pc := 27) 20 rfl ww_324 ww_314 ww_313 ww_98 rfl rfl rfl hs5 rfl ?_
  generalize vm_cpy m4 9 12 0 (p2 + 2) 60 = m6 at h ⊢
  exact ex_ret (pc := 30) 21 rfl rfl ⟨rfl, h⟩
set_option maxRecDepth 20000 in
theorem qX0_readFrom_a11 {G : vm_G} {d : Nat} {p2 : Int} {mem : vm_M} {Q : vm_M → Prop} (h : (0 ≤ p2 ∧ p2 < 372) ∧ (∀ m2, m2 = vm_up mem 1 2 (mem 11 p2) → (0 ≤ (p2 + 1) ∧ (p2 + 1) < 372) ∧ (∀ m4, m4 = vm_up m2 1 1 (m2 11 (p2 + 1)) → ((0 : Int) ≤ (p2 + 2) ∧ (0 : Int) ≤ 0 ∧ (0 : Int) ≤ 60 ∧ ((p2 + 2) + 60 : Int) ≤ 372 ∧ (0 + 60 : Int) ≤ 66) ∧ (∀ m6, m6 = vm_cpy m4 11 9 (p2 + 2) 0 60 → Q m6)))) : vm_cn G (d + 1) mX0_readFrom [.inr (.inr 1), .inr (.inr 11), .inl p2] mem Q := by
  refine vm_enter (al := [some (.inr (.inr 1)), some (.inr (.inr 11)), some (.inl p2)]) 0 okX0_readFrom (by decide +kernel) rfl rfl ?_
  refine ex_aload_n (pc := 0) 0 rfl rfl ?_
  refine ex_aload_n (pc := 1) 1 rfl rfl ?_
  refine ex_iload_n (pc := 2) 2 rfl rfl ?_
  obtain ⟨hs1, h⟩ := h
  refine ex_iaload (pc := 3) 3 rfl rfl rfl hs1 ?_
  have h := h _ rfl
  refine ex_puti (pc := 4) 2 4 rfl clk0 rfl rfl (Or.inl ww_117) rfl rfl rfl ?_
  generalize vm_up mem 1 _ (mem 11 p2) = m2 at h ⊢
  refine ex_aload_n (pc := 7) 5 rfl rfl ?_
  refine ex_aload_n (pc := 8) 6 rfl rfl ?_
  refine ex_iload_n (pc := 9) 7 rfl rfl ?_
  refine ex_iconst (pc := 10) 8 rfl ?_
  refine ex_iadd (pc := 11) 9 rfl ?_
  obtain ⟨hs3, h⟩ := h
  refine ex_iaload (pc := 12) 10 rfl rfl rfl hs3 ?_
  have h := h _ rfl
  refine ex_puti (pc := 13) 1 11 rfl clk0 rfl rfl (Or.inl ww_115) rfl rfl rfl ?_
  generalize vm_up m2 1 _ (m2 11 (p2 + 1)) = m4 at h ⊢
  refine ex_aload_n (pc := 16) 12 rfl rfl ?_
  refine ex_iload_n (pc := 17) 13 rfl rfl ?_
  refine ex_iconst (pc := 18) 14 rfl ?_
  refine ex_iadd (pc := 19) 15 rfl ?_
  refine ex_aload_n (pc := 20) 16 rfl rfl ?_
  refine ex_geta (pc := 21) 0 17 rfl clk0 rfl rfl (Or.inl ww_114) rfl ?_
  refine ex_iconst (pc := 24) 18 rfl ?_
  refine ex_bipush (pc := 25) 19 rfl (by decide) ?_
  obtain ⟨hs5, h⟩ := h
  have h := h _ rfl
  refine ex_copy (pc := 27) 20 rfl ww_324 ww_314 ww_313 ww_98 rfl rfl rfl hs5 rfl ?_
  generalize vm_cpy m4 11 9 (p2 + 2) 0 60 = m6 at h ⊢
  exact ex_ret (pc := 30) 21 rfl rfl ⟨rfl, h⟩
set_option maxRecDepth 20000 in
theorem qX0_readFrom_a12 {G : vm_G} {d : Nat} {p2 : Int} {mem : vm_M} {Q : vm_M → Prop} (h : (0 ≤ p2 ∧ p2 < 124) ∧ (∀ m2, m2 = vm_up mem 1 2 (mem 12 p2) → (0 ≤ (p2 + 1) ∧ (p2 + 1) < 124) ∧ (∀ m4, m4 = vm_up m2 1 1 (m2 12 (p2 + 1)) → ((0 : Int) ≤ (p2 + 2) ∧ (0 : Int) ≤ 0 ∧ (0 : Int) ≤ 60 ∧ ((p2 + 2) + 60 : Int) ≤ 124 ∧ (0 + 60 : Int) ≤ 66) ∧ (∀ m6, m6 = vm_cpy m4 12 9 (p2 + 2) 0 60 → Q m6)))) : vm_cn G (d + 1) mX0_readFrom [.inr (.inr 1), .inr (.inr 12), .inl p2] mem Q := by
  refine vm_enter (al := [some (.inr (.inr 1)), some (.inr (.inr 12)), some (.inl p2)]) 0 okX0_readFrom (by decide +kernel) rfl rfl ?_
  refine ex_aload_n (pc := 0) 0 rfl rfl ?_
  refine ex_aload_n (pc := 1) 1 rfl rfl ?_
  refine ex_iload_n (pc := 2) 2 rfl rfl ?_
  obtain ⟨hs1, h⟩ := h
  refine ex_iaload (pc := 3) 3 rfl rfl rfl hs1 ?_
  have h := h _ rfl
  refine ex_puti (pc := 4) 2 4 rfl clk0 rfl rfl (Or.inl ww_117) rfl rfl rfl ?_
  generalize vm_up mem 1 _ (mem 12 p2) = m2 at h ⊢
  refine ex_aload_n (pc := 7) 5 rfl rfl ?_
  refine ex_aload_n (pc := 8) 6 rfl rfl ?_
  refine ex_iload_n (pc := 9) 7 rfl rfl ?_
  refine ex_iconst (pc := 10) 8 rfl ?_
  refine ex_iadd (pc := 11) 9 rfl ?_
  obtain ⟨hs3, h⟩ := h
  refine ex_iaload (pc := 12) 10 rfl rfl rfl hs3 ?_
  have h := h _ rfl
  refine ex_puti (pc := 13) 1 11 rfl clk0 rfl rfl (Or.inl ww_115) rfl rfl rfl ?_
  generalize vm_up m2 1 _ (m2 12 (p2 + 1)) = m4 at h ⊢
  refine ex_aload_n (pc := 16) 12 rfl rfl ?_
  refine ex_iload_n (pc := 17) 13 rfl rfl ?_
  refine ex_iconst (pc := 18) 14 rfl ?_
  refine ex_iadd (pc := 19) 15 rfl ?_
  refine ex_aload_n (pc := 20) 16 rfl rfl ?_
  refine ex_geta (pc := 21) 0 17 rfl clk0 rfl rfl (Or.inl ww_114) rfl ?_
  refine ex_iconst (pc := 24) 18 rfl ?_
  refine ex_bipush (pc := 25) 19 rfl (by decide) ?_
  obtain ⟨hs5, h⟩ := h
  have h := h _ rfl
  refine ex_copy (pc := 27) 20 rfl ww_324 ww_314 ww_313 ww_98 rfl rfl rfl hs5 rfl ?_
  generalize vm_cpy m4 12 9 (p2 + 2) 0 60 = m6 at h ⊢
  exact ex_ret (pc := 30) 21 rfl rfl ⟨rfl, h⟩
set_option maxRecDepth 20000 in
theorem qX0_isFact {G : vm_G} {d : Nat} {p0 : Int} {p1 : Int} {p2 : Int} {p3 : Int} {p4 : Int} {p5 : Int} {mem : vm_M} {Q : vm_M → Bool → Prop} (h : vm_cb G d mX7_isBag [.inl p1] mem (fun m1 r2 => (r2 = true → (vm_R p0) ∧ ((p0 = 0 → vm_cb G d mX7_isKind [.inl p2] m1 (fun m4 r5 => (r5 = false → Q m4 false) ∧ (r5 = true → vm_cb G d mX0_isRange [.inl p3, .inl p4, .inl 6] m4 (fun m6 r7 => (r7 = false → Q m6 false) ∧ (r7 = true → (vm_R p5) ∧ ((¬ p5 = 0 → Q m6 false) ∧ (p5 = 0 → Q m6 true))))))) ∧ (p0 = 1 → vm_cb G d mX0_isRange [.inl p2, .inl p3, .inl 18] m1 (fun m9 r10 => (r10 = false → Q m9 false) ∧ (r10 = true → (vm_R p4) ∧ ((¬ p4 = 0 → Q m9 false) ∧ (p4 = 0 → (vm_R p5) ∧ ((¬ p5 = 0 → Q m9 false) ∧ (p5 = 0 → Q m9 true))))))) ∧ (p0 = 2 → vm_cb G d mX7_isBag [.inl p2] m1 (fun m13 r14 => (r14 = false → Q m13 false) ∧ (r14 = true → vm_cb G d mX7_isBag [.inl p3] m13 (fun m15 r16 => (r16 = false → Q m15 false) ∧ (r16 = true → (vm_R p4) ∧ ((¬ p4 = 0 → Q m15 false) ∧ (p4 = 0 → (vm_R p5) ∧ ((¬ p5 = 0 → Q m15 false) ∧ (p5 = 0 → Q m15 true))))))))) ∧ (p0 = 3 → vm_cb G d mX7_isBag [.inl p2] m1 (fun m19 r20 => (r20 = false → Q m19 false) ∧ (r20 = true → vm_cb G d mX7_isBag [.inl p3] m19 (fun m21 r22 => (r22 = false → Q m21 false) ∧ (r22 = true → (vm_R p4) ∧ ((¬ p4 = 0 → Q m21 false) ∧ (p4 = 0 → (vm_R p5) ∧ ((¬ p5 = 0 → Q m21 false) ∧ (p5 = 0 → Q m21 true))))))))) ∧ (p0 = 4 → vm_cb G d mX7_isBag [.inl p2] m1 (fun m25 r26 => (r26 = false → Q m25 false) ∧ (r26 = true → vm_cb G d mX7_isBag [.inl p3] m25 (fun m27 r28 => (r28 = false → Q m27 false) ∧ (r28 = true → (vm_R p4) ∧ ((¬ p4 = 0 → Q m27 false) ∧ (p4 = 0 → (vm_R p5) ∧ ((¬ p5 = 0 → Q m27 false) ∧ (p5 = 0 → Q m27 true))))))))) ∧ (p0 = 5 → vm_cb G d mX7_isBag [.inl p2] m1 (fun m31 r32 => (r32 = false → Q m31 false) ∧ (r32 = true → (vm_R p3) ∧ ((¬ p3 = 0 → Q m31 false) ∧ (p3 = 0 → (vm_R p4) ∧ ((¬ p4 = 0 → Q m31 false) ∧ (p4 = 0 → (vm_R p5) ∧ ((¬ p5 = 0 → Q m31 false) ∧ (p5 = 0 → Q m31 true))))))))) ∧ (p0 = 6 → vm_cb G d mX7_isKind [.inl p2] m1 (fun m36 r37 => (r37 = false → Q m36 false) ∧ (r37 = true → vm_cb G d mX7_isBag [.inl p3] m36 (fun m38 r39 => (r39 = false → Q m38 false) ∧ (r39 = true → vm_cb G d mX7_isKind [.inl p4] m38 (fun m40 r41 => (r41 = false → Q m40 false) ∧ (r41 = true → vm_cb G d mX7_isWithin [.inl p5, .inl (-6), .inl 6] m40 (fun m42 r43 => (r43 = false → Q m42 false) ∧ (r43 = true → Q m42 true))))))))) ∧ (p0 < 0 ∨ 6 < p0 → Q m1 false))) ∧ (r2 = false → Q m1 false))) : vm_cb G (d + 1) mX0_isFact [.inl p0, .inl p1, .inl p2, .inl p3, .inl p4, .inl p5] mem Q := by
  refine vm_enter (al := [some (.inl p0), some (.inl p1), some (.inl p2), some (.inl p3), some (.inl p4), some (.inl p5)]) 0 okX0_isFact (by decide +kernel) rfl rfl ?_
  refine ex_iload_n (pc := 0) 0 rfl rfl ?_
  refine ex_invS (pc := 1) (M' := mX7_isBag) (As := [.inl p1]) (st := []) 1 rfl calX7_isBag (Or.inr ⟨_, ww_336⟩) rfl rfl ?_
  refine vm_call.mono h ?_
  rintro m1 _ ⟨r2, rfl, h⟩
  refine ex_if_ne (pc := 4) 9 2 rfl (by decide) (vm_b2i_R _) (fun hb => ?_) (fun hb => ?_)
  · have h := h.1 (vm_b2i_n.mp hb)
    refine ex_iload_n (pc := 9) 5 rfl rfl ?_
    obtain ⟨hs3, h⟩ := h
    obtain ⟨h0, h1, h2, h3, h4, h5, h6, h7⟩ := h
    refine ex_tsw (pc := 10) 6 rfl hs3 rfl ⟨fun hb => ⟨?_, by decide⟩, fun hb => ⟨?_, by decide⟩, fun hb => ⟨?_, by decide⟩, fun hb => ⟨?_, by decide⟩, fun hb => ⟨?_, by decide⟩, fun hb => ⟨?_, by decide⟩, fun hb => ⟨?_, by decide⟩, trivial⟩ (fun hb => ?_) (by decide)
    · have h := h0 hb
      refine ex_iload_n (pc := 52) 7 rfl rfl ?_
      refine ex_invS (pc := 53) (M' := mX7_isKind) (As := [.inl p2]) (st := []) 8 rfl calX7_isKind (Or.inr ⟨_, ww_339⟩) rfl rfl ?_
      refine vm_call.mono h ?_
      rintro m4 _ ⟨r5, rfl, h⟩
      refine ex_if_eq (pc := 56) 79 9 rfl (by decide) (vm_b2i_R _) (fun hb => ?_) (fun hb => ?_)
      · have h := h.1 (vm_b2i_0.mp hb)
        refine ex_iconst (pc := 79) 19 rfl ?_
        exact ex_iret (pc := 80) 20 rfl (Or.inr ⟨rfl, by decide⟩) ⟨false, rfl, h⟩
      · have h := h.2 (vm_b2i_n.mp hb)
        refine ex_iload_n (pc := 59) 10 rfl rfl ?_
        refine ex_iload (pc := 60) 11 rfl rfl ?_
        refine ex_bipush (pc := 62) 12 rfl (by decide) ?_
        refine ex_invS (pc := 64) (M' := mX0_isRange) (As := [.inl p3, .inl p4, .inl 6]) (st := []) 13 rfl calX0_isRange (Or.inl ww_342) rfl rfl ?_
        refine vm_call.mono h ?_
        rintro m6 _ ⟨r7, rfl, h⟩
        refine ex_if_eq (pc := 67) 79 14 rfl (by decide) (vm_b2i_R _) (fun hb => ?_) (fun hb => ?_)
        · have h := h.1 (vm_b2i_0.mp hb)
          refine ex_iconst (pc := 79) 19 rfl ?_
          exact ex_iret (pc := 80) 20 rfl (Or.inr ⟨rfl, by decide⟩) ⟨false, rfl, h⟩
        · have h := h.2 (vm_b2i_n.mp hb)
          refine ex_iload (pc := 70) 15 rfl rfl ?_
          obtain ⟨hs8, h⟩ := h
          refine ex_if_ne (pc := 72) 79 16 rfl (by decide) hs8 (fun hb => ?_) (fun hb => ?_)
          · have h := h.1 hb
            refine ex_iconst (pc := 79) 19 rfl ?_
            exact ex_iret (pc := 80) 20 rfl (Or.inr ⟨rfl, by decide⟩) ⟨false, rfl, h⟩
          · have h := h.2 hb
            refine ex_iconst (pc := 75) 17 rfl ?_
            refine ex_goto (pc := 76) 80 18 rfl (by decide) ?_
            exact ex_iret (pc := 80) 20 rfl (Or.inr ⟨rfl, by decide⟩) ⟨true, rfl, h⟩
    · have h := h1 hb
      refine ex_iload_n (pc := 81) 21 rfl rfl ?_
      refine ex_iload_n (pc := 82) 22 rfl rfl ?_
      refine ex_bipush (pc := 83) 23 rfl (by decide) ?_
      refine ex_invS (pc := 85) (M' := mX0_isRange) (As := [.inl p2, .inl p3, .inl 18]) (st := []) 24 rfl calX0_isRange (Or.inl ww_342) rfl rfl ?_
      refine vm_call.mono h ?_
      rintro m9 _ ⟨r10, rfl, h⟩
      refine ex_if_eq (pc := 88) 105 25 rfl (by decide) (vm_b2i_R _) (fun hb => ?_) (fun hb => ?_)
      · have h := h.1 (vm_b2i_0.mp hb)
        refine ex_iconst (pc := 105) 32 rfl ?_
        exact ex_iret (pc := 106) 33 rfl (Or.inr ⟨rfl, by decide⟩) ⟨false, rfl, h⟩
      · have h := h.2 (vm_b2i_n.mp hb)
        refine ex_iload (pc := 91) 26 rfl rfl ?_
        obtain ⟨hs11, h⟩ := h
        refine ex_if_ne (pc := 93) 105 27 rfl (by decide) hs11 (fun hb => ?_) (fun hb => ?_)
        · have h := h.1 hb
          refine ex_iconst (pc := 105) 32 rfl ?_
          exact ex_iret (pc := 106) 33 rfl (Or.inr ⟨rfl, by decide⟩) ⟨false, rfl, h⟩
        · have h := h.2 hb
          refine ex_iload (pc := 96) 28 rfl rfl ?_
          obtain ⟨hs12, h⟩ := h
          refine ex_if_ne (pc := 98) 105 29 rfl (by decide) hs12 (fun hb => ?_) (fun hb => ?_)
          · have h := h.1 hb
            refine ex_iconst (pc := 105) 32 rfl ?_
            exact ex_iret (pc := 106) 33 rfl (Or.inr ⟨rfl, by decide⟩) ⟨false, rfl, h⟩
          · have h := h.2 hb
            refine ex_iconst (pc := 101) 30 rfl ?_
            refine ex_goto (pc := 102) 106 31 rfl (by decide) ?_
            exact ex_iret (pc := 106) 33 rfl (Or.inr ⟨rfl, by decide⟩) ⟨true, rfl, h⟩
    · have h := h2 hb
      refine ex_iload_n (pc := 107) 34 rfl rfl ?_
      refine ex_invS (pc := 108) (M' := mX7_isBag) (As := [.inl p2]) (st := []) 35 rfl calX7_isBag (Or.inr ⟨_, ww_336⟩) rfl rfl ?_
      refine vm_call.mono h ?_
      rintro m13 _ ⟨r14, rfl, h⟩
      refine ex_if_eq (pc := 111) 135 36 rfl (by decide) (vm_b2i_R _) (fun hb => ?_) (fun hb => ?_)
      · have h := h.1 (vm_b2i_0.mp hb)
        refine ex_iconst (pc := 135) 46 rfl ?_
        exact ex_iret (pc := 136) 47 rfl (Or.inr ⟨rfl, by decide⟩) ⟨false, rfl, h⟩
      · have h := h.2 (vm_b2i_n.mp hb)
        refine ex_iload_n (pc := 114) 37 rfl rfl ?_
        refine ex_invS (pc := 115) (M' := mX7_isBag) (As := [.inl p3]) (st := []) 38 rfl calX7_isBag (Or.inr ⟨_, ww_336⟩) rfl rfl ?_
        refine vm_call.mono h ?_
        rintro m15 _ ⟨r16, rfl, h⟩
        refine ex_if_eq (pc := 118) 135 39 rfl (by decide) (vm_b2i_R _) (fun hb => ?_) (fun hb => ?_)
        · have h := h.1 (vm_b2i_0.mp hb)
          refine ex_iconst (pc := 135) 46 rfl ?_
          exact ex_iret (pc := 136) 47 rfl (Or.inr ⟨rfl, by decide⟩) ⟨false, rfl, h⟩
        · have h := h.2 (vm_b2i_n.mp hb)
          refine ex_iload (pc := 121) 40 rfl rfl ?_
          obtain ⟨hs17, h⟩ := h
          refine ex_if_ne (pc := 123) 135 41 rfl (by decide) hs17 (fun hb => ?_) (fun hb => ?_)
          · have h := h.1 hb
            refine ex_iconst (pc := 135) 46 rfl ?_
            exact ex_iret (pc := 136) 47 rfl (Or.inr ⟨rfl, by decide⟩) ⟨false, rfl, h⟩
          · have h := h.2 hb
            refine ex_iload (pc := 126) 42 rfl rfl ?_
            obtain ⟨hs18, h⟩ := h
            refine ex_if_ne (pc := 128) 135 43 rfl (by decide) hs18 (fun hb => ?_) (fun hb => ?_)
            · have h := h.1 hb
              refine ex_iconst (pc := 135) 46 rfl ?_
              exact ex_iret (pc := 136) 47 rfl (Or.inr ⟨rfl, by decide⟩) ⟨false, rfl, h⟩
            · have h := h.2 hb
              refine ex_iconst (pc := 131) 44 rfl ?_
              refine ex_goto (pc := 132) 136 45 rfl (by decide) ?_
              exact ex_iret (pc := 136) 47 rfl (Or.inr ⟨rfl, by decide⟩) ⟨true, rfl, h⟩
    · have h := h3 hb
      refine ex_iload_n (pc := 107) 34 rfl rfl ?_
      refine ex_invS (pc := 108) (M' := mX7_isBag) (As := [.inl p2]) (st := []) 35 rfl calX7_isBag (Or.inr ⟨_, ww_336⟩) rfl rfl ?_
      refine vm_call.mono h ?_
      rintro m19 _ ⟨r20, rfl, h⟩
      refine ex_if_eq (pc := 111) 135 36 rfl (by decide) (vm_b2i_R _) (fun hb => ?_) (fun hb => ?_)
      · have h := h.1 (vm_b2i_0.mp hb)
        refine ex_iconst (pc := 135) 46 rfl ?_
        exact ex_iret (pc := 136) 47 rfl (Or.inr ⟨rfl, by decide⟩) ⟨false, rfl, h⟩
      · have h := h.2 (vm_b2i_n.mp hb)
        refine ex_iload_n (pc := 114) 37 rfl rfl ?_
        refine ex_invS (pc := 115) (M' := mX7_isBag) (As := [.inl p3]) (st := []) 38 rfl calX7_isBag (Or.inr ⟨_, ww_336⟩) rfl rfl ?_
        refine vm_call.mono h ?_
        rintro m21 _ ⟨r22, rfl, h⟩
        refine ex_if_eq (pc := 118) 135 39 rfl (by decide) (vm_b2i_R _) (fun hb => ?_) (fun hb => ?_)
        · have h := h.1 (vm_b2i_0.mp hb)
          refine ex_iconst (pc := 135) 46 rfl ?_
          exact ex_iret (pc := 136) 47 rfl (Or.inr ⟨rfl, by decide⟩) ⟨false, rfl, h⟩
        · have h := h.2 (vm_b2i_n.mp hb)
          refine ex_iload (pc := 121) 40 rfl rfl ?_
          obtain ⟨hs23, h⟩ := h
          refine ex_if_ne (pc := 123) 135 41 rfl (by decide) hs23 (fun hb => ?_) (fun hb => ?_)
          · have h := h.1 hb
            refine ex_iconst (pc := 135) 46 rfl ?_
            exact ex_iret (pc := 136) 47 rfl (Or.inr ⟨rfl, by decide⟩) ⟨false, rfl, h⟩
          · have h := h.2 hb
            refine ex_iload (pc := 126) 42 rfl rfl ?_
            obtain ⟨hs24, h⟩ := h
            refine ex_if_ne (pc := 128) 135 43 rfl (by decide) hs24 (fun hb => ?_) (fun hb => ?_)
            · have h := h.1 hb
              refine ex_iconst (pc := 135) 46 rfl ?_
              exact ex_iret (pc := 136) 47 rfl (Or.inr ⟨rfl, by decide⟩) ⟨false, rfl, h⟩
            · have h := h.2 hb
              refine ex_iconst (pc := 131) 44 rfl ?_
              refine ex_goto (pc := 132) 136 45 rfl (by decide) ?_
              exact ex_iret (pc := 136) 47 rfl (Or.inr ⟨rfl, by decide⟩) ⟨true, rfl, h⟩
    · have h := h4 hb
      refine ex_iload_n (pc := 107) 34 rfl rfl ?_
      refine ex_invS (pc := 108) (M' := mX7_isBag) (As := [.inl p2]) (st := []) 35 rfl calX7_isBag (Or.inr ⟨_, ww_336⟩) rfl rfl ?_
      refine vm_call.mono h ?_
      rintro m25 _ ⟨r26, rfl, h⟩
      refine ex_if_eq (pc := 111) 135 36 rfl (by decide) (vm_b2i_R _) (fun hb => ?_) (fun hb => ?_)
      · have h := h.1 (vm_b2i_0.mp hb)
        refine ex_iconst (pc := 135) 46 rfl ?_
        exact ex_iret (pc := 136) 47 rfl (Or.inr ⟨rfl, by decide⟩) ⟨false, rfl, h⟩
      · have h := h.2 (vm_b2i_n.mp hb)
        refine ex_iload_n (pc := 114) 37 rfl rfl ?_
        refine ex_invS (pc := 115) (M' := mX7_isBag) (As := [.inl p3]) (st := []) 38 rfl calX7_isBag (Or.inr ⟨_, ww_336⟩) rfl rfl ?_
        refine vm_call.mono h ?_
        rintro m27 _ ⟨r28, rfl, h⟩
        refine ex_if_eq (pc := 118) 135 39 rfl (by decide) (vm_b2i_R _) (fun hb => ?_) (fun hb => ?_)
        · have h := h.1 (vm_b2i_0.mp hb)
          refine ex_iconst (pc := 135) 46 rfl ?_
          exact ex_iret (pc := 136) 47 rfl (Or.inr ⟨rfl, by decide⟩) ⟨false, rfl, h⟩
        · have h := h.2 (vm_b2i_n.mp hb)
          refine ex_iload (pc := 121) 40 rfl rfl ?_
          obtain ⟨hs29, h⟩ := h
          refine ex_if_ne (pc := 123) 135 41 rfl (by decide) hs29 (fun hb => ?_) (fun hb => ?_)
          · have h := h.1 hb
            refine ex_iconst (pc := 135) 46 rfl ?_
            exact ex_iret (pc := 136) 47 rfl (Or.inr ⟨rfl, by decide⟩) ⟨false, rfl, h⟩
          · have h := h.2 hb
            refine ex_iload (pc := 126) 42 rfl rfl ?_
            obtain ⟨hs30, h⟩ := h
            refine ex_if_ne (pc := 128) 135 43 rfl (by decide) hs30 (fun hb => ?_) (fun hb => ?_)
            · have h := h.1 hb
              refine ex_iconst (pc := 135) 46 rfl ?_
              exact ex_iret (pc := 136) 47 rfl (Or.inr ⟨rfl, by decide⟩) ⟨false, rfl, h⟩
            · have h := h.2 hb
              refine ex_iconst (pc := 131) 44 rfl ?_
              refine ex_goto (pc := 132) 136 45 rfl (by decide) ?_
              exact ex_iret (pc := 136) 47 rfl (Or.inr ⟨rfl, by decide⟩) ⟨true, rfl, h⟩
    · have h := h5 hb
      refine ex_iload_n (pc := 137) 48 rfl rfl ?_
      refine ex_invS (pc := 138) (M' := mX7_isBag) (As := [.inl p2]) (st := []) 49 rfl calX7_isBag (Or.inr ⟨_, ww_336⟩) rfl rfl ?_
      refine vm_call.mono h ?_
      rintro m31 _ ⟨r32, rfl, h⟩
      refine ex_if_eq (pc := 141) 162 50 rfl (by decide) (vm_b2i_R _) (fun hb => ?_) (fun hb => ?_)
      · have h := h.1 (vm_b2i_0.mp hb)
        refine ex_iconst (pc := 162) 59 rfl ?_
        exact ex_iret (pc := 163) 60 rfl (Or.inr ⟨rfl, by decide⟩) ⟨false, rfl, h⟩
      · have h := h.2 (vm_b2i_n.mp hb)
        refine ex_iload_n (pc := 144) 51 rfl rfl ?_
        obtain ⟨hs33, h⟩ := h
        refine ex_if_ne (pc := 145) 162 52 rfl (by decide) hs33 (fun hb => ?_) (fun hb => ?_)
        · have h := h.1 hb
          refine ex_iconst (pc := 162) 59 rfl ?_
          exact ex_iret (pc := 163) 60 rfl (Or.inr ⟨rfl, by decide⟩) ⟨false, rfl, h⟩
        · have h := h.2 hb
          refine ex_iload (pc := 148) 53 rfl rfl ?_
          obtain ⟨hs34, h⟩ := h
          refine ex_if_ne (pc := 150) 162 54 rfl (by decide) hs34 (fun hb => ?_) (fun hb => ?_)
          · have h := h.1 hb
            refine ex_iconst (pc := 162) 59 rfl ?_
            exact ex_iret (pc := 163) 60 rfl (Or.inr ⟨rfl, by decide⟩) ⟨false, rfl, h⟩
          · have h := h.2 hb
            refine ex_iload (pc := 153) 55 rfl rfl ?_
            obtain ⟨hs35, h⟩ := h
            refine ex_if_ne (pc := 155) 162 56 rfl (by decide) hs35 (fun hb => ?_) (fun hb => ?_)
            · have h := h.1 hb
              refine ex_iconst (pc := 162) 59 rfl ?_
              exact ex_iret (pc := 163) 60 rfl (Or.inr ⟨rfl, by decide⟩) ⟨false, rfl, h⟩
            · have h := h.2 hb
              refine ex_iconst (pc := 158) 57 rfl ?_
              refine ex_goto (pc := 159) 163 58 rfl (by decide) ?_
              exact ex_iret (pc := 163) 60 rfl (Or.inr ⟨rfl, by decide⟩) ⟨true, rfl, h⟩
    · have h := h6 hb
      refine ex_iload_n (pc := 164) 61 rfl rfl ?_
      refine ex_invS (pc := 165) (M' := mX7_isKind) (As := [.inl p2]) (st := []) 62 rfl calX7_isKind (Or.inr ⟨_, ww_339⟩) rfl rfl ?_
      refine vm_call.mono h ?_
      rintro m36 _ ⟨r37, rfl, h⟩
      refine ex_if_eq (pc := 168) 202 63 rfl (by decide) (vm_b2i_R _) (fun hb => ?_) (fun hb => ?_)
      · have h := h.1 (vm_b2i_0.mp hb)
        refine ex_iconst (pc := 202) 77 rfl ?_
        exact ex_iret (pc := 203) 78 rfl (Or.inr ⟨rfl, by decide⟩) ⟨false, rfl, h⟩
      · have h := h.2 (vm_b2i_n.mp hb)
        refine ex_iload_n (pc := 171) 64 rfl rfl ?_
        refine ex_invS (pc := 172) (M' := mX7_isBag) (As := [.inl p3]) (st := []) 65 rfl calX7_isBag (Or.inr ⟨_, ww_336⟩) rfl rfl ?_
        refine vm_call.mono h ?_
        rintro m38 _ ⟨r39, rfl, h⟩
        refine ex_if_eq (pc := 175) 202 66 rfl (by decide) (vm_b2i_R _) (fun hb => ?_) (fun hb => ?_)
        · have h := h.1 (vm_b2i_0.mp hb)
          refine ex_iconst (pc := 202) 77 rfl ?_
          exact ex_iret (pc := 203) 78 rfl (Or.inr ⟨rfl, by decide⟩) ⟨false, rfl, h⟩
        · have h := h.2 (vm_b2i_n.mp hb)
          refine ex_iload (pc := 178) 67 rfl rfl ?_
          refine ex_invS (pc := 180) (M' := mX7_isKind) (As := [.inl p4]) (st := []) 68 rfl calX7_isKind (Or.inr ⟨_, ww_339⟩) rfl rfl ?_
          refine vm_call.mono h ?_
          rintro m40 _ ⟨r41, rfl, h⟩
          refine ex_if_eq (pc := 183) 202 69 rfl (by decide) (vm_b2i_R _) (fun hb => ?_) (fun hb => ?_)
          · have h := h.1 (vm_b2i_0.mp hb)
            refine ex_iconst (pc := 202) 77 rfl ?_
            exact ex_iret (pc := 203) 78 rfl (Or.inr ⟨rfl, by decide⟩) ⟨false, rfl, h⟩
          · have h := h.2 (vm_b2i_n.mp hb)
            refine ex_iload (pc := 186) 70 rfl rfl ?_
            refine ex_bipush (pc := 188) 71 rfl (by decide) ?_
            refine ex_bipush (pc := 190) 72 rfl (by decide) ?_
            refine ex_invS (pc := 192) (M' := mX7_isWithin) (As := [.inl p5, .inl (-6), .inl 6]) (st := []) 73 rfl calX7_isWithin (Or.inr ⟨_, ww_345⟩) rfl rfl ?_
            refine vm_call.mono h ?_
            rintro m42 _ ⟨r43, rfl, h⟩
            refine ex_if_eq (pc := 195) 202 74 rfl (by decide) (vm_b2i_R _) (fun hb => ?_) (fun hb => ?_)
            · have h := h.1 (vm_b2i_0.mp hb)
              refine ex_iconst (pc := 202) 77 rfl ?_
              exact ex_iret (pc := 203) 78 rfl (Or.inr ⟨rfl, by decide⟩) ⟨false, rfl, h⟩
            · have h := h.2 (vm_b2i_n.mp hb)
              refine ex_iconst (pc := 198) 75 rfl ?_
              refine ex_goto (pc := 199) 203 76 rfl (by decide) ?_
              exact ex_iret (pc := 203) 78 rfl (Or.inr ⟨rfl, by decide⟩) ⟨true, rfl, h⟩
    · have h := h7 hb
      refine ex_iconst (pc := 204) 79 rfl ?_
      exact ex_iret (pc := 205) 80 rfl (Or.inr ⟨rfl, by decide⟩) ⟨false, rfl, h⟩
  · have h := h.2 (vm_b2i_0.mp hb)
    refine ex_iconst (pc := 7) 3 rfl ?_
    exact ex_iret (pc := 8) 4 rfl (Or.inr ⟨rfl, by decide⟩) ⟨false, rfl, h⟩
set_option maxRecDepth 20000 in
theorem qX0_isRange {G : vm_G} {d : Nat} {p0 : Int} {p1 : Int} {p2 : Int} {mem : vm_M} {Q : vm_M → Bool → Prop} (h : (vm_R p0) ∧ ((p0 < 0 → Q mem false) ∧ (¬ p0 < 0 → (vm_R p1) ∧ ((p1 < p0 → Q mem false) ∧ (¬ p1 < p0 → (vm_R p2) ∧ ((p2 < p1 → Q mem false) ∧ (¬ p2 < p1 → Q mem true))))))) : vm_cb G d mX0_isRange [.inl p0, .inl p1, .inl p2] mem Q := by
  refine vm_enter (al := [some (.inl p0), some (.inl p1), some (.inl p2)]) 0 okX0_isRange (by decide +kernel) rfl rfl ?_
  refine ex_iload_n (pc := 0) 0 rfl rfl ?_
  obtain ⟨hs1, h⟩ := h
  refine ex_if_lt (pc := 1) 18 1 rfl (by decide) hs1 (fun hb => ?_) (fun hb => ?_)
  · have h := h.1 hb
    refine ex_iconst (pc := 18) 10 rfl ?_
    exact ex_iret (pc := 19) 11 rfl (Or.inr ⟨rfl, by decide⟩) ⟨false, rfl, h⟩
  · have h := h.2 hb
    refine ex_iload_n (pc := 4) 2 rfl rfl ?_
    refine ex_iload_n (pc := 5) 3 rfl rfl ?_
    obtain ⟨hs2, h⟩ := h
    refine ex_icmp_gt (pc := 6) 18 4 rfl (by decide) hs1 hs2 (fun hb => ?_) (fun hb => ?_)
    · have h := h.1 hb
      refine ex_iconst (pc := 18) 10 rfl ?_
      exact ex_iret (pc := 19) 11 rfl (Or.inr ⟨rfl, by decide⟩) ⟨false, rfl, h⟩
    · have h := h.2 hb
      refine ex_iload_n (pc := 9) 5 rfl rfl ?_
      refine ex_iload_n (pc := 10) 6 rfl rfl ?_
      obtain ⟨hs3, h⟩ := h
      refine ex_icmp_gt (pc := 11) 18 7 rfl (by decide) hs2 hs3 (fun hb => ?_) (fun hb => ?_)
      · have h := h.1 hb
        refine ex_iconst (pc := 18) 10 rfl ?_
        exact ex_iret (pc := 19) 11 rfl (Or.inr ⟨rfl, by decide⟩) ⟨false, rfl, h⟩
      · have h := h.2 hb
        refine ex_iconst (pc := 14) 8 rfl ?_
        refine ex_goto (pc := 15) 19 9 rfl (by decide) ?_
        exact ex_iret (pc := 19) 11 rfl (Or.inr ⟨rfl, by decide⟩) ⟨true, rfl, h⟩
set_option maxRecDepth 20000 in
theorem qX6_store_r4 {G : vm_G} {d : Nat} {p1 : Int} {mem : vm_M} {Q : vm_M → Prop} (h : vm_cb G d mX7_isWithin [.inl p1, .inl 0, .inl ((mem 4 0) - 1)] mem (fun m1 r2 => (r2 = false → Q m1) ∧ (r2 = true → vm_cn G d mX0_writeTo [.inr (.inr 1), .inr (.inr 11), .inl (p1 * 62)] m1 (fun m3 => Q m3)))) : vm_cn G (d + 1) mX6_store [.inr (.inr 4), .inl p1, .inr (.inr 1)] mem Q := by
  refine vm_enter (al := [some (.inr (.inr 4)), some (.inl p1), some (.inr (.inr 1))]) 0 okX6_store (by decide +kernel) rfl rfl ?_
  refine ex_iload_n (pc := 0) 0 rfl rfl ?_
  refine ex_iconst (pc := 1) 1 rfl ?_
  refine ex_aload_n (pc := 2) 2 rfl rfl ?_
  refine ex_geti (pc := 3) 0 3 rfl clk6 rfl rfl (Or.inl ww_268) rfl ?_
  refine ex_iconst (pc := 6) 4 rfl ?_
  refine ex_isub (pc := 7) 5 rfl ?_
  refine ex_invS (pc := 8) (M' := mX7_isWithin) (As := [.inl p1, .inl 0, .inl ((mem 4 0) - 1)]) (st := []) 6 rfl calX7_isWithin (Or.inr ⟨_, ww_319⟩) rfl rfl ?_
  refine vm_call.mono h ?_
  rintro m1 _ ⟨r2, rfl, h⟩
  refine ex_if_eq (pc := 11) 26 7 rfl (by decide) (vm_b2i_R _) (fun hb => ?_) (fun hb => ?_)
  · have h := h.1 (vm_b2i_0.mp hb)
    exact ex_ret (pc := 26) 15 rfl rfl ⟨rfl, h⟩
  · have h := h.2 (vm_b2i_n.mp hb)
    refine ex_aload_n (pc := 14) 8 rfl rfl ?_
    refine ex_aload_n (pc := 15) 9 rfl rfl ?_
    refine ex_geta (pc := 16) 1 10 rfl clk6 rfl rfl (Or.inl ww_269) rfl ?_
    refine ex_iload_n (pc := 19) 11 rfl rfl ?_
    refine ex_bipush (pc := 20) 12 rfl (by decide) ?_
    refine ex_imul (pc := 22) 13 rfl ?_
    refine ex_invV (pc := 23) (M' := mX0_writeTo) (As := [.inr (.inr 11), .inl (p1 * 62)]) (st := []) 14 rfl clk0 rfl rfl calX0_writeTo (Or.inl ww_320) rfl rfl ?_
    refine vm_call.mono h ?_
    rintro m3 _ ⟨rfl, h⟩
    exact ex_ret (pc := 26) 15 rfl rfl ⟨rfl, h⟩
set_option maxRecDepth 20000 in
theorem qX6_store_r5 {G : vm_G} {d : Nat} {p1 : Int} {mem : vm_M} {Q : vm_M → Prop} (h : vm_cb G d mX7_isWithin [.inl p1, .inl 0, .inl ((mem 5 0) - 1)] mem (fun m1 r2 => (r2 = false → Q m1) ∧ (r2 = true → vm_cn G d mX0_writeTo [.inr (.inr 1), .inr (.inr 12), .inl (p1 * 62)] m1 (fun m3 => Q m3)))) : vm_cn G (d + 1) mX6_store [.inr (.inr 5), .inl p1, .inr (.inr 1)] mem Q := by
  refine vm_enter (al := [some (.inr (.inr 5)), some (.inl p1), some (.inr (.inr 1))]) 0 okX6_store (by decide +kernel) rfl rfl ?_
  refine ex_iload_n (pc := 0) 0 rfl rfl ?_
  refine ex_iconst (pc := 1) 1 rfl ?_
  refine ex_aload_n (pc := 2) 2 rfl rfl ?_
  refine ex_geti (pc := 3) 0 3 rfl clk6 rfl rfl (Or.inl ww_268) rfl ?_
  refine ex_iconst (pc := 6) 4 rfl ?_
  refine ex_isub (pc := 7) 5 rfl ?_
  refine ex_invS (pc := 8) (M' := mX7_isWithin) (As := [.inl p1, .inl 0, .inl ((mem 5 0) - 1)]) (st := []) 6 rfl calX7_isWithin (Or.inr ⟨_, ww_319⟩) rfl rfl ?_
  refine vm_call.mono h ?_
  rintro m1 _ ⟨r2, rfl, h⟩
  refine ex_if_eq (pc := 11) 26 7 rfl (by decide) (vm_b2i_R _) (fun hb => ?_) (fun hb => ?_)
  · have h := h.1 (vm_b2i_0.mp hb)
    exact ex_ret (pc := 26) 15 rfl rfl ⟨rfl, h⟩
  · have h := h.2 (vm_b2i_n.mp hb)
    refine ex_aload_n (pc := 14) 8 rfl rfl ?_
    refine ex_aload_n (pc := 15) 9 rfl rfl ?_
    refine ex_geta (pc := 16) 1 10 rfl clk6 rfl rfl (Or.inl ww_269) rfl ?_
    refine ex_iload_n (pc := 19) 11 rfl rfl ?_
    refine ex_bipush (pc := 20) 12 rfl (by decide) ?_
    refine ex_imul (pc := 22) 13 rfl ?_
    refine ex_invV (pc := 23) (M' := mX0_writeTo) (As := [.inr (.inr 12), .inl (p1 * 62)]) (st := []) 14 rfl clk0 rfl rfl calX0_writeTo (Or.inl ww_320) rfl rfl ?_
    refine vm_call.mono h ?_
    rintro m3 _ ⟨rfl, h⟩
    exact ex_ret (pc := 26) 15 rfl rfl ⟨rfl, h⟩
set_option maxRecDepth 20000 in
theorem qX6_load_r4 {G : vm_G} {d : Nat} {p1 : Int} {mem : vm_M} {Q : vm_M → Prop} (h : vm_cb G d mX7_isWithin [.inl p1, .inl 0, .inl ((mem 4 0) - 1)] mem (fun m1 r2 => (r2 = false → Q m1) ∧ (r2 = true → vm_cn G d mX0_readFrom [.inr (.inr 1), .inr (.inr 11), .inl (p1 * 62)] m1 (fun m3 => Q m3)))) : vm_cn G (d + 1) mX6_load [.inr (.inr 4), .inl p1, .inr (.inr 1)] mem Q := by
  refine vm_enter (al := [some (.inr (.inr 4)), some (.inl p1), some (.inr (.inr 1))]) 0 okX6_load (by decide +kernel) rfl rfl ?_
  refine ex_iload_n (pc := 0) 0 rfl rfl ?_
  refine ex_iconst (pc := 1) 1 rfl ?_
  refine ex_aload_n (pc := 2) 2 rfl rfl ?_
  refine ex_geti (pc := 3) 0 3 rfl clk6 rfl rfl (Or.inl ww_268) rfl ?_
  refine ex_iconst (pc := 6) 4 rfl ?_
  refine ex_isub (pc := 7) 5 rfl ?_
  refine ex_invS (pc := 8) (M' := mX7_isWithin) (As := [.inl p1, .inl 0, .inl ((mem 4 0) - 1)]) (st := []) 6 rfl calX7_isWithin (Or.inr ⟨_, ww_319⟩) rfl rfl ?_
  refine vm_call.mono h ?_
  rintro m1 _ ⟨r2, rfl, h⟩
  refine ex_if_eq (pc := 11) 26 7 rfl (by decide) (vm_b2i_R _) (fun hb => ?_) (fun hb => ?_)
  · have h := h.1 (vm_b2i_0.mp hb)
    exact ex_ret (pc := 26) 15 rfl rfl ⟨rfl, h⟩
  · have h := h.2 (vm_b2i_n.mp hb)
    refine ex_aload_n (pc := 14) 8 rfl rfl ?_
    refine ex_aload_n (pc := 15) 9 rfl rfl ?_
    refine ex_geta (pc := 16) 1 10 rfl clk6 rfl rfl (Or.inl ww_269) rfl ?_
    refine ex_iload_n (pc := 19) 11 rfl rfl ?_
    refine ex_bipush (pc := 20) 12 rfl (by decide) ?_
    refine ex_imul (pc := 22) 13 rfl ?_
    refine ex_invV (pc := 23) (M' := mX0_readFrom) (As := [.inr (.inr 11), .inl (p1 * 62)]) (st := []) 14 rfl clk0 rfl rfl calX0_readFrom (Or.inl ww_722) rfl rfl ?_
    refine vm_call.mono h ?_
    rintro m3 _ ⟨rfl, h⟩
    exact ex_ret (pc := 26) 15 rfl rfl ⟨rfl, h⟩
set_option maxRecDepth 20000 in
theorem qX6_load_r5 {G : vm_G} {d : Nat} {p1 : Int} {mem : vm_M} {Q : vm_M → Prop} (h : vm_cb G d mX7_isWithin [.inl p1, .inl 0, .inl ((mem 5 0) - 1)] mem (fun m1 r2 => (r2 = false → Q m1) ∧ (r2 = true → vm_cn G d mX0_readFrom [.inr (.inr 1), .inr (.inr 12), .inl (p1 * 62)] m1 (fun m3 => Q m3)))) : vm_cn G (d + 1) mX6_load [.inr (.inr 5), .inl p1, .inr (.inr 1)] mem Q := by
  refine vm_enter (al := [some (.inr (.inr 5)), some (.inl p1), some (.inr (.inr 1))]) 0 okX6_load (by decide +kernel) rfl rfl ?_
  refine ex_iload_n (pc := 0) 0 rfl rfl ?_
  refine ex_iconst (pc := 1) 1 rfl ?_
  refine ex_aload_n (pc := 2) 2 rfl rfl ?_
  refine ex_geti (pc := 3) 0 3 rfl clk6 rfl rfl (Or.inl ww_268) rfl ?_
  refine ex_iconst (pc := 6) 4 rfl ?_
  refine ex_isub (pc := 7) 5 rfl ?_
  refine ex_invS (pc := 8) (M' := mX7_isWithin) (As := [.inl p1, .inl 0, .inl ((mem 5 0) - 1)]) (st := []) 6 rfl calX7_isWithin (Or.inr ⟨_, ww_319⟩) rfl rfl ?_
  refine vm_call.mono h ?_
  rintro m1 _ ⟨r2, rfl, h⟩
  refine ex_if_eq (pc := 11) 26 7 rfl (by decide) (vm_b2i_R _) (fun hb => ?_) (fun hb => ?_)
  · have h := h.1 (vm_b2i_0.mp hb)
    exact ex_ret (pc := 26) 15 rfl rfl ⟨rfl, h⟩
  · have h := h.2 (vm_b2i_n.mp hb)
    refine ex_aload_n (pc := 14) 8 rfl rfl ?_
    refine ex_aload_n (pc := 15) 9 rfl rfl ?_
    refine ex_geta (pc := 16) 1 10 rfl clk6 rfl rfl (Or.inl ww_269) rfl ?_
    refine ex_iload_n (pc := 19) 11 rfl rfl ?_
    refine ex_bipush (pc := 20) 12 rfl (by decide) ?_
    refine ex_imul (pc := 22) 13 rfl ?_
    refine ex_invV (pc := 23) (M' := mX0_readFrom) (As := [.inr (.inr 12), .inl (p1 * 62)]) (st := []) 14 rfl clk0 rfl rfl calX0_readFrom (Or.inl ww_722) rfl rfl ?_
    refine vm_call.mono h ?_
    rintro m3 _ ⟨rfl, h⟩
    exact ex_ret (pc := 26) 15 rfl rfl ⟨rfl, h⟩
set_option maxRecDepth 20000 in
theorem qX6_dropFirst_r4 {G : vm_G} {d : Nat}  {mem : vm_M} {Q : vm_M → Prop} (h : ((0 : Int) ≤ 62 ∧ (0 : Int) ≤ 0 ∧ (0 : Int) ≤ (((mem 4 0) - 1) * 62) ∧ (62 + (((mem 4 0) - 1) * 62) : Int) ≤ 372 ∧ (0 + (((mem 4 0) - 1) * 62) : Int) ≤ 372) ∧ (∀ m2, m2 = vm_cpy mem 11 11 62 0 (((mem 4 0) - 1) * 62) → Q m2)) : vm_cn G (d + 1) mX6_dropFirst [.inr (.inr 4)] mem Q := by
  refine vm_enter (al := [some (.inr (.inr 4))]) 0 okX6_dropFirst (by decide +kernel) rfl rfl ?_
  refine ex_aload_n (pc := 0) 0 rfl rfl ?_
  refine ex_geta (pc := 1) 1 1 rfl clk6 rfl rfl (Or.inl ww_269) rfl ?_
  refine ex_bipush (pc := 4) 2 rfl (by decide) ?_
  refine ex_aload_n (pc := 6) 3 rfl rfl ?_
  refine ex_geta (pc := 7) 1 4 rfl clk6 rfl rfl (Or.inl ww_269) rfl ?_
  refine ex_iconst (pc := 10) 5 rfl ?_
  refine ex_aload_n (pc := 11) 6 rfl rfl ?_
  refine ex_geti (pc := 12) 0 7 rfl clk6 rfl rfl (Or.inl ww_268) rfl ?_
  refine ex_iconst (pc := 15) 8 rfl ?_
  refine ex_isub (pc := 16) 9 rfl ?_
  refine ex_bipush (pc := 17) 10 rfl (by decide) ?_
  refine ex_imul (pc := 19) 11 rfl ?_
  obtain ⟨hs1, h⟩ := h
  have h := h _ rfl
  refine ex_copy (pc := 20) 12 rfl ww_312 ww_314 ww_313 ww_98 rfl rfl rfl hs1 rfl ?_
  generalize vm_cpy mem 11 11 62 0 (((mem 4 0) - 1) * 62) = m2 at h ⊢
  exact ex_ret (pc := 23) 13 rfl rfl ⟨rfl, h⟩
