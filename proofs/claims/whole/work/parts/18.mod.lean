set_option maxRecDepth 20000 in
theorem qX8_in {G : vm_G} {d : Nat} {p0 : Int} {p1 : Int} {p2 : Int} {mem : vm_M} {Q : vm_M → Bool → Prop} (h : (vm_R p0) ∧ (vm_R p1) ∧ ((p0 < p1 → Q mem false) ∧ (¬ p0 < p1 → (vm_R p2) ∧ ((p2 < p0 → Q mem false) ∧ (¬ p2 < p0 → Q mem true))))) : vm_cb G d mX8_in [.inl p0, .inl p1, .inl p2] mem Q := by
  refine vm_enter (al := [some (.inl p0), some (.inl p1), some (.inl p2)]) 0 okX8_in (by decide +kernel) rfl rfl ?_
  refine ex_iload_n (pc := 0) 0 rfl rfl ?_
  refine ex_iload_n (pc := 1) 1 rfl rfl ?_
  obtain ⟨hs1, h⟩ := h
  obtain ⟨hs2, h⟩ := h
  refine ex_icmp_lt (pc := 2) 14 2 rfl (by decide) hs1 hs2 (fun hb => ?_) (fun hb => ?_)
  · have h := h.1 hb
    refine ex_iconst (pc := 14) 8 rfl ?_
    exact ex_iret (pc := 15) 9 rfl (Or.inr ⟨rfl, by decide⟩) ⟨false, rfl, h⟩
  · have h := h.2 hb
    refine ex_iload_n (pc := 5) 3 rfl rfl ?_
    refine ex_iload_n (pc := 6) 4 rfl rfl ?_
    obtain ⟨hs3, h⟩ := h
    refine ex_icmp_gt (pc := 7) 14 5 rfl (by decide) hs1 hs3 (fun hb => ?_) (fun hb => ?_)
    · have h := h.1 hb
      refine ex_iconst (pc := 14) 8 rfl ?_
      exact ex_iret (pc := 15) 9 rfl (Or.inr ⟨rfl, by decide⟩) ⟨false, rfl, h⟩
    · have h := h.2 hb
      refine ex_iconst (pc := 10) 6 rfl ?_
      refine ex_goto (pc := 11) 15 7 rfl (by decide) ?_
      exact ex_iret (pc := 15) 9 rfl (Or.inr ⟨rfl, by decide⟩) ⟨true, rfl, h⟩
set_option maxRecDepth 20000 in
theorem qX8_isBag {G : vm_G} {d : Nat} {p0 : Int} {mem : vm_M} {Q : vm_M → Bool → Prop} (h : vm_cb G d mX8_in [.inl p0, .inl 0, .inl 3] mem (fun m1 r2 => Q m1 r2)) : vm_cb G (d + 1) mX8_isBag [.inl p0] mem Q := by
  refine vm_enter (al := [some (.inl p0)]) 0 okX8_isBag (by decide +kernel) rfl rfl ?_
  refine ex_iload_n (pc := 0) 0 rfl rfl ?_
  refine ex_iconst (pc := 1) 1 rfl ?_
  refine ex_iconst (pc := 2) 2 rfl ?_
  refine ex_invS (pc := 3) (M' := mX8_in) (As := [.inl p0, .inl 0, .inl 3]) (st := []) 3 rfl calX8_in (Or.inl ww_815) rfl rfl ?_
  refine vm_call.mono h ?_
  rintro m1 _ ⟨r2, rfl, h⟩
  exact ex_iret (pc := 6) 4 rfl (Or.inr ⟨rfl, vm_b2i_01 _⟩) ⟨_, rfl, h⟩
set_option maxRecDepth 20000 in
theorem qX8_isKind {G : vm_G} {d : Nat} {p0 : Int} {mem : vm_M} {Q : vm_M → Bool → Prop} (h : vm_cb G d mX8_in [.inl p0, .inl 0, .inl 2] mem (fun m1 r2 => Q m1 r2)) : vm_cb G (d + 1) mX8_isKind [.inl p0] mem Q := by
  refine vm_enter (al := [some (.inl p0)]) 0 okX8_isKind (by decide +kernel) rfl rfl ?_
  refine ex_iload_n (pc := 0) 0 rfl rfl ?_
  refine ex_iconst (pc := 1) 1 rfl ?_
  refine ex_iconst (pc := 2) 2 rfl ?_
  refine ex_invS (pc := 3) (M' := mX8_in) (As := [.inl p0, .inl 0, .inl 2]) (st := []) 3 rfl calX8_in (Or.inl ww_815) rfl rfl ?_
  refine vm_call.mono h ?_
  rintro m1 _ ⟨r2, rfl, h⟩
  exact ex_iret (pc := 6) 4 rfl (Or.inr ⟨rfl, vm_b2i_01 _⟩) ⟨_, rfl, h⟩
set_option maxRecDepth 20000 in
theorem qX8_of {G : vm_G} {d : Nat} {p1 : Int} {p2 : Int} {mem : vm_M} {Q : vm_M → Int → Prop} (h : (0 ≤ ((2 + (6 * p1)) + p2) ∧ ((2 + (6 * p1)) + p2) < 62) ∧ Q mem (mem 25 ((2 + (6 * p1)) + p2))) : vm_ci G d mX8_of [.inr (.inr 24), .inl p1, .inl p2] mem Q := by
  refine vm_enter (al := [some (.inr (.inr 24)), some (.inl p1), some (.inl p2)]) 0 okX8_of (by decide +kernel) rfl rfl ?_
  refine ex_aload_n (pc := 0) 0 rfl rfl ?_
  refine ex_geta (pc := 1) 0 1 rfl clk8 rfl rfl (Or.inl ww_740) rfl ?_
  refine ex_iconst (pc := 4) 2 rfl ?_
  refine ex_bipush (pc := 5) 3 rfl (by decide) ?_
  refine ex_iload_n (pc := 7) 4 rfl rfl ?_
  refine ex_imul (pc := 8) 5 rfl ?_
  refine ex_iadd (pc := 9) 6 rfl ?_
  refine ex_iload_n (pc := 10) 7 rfl rfl ?_
  refine ex_iadd (pc := 11) 8 rfl ?_
  obtain ⟨hs1, h⟩ := h
  refine ex_iaload (pc := 12) 9 rfl rfl rfl hs1 ?_
  exact ex_iret (pc := 13) 10 rfl (Or.inl rfl) ⟨_, rfl, h⟩
set_option maxRecDepth 20000 in
theorem qX8_allFacts {G : vm_G} {d : Nat}  {mem : vm_M} {Q : vm_M → Int → Prop} (h : Q mem ((vm_shl 1 (mem 25 1)) - 1)) : vm_ci G d mX8_allFacts [.inr (.inr 24)] mem Q := by
  refine vm_enter (al := [some (.inr (.inr 24))]) 0 okX8_allFacts (by decide +kernel) rfl rfl ?_
  refine ex_iconst (pc := 0) 0 rfl ?_
  refine ex_aload_n (pc := 1) 1 rfl rfl ?_
  refine ex_geta (pc := 2) 0 2 rfl clk8 rfl rfl (Or.inl ww_740) rfl ?_
  refine ex_iconst (pc := 5) 3 rfl ?_
  refine ex_iaload (pc := 6) 4 rfl rfl rfl ⟨by decide, by decide⟩ ?_
  refine ex_ishl (pc := 7) 5 rfl ?_
  refine ex_iconst (pc := 8) 6 rfl ?_
  refine ex_isub (pc := 9) 7 rfl ?_
  exact ex_iret (pc := 10) 8 rfl (Or.inl rfl) ⟨_, rfl, h⟩
set_option maxRecDepth 20000 in
theorem qX8_keep {G : vm_G} {d : Nat}  {mem : vm_M} {Q : vm_M → Prop} (h : (vm_R (mem 24 3)) ∧ ((¬ (mem 24 3) = 6 → vm_ex G d mX8_keep 47 [some (.inr (.inr 24)), some (.inl (vm_rem ((mem 24 2) + (mem 24 3)) 6)), some (.inl 0)] [] mem (vm_qn Q)) ∧ ((mem 24 3) = 6 → (∀ m2, m2 = vm_up mem 24 2 (vm_rem ((mem 24 2) + 1) 6) → (∀ m3, m3 = vm_up m2 24 3 ((m2 24 3) - 1) → vm_ex G d mX8_keep 47 [some (.inr (.inr 24)), some (.inl (vm_rem ((m3 24 2) + (m3 24 3)) 6)), some (.inl 0)] [] m3 (vm_qn Q)))))) : vm_cn G d mX8_keep [.inr (.inr 24)] mem Q := by
  refine vm_enter (al := [some (.inr (.inr 24)), none, none]) 2 okX8_keep (by decide +kernel) rfl rfl ?_
  refine ex_aload_n (pc := 0) 0 rfl rfl ?_
  refine ex_geti (pc := 1) 3 1 rfl clk8 rfl rfl (Or.inl ww_743) rfl ?_
  refine ex_bipush (pc := 4) 2 rfl (by decide) ?_
  obtain ⟨hs1, h⟩ := h
  refine ex_icmp_ne (pc := 6) 32 3 rfl (by decide) hs1 ⟨by decide, by decide⟩ (fun hb => ?_) (fun hb => ?_)
  · have h := h.1 hb
    refine ex_aload_n (pc := 32) 18 rfl rfl ?_
    refine ex_geti (pc := 33) 2 19 rfl clk8 rfl rfl (Or.inl ww_742) rfl ?_
    refine ex_aload_n (pc := 36) 20 rfl rfl ?_
    refine ex_geti (pc := 37) 3 21 rfl clk8 rfl rfl (Or.inl ww_743) rfl ?_
    refine ex_iadd (pc := 40) 22 rfl ?_
    refine ex_bipush (pc := 41) 23 rfl (by decide) ?_
    refine ex_irem (pc := 43) 24 rfl ⟨⟨by decide, by decide⟩, by decide⟩ ?_
    refine ex_istore_n (pc := 44) 25 rfl rfl rfl ?_
    refine ex_iconst (pc := 45) 26 rfl ?_
    refine ex_istore_n (pc := 46) 27 rfl rfl rfl ?_
    exact h
  · have h := h.2 hb
    refine ex_aload_n (pc := 9) 4 rfl rfl ?_
    refine ex_aload_n (pc := 10) 5 rfl rfl ?_
    refine ex_geti (pc := 11) 2 6 rfl clk8 rfl rfl (Or.inl ww_742) rfl ?_
    refine ex_iconst (pc := 14) 7 rfl ?_
    refine ex_iadd (pc := 15) 8 rfl ?_
    refine ex_bipush (pc := 16) 9 rfl (by decide) ?_
    refine ex_irem (pc := 18) 10 rfl ⟨⟨by decide, by decide⟩, by decide⟩ ?_
    have h := h _ rfl
    refine ex_puti (pc := 19) 2 11 rfl clk8 rfl rfl (Or.inl ww_742) rfl rfl rfl ?_
    generalize vm_up mem 24 _ (vm_rem ((mem 24 2) + 1) 6) = m2 at h ⊢
    refine ex_aload_n (pc := 22) 12 rfl rfl ?_
    refine ex_dupa (pc := 23) 13 rfl ?_
    refine ex_geti (pc := 24) 3 14 rfl clk8 rfl rfl (Or.inl ww_743) rfl ?_
    refine ex_iconst (pc := 27) 15 rfl ?_
    refine ex_isub (pc := 28) 16 rfl ?_
    have h := h _ rfl
    refine ex_puti (pc := 29) 3 17 rfl clk8 rfl rfl (Or.inl ww_743) rfl rfl rfl ?_
    generalize vm_up m2 24 _ ((m2 24 3) - 1) = m3 at h ⊢
    refine ex_aload_n (pc := 32) 18 rfl rfl ?_
    refine ex_geti (pc := 33) 2 19 rfl clk8 rfl rfl (Or.inl ww_742) rfl ?_
    refine ex_aload_n (pc := 36) 20 rfl rfl ?_
    refine ex_geti (pc := 37) 3 21 rfl clk8 rfl rfl (Or.inl ww_743) rfl ?_
    refine ex_iadd (pc := 40) 22 rfl ?_
    refine ex_bipush (pc := 41) 23 rfl (by decide) ?_
    refine ex_irem (pc := 43) 24 rfl ⟨⟨by decide, by decide⟩, by decide⟩ ?_
    refine ex_istore_n (pc := 44) 25 rfl rfl rfl ?_
    refine ex_iconst (pc := 45) 26 rfl ?_
    refine ex_istore_n (pc := 46) 27 rfl rfl rfl ?_
    exact h
set_option maxRecDepth 20000 in
theorem qX8_keep_47 {G : vm_G} {d : Nat} {v1 : Int} {v2 : Int} {mem : vm_M} {Q : vm_M → Prop} (h : (vm_R v2) ∧ ((62 ≤ v2 → (∀ m2, m2 = vm_up mem 24 3 ((mem 24 3) + 1) → Q m2)) ∧ (¬ 62 ≤ v2 → (0 ≤ v2 ∧ v2 < 62) ∧ (0 ≤ ((62 * v1) + v2) ∧ ((62 * v1) + v2) < 372) ∧ (∀ m5, m5 = vm_up mem 26 ((62 * v1) + v2) (mem 25 v2) → vm_ex G d mX8_keep 47 [some (.inr (.inr 24)), some (.inl v1), some (.inl (v2 + 1))] [] m5 (vm_qn Q))))) : vm_ex G d mX8_keep 47 [some (.inr (.inr 24)), some (.inl v1), some (.inl v2)] [] mem (vm_qn Q) := by
  refine ex_iload_n (pc := 47) 28 rfl rfl ?_
  refine ex_bipush (pc := 48) 29 rfl (by decide) ?_
  obtain ⟨hs1, h⟩ := h
  refine ex_icmp_ge (pc := 50) 76 30 rfl (by decide) hs1 ⟨by decide, by decide⟩ (fun hb => ?_) (fun hb => ?_)
  · have h := h.1 hb
    refine ex_aload_n (pc := 76) 45 rfl rfl ?_
    refine ex_dupa (pc := 77) 46 rfl ?_
    refine ex_geti (pc := 78) 3 47 rfl clk8 rfl rfl (Or.inl ww_743) rfl ?_
    refine ex_iconst (pc := 81) 48 rfl ?_
    refine ex_iadd (pc := 82) 49 rfl ?_
    have h := h _ rfl
    refine ex_puti (pc := 83) 3 50 rfl clk8 rfl rfl (Or.inl ww_743) rfl rfl rfl ?_
    generalize vm_up mem 24 _ ((mem 24 3) + 1) = m2 at h ⊢
    exact ex_ret (pc := 86) 51 rfl rfl ⟨rfl, h⟩
  · have h := h.2 hb
    refine ex_aload_n (pc := 53) 31 rfl rfl ?_
    refine ex_geta (pc := 54) 1 32 rfl clk8 rfl rfl (Or.inl ww_741) rfl ?_
    refine ex_bipush (pc := 57) 33 rfl (by decide) ?_
    refine ex_iload_n (pc := 59) 34 rfl rfl ?_
    refine ex_imul (pc := 60) 35 rfl ?_
    refine ex_iload_n (pc := 61) 36 rfl rfl ?_
    refine ex_iadd (pc := 62) 37 rfl ?_
    refine ex_aload_n (pc := 63) 38 rfl rfl ?_
    refine ex_geta (pc := 64) 0 39 rfl clk8 rfl rfl (Or.inl ww_740) rfl ?_
    refine ex_iload_n (pc := 67) 40 rfl rfl ?_
    obtain ⟨hs3, h⟩ := h
    refine ex_iaload (pc := 68) 41 rfl rfl rfl hs3 ?_
    obtain ⟨hs4, h⟩ := h
    have h := h _ rfl
    refine ex_iastore (pc := 69) 42 rfl rfl rfl hs4 ?_
    generalize vm_up mem 26 ((62 * v1) + v2) (mem 25 v2) = m5 at h ⊢
    refine ex_iinc (pc := 70) 43 rfl rfl rfl rfl ?_
    refine ex_goto (pc := 73) 47 44 rfl (by decide) ?_
    exact h
set_option maxRecDepth 20000 in
theorem qX8_keepIf {G : vm_G} {d : Nat} {p1 : Bool} {mem : vm_M} {Q : vm_M → Prop} (h : (p1 = false → Q mem) ∧ (p1 = true → vm_cn G d mX8_keep [.inr (.inr 24)] mem (fun m1 => Q m1))) : vm_cn G (d + 1) mX8_keepIf [.inr (.inr 24), .inl (vm_b2i p1)] mem Q := by
  refine vm_enter (al := [some (.inr (.inr 24)), some (.inl (vm_b2i p1))]) 0 okX8_keepIf (by decide +kernel) rfl rfl ?_
  refine ex_iload_n (pc := 0) 0 rfl rfl ?_
  refine ex_if_eq (pc := 1) 8 1 rfl (by decide) (vm_b2i_R _) (fun hb => ?_) (fun hb => ?_)
  · have h := h.1 (vm_b2i_0.mp hb)
    exact ex_ret (pc := 8) 4 rfl rfl ⟨rfl, h⟩
  · have h := h.2 (vm_b2i_n.mp hb)
    refine ex_aload_n (pc := 4) 2 rfl rfl ?_
    refine ex_invV (pc := 5) (M' := mX8_keep) (As := []) (st := []) 3 rfl clk8 rfl rfl calX8_keep (Or.inl ww_818) rfl rfl ?_
    refine vm_call.mono h ?_
    rintro m1 _ ⟨rfl, h⟩
    exact ex_ret (pc := 8) 4 rfl rfl ⟨rfl, h⟩
set_option maxRecDepth 20000 in
theorem qX8_raise {G : vm_G} {d : Nat} {p1 : Int} {p2 : Int} {mem : vm_M} {Q : vm_M → Prop} (h : (0 ≤ p1 ∧ p1 < 12) ∧ (vm_R p2) ∧ (vm_R (mem 29 p1)) ∧ ((p2 ≤ (mem 29 p1) → Q mem) ∧ (¬ p2 ≤ (mem 29 p1) → (∀ m4, m4 = vm_up mem 29 p1 p2 → (∀ m5, m5 = vm_up m4 24 11 1 → Q m5))))) : vm_cn G d mX8_raise [.inr (.inr 24), .inl p1, .inl p2] mem Q := by
  refine vm_enter (al := [some (.inr (.inr 24)), some (.inl p1), some (.inl p2)]) 0 okX8_raise (by decide +kernel) rfl rfl ?_
  refine ex_iload_n (pc := 0) 0 rfl rfl ?_
  refine ex_aload_n (pc := 1) 1 rfl rfl ?_
  refine ex_geta (pc := 2) 6 2 rfl clk8 rfl rfl (Or.inl ww_746) rfl ?_
  refine ex_iload_n (pc := 5) 3 rfl rfl ?_
  obtain ⟨hs1, h⟩ := h
  refine ex_iaload (pc := 6) 4 rfl rfl rfl hs1 ?_
  obtain ⟨hs2, h⟩ := h
  obtain ⟨hs3, h⟩ := h
  refine ex_icmp_le (pc := 7) 22 5 rfl (by decide) hs2 hs3 (fun hb => ?_) (fun hb => ?_)
  · have h := h.1 hb
    exact ex_ret (pc := 22) 14 rfl rfl ⟨rfl, h⟩
  · have h := h.2 hb
    refine ex_aload_n (pc := 10) 6 rfl rfl ?_
    refine ex_geta (pc := 11) 6 7 rfl clk8 rfl rfl (Or.inl ww_746) rfl ?_
    refine ex_iload_n (pc := 14) 8 rfl rfl ?_
    refine ex_iload_n (pc := 15) 9 rfl rfl ?_
    have h := h _ rfl
    refine ex_iastore (pc := 16) 10 rfl rfl rfl hs1 ?_
    generalize vm_up mem 29 p1 p2 = m4 at h ⊢
    refine ex_aload_n (pc := 17) 11 rfl rfl ?_
    refine ex_iconst (pc := 18) 12 rfl ?_
    have h := h _ rfl
    refine ex_putz (pc := 19) 11 13 rfl clk8 rfl rfl (Or.inl ww_751) rfl rfl rfl (by decide) ?_
    generalize vm_up m4 24 _ 1 = m5 at h ⊢
    exact ex_ret (pc := 22) 14 rfl rfl ⟨rfl, h⟩
set_option maxRecDepth 20000 in
theorem qX8_lower {G : vm_G} {d : Nat} {p1 : Int} {p2 : Int} {mem : vm_M} {Q : vm_M → Prop} (h : (0 ≤ p1 ∧ p1 < 12) ∧ (vm_R p2) ∧ (vm_R (mem 30 p1)) ∧ (((mem 30 p1) ≤ p2 → Q mem) ∧ (¬ (mem 30 p1) ≤ p2 → (∀ m4, m4 = vm_up mem 30 p1 p2 → (∀ m5, m5 = vm_up m4 24 11 1 → Q m5))))) : vm_cn G d mX8_lower [.inr (.inr 24), .inl p1, .inl p2] mem Q := by
  refine vm_enter (al := [some (.inr (.inr 24)), some (.inl p1), some (.inl p2)]) 0 okX8_lower (by decide +kernel) rfl rfl ?_
  refine ex_iload_n (pc := 0) 0 rfl rfl ?_
  refine ex_aload_n (pc := 1) 1 rfl rfl ?_
  refine ex_geta (pc := 2) 7 2 rfl clk8 rfl rfl (Or.inl ww_747) rfl ?_
  refine ex_iload_n (pc := 5) 3 rfl rfl ?_
  obtain ⟨hs1, h⟩ := h
  refine ex_iaload (pc := 6) 4 rfl rfl rfl hs1 ?_
  obtain ⟨hs2, h⟩ := h
  obtain ⟨hs3, h⟩ := h
  refine ex_icmp_ge (pc := 7) 22 5 rfl (by decide) hs2 hs3 (fun hb => ?_) (fun hb => ?_)
  · have h := h.1 hb
    exact ex_ret (pc := 22) 14 rfl rfl ⟨rfl, h⟩
  · have h := h.2 hb
    refine ex_aload_n (pc := 10) 6 rfl rfl ?_
    refine ex_geta (pc := 11) 7 7 rfl clk8 rfl rfl (Or.inl ww_747) rfl ?_
    refine ex_iload_n (pc := 14) 8 rfl rfl ?_
    refine ex_iload_n (pc := 15) 9 rfl rfl ?_
    have h := h _ rfl
    refine ex_iastore (pc := 16) 10 rfl rfl rfl hs1 ?_
    generalize vm_up mem 30 p1 p2 = m4 at h ⊢
    refine ex_aload_n (pc := 17) 11 rfl rfl ?_
    refine ex_iconst (pc := 18) 12 rfl ?_
    have h := h _ rfl
    refine ex_putz (pc := 19) 11 13 rfl clk8 rfl rfl (Or.inl ww_751) rfl rfl rfl (by decide) ?_
    generalize vm_up m4 24 _ 1 = m5 at h ⊢
    exact ex_ret (pc := 22) 14 rfl rfl ⟨rfl, h⟩
set_option maxRecDepth 20000 in
theorem qX8_lesser {G : vm_G} {d : Nat} {p0 : Int} {p1 : Int} {mem : vm_M} {Q : vm_M → Int → Prop} (h : (vm_R p0) ∧ (vm_R p1) ∧ ((p1 ≤ p0 → Q mem p1) ∧ (¬ p1 ≤ p0 → Q mem p0))) : vm_ci G d mX8_lesser [.inl p0, .inl p1] mem Q := by
  refine vm_enter (al := [some (.inl p0), some (.inl p1)]) 0 okX8_lesser (by decide +kernel) rfl rfl ?_
  refine ex_iload_n (pc := 0) 0 rfl rfl ?_
  refine ex_iload_n (pc := 1) 1 rfl rfl ?_
  obtain ⟨hs1, h⟩ := h
  obtain ⟨hs2, h⟩ := h
  refine ex_icmp_ge (pc := 2) 9 2 rfl (by decide) hs1 hs2 (fun hb => ?_) (fun hb => ?_)
  · have h := h.1 hb
    refine ex_iload_n (pc := 9) 5 rfl rfl ?_
    exact ex_iret (pc := 10) 6 rfl (Or.inl rfl) ⟨_, rfl, h⟩
  · have h := h.2 hb
    refine ex_iload_n (pc := 5) 3 rfl rfl ?_
    refine ex_goto (pc := 6) 10 4 rfl (by decide) ?_
    exact ex_iret (pc := 10) 6 rfl (Or.inl rfl) ⟨_, rfl, h⟩
set_option maxRecDepth 20000 in
theorem qX8_greater {G : vm_G} {d : Nat} {p0 : Int} {p1 : Int} {mem : vm_M} {Q : vm_M → Int → Prop} (h : (vm_R p0) ∧ (vm_R p1) ∧ ((p0 ≤ p1 → Q mem p1) ∧ (¬ p0 ≤ p1 → Q mem p0))) : vm_ci G d mX8_greater [.inl p0, .inl p1] mem Q := by
  refine vm_enter (al := [some (.inl p0), some (.inl p1)]) 0 okX8_greater (by decide +kernel) rfl rfl ?_
  refine ex_iload_n (pc := 0) 0 rfl rfl ?_
  refine ex_iload_n (pc := 1) 1 rfl rfl ?_
  obtain ⟨hs1, h⟩ := h
  obtain ⟨hs2, h⟩ := h
  refine ex_icmp_le (pc := 2) 9 2 rfl (by decide) hs1 hs2 (fun hb => ?_) (fun hb => ?_)
  · have h := h.1 hb
    refine ex_iload_n (pc := 9) 5 rfl rfl ?_
    exact ex_iret (pc := 10) 6 rfl (Or.inl rfl) ⟨_, rfl, h⟩
  · have h := h.2 hb
    refine ex_iload_n (pc := 5) 3 rfl rfl ?_
    refine ex_goto (pc := 6) 10 4 rfl (by decide) ?_
    exact ex_iret (pc := 10) 6 rfl (Or.inl rfl) ⟨_, rfl, h⟩
set_option maxRecDepth 20000 in
theorem qX8_narrowSize {G : vm_G} {d : Nat} {p1 : Int} {p2 : Int} {p3 : Int} {mem : vm_M} {Q : vm_M → Prop} (h : vm_ex G (d + 1) mX8_narrowSize 9 [some (.inr (.inr 24)), some (.inl p1), some (.inl p2), some (.inl p3), some (.inl 0), some (.inl 0), some (.inl 0), none, none, none] [] mem (vm_qn Q)) : vm_cn G (d + 1) mX8_narrowSize [.inr (.inr 24), .inl p1, .inl p2, .inl p3] mem Q := by
  refine vm_enter (al := [some (.inr (.inr 24)), some (.inl p1), some (.inl p2), some (.inl p3), none, none, none, none, none, none]) 6 okX8_narrowSize (by decide +kernel) rfl rfl ?_
  refine ex_iconst (pc := 0) 0 rfl ?_
  refine ex_istore (pc := 1) 1 rfl rfl rfl ?_
  refine ex_iconst (pc := 3) 2 rfl ?_
  refine ex_istore (pc := 4) 3 rfl rfl rfl ?_
  refine ex_iconst (pc := 6) 4 rfl ?_
  refine ex_istore (pc := 7) 5 rfl rfl rfl ?_
  exact h
set_option maxRecDepth 20000 in
theorem qX8_narrowSize_9 {G : vm_G} {d : Nat} {v1 : Int} {v2 : Int} {v3 : Int} {v4 : Int} {v5 : Int} {v6 : Int} {mem : vm_M} {Q : vm_M → Prop} (h : (vm_R v6) ∧ ((3 ≤ v6 → vm_ex G (d + 1) mX8_narrowSize 56 [some (.inr (.inr 24)), some (.inl v1), some (.inl v2), some (.inl v3), some (.inl v4), some (.inl v5), some (.inl 0), none, none, none] [] mem (vm_qn Q)) ∧ (¬ 3 ≤ v6 → (0 ≤ ((3 * v1) + v6) ∧ ((3 * v1) + v6) < 12) ∧ vm_ex G (d + 1) mX8_narrowSize 9 [some (.inr (.inr 24)), some (.inl v1), some (.inl v2), some (.inl v3), some (.inl (v4 + (mem 29 ((3 * v1) + v6)))), some (.inl (v5 + (mem 30 ((3 * v1) + v6)))), some (.inl (v6 + 1)), none, none, none] [] mem (vm_qn Q)))) : vm_ex G (d + 1) mX8_narrowSize 9 [some (.inr (.inr 24)), some (.inl v1), some (.inl v2), some (.inl v3), some (.inl v4), some (.inl v5), some (.inl v6), none, none, none] [] mem (vm_qn Q) := by
  refine ex_iload (pc := 9) 6 rfl rfl ?_
  refine ex_iconst (pc := 11) 7 rfl ?_
  obtain ⟨hs1, h⟩ := h
  refine ex_icmp_ge (pc := 12) 53 8 rfl (by decide) hs1 ⟨by decide, by decide⟩ (fun hb => ?_) (fun hb => ?_)
  · have h := h.1 hb
    refine ex_iconst (pc := 53) 33 rfl ?_
    refine ex_istore (pc := 54) 34 rfl rfl rfl ?_
    exact h
  · have h := h.2 hb
    refine ex_iload (pc := 15) 9 rfl rfl ?_
    refine ex_aload_n (pc := 17) 10 rfl rfl ?_
    refine ex_geta (pc := 18) 6 11 rfl clk8 rfl rfl (Or.inl ww_746) rfl ?_
    refine ex_iconst (pc := 21) 12 rfl ?_
    refine ex_iload_n (pc := 22) 13 rfl rfl ?_
    refine ex_imul (pc := 23) 14 rfl ?_
    refine ex_iload (pc := 24) 15 rfl rfl ?_
    refine ex_iadd (pc := 26) 16 rfl ?_
    obtain ⟨hs2, h⟩ := h
    refine ex_iaload (pc := 27) 17 rfl rfl rfl hs2 ?_
    refine ex_iadd (pc := 28) 18 rfl ?_
    refine ex_istore (pc := 29) 19 rfl rfl rfl ?_
    refine ex_iload (pc := 31) 20 rfl rfl ?_
    refine ex_aload_n (pc := 33) 21 rfl rfl ?_
    refine ex_geta (pc := 34) 7 22 rfl clk8 rfl rfl (Or.inl ww_747) rfl ?_
    refine ex_iconst (pc := 37) 23 rfl ?_
    refine ex_iload_n (pc := 38) 24 rfl rfl ?_
    refine ex_imul (pc := 39) 25 rfl ?_
    refine ex_iload (pc := 40) 26 rfl rfl ?_
    refine ex_iadd (pc := 42) 27 rfl ?_
    refine ex_iaload (pc := 43) 28 rfl rfl rfl hs2 ?_
    refine ex_iadd (pc := 44) 29 rfl ?_
    refine ex_istore (pc := 45) 30 rfl rfl rfl ?_
    refine ex_iinc (pc := 47) 31 rfl rfl rfl rfl ?_
    refine ex_goto (pc := 50) 9 32 rfl (by decide) ?_
    exact h
set_option maxRecDepth 20000 in
theorem qX8_narrowSize_56 {G : vm_G} {d : Nat} {v1 : Int} {v2 : Int} {v3 : Int} {v4 : Int} {v5 : Int} {v6 : Int} {mem : vm_M} {Q : vm_M → Prop} (h : (vm_R v6) ∧ ((3 ≤ v6 → Q mem) ∧ (¬ 3 ≤ v6 → (0 ≤ ((3 * v1) + v6) ∧ ((3 * v1) + v6) < 12) ∧ vm_cn G d mX8_raise [.inr (.inr 24), .inl ((3 * v1) + v6), .inl (v2 - (v5 - (mem 30 ((3 * v1) + v6))))] mem (fun m3 => vm_cn G d mX8_lower [.inr (.inr 24), .inl ((3 * v1) + v6), .inl (v3 - (v4 - (mem 29 ((3 * v1) + v6))))] m3 (fun m5 => vm_ex G (d + 1) mX8_narrowSize 56 [some (.inr (.inr 24)), some (.inl v1), some (.inl v2), some (.inl v3), some (.inl v4), some (.inl v5), some (.inl (v6 + 1)), none, none, none] [] m5 (vm_qn Q)))))) : vm_ex G (d + 1) mX8_narrowSize 56 [some (.inr (.inr 24)), some (.inl v1), some (.inl v2), some (.inl v3), some (.inl v4), some (.inl v5), some (.inl v6), none, none, none] [] mem (vm_qn Q) := by
  refine ex_iload (pc := 56) 35 rfl rfl ?_
  refine ex_iconst (pc := 58) 36 rfl ?_
  obtain ⟨hs1, h⟩ := h
  refine ex_icmp_ge (pc := 59) 120 37 rfl (by decide) hs1 ⟨by decide, by decide⟩ (fun hb => ?_) (fun hb => ?_)
  · have h := h.1 hb
    exact ex_ret (pc := 120) 72 rfl rfl ⟨rfl, h⟩
  · have h := h.2 hb
    refine ex_iconst (pc := 62) 38 rfl ?_
    refine ex_iload_n (pc := 63) 39 rfl rfl ?_
    refine ex_imul (pc := 64) 40 rfl ?_
    refine ex_iload (pc := 65) 41 rfl rfl ?_
    refine ex_iadd (pc := 67) 42 rfl ?_
    refine ex_istore (pc := 68) 43 rfl rfl rfl ?_
    refine ex_iload (pc := 70) 44 rfl rfl ?_
    refine ex_aload_n (pc := 72) 45 rfl rfl ?_
    refine ex_geta (pc := 73) 6 46 rfl clk8 rfl rfl (Or.inl ww_746) rfl ?_
    refine ex_iload (pc := 76) 47 rfl rfl ?_
    obtain ⟨hs2, h⟩ := h
    refine ex_iaload (pc := 78) 48 rfl rfl rfl hs2 ?_
    refine ex_isub (pc := 79) 49 rfl ?_
    refine ex_istore (pc := 80) 50 rfl rfl rfl ?_
    refine ex_iload (pc := 82) 51 rfl rfl ?_
    refine ex_aload_n (pc := 84) 52 rfl rfl ?_
    refine ex_geta (pc := 85) 7 53 rfl clk8 rfl rfl (Or.inl ww_747) rfl ?_
    refine ex_iload (pc := 88) 54 rfl rfl ?_
    refine ex_iaload (pc := 90) 55 rfl rfl rfl hs2 ?_
    refine ex_isub (pc := 91) 56 rfl ?_
    refine ex_istore (pc := 92) 57 rfl rfl rfl ?_
    refine ex_aload_n (pc := 94) 58 rfl rfl ?_
    refine ex_iload (pc := 95) 59 rfl rfl ?_
    refine ex_iload_n (pc := 97) 60 rfl rfl ?_
    refine ex_iload (pc := 98) 61 rfl rfl ?_
    refine ex_isub (pc := 100) 62 rfl ?_
    refine ex_invV (pc := 101) (M' := mX8_raise) (As := [.inl ((3 * v1) + v6), .inl (v2 - (v5 - (mem 30 ((3 * v1) + v6))))]) (st := []) 63 rfl clk8 rfl rfl calX8_raise (Or.inl ww_899) rfl rfl ?_
    refine vm_call.mono h ?_
    rintro m3 _ ⟨rfl, h⟩
    refine ex_aload_n (pc := 104) 64 rfl rfl ?_
    refine ex_iload (pc := 105) 65 rfl rfl ?_
    refine ex_iload_n (pc := 107) 66 rfl rfl ?_
    refine ex_iload (pc := 108) 67 rfl rfl ?_
    refine ex_isub (pc := 110) 68 rfl ?_
    refine ex_invV (pc := 111) (M' := mX8_lower) (As := [.inl ((3 * v1) + v6), .inl (v3 - (v4 - (mem 29 ((3 * v1) + v6))))]) (st := []) 69 rfl clk8 rfl rfl calX8_lower (Or.inl ww_903) rfl rfl ?_
    refine vm_call.mono h ?_
    rintro m5 _ ⟨rfl, h⟩
    refine ex_iinc (pc := 114) 70 rfl rfl rfl rfl ?_
    refine ex_goto (pc := 117) 56 71 rfl (by decide) ?_
    exact ex_less [some (.inr (.inr 24)), some (.inl v1), some (.inl v2), some (.inl v3), some (.inl v4), some (.inl v5), some (.inl (v6 + 1)), none, none, none] (And.intro rfl (And.intro rfl (And.intro rfl (And.intro rfl (And.intro rfl (And.intro rfl (And.intro rfl (True.intro)))))))) h
set_option maxRecDepth 20000 in
theorem qX8_narrowTwice {G : vm_G} {d : Nat} {p1 : Int} {p2 : Int} {mem : vm_M} {Q : vm_M → Prop} (h : (0 ≤ p1 ∧ p1 < 12) ∧ vm_cn G d mX8_raise [.inr (.inr 24), .inl p1, .inl ((mem 29 p1) + (vm_rem (mem 29 p1) 2))] mem (fun m2 => vm_cn G d mX8_lower [.inr (.inr 24), .inl p1, .inl ((m2 30 p1) - (vm_rem (m2 30 p1) 2))] m2 (fun m4 => (0 ≤ p2 ∧ p2 < 12) ∧ vm_cn G d mX8_raise [.inr (.inr 24), .inl p1, .inl (2 * (m4 29 p2))] m4 (fun m7 => vm_cn G d mX8_lower [.inr (.inr 24), .inl p1, .inl (2 * (m7 30 p2))] m7 (fun m9 => vm_cn G d mX8_raise [.inr (.inr 24), .inl p2, .inl (vm_div ((m9 29 p1) + 1) 2)] m9 (fun m11 => vm_cn G d mX8_lower [.inr (.inr 24), .inl p2, .inl (vm_div (m11 30 p1) 2)] m11 (fun m13 => Q m13))))))) : vm_cn G (d + 1) mX8_narrowTwice [.inr (.inr 24), .inl p1, .inl p2] mem Q := by
  refine vm_enter (al := [some (.inr (.inr 24)), some (.inl p1), some (.inl p2)]) 0 okX8_narrowTwice (by decide +kernel) rfl rfl ?_
  refine ex_aload_n (pc := 0) 0 rfl rfl ?_
  refine ex_iload_n (pc := 1) 1 rfl rfl ?_
  refine ex_aload_n (pc := 2) 2 rfl rfl ?_
  refine ex_geta (pc := 3) 6 3 rfl clk8 rfl rfl (Or.inl ww_746) rfl ?_
  refine ex_iload_n (pc := 6) 4 rfl rfl ?_
  obtain ⟨hs1, h⟩ := h
  refine ex_iaload (pc := 7) 5 rfl rfl rfl hs1 ?_
  refine ex_aload_n (pc := 8) 6 rfl rfl ?_
  refine ex_geta (pc := 9) 6 7 rfl clk8 rfl rfl (Or.inl ww_746) rfl ?_
  refine ex_iload_n (pc := 12) 8 rfl rfl ?_
  refine ex_iaload (pc := 13) 9 rfl rfl rfl hs1 ?_
  refine ex_iconst (pc := 14) 10 rfl ?_
  refine ex_irem (pc := 15) 11 rfl ⟨⟨by decide, by decide⟩, by decide⟩ ?_
  refine ex_iadd (pc := 16) 12 rfl ?_
  refine ex_invV (pc := 17) (M' := mX8_raise) (As := [.inl p1, .inl ((mem 29 p1) + (vm_rem (mem 29 p1) 2))]) (st := []) 13 rfl clk8 rfl rfl calX8_raise (Or.inl ww_899) rfl rfl ?_
  refine vm_call.mono h ?_
  rintro m2 _ ⟨rfl, h⟩
  refine ex_aload_n (pc := 20) 14 rfl rfl ?_
  refine ex_iload_n (pc := 21) 15 rfl rfl ?_
  refine ex_aload_n (pc := 22) 16 rfl rfl ?_
  refine ex_geta (pc := 23) 7 17 rfl clk8 rfl rfl (Or.inl ww_747) rfl ?_
  refine ex_iload_n (pc := 26) 18 rfl rfl ?_
  refine ex_iaload (pc := 27) 19 rfl rfl rfl hs1 ?_
  refine ex_aload_n (pc := 28) 20 rfl rfl ?_
  refine ex_geta (pc := 29) 7 21 rfl clk8 rfl rfl (Or.inl ww_747) rfl ?_
  refine ex_iload_n (pc := 32) 22 rfl rfl ?_
  refine ex_iaload (pc := 33) 23 rfl rfl rfl hs1 ?_
  refine ex_iconst (pc := 34) 24 rfl ?_
  refine ex_irem (pc := 35) 25 rfl ⟨⟨by decide, by decide⟩, by decide⟩ ?_
  refine ex_isub (pc := 36) 26 rfl ?_
  refine ex_invV (pc := 37) (M' := mX8_lower) (As := [.inl p1, .inl ((m2 30 p1) - (vm_rem (m2 30 p1) 2))]) (st := []) 27 rfl clk8 rfl rfl calX8_lower (Or.inl ww_903) rfl rfl ?_
  refine vm_call.mono h ?_
  rintro m4 _ ⟨rfl, h⟩
  refine ex_aload_n (pc := 40) 28 rfl rfl ?_
  refine ex_iload_n (pc := 41) 29 rfl rfl ?_
  refine ex_iconst (pc := 42) 30 rfl ?_
  refine ex_aload_n (pc := 43) 31 rfl rfl ?_
  refine ex_geta (pc := 44) 6 32 rfl clk8 rfl rfl (Or.inl ww_746) rfl ?_
  refine ex_iload_n (pc := 47) 33 rfl rfl ?_
  obtain ⟨hs6, h⟩ := h
  refine ex_iaload (pc := 48) 34 rfl rfl rfl hs6 ?_
  refine ex_imul (pc := 49) 35 rfl ?_
  refine ex_invV (pc := 50) (M' := mX8_raise) (As := [.inl p1, .inl (2 * (m4 29 p2))]) (st := []) 36 rfl clk8 rfl rfl calX8_raise (Or.inl ww_899) rfl rfl ?_
  refine vm_call.mono h ?_
  rintro m7 _ ⟨rfl, h⟩
  refine ex_aload_n (pc := 53) 37 rfl rfl ?_
  refine ex_iload_n (pc := 54) 38 rfl rfl ?_
  refine ex_iconst (pc := 55) 39 rfl ?_
  refine ex_aload_n (pc := 56) 40 rfl rfl ?_
  refine ex_geta (pc := 57) 7 41 rfl clk8 rfl rfl (Or.inl ww_747) rfl ?_
  refine ex_iload_n (pc := 60) 42 rfl rfl ?_
  refine ex_iaload (pc := 61) 43 rfl rfl rfl hs6 ?_
  refine ex_imul (pc := 62) 44 rfl ?_
  refine ex_invV (pc := 63) (M' := mX8_lower) (As := [.inl p1, .inl (2 * (m7 30 p2))]) (st := []) 45 rfl clk8 rfl rfl calX8_lower (Or.inl ww_903) rfl rfl ?_
  refine vm_call.mono h ?_
  rintro m9 _ ⟨rfl, h⟩
  refine ex_aload_n (pc := 66) 46 rfl rfl ?_
  refine ex_iload_n (pc := 67) 47 rfl rfl ?_
  refine ex_aload_n (pc := 68) 48 rfl rfl ?_
  refine ex_geta (pc := 69) 6 49 rfl clk8 rfl rfl (Or.inl ww_746) rfl ?_
  refine ex_iload_n (pc := 72) 50 rfl rfl ?_
  refine ex_iaload (pc := 73) 51 rfl rfl rfl hs1 ?_
  refine ex_iconst (pc := 74) 52 rfl ?_
  refine ex_iadd (pc := 75) 53 rfl ?_
  refine ex_iconst (pc := 76) 54 rfl ?_
  refine ex_idiv (pc := 77) 55 rfl ⟨⟨by decide, by decide⟩, by decide⟩ ?_
  refine ex_invV (pc := 78) (M' := mX8_raise) (As := [.inl p2, .inl (vm_div ((m9 29 p1) + 1) 2)]) (st := []) 56 rfl clk8 rfl rfl calX8_raise (Or.inl ww_899) rfl rfl ?_
  refine vm_call.mono h ?_
  rintro m11 _ ⟨rfl, h⟩
  refine ex_aload_n (pc := 81) 57 rfl rfl ?_
  refine ex_iload_n (pc := 82) 58 rfl rfl ?_
  refine ex_aload_n (pc := 83) 59 rfl rfl ?_
  refine ex_geta (pc := 84) 7 60 rfl clk8 rfl rfl (Or.inl ww_747) rfl ?_
  refine ex_iload_n (pc := 87) 61 rfl rfl ?_
  refine ex_iaload (pc := 88) 62 rfl rfl rfl hs1 ?_
  refine ex_iconst (pc := 89) 63 rfl ?_
  refine ex_idiv (pc := 90) 64 rfl ⟨⟨by decide, by decide⟩, by decide⟩ ?_
  refine ex_invV (pc := 91) (M' := mX8_lower) (As := [.inl p2, .inl (vm_div (m11 30 p1) 2)]) (st := []) 65 rfl clk8 rfl rfl calX8_lower (Or.inl ww_903) rfl rfl ?_
  refine vm_call.mono h ?_
  rintro m13 _ ⟨rfl, h⟩
  exact ex_ret (pc := 94) 66 rfl rfl ⟨rfl, h⟩
set_option maxRecDepth 20000 in
theorem qX8_narrowSum {G : vm_G} {d : Nat} {p1 : Int} {p2 : Int} {p3 : Int} {mem : vm_M} {Q : vm_M → Prop} (h : (vm_R p1) ∧ (vm_R p2) ∧ ((¬ p1 = p2 → (vm_R p3) ∧ ((¬ p1 = p3 → ((¬ p2 = p3 → (0 ≤ p2 ∧ p2 < 12) ∧ (0 ≤ p3 ∧ p3 < 12) ∧ vm_cn G d mX8_raise [.inr (.inr 24), .inl p1, .inl ((mem 29 p2) + (mem 29 p3))] mem (fun m6 => vm_cn G d mX8_lower [.inr (.inr 24), .inl p1, .inl ((m6 30 p2) + (m6 30 p3))] m6 (fun m8 => (0 ≤ p1 ∧ p1 < 12) ∧ vm_cn G d mX8_raise [.inr (.inr 24), .inl p2, .inl ((m8 29 p1) - (m8 30 p3))] m8 (fun m11 => vm_cn G d mX8_lower [.inr (.inr 24), .inl p2, .inl ((m11 30 p1) - (m11 29 p3))] m11 (fun m13 => vm_cn G d mX8_raise [.inr (.inr 24), .inl p3, .inl ((m13 29 p1) - (m13 30 p2))] m13 (fun m15 => vm_cn G d mX8_lower [.inr (.inr 24), .inl p3, .inl ((m15 30 p1) - (m15 29 p2))] m15 (fun m17 => Q m17))))))) ∧ (p2 = p3 → vm_cn G d mX8_narrowTwice [.inr (.inr 24), .inl p1, .inl p2] mem (fun m19 => Q m19)))) ∧ (p1 = p3 → vm_cn G d mX8_lower [.inr (.inr 24), .inl p2, .inl 0] mem (fun m21 => Q m21)))) ∧ (p1 = p2 → vm_cn G d mX8_lower [.inr (.inr 24), .inl p3, .inl 0] mem (fun m23 => Q m23)))) : vm_cn G (d + 1) mX8_narrowSum [.inr (.inr 24), .inl p1, .inl p2, .inl p3] mem Q := by
  refine vm_enter (al := [some (.inr (.inr 24)), some (.inl p1), some (.inl p2), some (.inl p3)]) 0 okX8_narrowSum (by decide +kernel) rfl rfl ?_
  refine ex_iload_n (pc := 0) 0 rfl rfl ?_
  refine ex_iload_n (pc := 1) 1 rfl rfl ?_
  obtain ⟨hs1, h⟩ := h
  obtain ⟨hs2, h⟩ := h
  refine ex_icmp_ne (pc := 2) 12 2 rfl (by decide) hs1 hs2 (fun hb => ?_) (fun hb => ?_)
  · have h := h.1 hb
    refine ex_iload_n (pc := 12) 8 rfl rfl ?_
    refine ex_iload_n (pc := 13) 9 rfl rfl ?_
    obtain ⟨hs3, h⟩ := h
    refine ex_icmp_ne (pc := 14) 24 10 rfl (by decide) hs1 hs3 (fun hb => ?_) (fun hb => ?_)
    · have h := h.1 hb
      refine ex_iload_n (pc := 24) 16 rfl rfl ?_
      refine ex_iload_n (pc := 25) 17 rfl rfl ?_
      refine ex_icmp_ne (pc := 26) 36 18 rfl (by decide) hs2 hs3 (fun hb => ?_) (fun hb => ?_)
      · have h := h.1 hb
        refine ex_aload_n (pc := 36) 24 rfl rfl ?_
        refine ex_iload_n (pc := 37) 25 rfl rfl ?_
        refine ex_aload_n (pc := 38) 26 rfl rfl ?_
        refine ex_geta (pc := 39) 6 27 rfl clk8 rfl rfl (Or.inl ww_746) rfl ?_
        refine ex_iload_n (pc := 42) 28 rfl rfl ?_
        obtain ⟨hs4, h⟩ := h
        refine ex_iaload (pc := 43) 29 rfl rfl rfl hs4 ?_
        refine ex_aload_n (pc := 44) 30 rfl rfl ?_
        refine ex_geta (pc := 45) 6 31 rfl clk8 rfl rfl (Or.inl ww_746) rfl ?_
        refine ex_iload_n (pc := 48) 32 rfl rfl ?_
        obtain ⟨hs5, h⟩ := h
        refine ex_iaload (pc := 49) 33 rfl rfl rfl hs5 ?_
        refine ex_iadd (pc := 50) 34 rfl ?_
        refine ex_invV (pc := 51) (M' := mX8_raise) (As := [.inl p1, .inl ((mem 29 p2) + (mem 29 p3))]) (st := []) 35 rfl clk8 rfl rfl calX8_raise (Or.inl ww_899) rfl rfl ?_
        refine vm_call.mono h ?_
        rintro m6 _ ⟨rfl, h⟩
        refine ex_aload_n (pc := 54) 36 rfl rfl ?_
        refine ex_iload_n (pc := 55) 37 rfl rfl ?_
        refine ex_aload_n (pc := 56) 38 rfl rfl ?_
        refine ex_geta (pc := 57) 7 39 rfl clk8 rfl rfl (Or.inl ww_747) rfl ?_
        refine ex_iload_n (pc := 60) 40 rfl rfl ?_
        refine ex_iaload (pc := 61) 41 rfl rfl rfl hs4 ?_
        refine ex_aload_n (pc := 62) 42 rfl rfl ?_
        refine ex_geta (pc := 63) 7 43 rfl clk8 rfl rfl (Or.inl ww_747) rfl ?_
        refine ex_iload_n (pc := 66) 44 rfl rfl ?_
        refine ex_iaload (pc := 67) 45 rfl rfl rfl hs5 ?_
        refine ex_iadd (pc := 68) 46 rfl ?_
        refine ex_invV (pc := 69) (M' := mX8_lower) (As := [.inl p1, .inl ((m6 30 p2) + (m6 30 p3))]) (st := []) 47 rfl clk8 rfl rfl calX8_lower (Or.inl ww_903) rfl rfl ?_
        refine vm_call.mono h ?_
        rintro m8 _ ⟨rfl, h⟩
        refine ex_aload_n (pc := 72) 48 rfl rfl ?_
        refine ex_iload_n (pc := 73) 49 rfl rfl ?_
        refine ex_aload_n (pc := 74) 50 rfl rfl ?_
        refine ex_geta (pc := 75) 6 51 rfl clk8 rfl rfl (Or.inl ww_746) rfl ?_
        refine ex_iload_n (pc := 78) 52 rfl rfl ?_
        obtain ⟨hs10, h⟩ := h
        refine ex_iaload (pc := 79) 53 rfl rfl rfl hs10 ?_
        refine ex_aload_n (pc := 80) 54 rfl rfl ?_
        refine ex_geta (pc := 81) 7 55 rfl clk8 rfl rfl (Or.inl ww_747) rfl ?_
        refine ex_iload_n (pc := 84) 56 rfl rfl ?_
        refine ex_iaload (pc := 85) 57 rfl rfl rfl hs5 ?_
        refine ex_isub (pc := 86) 58 rfl ?_
        refine ex_invV (pc := 87) (M' := mX8_raise) (As := [.inl p2, .inl ((m8 29 p1) - (m8 30 p3))]) (st := []) 59 rfl clk8 rfl rfl calX8_raise (Or.inl ww_899) rfl rfl ?_
        refine vm_call.mono h ?_
        rintro m11 _ ⟨rfl, h⟩
        refine ex_aload_n (pc := 90) 60 rfl rfl ?_
        refine ex_iload_n (pc := 91) 61 rfl rfl ?_
        refine ex_aload_n (pc := 92) 62 rfl rfl ?_
        refine ex_geta (pc := 93) 7 63 rfl clk8 rfl rfl (Or.inl ww_747) rfl ?_
        refine ex_iload_n (pc := 96) 64 rfl rfl ?_
        refine ex_iaload (pc := 97) 65 rfl rfl rfl hs10 ?_
        refine ex_aload_n (pc := 98) 66 rfl rfl ?_
        refine ex_geta (pc := 99) 6 67 rfl clk8 rfl rfl (Or.inl ww_746) rfl ?_
        refine ex_iload_n (pc := 102) 68 rfl rfl ?_
        refine ex_iaload (pc := 103) 69 rfl rfl rfl hs5 ?_
        refine ex_isub (pc := 104) 70 rfl ?_
        refine ex_invV (pc := 105) (M' := mX8_lower) (As := [.inl p2, .inl ((m11 30 p1) - (m11 29 p3))]) (st := []) 71 rfl clk8 rfl rfl calX8_lower (Or.inl ww_903) rfl rfl ?_
        refine vm_call.mono h ?_
        rintro m13 _ ⟨rfl, h⟩
        refine ex_aload_n (pc := 108) 72 rfl rfl ?_
        refine ex_iload_n (pc := 109) 73 rfl rfl ?_
        refine ex_aload_n (pc := 110) 74 rfl rfl ?_
        refine ex_geta (pc := 111) 6 75 rfl clk8 rfl rfl (Or.inl ww_746) rfl ?_
        refine ex_iload_n (pc := 114) 76 rfl rfl ?_
        refine ex_iaload (pc := 115) 77 rfl rfl rfl hs10 ?_
        refine ex_aload_n (pc := 116) 78 rfl rfl ?_
        refine ex_geta (pc := 117) 7 79 rfl clk8 rfl rfl (Or.inl ww_747) rfl ?_
        refine ex_iload_n (pc := 120) 80 rfl rfl ?_
        refine ex_iaload (pc := 121) 81 rfl rfl rfl hs4 ?_
        refine ex_isub (pc := 122) 82 rfl ?_
        refine ex_invV (pc := 123) (M' := mX8_raise) (As := [.inl p3, .inl ((m13 29 p1) - (m13 30 p2))]) (st := []) 83 rfl clk8 rfl rfl calX8_raise (Or.inl ww_899) rfl rfl ?_
        refine vm_call.mono h ?_
        rintro m15 _ ⟨rfl, h⟩
        refine ex_aload_n (pc := 126) 84 rfl rfl ?_
        refine ex_iload_n (pc := 127) 85 rfl rfl ?_
        refine ex_aload_n (pc := 128) 86 rfl rfl ?_
        refine ex_geta (pc := 129) 7 87 rfl clk8 rfl rfl (Or.inl ww_747) rfl ?_
        refine ex_iload_n (pc := 132) 88 rfl rfl ?_
        refine ex_iaload (pc := 133) 89 rfl rfl rfl hs10 ?_
        refine ex_aload_n (pc := 134) 90 rfl rfl ?_
        refine ex_geta (pc := 135) 6 91 rfl clk8 rfl rfl (Or.inl ww_746) rfl ?_
        refine ex_iload_n (pc := 138) 92 rfl rfl ?_
        refine ex_iaload (pc := 139) 93 rfl rfl rfl hs4 ?_
        refine ex_isub (pc := 140) 94 rfl ?_
        refine ex_invV (pc := 141) (M' := mX8_lower) (As := [.inl p3, .inl ((m15 30 p1) - (m15 29 p2))]) (st := []) 95 rfl clk8 rfl rfl calX8_lower (Or.inl ww_903) rfl rfl ?_
        refine vm_call.mono h ?_
        rintro m17 _ ⟨rfl, h⟩
        exact ex_ret (pc := 144) 96 rfl rfl ⟨rfl, h⟩
      · have h := h.2 hb
        refine ex_aload_n (pc := 29) 19 rfl rfl ?_
        refine ex_iload_n (pc := 30) 20 rfl rfl ?_
        refine ex_iload_n (pc := 31) 21 rfl rfl ?_
        refine ex_invV (pc := 32) (M' := mX8_narrowTwice) (As := [.inl p1, .inl p2]) (st := []) 22 rfl clk8 rfl rfl calX8_narrowTwice (Or.inl ww_931) rfl rfl ?_
        refine vm_call.mono h ?_
        rintro m19 _ ⟨rfl, h⟩
        exact ex_ret (pc := 35) 23 rfl rfl ⟨rfl, h⟩
    · have h := h.2 hb
      refine ex_aload_n (pc := 17) 11 rfl rfl ?_
      refine ex_iload_n (pc := 18) 12 rfl rfl ?_
      refine ex_iconst (pc := 19) 13 rfl ?_
      refine ex_invV (pc := 20) (M' := mX8_lower) (As := [.inl p2, .inl 0]) (st := []) 14 rfl clk8 rfl rfl calX8_lower (Or.inl ww_903) rfl rfl ?_
      refine vm_call.mono h ?_
      rintro m21 _ ⟨rfl, h⟩
      exact ex_ret (pc := 23) 15 rfl rfl ⟨rfl, h⟩
  · have h := h.2 hb
    refine ex_aload_n (pc := 5) 3 rfl rfl ?_
    refine ex_iload_n (pc := 6) 4 rfl rfl ?_
    refine ex_iconst (pc := 7) 5 rfl ?_
    refine ex_invV (pc := 8) (M' := mX8_lower) (As := [.inl p3, .inl 0]) (st := []) 6 rfl clk8 rfl rfl calX8_lower (Or.inl ww_903) rfl rfl ?_
    refine vm_call.mono h ?_
    rintro m23 _ ⟨rfl, h⟩
    exact ex_ret (pc := 11) 7 rfl rfl ⟨rfl, h⟩
set_option maxRecDepth 20000 in
theorem qX8_narrowGreatest {G : vm_G} {d : Nat} {p1 : Int} {p2 : Int} {p3 : Int} {mem : vm_M} {Q : vm_M → Prop} (h : (vm_R p1) ∧ (vm_R p2) ∧ ((p1 = p2 → ((¬ p1 = p2 → vm_cn G d mX8_narrowMore [.inr (.inr 24), .inl p1, .inl p2, .inl 0] mem (fun m3 => Q m3)) ∧ (p1 = p2 → vm_cn G d mX8_narrowMore [.inr (.inr 24), .inl p1, .inl p3, .inl 0] mem (fun m5 => Q m5)))) ∧ (¬ p1 = p2 → (vm_R p3) ∧ ((¬ p1 = p3 → (0 ≤ p2 ∧ p2 < 12) ∧ (0 ≤ p3 ∧ p3 < 12) ∧ vm_ci G d mX8_greater [.inl (mem 29 p2), .inl (mem 29 p3)] mem (fun m10 r11 => vm_cn G d mX8_raise [.inr (.inr 24), .inl p1, .inl r11] m10 (fun m12 => vm_ci G d mX8_greater [.inl (m12 30 p2), .inl (m12 30 p3)] m12 (fun m14 r15 => vm_cn G d mX8_lower [.inr (.inr 24), .inl p1, .inl r15] m14 (fun m16 => (0 ≤ p1 ∧ p1 < 12) ∧ vm_cn G d mX8_lower [.inr (.inr 24), .inl p2, .inl (m16 30 p1)] m16 (fun m19 => vm_cn G d mX8_lower [.inr (.inr 24), .inl p3, .inl (m19 30 p1)] m19 (fun m21 => (vm_R (m21 30 p3)) ∧ (vm_R (m21 29 p1)) ∧ (((m21 29 p1) ≤ (m21 30 p3) → (vm_R (m21 30 p2)) ∧ (((m21 29 p1) ≤ (m21 30 p2) → Q m21) ∧ (¬ (m21 29 p1) ≤ (m21 30 p2) → vm_cn G d mX8_raise [.inr (.inr 24), .inl p3, .inl (m21 29 p1)] m21 (fun m26 => Q m26)))) ∧ (¬ (m21 29 p1) ≤ (m21 30 p3) → vm_cn G d mX8_raise [.inr (.inr 24), .inl p2, .inl (m21 29 p1)] m21 (fun m28 => (vm_R (m28 30 p2)) ∧ (vm_R (m28 29 p1)) ∧ (((m28 29 p1) ≤ (m28 30 p2) → Q m28) ∧ (¬ (m28 29 p1) ≤ (m28 30 p2) → vm_cn G d mX8_raise [.inr (.inr 24), .inl p3, .inl (m28 29 p1)] m28 (fun m32 => Q m32))))))))))))) ∧ (p1 = p3 → ((¬ p1 = p2 → vm_cn G d mX8_narrowMore [.inr (.inr 24), .inl p1, .inl p2, .inl 0] mem (fun m34 => Q m34)) ∧ (p1 = p2 → vm_cn G d mX8_narrowMore [.inr (.inr 24), .inl p1, .inl p3, .inl 0] mem (fun m36 => Q m36)))))))) : vm_cn G (d + 1) mX8_narrowGreatest [.inr (.inr 24), .inl p1, .inl p2, .inl p3] mem Q := by
  refine vm_enter (al := [some (.inr (.inr 24)), some (.inl p1), some (.inl p2), some (.inl p3)]) 0 okX8_narrowGreatest (by decide +kernel) rfl rfl ?_
  refine ex_iload_n (pc := 0) 0 rfl rfl ?_
  refine ex_iload_n (pc := 1) 1 rfl rfl ?_
  obtain ⟨hs1, h⟩ := h
  obtain ⟨hs2, h⟩ := h
  refine ex_icmp_eq (pc := 2) 10 2 rfl (by decide) hs1 hs2 (fun hb => ?_) (fun hb => ?_)
  · have h := h.1 hb
    refine ex_aload_n (pc := 10) 6 rfl rfl ?_
    refine ex_iload_n (pc := 11) 7 rfl rfl ?_
    refine ex_iload_n (pc := 12) 8 rfl rfl ?_
    refine ex_iload_n (pc := 13) 9 rfl rfl ?_
    refine ex_icmp_ne (pc := 14) 21 10 rfl (by decide) hs1 hs2 (fun hb => ?_) (fun hb => ?_)
    · have h := h.1 hb
      refine ex_iload_n (pc := 21) 13 rfl rfl ?_
      refine ex_iconst (pc := 22) 14 rfl ?_
      refine ex_invV (pc := 23) (M' := mX8_narrowMore) (As := [.inl p1, .inl p2, .inl 0]) (st := []) 15 rfl clk8 rfl rfl calX8_narrowMore (Or.inl ww_911) rfl rfl ?_
      refine vm_call.mono h ?_
      rintro m3 _ ⟨rfl, h⟩
      exact ex_ret (pc := 26) 16 rfl rfl ⟨rfl, h⟩
    · have h := h.2 hb
      refine ex_iload_n (pc := 17) 11 rfl rfl ?_
      refine ex_goto (pc := 18) 22 12 rfl (by decide) ?_
      refine ex_iconst (pc := 22) 14 rfl ?_
      refine ex_invV (pc := 23) (M' := mX8_narrowMore) (As := [.inl p1, .inl p3, .inl 0]) (st := []) 15 rfl clk8 rfl rfl calX8_narrowMore (Or.inl ww_911) rfl rfl ?_
      refine vm_call.mono h ?_
      rintro m5 _ ⟨rfl, h⟩
      exact ex_ret (pc := 26) 16 rfl rfl ⟨rfl, h⟩
  · have h := h.2 hb
    refine ex_iload_n (pc := 5) 3 rfl rfl ?_
    refine ex_iload_n (pc := 6) 4 rfl rfl ?_
    obtain ⟨hs7, h⟩ := h
    refine ex_icmp_ne (pc := 7) 27 5 rfl (by decide) hs1 hs7 (fun hb => ?_) (fun hb => ?_)
    · have h := h.1 hb
      refine ex_aload_n (pc := 27) 17 rfl rfl ?_
      refine ex_iload_n (pc := 28) 18 rfl rfl ?_
      refine ex_aload_n (pc := 29) 19 rfl rfl ?_
      refine ex_geta (pc := 30) 6 20 rfl clk8 rfl rfl (Or.inl ww_746) rfl ?_
      refine ex_iload_n (pc := 33) 21 rfl rfl ?_
      obtain ⟨hs8, h⟩ := h
      refine ex_iaload (pc := 34) 22 rfl rfl rfl hs8 ?_
      refine ex_aload_n (pc := 35) 23 rfl rfl ?_
      refine ex_geta (pc := 36) 6 24 rfl clk8 rfl rfl (Or.inl ww_746) rfl ?_
      refine ex_iload_n (pc := 39) 25 rfl rfl ?_
      obtain ⟨hs9, h⟩ := h
      refine ex_iaload (pc := 40) 26 rfl rfl rfl hs9 ?_
      refine ex_invS (pc := 41) (M' := mX8_greater) (As := [.inl (mem 29 p2), .inl (mem 29 p3)]) (st := [.inl p1, .inr (.inr 24)]) 27 rfl calX8_greater (Or.inl ww_939) rfl rfl ?_
      refine vm_call.mono h ?_
      rintro m10 _ ⟨r11, rfl, h⟩
      refine ex_invV (pc := 44) (M' := mX8_raise) (As := [.inl p1, .inl r11]) (st := []) 28 rfl clk8 rfl rfl calX8_raise (Or.inl ww_899) rfl rfl ?_
      refine vm_call.mono h ?_
      rintro m12 _ ⟨rfl, h⟩
      refine ex_aload_n (pc := 47) 29 rfl rfl ?_
      refine ex_iload_n (pc := 48) 30 rfl rfl ?_
      refine ex_aload_n (pc := 49) 31 rfl rfl ?_
      refine ex_geta (pc := 50) 7 32 rfl clk8 rfl rfl (Or.inl ww_747) rfl ?_
      refine ex_iload_n (pc := 53) 33 rfl rfl ?_
      refine ex_iaload (pc := 54) 34 rfl rfl rfl hs8 ?_
      refine ex_aload_n (pc := 55) 35 rfl rfl ?_
      refine ex_geta (pc := 56) 7 36 rfl clk8 rfl rfl (Or.inl ww_747) rfl ?_
      refine ex_iload_n (pc := 59) 37 rfl rfl ?_
      refine ex_iaload (pc := 60) 38 rfl rfl rfl hs9 ?_
      refine ex_invS (pc := 61) (M' := mX8_greater) (As := [.inl (m12 30 p2), .inl (m12 30 p3)]) (st := [.inl p1, .inr (.inr 24)]) 39 rfl calX8_greater (Or.inl ww_939) rfl rfl ?_
      refine vm_call.mono h ?_
      rintro m14 _ ⟨r15, rfl, h⟩
      refine ex_invV (pc := 64) (M' := mX8_lower) (As := [.inl p1, .inl r15]) (st := []) 40 rfl clk8 rfl rfl calX8_lower (Or.inl ww_903) rfl rfl ?_
      refine vm_call.mono h ?_
      rintro m16 _ ⟨rfl, h⟩
      refine ex_aload_n (pc := 67) 41 rfl rfl ?_
      refine ex_iload_n (pc := 68) 42 rfl rfl ?_
      refine ex_aload_n (pc := 69) 43 rfl rfl ?_
      refine ex_geta (pc := 70) 7 44 rfl clk8 rfl rfl (Or.inl ww_747) rfl ?_
      refine ex_iload_n (pc := 73) 45 rfl rfl ?_
      obtain ⟨hs18, h⟩ := h
      refine ex_iaload (pc := 74) 46 rfl rfl rfl hs18 ?_
      refine ex_invV (pc := 75) (M' := mX8_lower) (As := [.inl p2, .inl (m16 30 p1)]) (st := []) 47 rfl clk8 rfl rfl calX8_lower (Or.inl ww_903) rfl rfl ?_
      refine vm_call.mono h ?_
      rintro m19 _ ⟨rfl, h⟩
      refine ex_aload_n (pc := 78) 48 rfl rfl ?_
      refine ex_iload_n (pc := 79) 49 rfl rfl ?_
      refine ex_aload_n (pc := 80) 50 rfl rfl ?_
      refine ex_geta (pc := 81) 7 51 rfl clk8 rfl rfl (Or.inl ww_747) rfl ?_
      refine ex_iload_n (pc := 84) 52 rfl rfl ?_
      refine ex_iaload (pc := 85) 53 rfl rfl rfl hs18 ?_
      refine ex_invV (pc := 86) (M' := mX8_lower) (As := [.inl p3, .inl (m19 30 p1)]) (st := []) 54 rfl clk8 rfl rfl calX8_lower (Or.inl ww_903) rfl rfl ?_
      refine vm_call.mono h ?_
      rintro m21 _ ⟨rfl, h⟩
      refine ex_aload_n (pc := 89) 55 rfl rfl ?_
      refine ex_geta (pc := 90) 7 56 rfl clk8 rfl rfl (Or.inl ww_747) rfl ?_
      refine ex_iload_n (pc := 93) 57 rfl rfl ?_
      refine ex_iaload (pc := 94) 58 rfl rfl rfl hs9 ?_
      refine ex_aload_n (pc := 95) 59 rfl rfl ?_
      refine ex_geta (pc := 96) 6 60 rfl clk8 rfl rfl (Or.inl ww_746) rfl ?_
      refine ex_iload_n (pc := 99) 61 rfl rfl ?_
      refine ex_iaload (pc := 100) 62 rfl rfl rfl hs18 ?_
      obtain ⟨hs23, h⟩ := h
      obtain ⟨hs24, h⟩ := h
      refine ex_icmp_ge (pc := 101) 115 63 rfl (by decide) hs23 hs24 (fun hb => ?_) (fun hb => ?_)
      · have h := h.1 hb
        refine ex_aload_n (pc := 115) 71 rfl rfl ?_
        refine ex_geta (pc := 116) 7 72 rfl clk8 rfl rfl (Or.inl ww_747) rfl ?_
        refine ex_iload_n (pc := 119) 73 rfl rfl ?_
        refine ex_iaload (pc := 120) 74 rfl rfl rfl hs8 ?_
        refine ex_aload_n (pc := 121) 75 rfl rfl ?_
        refine ex_geta (pc := 122) 6 76 rfl clk8 rfl rfl (Or.inl ww_746) rfl ?_
        refine ex_iload_n (pc := 125) 77 rfl rfl ?_
        refine ex_iaload (pc := 126) 78 rfl rfl rfl hs18 ?_
        obtain ⟨hs25, h⟩ := h
        refine ex_icmp_ge (pc := 127) 141 79 rfl (by decide) hs25 hs24 (fun hb => ?_) (fun hb => ?_)
        · have h := h.1 hb
          exact ex_ret (pc := 141) 87 rfl rfl ⟨rfl, h⟩
        · have h := h.2 hb
          refine ex_aload_n (pc := 130) 80 rfl rfl ?_
          refine ex_iload_n (pc := 131) 81 rfl rfl ?_
          refine ex_aload_n (pc := 132) 82 rfl rfl ?_
          refine ex_geta (pc := 133) 6 83 rfl clk8 rfl rfl (Or.inl ww_746) rfl ?_
          refine ex_iload_n (pc := 136) 84 rfl rfl ?_
          refine ex_iaload (pc := 137) 85 rfl rfl rfl hs18 ?_
          refine ex_invV (pc := 138) (M' := mX8_raise) (As := [.inl p3, .inl (m21 29 p1)]) (st := []) 86 rfl clk8 rfl rfl calX8_raise (Or.inl ww_899) rfl rfl ?_
          refine vm_call.mono h ?_
          rintro m26 _ ⟨rfl, h⟩
          exact ex_ret (pc := 141) 87 rfl rfl ⟨rfl, h⟩
      · have h := h.2 hb
        refine ex_aload_n (pc := 104) 64 rfl rfl ?_
        refine ex_iload_n (pc := 105) 65 rfl rfl ?_
        refine ex_aload_n (pc := 106) 66 rfl rfl ?_
        refine ex_geta (pc := 107) 6 67 rfl clk8 rfl rfl (Or.inl ww_746) rfl ?_
        refine ex_iload_n (pc := 110) 68 rfl rfl ?_
        refine ex_iaload (pc := 111) 69 rfl rfl rfl hs18 ?_
        refine ex_invV (pc := 112) (M' := mX8_raise) (As := [.inl p2, .inl (m21 29 p1)]) (st := []) 70 rfl clk8 rfl rfl calX8_raise (Or.inl ww_899) rfl rfl ?_
        refine vm_call.mono h ?_
        rintro m28 _ ⟨rfl, h⟩
        refine ex_aload_n (pc := 115) 71 rfl rfl ?_
        refine ex_geta (pc := 116) 7 72 rfl clk8 rfl rfl (Or.inl ww_747) rfl ?_
        refine ex_iload_n (pc := 119) 73 rfl rfl ?_
        refine ex_iaload (pc := 120) 74 rfl rfl rfl hs8 ?_
        refine ex_aload_n (pc := 121) 75 rfl rfl ?_
        refine ex_geta (pc := 122) 6 76 rfl clk8 rfl rfl (Or.inl ww_746) rfl ?_
        refine ex_iload_n (pc := 125) 77 rfl rfl ?_
        refine ex_iaload (pc := 126) 78 rfl rfl rfl hs18 ?_
        obtain ⟨hs30, h⟩ := h
        obtain ⟨hs31, h⟩ := h
        refine ex_icmp_ge (pc := 127) 141 79 rfl (by decide) hs30 hs31 (fun hb => ?_) (fun hb => ?_)
        · have h := h.1 hb
          exact ex_ret (pc := 141) 87 rfl rfl ⟨rfl, h⟩
        · have h := h.2 hb
          refine ex_aload_n (pc := 130) 80 rfl rfl ?_
          refine ex_iload_n (pc := 131) 81 rfl rfl ?_
          refine ex_aload_n (pc := 132) 82 rfl rfl ?_
          refine ex_geta (pc := 133) 6 83 rfl clk8 rfl rfl (Or.inl ww_746) rfl ?_
          refine ex_iload_n (pc := 136) 84 rfl rfl ?_
          refine ex_iaload (pc := 137) 85 rfl rfl rfl hs18 ?_
          refine ex_invV (pc := 138) (M' := mX8_raise) (As := [.inl p3, .inl (m28 29 p1)]) (st := []) 86 rfl clk8 rfl rfl calX8_raise (Or.inl ww_899) rfl rfl ?_
          refine vm_call.mono h ?_
          rintro m32 _ ⟨rfl, h⟩
          exact ex_ret (pc := 141) 87 rfl rfl ⟨rfl, h⟩
    · have h := h.2 hb
      refine ex_aload_n (pc := 10) 6 rfl rfl ?_
      refine ex_iload_n (pc := 11) 7 rfl rfl ?_
      refine ex_iload_n (pc := 12) 8 rfl rfl ?_
      refine ex_iload_n (pc := 13) 9 rfl rfl ?_
      refine ex_icmp_ne (pc := 14) 21 10 rfl (by decide) hs1 hs2 (fun hb => ?_) (fun hb => ?_)
      · have h := h.1 hb
        refine ex_iload_n (pc := 21) 13 rfl rfl ?_
        refine ex_iconst (pc := 22) 14 rfl ?_
        refine ex_invV (pc := 23) (M' := mX8_narrowMore) (As := [.inl p1, .inl p2, .inl 0]) (st := []) 15 rfl clk8 rfl rfl calX8_narrowMore (Or.inl ww_911) rfl rfl ?_
        refine vm_call.mono h ?_
        rintro m34 _ ⟨rfl, h⟩
        exact ex_ret (pc := 26) 16 rfl rfl ⟨rfl, h⟩
      · have h := h.2 hb
        refine ex_iload_n (pc := 17) 11 rfl rfl ?_
        refine ex_goto (pc := 18) 22 12 rfl (by decide) ?_
        refine ex_iconst (pc := 22) 14 rfl ?_
        refine ex_invV (pc := 23) (M' := mX8_narrowMore) (As := [.inl p1, .inl p3, .inl 0]) (st := []) 15 rfl clk8 rfl rfl calX8_narrowMore (Or.inl ww_911) rfl rfl ?_
        refine vm_call.mono h ?_
        rintro m36 _ ⟨rfl, h⟩
        exact ex_ret (pc := 26) 16 rfl rfl ⟨rfl, h⟩
set_option maxRecDepth 20000 in
theorem qX8_narrowLeast {G : vm_G} {d : Nat} {p1 : Int} {p2 : Int} {p3 : Int} {mem : vm_M} {Q : vm_M → Prop} (h : (vm_R p1) ∧ (vm_R p2) ∧ ((p1 = p2 → ((¬ p1 = p2 → vm_cn G d mX8_narrowMore [.inr (.inr 24), .inl p2, .inl p1, .inl 0] mem (fun m3 => Q m3)) ∧ (p1 = p2 → vm_cn G d mX8_narrowMore [.inr (.inr 24), .inl p3, .inl p1, .inl 0] mem (fun m5 => Q m5)))) ∧ (¬ p1 = p2 → (vm_R p3) ∧ ((¬ p1 = p3 → (0 ≤ p2 ∧ p2 < 12) ∧ (0 ≤ p3 ∧ p3 < 12) ∧ vm_ci G d mX8_lesser [.inl (mem 29 p2), .inl (mem 29 p3)] mem (fun m10 r11 => vm_cn G d mX8_raise [.inr (.inr 24), .inl p1, .inl r11] m10 (fun m12 => vm_ci G d mX8_lesser [.inl (m12 30 p2), .inl (m12 30 p3)] m12 (fun m14 r15 => vm_cn G d mX8_lower [.inr (.inr 24), .inl p1, .inl r15] m14 (fun m16 => (0 ≤ p1 ∧ p1 < 12) ∧ vm_cn G d mX8_raise [.inr (.inr 24), .inl p2, .inl (m16 29 p1)] m16 (fun m19 => vm_cn G d mX8_raise [.inr (.inr 24), .inl p3, .inl (m19 29 p1)] m19 (fun m21 => (vm_R (m21 29 p3)) ∧ (vm_R (m21 30 p1)) ∧ (((m21 29 p3) ≤ (m21 30 p1) → (vm_R (m21 29 p2)) ∧ (((m21 29 p2) ≤ (m21 30 p1) → Q m21) ∧ (¬ (m21 29 p2) ≤ (m21 30 p1) → vm_cn G d mX8_lower [.inr (.inr 24), .inl p3, .inl (m21 30 p1)] m21 (fun m26 => Q m26)))) ∧ (¬ (m21 29 p3) ≤ (m21 30 p1) → vm_cn G d mX8_lower [.inr (.inr 24), .inl p2, .inl (m21 30 p1)] m21 (fun m28 => (vm_R (m28 29 p2)) ∧ (vm_R (m28 30 p1)) ∧ (((m28 29 p2) ≤ (m28 30 p1) → Q m28) ∧ (¬ (m28 29 p2) ≤ (m28 30 p1) → vm_cn G d mX8_lower [.inr (.inr 24), .inl p3, .inl (m28 30 p1)] m28 (fun m32 => Q m32))))))))))))) ∧ (p1 = p3 → ((¬ p1 = p2 → vm_cn G d mX8_narrowMore [.inr (.inr 24), .inl p2, .inl p1, .inl 0] mem (fun m34 => Q m34)) ∧ (p1 = p2 → vm_cn G d mX8_narrowMore [.inr (.inr 24), .inl p3, .inl p1, .inl 0] mem (fun m36 => Q m36)))))))) : vm_cn G (d + 1) mX8_narrowLeast [.inr (.inr 24), .inl p1, .inl p2, .inl p3] mem Q := by
  refine vm_enter (al := [some (.inr (.inr 24)), some (.inl p1), some (.inl p2), some (.inl p3)]) 0 okX8_narrowLeast (by decide +kernel) rfl rfl ?_
  refine ex_iload_n (pc := 0) 0 rfl rfl ?_
  refine ex_iload_n (pc := 1) 1 rfl rfl ?_
  obtain ⟨hs1, h⟩ := h
  obtain ⟨hs2, h⟩ := h
  refine ex_icmp_eq (pc := 2) 10 2 rfl (by decide) hs1 hs2 (fun hb => ?_) (fun hb => ?_)
  · have h := h.1 hb
    refine ex_aload_n (pc := 10) 6 rfl rfl ?_
    refine ex_iload_n (pc := 11) 7 rfl rfl ?_
    refine ex_iload_n (pc := 12) 8 rfl rfl ?_
    refine ex_icmp_ne (pc := 13) 20 9 rfl (by decide) hs1 hs2 (fun hb => ?_) (fun hb => ?_)
    · have h := h.1 hb
      refine ex_iload_n (pc := 20) 12 rfl rfl ?_
      refine ex_iload_n (pc := 21) 13 rfl rfl ?_
      refine ex_iconst (pc := 22) 14 rfl ?_
      refine ex_invV (pc := 23) (M' := mX8_narrowMore) (As := [.inl p2, .inl p1, .inl 0]) (st := []) 15 rfl clk8 rfl rfl calX8_narrowMore (Or.inl ww_911) rfl rfl ?_
      refine vm_call.mono h ?_
      rintro m3 _ ⟨rfl, h⟩
      exact ex_ret (pc := 26) 16 rfl rfl ⟨rfl, h⟩
    · have h := h.2 hb
      refine ex_iload_n (pc := 16) 10 rfl rfl ?_
      refine ex_goto (pc := 17) 21 11 rfl (by decide) ?_
      refine ex_iload_n (pc := 21) 13 rfl rfl ?_
      refine ex_iconst (pc := 22) 14 rfl ?_
      refine ex_invV (pc := 23) (M' := mX8_narrowMore) (As := [.inl p3, .inl p1, .inl 0]) (st := []) 15 rfl clk8 rfl rfl calX8_narrowMore (Or.inl ww_911) rfl rfl ?_
      refine vm_call.mono h ?_
      rintro m5 _ ⟨rfl, h⟩
      exact ex_ret (pc := 26) 16 rfl rfl ⟨rfl, h⟩
  · have h := h.2 hb
    refine ex_iload_n (pc := 5) 3 rfl rfl ?_
    refine ex_iload_n (pc := 6) 4 rfl rfl ?_
    obtain ⟨hs7, h⟩ := h
    refine ex_icmp_ne (pc := 7) 27 5 rfl (by decide) hs1 hs7 (fun hb => ?_) (fun hb => ?_)
    · have h := h.1 hb
      refine ex_aload_n (pc := 27) 17 rfl rfl ?_
      refine ex_iload_n (pc := 28) 18 rfl rfl ?_
      refine ex_aload_n (pc := 29) 19 rfl rfl ?_
      refine ex_geta (pc := 30) 6 20 rfl clk8 rfl rfl (Or.inl ww_746) rfl ?_
      refine ex_iload_n (pc := 33) 21 rfl rfl ?_
      obtain ⟨hs8, h⟩ := h
      refine ex_iaload (pc := 34) 22 rfl rfl rfl hs8 ?_
      refine ex_aload_n (pc := 35) 23 rfl rfl ?_
      refine ex_geta (pc := 36) 6 24 rfl clk8 rfl rfl (Or.inl ww_746) rfl ?_
      refine ex_iload_n (pc := 39) 25 rfl rfl ?_
      obtain ⟨hs9, h⟩ := h
      refine ex_iaload (pc := 40) 26 rfl rfl rfl hs9 ?_
      refine ex_invS (pc := 41) (M' := mX8_lesser) (As := [.inl (mem 29 p2), .inl (mem 29 p3)]) (st := [.inl p1, .inr (.inr 24)]) 27 rfl calX8_lesser (Or.inl ww_946) rfl rfl ?_
      refine vm_call.mono h ?_
      rintro m10 _ ⟨r11, rfl, h⟩
      refine ex_invV (pc := 44) (M' := mX8_raise) (As := [.inl p1, .inl r11]) (st := []) 28 rfl clk8 rfl rfl calX8_raise (Or.inl ww_899) rfl rfl ?_
      refine vm_call.mono h ?_
      rintro m12 _ ⟨rfl, h⟩
      refine ex_aload_n (pc := 47) 29 rfl rfl ?_
      refine ex_iload_n (pc := 48) 30 rfl rfl ?_
      refine ex_aload_n (pc := 49) 31 rfl rfl ?_
      refine ex_geta (pc := 50) 7 32 rfl clk8 rfl rfl (Or.inl ww_747) rfl ?_
      refine ex_iload_n (pc := 53) 33 rfl rfl ?_
      refine ex_iaload (pc := 54) 34 rfl rfl rfl hs8 ?_
      refine ex_aload_n (pc := 55) 35 rfl rfl ?_
      refine ex_geta (pc := 56) 7 36 rfl clk8 rfl rfl (Or.inl ww_747) rfl ?_
      refine ex_iload_n (pc := 59) 37 rfl rfl ?_
      refine ex_iaload (pc := 60) 38 rfl rfl rfl hs9 ?_
      refine ex_invS (pc := 61) (M' := mX8_lesser) (As := [.inl (m12 30 p2), .inl (m12 30 p3)]) (st := [.inl p1, .inr (.inr 24)]) 39 rfl calX8_lesser (Or.inl ww_946) rfl rfl ?_
      refine vm_call.mono h ?_
      rintro m14 _ ⟨r15, rfl, h⟩
      refine ex_invV (pc := 64) (M' := mX8_lower) (As := [.inl p1, .inl r15]) (st := []) 40 rfl clk8 rfl rfl calX8_lower (Or.inl ww_903) rfl rfl ?_
      refine vm_call.mono h ?_
      rintro m16 _ ⟨rfl, h⟩
      refine ex_aload_n (pc := 67) 41 rfl rfl ?_
      refine ex_iload_n (pc := 68) 42 rfl rfl ?_
      refine ex_aload_n (pc := 69) 43 rfl rfl ?_
      refine ex_geta (pc := 70) 6 44 rfl clk8 rfl rfl (Or.inl ww_746) rfl ?_
      refine ex_iload_n (pc := 73) 45 rfl rfl ?_
      obtain ⟨hs18, h⟩ := h
      refine ex_iaload (pc := 74) 46 rfl rfl rfl hs18 ?_
      refine ex_invV (pc := 75) (M' := mX8_raise) (As := [.inl p2, .inl (m16 29 p1)]) (st := []) 47 rfl clk8 rfl rfl calX8_raise (Or.inl ww_899) rfl rfl ?_
      refine vm_call.mono h ?_
      rintro m19 _ ⟨rfl, h⟩
      refine ex_aload_n (pc := 78) 48 rfl rfl ?_
      refine ex_iload_n (pc := 79) 49 rfl rfl ?_
      refine ex_aload_n (pc := 80) 50 rfl rfl ?_
      refine ex_geta (pc := 81) 6 51 rfl clk8 rfl rfl (Or.inl ww_746) rfl ?_
      refine ex_iload_n (pc := 84) 52 rfl rfl ?_
      refine ex_iaload (pc := 85) 53 rfl rfl rfl hs18 ?_
      refine ex_invV (pc := 86) (M' := mX8_raise) (As := [.inl p3, .inl (m19 29 p1)]) (st := []) 54 rfl clk8 rfl rfl calX8_raise (Or.inl ww_899) rfl rfl ?_
      refine vm_call.mono h ?_
      rintro m21 _ ⟨rfl, h⟩
      refine ex_aload_n (pc := 89) 55 rfl rfl ?_
      refine ex_geta (pc := 90) 6 56 rfl clk8 rfl rfl (Or.inl ww_746) rfl ?_
      refine ex_iload_n (pc := 93) 57 rfl rfl ?_
      refine ex_iaload (pc := 94) 58 rfl rfl rfl hs9 ?_
      refine ex_aload_n (pc := 95) 59 rfl rfl ?_
      refine ex_geta (pc := 96) 7 60 rfl clk8 rfl rfl (Or.inl ww_747) rfl ?_
      refine ex_iload_n (pc := 99) 61 rfl rfl ?_
      refine ex_iaload (pc := 100) 62 rfl rfl rfl hs18 ?_
      obtain ⟨hs23, h⟩ := h
      obtain ⟨hs24, h⟩ := h
      refine ex_icmp_le (pc := 101) 115 63 rfl (by decide) hs23 hs24 (fun hb => ?_) (fun hb => ?_)
      · have h := h.1 hb
        refine ex_aload_n (pc := 115) 71 rfl rfl ?_
        refine ex_geta (pc := 116) 6 72 rfl clk8 rfl rfl (Or.inl ww_746) rfl ?_
        refine ex_iload_n (pc := 119) 73 rfl rfl ?_
        refine ex_iaload (pc := 120) 74 rfl rfl rfl hs8 ?_
        refine ex_aload_n (pc := 121) 75 rfl rfl ?_
        refine ex_geta (pc := 122) 7 76 rfl clk8 rfl rfl (Or.inl ww_747) rfl ?_
        refine ex_iload_n (pc := 125) 77 rfl rfl ?_
        refine ex_iaload (pc := 126) 78 rfl rfl rfl hs18 ?_
        obtain ⟨hs25, h⟩ := h
        refine ex_icmp_le (pc := 127) 141 79 rfl (by decide) hs25 hs24 (fun hb => ?_) (fun hb => ?_)
        · have h := h.1 hb
          exact ex_ret (pc := 141) 87 rfl rfl ⟨rfl, h⟩
        · have h := h.2 hb
          refine ex_aload_n (pc := 130) 80 rfl rfl ?_
          refine ex_iload_n (pc := 131) 81 rfl rfl ?_
          refine ex_aload_n (pc := 132) 82 rfl rfl ?_
          refine ex_geta (pc := 133) 7 83 rfl clk8 rfl rfl (Or.inl ww_747) rfl ?_
          refine ex_iload_n (pc := 136) 84 rfl rfl ?_
          refine ex_iaload (pc := 137) 85 rfl rfl rfl hs18 ?_
          refine ex_invV (pc := 138) (M' := mX8_lower) (As := [.inl p3, .inl (m21 30 p1)]) (st := []) 86 rfl clk8 rfl rfl calX8_lower (Or.inl ww_903) rfl rfl ?_
          refine vm_call.mono h ?_
          rintro m26 _ ⟨rfl, h⟩
          exact ex_ret (pc := 141) 87 rfl rfl ⟨rfl, h⟩
      · have h := h.2 hb
        refine ex_aload_n (pc := 104) 64 rfl rfl ?_
        refine ex_iload_n (pc := 105) 65 rfl rfl ?_
        refine ex_aload_n (pc := 106) 66 rfl rfl ?_
        refine ex_geta (pc := 107) 7 67 rfl clk8 rfl rfl (Or.inl ww_747) rfl ?_
        refine ex_iload_n (pc := 110) 68 rfl rfl ?_
        refine ex_iaload (pc := 111) 69 rfl rfl rfl hs18 ?_
        refine ex_invV (pc := 112) (M' := mX8_lower) (As := [.inl p2, .inl (m21 30 p1)]) (st := []) 70 rfl clk8 rfl rfl calX8_lower (Or.inl ww_903) rfl rfl ?_
        refine vm_call.mono h ?_
        rintro m28 _ ⟨rfl, h⟩
        refine ex_aload_n (pc := 115) 71 rfl rfl ?_
        refine ex_geta (pc := 116) 6 72 rfl clk8 rfl rfl (Or.inl ww_746) rfl ?_
        refine ex_iload_n (pc := 119) 73 rfl rfl ?_
        refine ex_iaload (pc := 120) 74 rfl rfl rfl hs8 ?_
        refine ex_aload_n (pc := 121) 75 rfl rfl ?_
        refine ex_geta (pc := 122) 7 76 rfl clk8 rfl rfl (Or.inl ww_747) rfl ?_
        refine ex_iload_n (pc := 125) 77 rfl rfl ?_
        refine ex_iaload (pc := 126) 78 rfl rfl rfl hs18 ?_
        obtain ⟨hs30, h⟩ := h
        obtain ⟨hs31, h⟩ := h
        refine ex_icmp_le (pc := 127) 141 79 rfl (by decide) hs30 hs31 (fun hb => ?_) (fun hb => ?_)
        · have h := h.1 hb
          exact ex_ret (pc := 141) 87 rfl rfl ⟨rfl, h⟩
        · have h := h.2 hb
          refine ex_aload_n (pc := 130) 80 rfl rfl ?_
          refine ex_iload_n (pc := 131) 81 rfl rfl ?_
          refine ex_aload_n (pc := 132) 82 rfl rfl ?_
          refine ex_geta (pc := 133) 7 83 rfl clk8 rfl rfl (Or.inl ww_747) rfl ?_
          refine ex_iload_n (pc := 136) 84 rfl rfl ?_
          refine ex_iaload (pc := 137) 85 rfl rfl rfl hs18 ?_
          refine ex_invV (pc := 138) (M' := mX8_lower) (As := [.inl p3, .inl (m28 30 p1)]) (st := []) 86 rfl clk8 rfl rfl calX8_lower (Or.inl ww_903) rfl rfl ?_
          refine vm_call.mono h ?_
          rintro m32 _ ⟨rfl, h⟩
          exact ex_ret (pc := 141) 87 rfl rfl ⟨rfl, h⟩
    · have h := h.2 hb
      refine ex_aload_n (pc := 10) 6 rfl rfl ?_
      refine ex_iload_n (pc := 11) 7 rfl rfl ?_
      refine ex_iload_n (pc := 12) 8 rfl rfl ?_
      refine ex_icmp_ne (pc := 13) 20 9 rfl (by decide) hs1 hs2 (fun hb => ?_) (fun hb => ?_)
      · have h := h.1 hb
        refine ex_iload_n (pc := 20) 12 rfl rfl ?_
        refine ex_iload_n (pc := 21) 13 rfl rfl ?_
        refine ex_iconst (pc := 22) 14 rfl ?_
        refine ex_invV (pc := 23) (M' := mX8_narrowMore) (As := [.inl p2, .inl p1, .inl 0]) (st := []) 15 rfl clk8 rfl rfl calX8_narrowMore (Or.inl ww_911) rfl rfl ?_
        refine vm_call.mono h ?_
        rintro m34 _ ⟨rfl, h⟩
        exact ex_ret (pc := 26) 16 rfl rfl ⟨rfl, h⟩
      · have h := h.2 hb
        refine ex_iload_n (pc := 16) 10 rfl rfl ?_
        refine ex_goto (pc := 17) 21 11 rfl (by decide) ?_
        refine ex_iload_n (pc := 21) 13 rfl rfl ?_
        refine ex_iconst (pc := 22) 14 rfl ?_
        refine ex_invV (pc := 23) (M' := mX8_narrowMore) (As := [.inl p3, .inl p1, .inl 0]) (st := []) 15 rfl clk8 rfl rfl calX8_narrowMore (Or.inl ww_911) rfl rfl ?_
        refine vm_call.mono h ?_
        rintro m36 _ ⟨rfl, h⟩
        exact ex_ret (pc := 26) 16 rfl rfl ⟨rfl, h⟩
set_option maxRecDepth 20000 in
theorem qX8_narrowMore {G : vm_G} {d : Nat} {p1 : Int} {p2 : Int} {p3 : Int} {mem : vm_M} {Q : vm_M → Prop} (h : (0 ≤ p2 ∧ p2 < 12) ∧ vm_cn G d mX8_raise [.inr (.inr 24), .inl p1, .inl ((mem 29 p2) + p3)] mem (fun m2 => (0 ≤ p1 ∧ p1 < 12) ∧ vm_cn G d mX8_lower [.inr (.inr 24), .inl p2, .inl ((m2 30 p1) - p3)] m2 (fun m5 => Q m5))) : vm_cn G (d + 1) mX8_narrowMore [.inr (.inr 24), .inl p1, .inl p2, .inl p3] mem Q := by
  refine vm_enter (al := [some (.inr (.inr 24)), some (.inl p1), some (.inl p2), some (.inl p3)]) 0 okX8_narrowMore (by decide +kernel) rfl rfl ?_
  refine ex_aload_n (pc := 0) 0 rfl rfl ?_
  refine ex_iload_n (pc := 1) 1 rfl rfl ?_
  refine ex_aload_n (pc := 2) 2 rfl rfl ?_
  refine ex_geta (pc := 3) 6 3 rfl clk8 rfl rfl (Or.inl ww_746) rfl ?_
  refine ex_iload_n (pc := 6) 4 rfl rfl ?_
  obtain ⟨hs1, h⟩ := h
  refine ex_iaload (pc := 7) 5 rfl rfl rfl hs1 ?_
  refine ex_iload_n (pc := 8) 6 rfl rfl ?_
  refine ex_iadd (pc := 9) 7 rfl ?_
  refine ex_invV (pc := 10) (M' := mX8_raise) (As := [.inl p1, .inl ((mem 29 p2) + p3)]) (st := []) 8 rfl clk8 rfl rfl calX8_raise (Or.inl ww_899) rfl rfl ?_
  refine vm_call.mono h ?_
  rintro m2 _ ⟨rfl, h⟩
  refine ex_aload_n (pc := 13) 9 rfl rfl ?_
  refine ex_iload_n (pc := 14) 10 rfl rfl ?_
  refine ex_aload_n (pc := 15) 11 rfl rfl ?_
  refine ex_geta (pc := 16) 7 12 rfl clk8 rfl rfl (Or.inl ww_747) rfl ?_
  refine ex_iload_n (pc := 19) 13 rfl rfl ?_
  obtain ⟨hs4, h⟩ := h
  refine ex_iaload (pc := 20) 14 rfl rfl rfl hs4 ?_
  refine ex_iload_n (pc := 21) 15 rfl rfl ?_
  refine ex_isub (pc := 22) 16 rfl ?_
  refine ex_invV (pc := 23) (M' := mX8_lower) (As := [.inl p2, .inl ((m2 30 p1) - p3)]) (st := []) 17 rfl clk8 rfl rfl calX8_lower (Or.inl ww_903) rfl rfl ?_
  refine vm_call.mono h ?_
  rintro m5 _ ⟨rfl, h⟩
  exact ex_ret (pc := 26) 18 rfl rfl ⟨rfl, h⟩
set_option maxRecDepth 20000 in
theorem qX8_narrowBelow {G : vm_G} {d : Nat} {p1 : Int} {p2 : Int} {p3 : Int} {mem : vm_M} {Q : vm_M → Prop} (h : (vm_R p1) ∧ (vm_R p2) ∧ ((p1 = p2 → ((¬ p1 = p2 → vm_cn G d mX8_raise [.inr (.inr 24), .inl p2, .inl 1] mem (fun m3 => Q m3)) ∧ (p1 = p2 → vm_cn G d mX8_raise [.inr (.inr 24), .inl p3, .inl 1] mem (fun m5 => Q m5)))) ∧ (¬ p1 = p2 → (vm_R p3) ∧ ((¬ p1 = p3 → (0 ≤ p2 ∧ p2 < 12) ∧ (0 ≤ p3 ∧ p3 < 12) ∧ vm_cn G d mX8_lower [.inr (.inr 24), .inl p1, .inl (((mem 30 p2) + (mem 30 p3)) - 1)] mem (fun m10 => (0 ≤ p1 ∧ p1 < 12) ∧ vm_cn G d mX8_raise [.inr (.inr 24), .inl p2, .inl (((m10 29 p1) + 1) - (m10 30 p3))] m10 (fun m13 => vm_cn G d mX8_raise [.inr (.inr 24), .inl p3, .inl (((m13 29 p1) + 1) - (m13 30 p2))] m13 (fun m15 => Q m15)))) ∧ (p1 = p3 → ((¬ p1 = p2 → vm_cn G d mX8_raise [.inr (.inr 24), .inl p2, .inl 1] mem (fun m17 => Q m17)) ∧ (p1 = p2 → vm_cn G d mX8_raise [.inr (.inr 24), .inl p3, .inl 1] mem (fun m19 => Q m19)))))))) : vm_cn G (d + 1) mX8_narrowBelow [.inr (.inr 24), .inl p1, .inl p2, .inl p3] mem Q := by
  refine vm_enter (al := [some (.inr (.inr 24)), some (.inl p1), some (.inl p2), some (.inl p3)]) 0 okX8_narrowBelow (by decide +kernel) rfl rfl ?_
  refine ex_iload_n (pc := 0) 0 rfl rfl ?_
  refine ex_iload_n (pc := 1) 1 rfl rfl ?_
  obtain ⟨hs1, h⟩ := h
  obtain ⟨hs2, h⟩ := h
  refine ex_icmp_eq (pc := 2) 10 2 rfl (by decide) hs1 hs2 (fun hb => ?_) (fun hb => ?_)
  · have h := h.1 hb
    refine ex_aload_n (pc := 10) 6 rfl rfl ?_
    refine ex_iload_n (pc := 11) 7 rfl rfl ?_
    refine ex_iload_n (pc := 12) 8 rfl rfl ?_
    refine ex_icmp_ne (pc := 13) 20 9 rfl (by decide) hs1 hs2 (fun hb => ?_) (fun hb => ?_)
    · have h := h.1 hb
      refine ex_iload_n (pc := 20) 12 rfl rfl ?_
      refine ex_iconst (pc := 21) 13 rfl ?_
      refine ex_invV (pc := 22) (M' := mX8_raise) (As := [.inl p2, .inl 1]) (st := []) 14 rfl clk8 rfl rfl calX8_raise (Or.inl ww_899) rfl rfl ?_
      refine vm_call.mono h ?_
      rintro m3 _ ⟨rfl, h⟩
      exact ex_ret (pc := 25) 15 rfl rfl ⟨rfl, h⟩
    · have h := h.2 hb
      refine ex_iload_n (pc := 16) 10 rfl rfl ?_
      refine ex_goto (pc := 17) 21 11 rfl (by decide) ?_
      refine ex_iconst (pc := 21) 13 rfl ?_
      refine ex_invV (pc := 22) (M' := mX8_raise) (As := [.inl p3, .inl 1]) (st := []) 14 rfl clk8 rfl rfl calX8_raise (Or.inl ww_899) rfl rfl ?_
      refine vm_call.mono h ?_
      rintro m5 _ ⟨rfl, h⟩
      exact ex_ret (pc := 25) 15 rfl rfl ⟨rfl, h⟩
  · have h := h.2 hb
    refine ex_iload_n (pc := 5) 3 rfl rfl ?_
    refine ex_iload_n (pc := 6) 4 rfl rfl ?_
    obtain ⟨hs7, h⟩ := h
    refine ex_icmp_ne (pc := 7) 26 5 rfl (by decide) hs1 hs7 (fun hb => ?_) (fun hb => ?_)
    · have h := h.1 hb
      refine ex_aload_n (pc := 26) 16 rfl rfl ?_
      refine ex_iload_n (pc := 27) 17 rfl rfl ?_
      refine ex_aload_n (pc := 28) 18 rfl rfl ?_
      refine ex_geta (pc := 29) 7 19 rfl clk8 rfl rfl (Or.inl ww_747) rfl ?_
      refine ex_iload_n (pc := 32) 20 rfl rfl ?_
      obtain ⟨hs8, h⟩ := h
      refine ex_iaload (pc := 33) 21 rfl rfl rfl hs8 ?_
      refine ex_aload_n (pc := 34) 22 rfl rfl ?_
      refine ex_geta (pc := 35) 7 23 rfl clk8 rfl rfl (Or.inl ww_747) rfl ?_
      refine ex_iload_n (pc := 38) 24 rfl rfl ?_
      obtain ⟨hs9, h⟩ := h
      refine ex_iaload (pc := 39) 25 rfl rfl rfl hs9 ?_
      refine ex_iadd (pc := 40) 26 rfl ?_
      refine ex_iconst (pc := 41) 27 rfl ?_
      refine ex_isub (pc := 42) 28 rfl ?_
      refine ex_invV (pc := 43) (M' := mX8_lower) (As := [.inl p1, .inl (((mem 30 p2) + (mem 30 p3)) - 1)]) (st := []) 29 rfl clk8 rfl rfl calX8_lower (Or.inl ww_903) rfl rfl ?_
      refine vm_call.mono h ?_
      rintro m10 _ ⟨rfl, h⟩
      refine ex_aload_n (pc := 46) 30 rfl rfl ?_
      refine ex_iload_n (pc := 47) 31 rfl rfl ?_
      refine ex_aload_n (pc := 48) 32 rfl rfl ?_
      refine ex_geta (pc := 49) 6 33 rfl clk8 rfl rfl (Or.inl ww_746) rfl ?_
      refine ex_iload_n (pc := 52) 34 rfl rfl ?_
      obtain ⟨hs12, h⟩ := h
      refine ex_iaload (pc := 53) 35 rfl rfl rfl hs12 ?_
      refine ex_iconst (pc := 54) 36 rfl ?_
      refine ex_iadd (pc := 55) 37 rfl ?_
      refine ex_aload_n (pc := 56) 38 rfl rfl ?_
      refine ex_geta (pc := 57) 7 39 rfl clk8 rfl rfl (Or.inl ww_747) rfl ?_
      refine ex_iload_n (pc := 60) 40 rfl rfl ?_
      refine ex_iaload (pc := 61) 41 rfl rfl rfl hs9 ?_
      refine ex_isub (pc := 62) 42 rfl ?_
      refine ex_invV (pc := 63) (M' := mX8_raise) (As := [.inl p2, .inl (((m10 29 p1) + 1) - (m10 30 p3))]) (st := []) 43 rfl clk8 rfl rfl calX8_raise (Or.inl ww_899) rfl rfl ?_
      refine vm_call.mono h ?_
      rintro m13 _ ⟨rfl, h⟩
      refine ex_aload_n (pc := 66) 44 rfl rfl ?_
      refine ex_iload_n (pc := 67) 45 rfl rfl ?_
      refine ex_aload_n (pc := 68) 46 rfl rfl ?_
      refine ex_geta (pc := 69) 6 47 rfl clk8 rfl rfl (Or.inl ww_746) rfl ?_
      refine ex_iload_n (pc := 72) 48 rfl rfl ?_
      refine ex_iaload (pc := 73) 49 rfl rfl rfl hs12 ?_
      refine ex_iconst (pc := 74) 50 rfl ?_
      refine ex_iadd (pc := 75) 51 rfl ?_
      refine ex_aload_n (pc := 76) 52 rfl rfl ?_
      refine ex_geta (pc := 77) 7 53 rfl clk8 rfl rfl (Or.inl ww_747) rfl ?_
      refine ex_iload_n (pc := 80) 54 rfl rfl ?_
      refine ex_iaload (pc := 81) 55 rfl rfl rfl hs8 ?_
      refine ex_isub (pc := 82) 56 rfl ?_
      refine ex_invV (pc := 83) (M' := mX8_raise) (As := [.inl p3, .inl (((m13 29 p1) + 1) - (m13 30 p2))]) (st := []) 57 rfl clk8 rfl rfl calX8_raise (Or.inl ww_899) rfl rfl ?_
      refine vm_call.mono h ?_
      rintro m15 _ ⟨rfl, h⟩
      exact ex_ret (pc := 86) 58 rfl rfl ⟨rfl, h⟩
    · have h := h.2 hb
      refine ex_aload_n (pc := 10) 6 rfl rfl ?_
      refine ex_iload_n (pc := 11) 7 rfl rfl ?_
      refine ex_iload_n (pc := 12) 8 rfl rfl ?_
      refine ex_icmp_ne (pc := 13) 20 9 rfl (by decide) hs1 hs2 (fun hb => ?_) (fun hb => ?_)
      · have h := h.1 hb
        refine ex_iload_n (pc := 20) 12 rfl rfl ?_
        refine ex_iconst (pc := 21) 13 rfl ?_
        refine ex_invV (pc := 22) (M' := mX8_raise) (As := [.inl p2, .inl 1]) (st := []) 14 rfl clk8 rfl rfl calX8_raise (Or.inl ww_899) rfl rfl ?_
        refine vm_call.mono h ?_
        rintro m17 _ ⟨rfl, h⟩
        exact ex_ret (pc := 25) 15 rfl rfl ⟨rfl, h⟩
      · have h := h.2 hb
        refine ex_iload_n (pc := 16) 10 rfl rfl ?_
        refine ex_goto (pc := 17) 21 11 rfl (by decide) ?_
        refine ex_iconst (pc := 21) 13 rfl ?_
        refine ex_invV (pc := 22) (M' := mX8_raise) (As := [.inl p3, .inl 1]) (st := []) 14 rfl clk8 rfl rfl calX8_raise (Or.inl ww_899) rfl rfl ?_
        refine vm_call.mono h ?_
        rintro m19 _ ⟨rfl, h⟩
        exact ex_ret (pc := 25) 15 rfl rfl ⟨rfl, h⟩
set_option maxRecDepth 20000 in
theorem qX8_narrowAbove {G : vm_G} {d : Nat} {p1 : Int} {p2 : Int} {p3 : Int} {mem : vm_M} {Q : vm_M → Prop} (h : (vm_R p1) ∧ (vm_R p2) ∧ ((p1 = p2 → vm_cn G d mX8_lower [.inr (.inr 24), .inl p1, .inl (-6)] mem (fun m3 => Q m3)) ∧ (¬ p1 = p2 → (vm_R p3) ∧ ((¬ p1 = p3 → (0 ≤ p2 ∧ p2 < 12) ∧ (0 ≤ p3 ∧ p3 < 12) ∧ vm_cn G d mX8_raise [.inr (.inr 24), .inl p1, .inl (((mem 29 p2) + (mem 29 p3)) + 1)] mem (fun m8 => (0 ≤ p1 ∧ p1 < 12) ∧ vm_cn G d mX8_lower [.inr (.inr 24), .inl p2, .inl (((m8 30 p1) - 1) - (m8 29 p3))] m8 (fun m11 => vm_cn G d mX8_lower [.inr (.inr 24), .inl p3, .inl (((m11 30 p1) - 1) - (m11 29 p2))] m11 (fun m13 => Q m13)))) ∧ (p1 = p3 → vm_cn G d mX8_lower [.inr (.inr 24), .inl p1, .inl (-6)] mem (fun m15 => Q m15)))))) : vm_cn G (d + 1) mX8_narrowAbove [.inr (.inr 24), .inl p1, .inl p2, .inl p3] mem Q := by
  refine vm_enter (al := [some (.inr (.inr 24)), some (.inl p1), some (.inl p2), some (.inl p3)]) 0 okX8_narrowAbove (by decide +kernel) rfl rfl ?_
  refine ex_iload_n (pc := 0) 0 rfl rfl ?_
  refine ex_iload_n (pc := 1) 1 rfl rfl ?_
  obtain ⟨hs1, h⟩ := h
  obtain ⟨hs2, h⟩ := h
  refine ex_icmp_eq (pc := 2) 10 2 rfl (by decide) hs1 hs2 (fun hb => ?_) (fun hb => ?_)
  · have h := h.1 hb
    refine ex_aload_n (pc := 10) 6 rfl rfl ?_
    refine ex_iload_n (pc := 11) 7 rfl rfl ?_
    refine ex_bipush (pc := 12) 8 rfl (by decide) ?_
    refine ex_invV (pc := 14) (M' := mX8_lower) (As := [.inl p1, .inl (-6)]) (st := []) 9 rfl clk8 rfl rfl calX8_lower (Or.inl ww_903) rfl rfl ?_
    refine vm_call.mono h ?_
    rintro m3 _ ⟨rfl, h⟩
    exact ex_ret (pc := 17) 10 rfl rfl ⟨rfl, h⟩
  · have h := h.2 hb
    refine ex_iload_n (pc := 5) 3 rfl rfl ?_
    refine ex_iload_n (pc := 6) 4 rfl rfl ?_
    obtain ⟨hs5, h⟩ := h
    refine ex_icmp_ne (pc := 7) 18 5 rfl (by decide) hs1 hs5 (fun hb => ?_) (fun hb => ?_)
    · have h := h.1 hb
      refine ex_aload_n (pc := 18) 11 rfl rfl ?_
      refine ex_iload_n (pc := 19) 12 rfl rfl ?_
      refine ex_aload_n (pc := 20) 13 rfl rfl ?_
      refine ex_geta (pc := 21) 6 14 rfl clk8 rfl rfl (Or.inl ww_746) rfl ?_
      refine ex_iload_n (pc := 24) 15 rfl rfl ?_
      obtain ⟨hs6, h⟩ := h
      refine ex_iaload (pc := 25) 16 rfl rfl rfl hs6 ?_
      refine ex_aload_n (pc := 26) 17 rfl rfl ?_
      refine ex_geta (pc := 27) 6 18 rfl clk8 rfl rfl (Or.inl ww_746) rfl ?_
      refine ex_iload_n (pc := 30) 19 rfl rfl ?_
      obtain ⟨hs7, h⟩ := h
      refine ex_iaload (pc := 31) 20 rfl rfl rfl hs7 ?_
      refine ex_iadd (pc := 32) 21 rfl ?_
      refine ex_iconst (pc := 33) 22 rfl ?_
      refine ex_iadd (pc := 34) 23 rfl ?_
      refine ex_invV (pc := 35) (M' := mX8_raise) (As := [.inl p1, .inl (((mem 29 p2) + (mem 29 p3)) + 1)]) (st := []) 24 rfl clk8 rfl rfl calX8_raise (Or.inl ww_899) rfl rfl ?_
      refine vm_call.mono h ?_
      rintro m8 _ ⟨rfl, h⟩
      refine ex_aload_n (pc := 38) 25 rfl rfl ?_
      refine ex_iload_n (pc := 39) 26 rfl rfl ?_
      refine ex_aload_n (pc := 40) 27 rfl rfl ?_
      refine ex_geta (pc := 41) 7 28 rfl clk8 rfl rfl (Or.inl ww_747) rfl ?_
      refine ex_iload_n (pc := 44) 29 rfl rfl ?_
      obtain ⟨hs10, h⟩ := h
      refine ex_iaload (pc := 45) 30 rfl rfl rfl hs10 ?_
      refine ex_iconst (pc := 46) 31 rfl ?_
      refine ex_isub (pc := 47) 32 rfl ?_
      refine ex_aload_n (pc := 48) 33 rfl rfl ?_
      refine ex_geta (pc := 49) 6 34 rfl clk8 rfl rfl (Or.inl ww_746) rfl ?_
      refine ex_iload_n (pc := 52) 35 rfl rfl ?_
      refine ex_iaload (pc := 53) 36 rfl rfl rfl hs7 ?_
      refine ex_isub (pc := 54) 37 rfl ?_
      refine ex_invV (pc := 55) (M' := mX8_lower) (As := [.inl p2, .inl (((m8 30 p1) - 1) - (m8 29 p3))]) (st := []) 38 rfl clk8 rfl rfl calX8_lower (Or.inl ww_903) rfl rfl ?_
      refine vm_call.mono h ?_
      rintro m11 _ ⟨rfl, h⟩
      refine ex_aload_n (pc := 58) 39 rfl rfl ?_
      refine ex_iload_n (pc := 59) 40 rfl rfl ?_
      refine ex_aload_n (pc := 60) 41 rfl rfl ?_
      refine ex_geta (pc := 61) 7 42 rfl clk8 rfl rfl (Or.inl ww_747) rfl ?_
      refine ex_iload_n (pc := 64) 43 rfl rfl ?_
      refine ex_iaload (pc := 65) 44 rfl rfl rfl hs10 ?_
      refine ex_iconst (pc := 66) 45 rfl ?_
      refine ex_isub (pc := 67) 46 rfl ?_
      refine ex_aload_n (pc := 68) 47 rfl rfl ?_
      refine ex_geta (pc := 69) 6 48 rfl clk8 rfl rfl (Or.inl ww_746) rfl ?_
      refine ex_iload_n (pc := 72) 49 rfl rfl ?_
      refine ex_iaload (pc := 73) 50 rfl rfl rfl hs6 ?_
      refine ex_isub (pc := 74) 51 rfl ?_
      refine ex_invV (pc := 75) (M' := mX8_lower) (As := [.inl p3, .inl (((m11 30 p1) - 1) - (m11 29 p2))]) (st := []) 52 rfl clk8 rfl rfl calX8_lower (Or.inl ww_903) rfl rfl ?_
      refine vm_call.mono h ?_
      rintro m13 _ ⟨rfl, h⟩
      exact ex_ret (pc := 78) 53 rfl rfl ⟨rfl, h⟩
    · have h := h.2 hb
      refine ex_aload_n (pc := 10) 6 rfl rfl ?_
      refine ex_iload_n (pc := 11) 7 rfl rfl ?_
      refine ex_bipush (pc := 12) 8 rfl (by decide) ?_
      refine ex_invV (pc := 14) (M' := mX8_lower) (As := [.inl p1, .inl (-6)]) (st := []) 9 rfl clk8 rfl rfl calX8_lower (Or.inl ww_903) rfl rfl ?_
      refine vm_call.mono h ?_
      rintro m15 _ ⟨rfl, h⟩
      exact ex_ret (pc := 17) 10 rfl rfl ⟨rfl, h⟩
set_option maxRecDepth 20000 in
theorem qX8_narrowKind {G : vm_G} {d : Nat} {p1 : Int} {p2 : Int} {p3 : Int} {p4 : Int} {mem : vm_M} {Q : vm_M → Prop} (h : (vm_R p1) ∧ ((¬ p1 = 2 → ((¬ p1 = 3 → ((¬ p1 = 4 → vm_cn G d mX8_narrowMore [.inr (.inr 24), .inl p3, .inl p2, .inl 0] mem (fun m2 => Q m2)) ∧ (p1 = 4 → vm_cn G d mX8_narrowLeast [.inr (.inr 24), .inl p2, .inl p3, .inl p4] mem (fun m4 => Q m4)))) ∧ (p1 = 3 → vm_cn G d mX8_narrowGreatest [.inr (.inr 24), .inl p2, .inl p3, .inl p4] mem (fun m6 => Q m6)))) ∧ (p1 = 2 → vm_cn G d mX8_narrowSum [.inr (.inr 24), .inl p2, .inl p3, .inl p4] mem (fun m8 => Q m8)))) : vm_cn G (d + 1) mX8_narrowKind [.inr (.inr 24), .inl p1, .inl p2, .inl p3, .inl p4] mem Q := by
  refine vm_enter (al := [some (.inr (.inr 24)), some (.inl p1), some (.inl p2), some (.inl p3), some (.inl p4)]) 0 okX8_narrowKind (by decide +kernel) rfl rfl ?_
  refine ex_iload_n (pc := 0) 0 rfl rfl ?_
  refine ex_iconst (pc := 1) 1 rfl ?_
  obtain ⟨hs1, h⟩ := h
  refine ex_icmp_ne (pc := 2) 16 2 rfl (by decide) hs1 ⟨by decide, by decide⟩ (fun hb => ?_) (fun hb => ?_)
  · have h := h.1 hb
    refine ex_iload_n (pc := 16) 9 rfl rfl ?_
    refine ex_iconst (pc := 17) 10 rfl ?_
    refine ex_icmp_ne (pc := 18) 32 11 rfl (by decide) hs1 ⟨by decide, by decide⟩ (fun hb => ?_) (fun hb => ?_)
    · have h := h.1 hb
      refine ex_iload_n (pc := 32) 18 rfl rfl ?_
      refine ex_iconst (pc := 33) 19 rfl ?_
      refine ex_icmp_ne (pc := 34) 48 20 rfl (by decide) hs1 ⟨by decide, by decide⟩ (fun hb => ?_) (fun hb => ?_)
      · have h := h.1 hb
        refine ex_aload_n (pc := 48) 27 rfl rfl ?_
        refine ex_iload_n (pc := 49) 28 rfl rfl ?_
        refine ex_iload_n (pc := 50) 29 rfl rfl ?_
        refine ex_iconst (pc := 51) 30 rfl ?_
        refine ex_invV (pc := 52) (M' := mX8_narrowMore) (As := [.inl p3, .inl p2, .inl 0]) (st := []) 31 rfl clk8 rfl rfl calX8_narrowMore (Or.inl ww_911) rfl rfl ?_
        refine vm_call.mono h ?_
        rintro m2 _ ⟨rfl, h⟩
        exact ex_ret (pc := 55) 32 rfl rfl ⟨rfl, h⟩
      · have h := h.2 hb
        refine ex_aload_n (pc := 37) 21 rfl rfl ?_
        refine ex_iload_n (pc := 38) 22 rfl rfl ?_
        refine ex_iload_n (pc := 39) 23 rfl rfl ?_
        refine ex_iload (pc := 40) 24 rfl rfl ?_
        refine ex_invV (pc := 42) (M' := mX8_narrowLeast) (As := [.inl p2, .inl p3, .inl p4]) (st := []) 25 rfl clk8 rfl rfl calX8_narrowLeast (Or.inl ww_942) rfl rfl ?_
        refine vm_call.mono h ?_
        rintro m4 _ ⟨rfl, h⟩
        refine ex_goto (pc := 45) 55 26 rfl (by decide) ?_
        exact ex_ret (pc := 55) 32 rfl rfl ⟨rfl, h⟩
    · have h := h.2 hb
      refine ex_aload_n (pc := 21) 12 rfl rfl ?_
      refine ex_iload_n (pc := 22) 13 rfl rfl ?_
      refine ex_iload_n (pc := 23) 14 rfl rfl ?_
      refine ex_iload (pc := 24) 15 rfl rfl ?_
      refine ex_invV (pc := 26) (M' := mX8_narrowGreatest) (As := [.inl p2, .inl p3, .inl p4]) (st := []) 16 rfl clk8 rfl rfl calX8_narrowGreatest (Or.inl ww_935) rfl rfl ?_
      refine vm_call.mono h ?_
      rintro m6 _ ⟨rfl, h⟩
      refine ex_goto (pc := 29) 55 17 rfl (by decide) ?_
      exact ex_ret (pc := 55) 32 rfl rfl ⟨rfl, h⟩
  · have h := h.2 hb
    refine ex_aload_n (pc := 5) 3 rfl rfl ?_
    refine ex_iload_n (pc := 6) 4 rfl rfl ?_
    refine ex_iload_n (pc := 7) 5 rfl rfl ?_
    refine ex_iload (pc := 8) 6 rfl rfl ?_
    refine ex_invV (pc := 10) (M' := mX8_narrowSum) (As := [.inl p2, .inl p3, .inl p4]) (st := []) 7 rfl clk8 rfl rfl calX8_narrowSum (Or.inl ww_927) rfl rfl ?_
    refine vm_call.mono h ?_
    rintro m8 _ ⟨rfl, h⟩
    refine ex_goto (pc := 13) 55 8 rfl (by decide) ?_
    exact ex_ret (pc := 55) 32 rfl rfl ⟨rfl, h⟩
set_option maxRecDepth 20000 in
theorem qX8_narrowBy {G : vm_G} {d : Nat} {p1 : Int} {p2 : Int} {p3 : Int} {p4 : Int} {p5 : Int} {p6 : Int} {mem : vm_M} {Q : vm_M → Prop} (h : (vm_R p1) ∧ ((p1 = 0 → vm_cn G d mX8_raise [.inr (.inr 24), .inl ((3 * p2) + p3), .inl p4] mem (fun m2 => vm_cn G d mX8_lower [.inr (.inr 24), .inl ((3 * p2) + p3), .inl p5] m2 (fun m4 => Q m4))) ∧ (p1 = 1 → vm_cn G d mX8_narrowSize [.inr (.inr 24), .inl p2, .inl p3, .inl p4] mem (fun m6 => Q m6)) ∧ (p1 = 2 → vm_ex G (d + 1) mX8_narrowBy 164 [some (.inr (.inr 24)), some (.inl p1), some (.inl p2), some (.inl p3), some (.inl p4), some (.inl p5), some (.inl p6), some (.inl 0)] [] mem (vm_qn Q)) ∧ (p1 = 3 → vm_ex G (d + 1) mX8_narrowBy 164 [some (.inr (.inr 24)), some (.inl p1), some (.inl p2), some (.inl p3), some (.inl p4), some (.inl p5), some (.inl p6), some (.inl 0)] [] mem (vm_qn Q)) ∧ (p1 = 4 → vm_ex G (d + 1) mX8_narrowBy 164 [some (.inr (.inr 24)), some (.inl p1), some (.inl p2), some (.inl p3), some (.inl p4), some (.inl p5), some (.inl p6), some (.inl 0)] [] mem (vm_qn Q)) ∧ (p1 = 5 → vm_ex G (d + 1) mX8_narrowBy 164 [some (.inr (.inr 24)), some (.inl p1), some (.inl p2), some (.inl p3), some (.inl p4), some (.inl p5), some (.inl p6), some (.inl 0)] [] mem (vm_qn Q)) ∧ (p1 = 6 → vm_cn G d mX8_narrowMore [.inr (.inr 24), .inl ((3 * p2) + p3), .inl ((3 * p4) + p5), .inl p6] mem (fun m8 => Q m8)) ∧ (p1 = 7 → vm_cn G d mX8_narrowBelow [.inr (.inr 24), .inl ((3 * p2) + p5), .inl ((3 * p3) + p5), .inl ((3 * p4) + p5)] mem (fun m10 => Q m10)) ∧ (p1 = 8 → vm_cn G d mX8_narrowAbove [.inr (.inr 24), .inl ((3 * p2) + p5), .inl ((3 * p3) + p5), .inl ((3 * p4) + p5)] mem (fun m12 => Q m12)) ∧ (p1 < 0 ∨ 8 < p1 → vm_ex G (d + 1) mX8_narrowBy 164 [some (.inr (.inr 24)), some (.inl p1), some (.inl p2), some (.inl p3), some (.inl p4), some (.inl p5), some (.inl p6), some (.inl 0)] [] mem (vm_qn Q)))) : vm_cn G (d + 1) mX8_narrowBy [.inr (.inr 24), .inl p1, .inl p2, .inl p3, .inl p4, .inl p5, .inl p6] mem Q := by
  refine vm_enter (al := [some (.inr (.inr 24)), some (.inl p1), some (.inl p2), some (.inl p3), some (.inl p4), some (.inl p5), some (.inl p6), none]) 1 okX8_narrowBy (by decide +kernel) rfl rfl ?_
  refine ex_iload_n (pc := 0) 0 rfl rfl ?_
  obtain ⟨hs1, h⟩ := h
  obtain ⟨h0, h1, h2, h3, h4, h5, h6, h7, h8, h9⟩ := h
  refine ex_tsw (pc := 1) 1 rfl hs1 rfl ⟨fun hb => ⟨?_, by decide⟩, fun hb => ⟨?_, by decide⟩, fun hb => ⟨?_, by decide⟩, fun hb => ⟨?_, by decide⟩, fun hb => ⟨?_, by decide⟩, fun hb => ⟨?_, by decide⟩, fun hb => ⟨?_, by decide⟩, fun hb => ⟨?_, by decide⟩, fun hb => ⟨?_, by decide⟩, trivial⟩ (fun hb => ?_) (by decide)
  · have h := h0 hb
    refine ex_aload_n (pc := 52) 2 rfl rfl ?_
    refine ex_iconst (pc := 53) 3 rfl ?_
    refine ex_iload_n (pc := 54) 4 rfl rfl ?_
    refine ex_imul (pc := 55) 5 rfl ?_
    refine ex_iload_n (pc := 56) 6 rfl rfl ?_
    refine ex_iadd (pc := 57) 7 rfl ?_
    refine ex_iload (pc := 58) 8 rfl rfl ?_
    refine ex_invV (pc := 60) (M' := mX8_raise) (As := [.inl ((3 * p2) + p3), .inl p4]) (st := []) 9 rfl clk8 rfl rfl calX8_raise (Or.inl ww_899) rfl rfl ?_
    refine vm_call.mono h ?_
    rintro m2 _ ⟨rfl, h⟩
    refine ex_aload_n (pc := 63) 10 rfl rfl ?_
    refine ex_iconst (pc := 64) 11 rfl ?_
    refine ex_iload_n (pc := 65) 12 rfl rfl ?_
    refine ex_imul (pc := 66) 13 rfl ?_
    refine ex_iload_n (pc := 67) 14 rfl rfl ?_
    refine ex_iadd (pc := 68) 15 rfl ?_
    refine ex_iload (pc := 69) 16 rfl rfl ?_
    refine ex_invV (pc := 71) (M' := mX8_lower) (As := [.inl ((3 * p2) + p3), .inl p5]) (st := []) 17 rfl clk8 rfl rfl calX8_lower (Or.inl ww_903) rfl rfl ?_
    refine vm_call.mono h ?_
    rintro m4 _ ⟨rfl, h⟩
    refine ex_goto (pc := 74) 200 18 rfl (by decide) ?_
    exact ex_ret (pc := 200) 100 rfl rfl ⟨rfl, h⟩
  · have h := h1 hb
    refine ex_aload_n (pc := 77) 19 rfl rfl ?_
    refine ex_iload_n (pc := 78) 20 rfl rfl ?_
    refine ex_iload_n (pc := 79) 21 rfl rfl ?_
    refine ex_iload (pc := 80) 22 rfl rfl ?_
    refine ex_invV (pc := 82) (M' := mX8_narrowSize) (As := [.inl p2, .inl p3, .inl p4]) (st := []) 23 rfl clk8 rfl rfl calX8_narrowSize (Or.inl ww_907) rfl rfl ?_
    refine vm_call.mono h ?_
    rintro m6 _ ⟨rfl, h⟩
    refine ex_goto (pc := 85) 200 24 rfl (by decide) ?_
    exact ex_ret (pc := 200) 100 rfl rfl ⟨rfl, h⟩
  · have h := h2 hb
    refine ex_iconst (pc := 161) 75 rfl ?_
    refine ex_istore (pc := 162) 76 rfl rfl rfl ?_
    exact h
  · have h := h3 hb
    refine ex_iconst (pc := 161) 75 rfl ?_
    refine ex_istore (pc := 162) 76 rfl rfl rfl ?_
    exact h
  · have h := h4 hb
    refine ex_iconst (pc := 161) 75 rfl ?_
    refine ex_istore (pc := 162) 76 rfl rfl rfl ?_
    exact h
  · have h := h5 hb
    refine ex_iconst (pc := 161) 75 rfl ?_
    refine ex_istore (pc := 162) 76 rfl rfl rfl ?_
    exact h
  · have h := h6 hb
    refine ex_aload_n (pc := 88) 25 rfl rfl ?_
    refine ex_iconst (pc := 89) 26 rfl ?_
    refine ex_iload_n (pc := 90) 27 rfl rfl ?_
    refine ex_imul (pc := 91) 28 rfl ?_
    refine ex_iload_n (pc := 92) 29 rfl rfl ?_
    refine ex_iadd (pc := 93) 30 rfl ?_
    refine ex_iconst (pc := 94) 31 rfl ?_
    refine ex_iload (pc := 95) 32 rfl rfl ?_
    refine ex_imul (pc := 97) 33 rfl ?_
    refine ex_iload (pc := 98) 34 rfl rfl ?_
    refine ex_iadd (pc := 100) 35 rfl ?_
    refine ex_iload (pc := 101) 36 rfl rfl ?_
    refine ex_invV (pc := 103) (M' := mX8_narrowMore) (As := [.inl ((3 * p2) + p3), .inl ((3 * p4) + p5), .inl p6]) (st := []) 37 rfl clk8 rfl rfl calX8_narrowMore (Or.inl ww_911) rfl rfl ?_
    refine vm_call.mono h ?_
    rintro m8 _ ⟨rfl, h⟩
    refine ex_goto (pc := 106) 200 38 rfl (by decide) ?_
    exact ex_ret (pc := 200) 100 rfl rfl ⟨rfl, h⟩
  · have h := h7 hb
    refine ex_aload_n (pc := 109) 39 rfl rfl ?_
    refine ex_iconst (pc := 110) 40 rfl ?_
    refine ex_iload_n (pc := 111) 41 rfl rfl ?_
    refine ex_imul (pc := 112) 42 rfl ?_
    refine ex_iload (pc := 113) 43 rfl rfl ?_
    refine ex_iadd (pc := 115) 44 rfl ?_
    refine ex_iconst (pc := 116) 45 rfl ?_
    refine ex_iload_n (pc := 117) 46 rfl rfl ?_
    refine ex_imul (pc := 118) 47 rfl ?_
    refine ex_iload (pc := 119) 48 rfl rfl ?_
    refine ex_iadd (pc := 121) 49 rfl ?_
    refine ex_iconst (pc := 122) 50 rfl ?_
    refine ex_iload (pc := 123) 51 rfl rfl ?_
    refine ex_imul (pc := 125) 52 rfl ?_
    refine ex_iload (pc := 126) 53 rfl rfl ?_
    refine ex_iadd (pc := 128) 54 rfl ?_
    refine ex_invV (pc := 129) (M' := mX8_narrowBelow) (As := [.inl ((3 * p2) + p5), .inl ((3 * p3) + p5), .inl ((3 * p4) + p5)]) (st := []) 55 rfl clk8 rfl rfl calX8_narrowBelow (Or.inl ww_915) rfl rfl ?_
    refine vm_call.mono h ?_
    rintro m10 _ ⟨rfl, h⟩
    refine ex_goto (pc := 132) 200 56 rfl (by decide) ?_
    exact ex_ret (pc := 200) 100 rfl rfl ⟨rfl, h⟩
  · have h := h8 hb
    refine ex_aload_n (pc := 135) 57 rfl rfl ?_
    refine ex_iconst (pc := 136) 58 rfl ?_
    refine ex_iload_n (pc := 137) 59 rfl rfl ?_
    refine ex_imul (pc := 138) 60 rfl ?_
    refine ex_iload (pc := 139) 61 rfl rfl ?_
    refine ex_iadd (pc := 141) 62 rfl ?_
    refine ex_iconst (pc := 142) 63 rfl ?_
    refine ex_iload_n (pc := 143) 64 rfl rfl ?_
    refine ex_imul (pc := 144) 65 rfl ?_
    refine ex_iload (pc := 145) 66 rfl rfl ?_
    refine ex_iadd (pc := 147) 67 rfl ?_
    refine ex_iconst (pc := 148) 68 rfl ?_
    refine ex_iload (pc := 149) 69 rfl rfl ?_
    refine ex_imul (pc := 151) 70 rfl ?_
    refine ex_iload (pc := 152) 71 rfl rfl ?_
    refine ex_iadd (pc := 154) 72 rfl ?_
    refine ex_invV (pc := 155) (M' := mX8_narrowAbove) (As := [.inl ((3 * p2) + p5), .inl ((3 * p3) + p5), .inl ((3 * p4) + p5)]) (st := []) 73 rfl clk8 rfl rfl calX8_narrowAbove (Or.inl ww_919) rfl rfl ?_
    refine vm_call.mono h ?_
    rintro m12 _ ⟨rfl, h⟩
    refine ex_goto (pc := 158) 200 74 rfl (by decide) ?_
    exact ex_ret (pc := 200) 100 rfl rfl ⟨rfl, h⟩
  · have h := h9 hb
    refine ex_iconst (pc := 161) 75 rfl ?_
    refine ex_istore (pc := 162) 76 rfl rfl rfl ?_
    exact h
set_option maxRecDepth 20000 in
theorem qX8_narrowBy_164 {G : vm_G} {d : Nat} {v1 : Int} {v2 : Int} {v3 : Int} {v4 : Int} {v5 : Int} {v6 : Int} {v7 : Int} {mem : vm_M} {Q : vm_M → Prop} (h : (vm_R v7) ∧ ((3 ≤ v7 → Q mem) ∧ (¬ 3 ≤ v7 → vm_cn G d mX8_narrowKind [.inr (.inr 24), .inl v1, .inl ((3 * v2) + v7), .inl ((3 * v3) + v7), .inl ((3 * v4) + v7)] mem (fun m2 => vm_ex G (d + 1) mX8_narrowBy 164 [some (.inr (.inr 24)), some (.inl v1), some (.inl v2), some (.inl v3), some (.inl v4), some (.inl v5), some (.inl v6), some (.inl (v7 + 1))] [] m2 (vm_qn Q))))) : vm_ex G (d + 1) mX8_narrowBy 164 [some (.inr (.inr 24)), some (.inl v1), some (.inl v2), some (.inl v3), some (.inl v4), some (.inl v5), some (.inl v6), some (.inl v7)] [] mem (vm_qn Q) := by
  refine ex_iload (pc := 164) 77 rfl rfl ?_
  refine ex_iconst (pc := 166) 78 rfl ?_
  obtain ⟨hs1, h⟩ := h
  refine ex_icmp_ge (pc := 167) 200 79 rfl (by decide) hs1 ⟨by decide, by decide⟩ (fun hb => ?_) (fun hb => ?_)
  · have h := h.1 hb
    exact ex_ret (pc := 200) 100 rfl rfl ⟨rfl, h⟩
  · have h := h.2 hb
    refine ex_aload_n (pc := 170) 80 rfl rfl ?_
    refine ex_iload_n (pc := 171) 81 rfl rfl ?_
    refine ex_iconst (pc := 172) 82 rfl ?_
    refine ex_iload_n (pc := 173) 83 rfl rfl ?_
    refine ex_imul (pc := 174) 84 rfl ?_
    refine ex_iload (pc := 175) 85 rfl rfl ?_
    refine ex_iadd (pc := 177) 86 rfl ?_
    refine ex_iconst (pc := 178) 87 rfl ?_
    refine ex_iload_n (pc := 179) 88 rfl rfl ?_
    refine ex_imul (pc := 180) 89 rfl ?_
    refine ex_iload (pc := 181) 90 rfl rfl ?_
    refine ex_iadd (pc := 183) 91 rfl ?_
    refine ex_iconst (pc := 184) 92 rfl ?_
    refine ex_iload (pc := 185) 93 rfl rfl ?_
    refine ex_imul (pc := 187) 94 rfl ?_
    refine ex_iload (pc := 188) 95 rfl rfl ?_
    refine ex_iadd (pc := 190) 96 rfl ?_
    refine ex_invV (pc := 191) (M' := mX8_narrowKind) (As := [.inl v1, .inl ((3 * v2) + v7), .inl ((3 * v3) + v7), .inl ((3 * v4) + v7)]) (st := []) 97 rfl clk8 rfl rfl calX8_narrowKind (Or.inl ww_923) rfl rfl ?_
    refine vm_call.mono h ?_
    rintro m2 _ ⟨rfl, h⟩
    refine ex_iinc (pc := 194) 98 rfl rfl rfl rfl ?_
    refine ex_goto (pc := 197) 164 99 rfl (by decide) ?_
    exact h
set_option maxRecDepth 20000 in
theorem qX8_isEmpty {G : vm_G} {d : Nat}  {mem : vm_M} {Q : vm_M → Bool → Prop} (h : vm_ex G d mX8_isEmpty 4 [some (.inr (.inr 24)), some (.inl 0), some (.inl 0)] [] mem (vm_qb Q)) : vm_cb G d mX8_isEmpty [.inr (.inr 24)] mem Q := by
  refine vm_enter (al := [some (.inr (.inr 24)), none, none]) 2 okX8_isEmpty (by decide +kernel) rfl rfl ?_
  refine ex_iconst (pc := 0) 0 rfl ?_
  refine ex_istore_n (pc := 1) 1 rfl rfl rfl ?_
  refine ex_iconst (pc := 2) 2 rfl ?_
  refine ex_istore_n (pc := 3) 3 rfl rfl rfl ?_
  exact h
set_option maxRecDepth 20000 in
theorem qX8_isEmpty_4 {G : vm_G} {d : Nat} {v1 : Int} {v2 : Int} {mem : vm_M} {Q : vm_M → Bool → Prop} (h : (vm_R v2) ∧ ((12 ≤ v2 → (∃ b2 : Bool, v1 = vm_b2i b2 ∧ Q mem b2)) ∧ (¬ 12 ≤ v2 → (0 ≤ v2 ∧ v2 < 12) ∧ (vm_R (mem 29 v2)) ∧ (vm_R (mem 30 v2)) ∧ (((mem 29 v2) ≤ (mem 30 v2) → vm_ex G d mX8_isEmpty 4 [some (.inr (.inr 24)), some (.inl (vm_or v1 0)), some (.inl (v2 + 1))] [] mem (vm_qb Q)) ∧ (¬ (mem 29 v2) ≤ (mem 30 v2) → vm_ex G d mX8_isEmpty 4 [some (.inr (.inr 24)), some (.inl (vm_or v1 1)), some (.inl (v2 + 1))] [] mem (vm_qb Q)))))) : vm_ex G d mX8_isEmpty 4 [some (.inr (.inr 24)), some (.inl v1), some (.inl v2)] [] mem (vm_qb Q) := by
  refine ex_iload_n (pc := 4) 4 rfl rfl ?_
  refine ex_bipush (pc := 5) 5 rfl (by decide) ?_
  obtain ⟨hs1, h⟩ := h
  refine ex_icmp_ge (pc := 7) 39 6 rfl (by decide) hs1 ⟨by decide, by decide⟩ (fun hb => ?_) (fun hb => ?_)
  · have h := h.1 hb
    refine ex_iload_n (pc := 39) 24 rfl rfl ?_
    obtain ⟨b2, hbe, h⟩ := h
    rw [hbe]
    exact ex_iret (pc := 40) 25 rfl (Or.inr ⟨rfl, vm_b2i_01 _⟩) ⟨_, rfl, h⟩
  · have h := h.2 hb
    refine ex_iload_n (pc := 10) 7 rfl rfl ?_
    refine ex_aload_n (pc := 11) 8 rfl rfl ?_
    refine ex_geta (pc := 12) 6 9 rfl clk8 rfl rfl (Or.inl ww_746) rfl ?_
    refine ex_iload_n (pc := 15) 10 rfl rfl ?_
    obtain ⟨hs3, h⟩ := h
    refine ex_iaload (pc := 16) 11 rfl rfl rfl hs3 ?_
    refine ex_aload_n (pc := 17) 12 rfl rfl ?_
    refine ex_geta (pc := 18) 7 13 rfl clk8 rfl rfl (Or.inl ww_747) rfl ?_
    refine ex_iload_n (pc := 21) 14 rfl rfl ?_
    refine ex_iaload (pc := 22) 15 rfl rfl rfl hs3 ?_
    obtain ⟨hs4, h⟩ := h
    obtain ⟨hs5, h⟩ := h
    refine ex_icmp_le (pc := 23) 30 16 rfl (by decide) hs4 hs5 (fun hb => ?_) (fun hb => ?_)
    · have h := h.1 hb
      refine ex_iconst (pc := 30) 19 rfl ?_
      refine ex_ior (pc := 31) 20 rfl ?_
      refine ex_istore_n (pc := 32) 21 rfl rfl rfl ?_
      refine ex_iinc (pc := 33) 22 rfl rfl rfl rfl ?_
      refine ex_goto (pc := 36) 4 23 rfl (by decide) ?_
      exact h
    · have h := h.2 hb
      refine ex_iconst (pc := 26) 17 rfl ?_
      refine ex_goto (pc := 27) 31 18 rfl (by decide) ?_
      refine ex_ior (pc := 31) 20 rfl ?_
      refine ex_istore_n (pc := 32) 21 rfl rfl rfl ?_
      refine ex_iinc (pc := 33) 22 rfl rfl rfl rfl ?_
      refine ex_goto (pc := 36) 4 23 rfl (by decide) ?_
      exact h
set_option maxRecDepth 20000 in
theorem qX8_narrow {G : vm_G} {d : Nat}  {mem : vm_M} {Q : vm_M → Bool → Prop} (h : (∀ m1, m1 = vm_up mem 24 11 1 → vm_ex G (d + 1) mX8_narrow 5 [some (.inr (.inr 24)), none, none] [] m1 (vm_qb Q))) : vm_cb G (d + 1) mX8_narrow [.inr (.inr 24)] mem Q := by
  refine vm_enter (al := [some (.inr (.inr 24)), none, none]) 2 okX8_narrow (by decide +kernel) rfl rfl ?_
  refine ex_aload_n (pc := 0) 0 rfl rfl ?_
  refine ex_iconst (pc := 1) 1 rfl ?_
  have h := h _ rfl
  refine ex_putz (pc := 2) 11 2 rfl clk8 rfl rfl (Or.inl ww_751) rfl rfl rfl (by decide) ?_
  generalize vm_up mem 24 _ 1 = m1 at h ⊢
  exact h
set_option maxRecDepth 20000 in
theorem qX8_narrow_5 {G : vm_G} {d : Nat}  {mem : vm_M} {Q : vm_M → Bool → Prop} (h : (vm_R (mem 24 11)) ∧ (((mem 24 11) = 0 → vm_cb G d mX8_isEmpty [.inr (.inr 24)] mem (fun m2 r3 => (r3 = true → Q m2 false) ∧ (r3 = false → Q m2 true))) ∧ (¬ (mem 24 11) = 0 → vm_cb G d mX8_isEmpty [.inr (.inr 24)] mem (fun m4 r5 => (r5 = true → vm_cb G d mX8_isEmpty [.inr (.inr 24)] m4 (fun m6 r7 => (r7 = true → Q m6 false) ∧ (r7 = false → Q m6 true))) ∧ (r5 = false → (∀ m8, m8 = vm_up m4 24 11 0 → vm_ex G (d + 1) mX8_narrow 26 [some (.inr (.inr 24)), some (.inl 0), none] [] m8 (vm_qb Q))))))) : vm_ex G (d + 1) mX8_narrow 5 [some (.inr (.inr 24)), none, none] [] mem (vm_qb Q) := by
  refine ex_aload_n (pc := 5) 3 rfl rfl ?_
  refine ex_geti (pc := 6) 11 4 rfl clk8 rfl rfl (Or.inl ww_751) rfl ?_
  obtain ⟨hs1, h⟩ := h
  refine ex_if_eq (pc := 9) 168 5 rfl (by decide) hs1 (fun hb => ?_) (fun hb => ?_)
  · have h := h.1 hb
    refine ex_aload_n (pc := 168) 105 rfl rfl ?_
    refine ex_invV (pc := 169) (M' := mX8_isEmpty) (As := []) (st := []) 106 rfl clk8 rfl rfl calX8_isEmpty (Or.inl ww_891) rfl rfl ?_
    refine vm_call.mono h ?_
    rintro m2 _ ⟨r3, rfl, h⟩
    refine ex_if_ne (pc := 172) 179 107 rfl (by decide) (vm_b2i_R _) (fun hb => ?_) (fun hb => ?_)
    · have h := h.1 (vm_b2i_n.mp hb)
      refine ex_iconst (pc := 179) 110 rfl ?_
      exact ex_iret (pc := 180) 111 rfl (Or.inr ⟨rfl, by decide⟩) ⟨false, rfl, h⟩
    · have h := h.2 (vm_b2i_0.mp hb)
      refine ex_iconst (pc := 175) 108 rfl ?_
      refine ex_goto (pc := 176) 180 109 rfl (by decide) ?_
      exact ex_iret (pc := 180) 111 rfl (Or.inr ⟨rfl, by decide⟩) ⟨true, rfl, h⟩
  · have h := h.2 hb
    refine ex_aload_n (pc := 12) 6 rfl rfl ?_
    refine ex_invV (pc := 13) (M' := mX8_isEmpty) (As := []) (st := []) 7 rfl clk8 rfl rfl calX8_isEmpty (Or.inl ww_891) rfl rfl ?_
    refine vm_call.mono h ?_
    rintro m4 _ ⟨r5, rfl, h⟩
    refine ex_if_ne (pc := 16) 168 8 rfl (by decide) (vm_b2i_R _) (fun hb => ?_) (fun hb => ?_)
    · have h := h.1 (vm_b2i_n.mp hb)
      refine ex_aload_n (pc := 168) 105 rfl rfl ?_
      refine ex_invV (pc := 169) (M' := mX8_isEmpty) (As := []) (st := []) 106 rfl clk8 rfl rfl calX8_isEmpty (Or.inl ww_891) rfl rfl ?_
      refine vm_call.mono h ?_
      rintro m6 _ ⟨r7, rfl, h⟩
      refine ex_if_ne (pc := 172) 179 107 rfl (by decide) (vm_b2i_R _) (fun hb => ?_) (fun hb => ?_)
      · have h := h.1 (vm_b2i_n.mp hb)
        refine ex_iconst (pc := 179) 110 rfl ?_
        exact ex_iret (pc := 180) 111 rfl (Or.inr ⟨rfl, by decide⟩) ⟨false, rfl, h⟩
      · have h := h.2 (vm_b2i_0.mp hb)
        refine ex_iconst (pc := 175) 108 rfl ?_
        refine ex_goto (pc := 176) 180 109 rfl (by decide) ?_
        exact ex_iret (pc := 180) 111 rfl (Or.inr ⟨rfl, by decide⟩) ⟨true, rfl, h⟩
    · have h := h.2 (vm_b2i_0.mp hb)
      refine ex_aload_n (pc := 19) 9 rfl rfl ?_
      refine ex_iconst (pc := 20) 10 rfl ?_
      have h := h _ rfl
      refine ex_putz (pc := 21) 11 11 rfl clk8 rfl rfl (Or.inl ww_751) rfl rfl rfl (by decide) ?_
      generalize vm_up m4 24 _ 0 = m8 at h ⊢
      refine ex_iconst (pc := 24) 12 rfl ?_
      refine ex_istore_n (pc := 25) 13 rfl rfl rfl ?_
      exact h
set_option maxRecDepth 20000 in
theorem qX8_narrow_26 {G : vm_G} {d : Nat} {v1 : Int} {mem : vm_M} {Q : vm_M → Bool → Prop} (h : (vm_R v1) ∧ (vm_R (mem 25 1)) ∧ (((mem 25 1) ≤ v1 → vm_ex G (d + 1) mX8_narrow 96 [some (.inr (.inr 24)), some (.inl 0), none] [] mem (vm_qb Q)) ∧ (¬ (mem 25 1) ≤ v1 → (vm_R (vm_and (vm_shr (mem 24 10) v1) 1)) ∧ ((¬ (vm_and (vm_shr (mem 24 10) v1) 1) = 1 → vm_ex G (d + 1) mX8_narrow 26 [some (.inr (.inr 24)), some (.inl (v1 + 1)), none] [] mem (vm_qb Q)) ∧ ((vm_and (vm_shr (mem 24 10) v1) 1) = 1 → vm_ci G d mX8_of [.inr (.inr 24), .inl v1, .inl 0] mem (fun m4 r5 => vm_ci G d mX8_of [.inr (.inr 24), .inl v1, .inl 1] m4 (fun m6 r7 => vm_ci G d mX8_of [.inr (.inr 24), .inl v1, .inl 2] m6 (fun m8 r9 => vm_ci G d mX8_of [.inr (.inr 24), .inl v1, .inl 3] m8 (fun m10 r11 => vm_ci G d mX8_of [.inr (.inr 24), .inl v1, .inl 4] m10 (fun m12 r13 => vm_ci G d mX8_of [.inr (.inr 24), .inl v1, .inl 5] m12 (fun m14 r15 => vm_cn G d mX8_narrowBy [.inr (.inr 24), .inl r5, .inl r7, .inl r9, .inl r11, .inl r13, .inl r15] m14 (fun m16 => vm_ex G (d + 1) mX8_narrow 26 [some (.inr (.inr 24)), some (.inl (v1 + 1)), none] [] m16 (vm_qb Q))))))))))))) : vm_ex G (d + 1) mX8_narrow 26 [some (.inr (.inr 24)), some (.inl v1), none] [] mem (vm_qb Q) := by
  refine ex_iload_n (pc := 26) 14 rfl rfl ?_
  refine ex_aload_n (pc := 27) 15 rfl rfl ?_
  refine ex_geta (pc := 28) 0 16 rfl clk8 rfl rfl (Or.inl ww_740) rfl ?_
  refine ex_iconst (pc := 31) 17 rfl ?_
  refine ex_iaload (pc := 32) 18 rfl rfl rfl ⟨by decide, by decide⟩ ?_
  obtain ⟨hs1, h⟩ := h
  obtain ⟨hs2, h⟩ := h
  refine ex_icmp_ge (pc := 33) 94 19 rfl (by decide) hs1 hs2 (fun hb => ?_) (fun hb => ?_)
  · have h := h.1 hb
    refine ex_iconst (pc := 94) 56 rfl ?_
    refine ex_istore_n (pc := 95) 57 rfl rfl rfl ?_
    exact h
  · have h := h.2 hb
    refine ex_aload_n (pc := 36) 20 rfl rfl ?_
    refine ex_geti (pc := 37) 10 21 rfl clk8 rfl rfl (Or.inl ww_750) rfl ?_
    refine ex_iload_n (pc := 40) 22 rfl rfl ?_
    refine ex_ishr (pc := 41) 23 rfl ?_
    refine ex_iconst (pc := 42) 24 rfl ?_
    refine ex_iand (pc := 43) 25 rfl ?_
    refine ex_iconst (pc := 44) 26 rfl ?_
    obtain ⟨hs3, h⟩ := h
    refine ex_icmp_ne (pc := 45) 88 27 rfl (by decide) hs3 ⟨by decide, by decide⟩ (fun hb => ?_) (fun hb => ?_)
    · have h := h.1 hb
      refine ex_iinc (pc := 88) 54 rfl rfl rfl rfl ?_
      refine ex_goto (pc := 91) 26 55 rfl (by decide) ?_
      exact h
    · have h := h.2 hb
      refine ex_aload_n (pc := 48) 28 rfl rfl ?_
      refine ex_aload_n (pc := 49) 29 rfl rfl ?_
      refine ex_iload_n (pc := 50) 30 rfl rfl ?_
      refine ex_iconst (pc := 51) 31 rfl ?_
      refine ex_invV (pc := 52) (M' := mX8_of) (As := [.inl v1, .inl 0]) (st := [.inr (.inr 24)]) 32 rfl clk8 rfl rfl calX8_of (Or.inl ww_855) rfl rfl ?_
      refine vm_call.mono h ?_
      rintro m4 _ ⟨r5, rfl, h⟩
      refine ex_aload_n (pc := 55) 33 rfl rfl ?_
      refine ex_iload_n (pc := 56) 34 rfl rfl ?_
      refine ex_iconst (pc := 57) 35 rfl ?_
      refine ex_invV (pc := 58) (M' := mX8_of) (As := [.inl v1, .inl 1]) (st := [.inl r5, .inr (.inr 24)]) 36 rfl clk8 rfl rfl calX8_of (Or.inl ww_855) rfl rfl ?_
      refine vm_call.mono h ?_
      rintro m6 _ ⟨r7, rfl, h⟩
      refine ex_aload_n (pc := 61) 37 rfl rfl ?_
      refine ex_iload_n (pc := 62) 38 rfl rfl ?_
      refine ex_iconst (pc := 63) 39 rfl ?_
      refine ex_invV (pc := 64) (M' := mX8_of) (As := [.inl v1, .inl 2]) (st := [.inl r7, .inl r5, .inr (.inr 24)]) 40 rfl clk8 rfl rfl calX8_of (Or.inl ww_855) rfl rfl ?_
      refine vm_call.mono h ?_
      rintro m8 _ ⟨r9, rfl, h⟩
      refine ex_aload_n (pc := 67) 41 rfl rfl ?_
      refine ex_iload_n (pc := 68) 42 rfl rfl ?_
      refine ex_iconst (pc := 69) 43 rfl ?_
      refine ex_invV (pc := 70) (M' := mX8_of) (As := [.inl v1, .inl 3]) (st := [.inl r9, .inl r7, .inl r5, .inr (.inr 24)]) 44 rfl clk8 rfl rfl calX8_of (Or.inl ww_855) rfl rfl ?_
      refine vm_call.mono h ?_
      rintro m10 _ ⟨r11, rfl, h⟩
      refine ex_aload_n (pc := 73) 45 rfl rfl ?_
      refine ex_iload_n (pc := 74) 46 rfl rfl ?_
      refine ex_iconst (pc := 75) 47 rfl ?_
      refine ex_invV (pc := 76) (M' := mX8_of) (As := [.inl v1, .inl 4]) (st := [.inl r11, .inl r9, .inl r7, .inl r5, .inr (.inr 24)]) 48 rfl clk8 rfl rfl calX8_of (Or.inl ww_855) rfl rfl ?_
      refine vm_call.mono h ?_
      rintro m12 _ ⟨r13, rfl, h⟩
      refine ex_aload_n (pc := 79) 49 rfl rfl ?_
      refine ex_iload_n (pc := 80) 50 rfl rfl ?_
      refine ex_iconst (pc := 81) 51 rfl ?_
      refine ex_invV (pc := 82) (M' := mX8_of) (As := [.inl v1, .inl 5]) (st := [.inl r13, .inl r11, .inl r9, .inl r7, .inl r5, .inr (.inr 24)]) 52 rfl clk8 rfl rfl calX8_of (Or.inl ww_855) rfl rfl ?_
      refine vm_call.mono h ?_
      rintro m14 _ ⟨r15, rfl, h⟩
      refine ex_invV (pc := 85) (M' := mX8_narrowBy) (As := [.inl r5, .inl r7, .inl r9, .inl r11, .inl r13, .inl r15]) (st := []) 53 rfl clk8 rfl rfl calX8_narrowBy (Or.inl ww_895) rfl rfl ?_
      refine vm_call.mono h ?_
      rintro m16 _ ⟨rfl, h⟩
      refine ex_iinc (pc := 88) 54 rfl rfl rfl rfl ?_
      refine ex_goto (pc := 91) 26 55 rfl (by decide) ?_
      exact h
set_option maxRecDepth 20000 in
theorem qX8_narrow_96 {G : vm_G} {d : Nat} {v1 : Int} {mem : vm_M} {Q : vm_M → Bool → Prop} (h : (vm_R v1) ∧ (vm_R (mem 24 9)) ∧ (((mem 24 9) ≤ v1 → vm_ex G (d + 1) mX8_narrow 5 [some (.inr (.inr 24)), none, none] [] mem (vm_qb Q)) ∧ (¬ (mem 24 9) ≤ v1 → (0 ≤ (6 * v1) ∧ (6 * v1) < 12) ∧ (0 ≤ ((6 * v1) + 1) ∧ ((6 * v1) + 1) < 12) ∧ (0 ≤ ((6 * v1) + 2) ∧ ((6 * v1) + 2) < 12) ∧ (0 ≤ ((6 * v1) + 3) ∧ ((6 * v1) + 3) < 12) ∧ (0 ≤ ((6 * v1) + 4) ∧ ((6 * v1) + 4) < 12) ∧ (0 ≤ ((6 * v1) + 5) ∧ ((6 * v1) + 5) < 12) ∧ vm_cn G d mX8_narrowBy [.inr (.inr 24), .inl (mem 31 (6 * v1)), .inl (mem 31 ((6 * v1) + 1)), .inl (mem 31 ((6 * v1) + 2)), .inl (mem 31 ((6 * v1) + 3)), .inl (mem 31 ((6 * v1) + 4)), .inl (mem 31 ((6 * v1) + 5))] mem (fun m9 => vm_ex G (d + 1) mX8_narrow 96 [some (.inr (.inr 24)), some (.inl (v1 + 1)), none] [] m9 (vm_qb Q))))) : vm_ex G (d + 1) mX8_narrow 96 [some (.inr (.inr 24)), some (.inl v1), none] [] mem (vm_qb Q) := by
  refine ex_iload_n (pc := 96) 58 rfl rfl ?_
  refine ex_aload_n (pc := 97) 59 rfl rfl ?_
  refine ex_geti (pc := 98) 9 60 rfl clk8 rfl rfl (Or.inl ww_749) rfl ?_
  obtain ⟨hs1, h⟩ := h
  obtain ⟨hs2, h⟩ := h
  refine ex_icmp_ge (pc := 101) 165 61 rfl (by decide) hs1 hs2 (fun hb => ?_) (fun hb => ?_)
  · have h := h.1 hb
    refine ex_goto (pc := 165) 5 104 rfl (by decide) ?_
    exact ex_less [some (.inr (.inr 24)), none, none] (And.intro rfl (True.intro)) h
  · have h := h.2 hb
    refine ex_bipush (pc := 104) 62 rfl (by decide) ?_
    refine ex_iload_n (pc := 106) 63 rfl rfl ?_
    refine ex_imul (pc := 107) 64 rfl ?_
    refine ex_istore_n (pc := 108) 65 rfl rfl rfl ?_
    refine ex_aload_n (pc := 109) 66 rfl rfl ?_
    refine ex_aload_n (pc := 110) 67 rfl rfl ?_
    refine ex_geta (pc := 111) 8 68 rfl clk8 rfl rfl (Or.inl ww_748) rfl ?_
    refine ex_iload_n (pc := 114) 69 rfl rfl ?_
    obtain ⟨hs3, h⟩ := h
    refine ex_iaload (pc := 115) 70 rfl rfl rfl hs3 ?_
    refine ex_aload_n (pc := 116) 71 rfl rfl ?_
    refine ex_geta (pc := 117) 8 72 rfl clk8 rfl rfl (Or.inl ww_748) rfl ?_
    refine ex_iload_n (pc := 120) 73 rfl rfl ?_
    refine ex_iconst (pc := 121) 74 rfl ?_
    refine ex_iadd (pc := 122) 75 rfl ?_
    obtain ⟨hs4, h⟩ := h
    refine ex_iaload (pc := 123) 76 rfl rfl rfl hs4 ?_
    refine ex_aload_n (pc := 124) 77 rfl rfl ?_
    refine ex_geta (pc := 125) 8 78 rfl clk8 rfl rfl (Or.inl ww_748) rfl ?_
    refine ex_iload_n (pc := 128) 79 rfl rfl ?_
    refine ex_iconst (pc := 129) 80 rfl ?_
    refine ex_iadd (pc := 130) 81 rfl ?_
    obtain ⟨hs5, h⟩ := h
    refine ex_iaload (pc := 131) 82 rfl rfl rfl hs5 ?_
    refine ex_aload_n (pc := 132) 83 rfl rfl ?_
    refine ex_geta (pc := 133) 8 84 rfl clk8 rfl rfl (Or.inl ww_748) rfl ?_
    refine ex_iload_n (pc := 136) 85 rfl rfl ?_
    refine ex_iconst (pc := 137) 86 rfl ?_
    refine ex_iadd (pc := 138) 87 rfl ?_
    obtain ⟨hs6, h⟩ := h
    refine ex_iaload (pc := 139) 88 rfl rfl rfl hs6 ?_
    refine ex_aload_n (pc := 140) 89 rfl rfl ?_
    refine ex_geta (pc := 141) 8 90 rfl clk8 rfl rfl (Or.inl ww_748) rfl ?_
    refine ex_iload_n (pc := 144) 91 rfl rfl ?_
    refine ex_iconst (pc := 145) 92 rfl ?_
    refine ex_iadd (pc := 146) 93 rfl ?_
    obtain ⟨hs7, h⟩ := h
    refine ex_iaload (pc := 147) 94 rfl rfl rfl hs7 ?_
    refine ex_aload_n (pc := 148) 95 rfl rfl ?_
    refine ex_geta (pc := 149) 8 96 rfl clk8 rfl rfl (Or.inl ww_748) rfl ?_
    refine ex_iload_n (pc := 152) 97 rfl rfl ?_
    refine ex_iconst (pc := 153) 98 rfl ?_
    refine ex_iadd (pc := 154) 99 rfl ?_
    obtain ⟨hs8, h⟩ := h
    refine ex_iaload (pc := 155) 100 rfl rfl rfl hs8 ?_
    refine ex_invV (pc := 156) (M' := mX8_narrowBy) (As := [.inl (mem 31 (6 * v1)), .inl (mem 31 ((6 * v1) + 1)), .inl (mem 31 ((6 * v1) + 2)), .inl (mem 31 ((6 * v1) + 3)), .inl (mem 31 ((6 * v1) + 4)), .inl (mem 31 ((6 * v1) + 5))]) (st := []) 101 rfl clk8 rfl rfl calX8_narrowBy (Or.inl ww_895) rfl rfl ?_
    refine vm_call.mono h ?_
    rintro m9 _ ⟨rfl, h⟩
    refine ex_iinc (pc := 159) 102 rfl rfl rfl rfl ?_
    refine ex_goto (pc := 162) 96 103 rfl (by decide) ?_
    exact ex_less [some (.inr (.inr 24)), some (.inl (v1 + 1)), none] (And.intro rfl (And.intro rfl (True.intro))) h
set_option maxRecDepth 20000 in
theorem qX8_bagBit {G : vm_G} {d : Nat} {p0 : Int} {mem : vm_M} {Q : vm_M → Int → Prop} (h : Q mem (vm_shl 7 (3 * p0))) : vm_ci G d mX8_bagBit [.inl p0] mem Q := by
  refine vm_enter (al := [some (.inl p0)]) 0 okX8_bagBit (by decide +kernel) rfl rfl ?_
  refine ex_bipush (pc := 0) 0 rfl (by decide) ?_
  refine ex_iconst (pc := 2) 1 rfl ?_
  refine ex_iload_n (pc := 3) 2 rfl rfl ?_
  refine ex_imul (pc := 4) 3 rfl ?_
  refine ex_ishl (pc := 5) 4 rfl ?_
  exact ex_iret (pc := 6) 5 rfl (Or.inl rfl) ⟨_, rfl, h⟩
set_option maxRecDepth 20000 in
theorem qX8_joined {G : vm_G} {d : Nat} {p0 : Int} {p1 : Int} {p2 : Int} {p3 : Int} {p4 : Int} {p5 : Int} {mem : vm_M} {Q : vm_M → Int → Prop} (h : (vm_R p1) ∧ ((p1 = 7 → vm_ex G (d + 1) mX8_joined 12 [some (.inl p0), some (.inl p1), some (.inl p2), some (.inl p3), some (.inl p4), some (.inl p5), none, none] [] mem (vm_qi Q)) ∧ (¬ p1 = 7 → ((¬ p1 = 8 → ((¬ p1 = 1 → ((¬ p1 = 6 → ((¬ p1 = 5 → ((p1 = 0 → vm_ex G (d + 1) mX8_joined 127 [some (.inl p0), some (.inl p1), some (.inl p2), some (.inl p3), some (.inl p4), some (.inl p5), some (.inl (vm_rem p0 3)), some (.inl 0)] [] mem (vm_qi Q)) ∧ (¬ p1 = 0 → vm_ex G (d + 1) mX8_joined 127 [some (.inl p0), some (.inl p1), some (.inl p2), some (.inl p3), some (.inl p4), some (.inl p5), some (.inl (vm_rem p0 3)), some (.inl (vm_or (vm_or (vm_shl 1 ((3 * p2) + (vm_rem p0 3))) (vm_shl 1 ((3 * p3) + (vm_rem p0 3)))) (vm_shl 1 ((3 * p4) + (vm_rem p0 3)))))] [] mem (vm_qi Q)))) ∧ (p1 = 5 → vm_ex G (d + 1) mX8_joined 127 [some (.inl p0), some (.inl p1), some (.inl p2), some (.inl p3), some (.inl p4), some (.inl p5), some (.inl (vm_rem p0 3)), some (.inl (vm_or (vm_shl 1 ((3 * p2) + (vm_rem p0 3))) (vm_shl 1 ((3 * p3) + (vm_rem p0 3)))))] [] mem (vm_qi Q)))) ∧ (p1 = 6 → vm_ex G (d + 1) mX8_joined 127 [some (.inl p0), some (.inl p1), some (.inl p2), some (.inl p3), some (.inl p4), some (.inl p5), some (.inl (vm_rem p0 3)), some (.inl (vm_or (vm_shl 1 ((3 * p2) + p3)) (vm_shl 1 ((3 * p4) + p5))))] [] mem (vm_qi Q)))) ∧ (p1 = 1 → vm_ci G d mX8_bagBit [.inl p2] mem (fun m2 r3 => vm_ex G (d + 1) mX8_joined 127 [some (.inl p0), some (.inl p1), some (.inl p2), some (.inl p3), some (.inl p4), some (.inl p5), some (.inl (vm_rem p0 3)), some (.inl r3)] [] m2 (vm_qi Q))))) ∧ (p1 = 8 → vm_ex G (d + 1) mX8_joined 12 [some (.inl p0), some (.inl p1), some (.inl p2), some (.inl p3), some (.inl p4), some (.inl p5), none, none] [] mem (vm_qi Q)))))) : vm_ci G (d + 1) mX8_joined [.inl p0, .inl p1, .inl p2, .inl p3, .inl p4, .inl p5] mem Q := by
  refine vm_enter (al := [some (.inl p0), some (.inl p1), some (.inl p2), some (.inl p3), some (.inl p4), some (.inl p5), none, none]) 2 okX8_joined (by decide +kernel) rfl rfl ?_
  refine ex_iload_n (pc := 0) 0 rfl rfl ?_
  refine ex_bipush (pc := 1) 1 rfl (by decide) ?_
  obtain ⟨hs1, h⟩ := h
  refine ex_icmp_eq (pc := 3) 12 2 rfl (by decide) hs1 ⟨by decide, by decide⟩ (fun hb => ?_) (fun hb => ?_)
  · have h := h.1 hb
    exact h
  · have h := h.2 hb
    refine ex_iload_n (pc := 6) 3 rfl rfl ?_
    refine ex_bipush (pc := 7) 4 rfl (by decide) ?_
    refine ex_icmp_ne (pc := 9) 17 5 rfl (by decide) hs1 ⟨by decide, by decide⟩ (fun hb => ?_) (fun hb => ?_)
    · have h := h.1 hb
      refine ex_iload_n (pc := 17) 8 rfl rfl ?_
      refine ex_iconst (pc := 18) 9 rfl ?_
      refine ex_irem (pc := 19) 10 rfl ⟨⟨by decide, by decide⟩, by decide⟩ ?_
      refine ex_istore (pc := 20) 11 rfl rfl rfl ?_
      refine ex_iconst (pc := 22) 12 rfl ?_
      refine ex_istore (pc := 23) 13 rfl rfl rfl ?_
      refine ex_iload_n (pc := 25) 14 rfl rfl ?_
      refine ex_iconst (pc := 26) 15 rfl ?_
      refine ex_icmp_ne (pc := 27) 39 16 rfl (by decide) hs1 ⟨by decide, by decide⟩ (fun hb => ?_) (fun hb => ?_)
      · have h := h.1 hb
        refine ex_iload_n (pc := 39) 21 rfl rfl ?_
        refine ex_bipush (pc := 40) 22 rfl (by decide) ?_
        refine ex_icmp_ne (pc := 42) 67 23 rfl (by decide) hs1 ⟨by decide, by decide⟩ (fun hb => ?_) (fun hb => ?_)
        · have h := h.1 hb
          refine ex_iload_n (pc := 67) 41 rfl rfl ?_
          refine ex_iconst (pc := 68) 42 rfl ?_
          refine ex_icmp_ne (pc := 69) 94 43 rfl (by decide) hs1 ⟨by decide, by decide⟩ (fun hb => ?_) (fun hb => ?_)
          · have h := h.1 hb
            refine ex_iload_n (pc := 94) 61 rfl rfl ?_
            refine ex_if_eq (pc := 95) 127 62 rfl (by decide) hs1 (fun hb => ?_) (fun hb => ?_)
            · have h := h.1 hb
              exact h
            · have h := h.2 hb
              refine ex_iconst (pc := 98) 63 rfl ?_
              refine ex_iconst (pc := 99) 64 rfl ?_
              refine ex_iload_n (pc := 100) 65 rfl rfl ?_
              refine ex_imul (pc := 101) 66 rfl ?_
              refine ex_iload (pc := 102) 67 rfl rfl ?_
              refine ex_iadd (pc := 104) 68 rfl ?_
              refine ex_ishl (pc := 105) 69 rfl ?_
              refine ex_iconst (pc := 106) 70 rfl ?_
              refine ex_iconst (pc := 107) 71 rfl ?_
              refine ex_iload_n (pc := 108) 72 rfl rfl ?_
              refine ex_imul (pc := 109) 73 rfl ?_
              refine ex_iload (pc := 110) 74 rfl rfl ?_
              refine ex_iadd (pc := 112) 75 rfl ?_
              refine ex_ishl (pc := 113) 76 rfl ?_
              refine ex_ior (pc := 114) 77 rfl ?_
              refine ex_iconst (pc := 115) 78 rfl ?_
              refine ex_iconst (pc := 116) 79 rfl ?_
              refine ex_iload (pc := 117) 80 rfl rfl ?_
              refine ex_imul (pc := 119) 81 rfl ?_
              refine ex_iload (pc := 120) 82 rfl rfl ?_
              refine ex_iadd (pc := 122) 83 rfl ?_
              refine ex_ishl (pc := 123) 84 rfl ?_
              refine ex_ior (pc := 124) 85 rfl ?_
              refine ex_istore (pc := 125) 86 rfl rfl rfl ?_
              exact h
          · have h := h.2 hb
            refine ex_iconst (pc := 72) 44 rfl ?_
            refine ex_iconst (pc := 73) 45 rfl ?_
            refine ex_iload_n (pc := 74) 46 rfl rfl ?_
            refine ex_imul (pc := 75) 47 rfl ?_
            refine ex_iload (pc := 76) 48 rfl rfl ?_
            refine ex_iadd (pc := 78) 49 rfl ?_
            refine ex_ishl (pc := 79) 50 rfl ?_
            refine ex_iconst (pc := 80) 51 rfl ?_
            refine ex_iconst (pc := 81) 52 rfl ?_
            refine ex_iload_n (pc := 82) 53 rfl rfl ?_
            refine ex_imul (pc := 83) 54 rfl ?_
            refine ex_iload (pc := 84) 55 rfl rfl ?_
            refine ex_iadd (pc := 86) 56 rfl ?_
            refine ex_ishl (pc := 87) 57 rfl ?_
            refine ex_ior (pc := 88) 58 rfl ?_
            refine ex_istore (pc := 89) 59 rfl rfl rfl ?_
            refine ex_goto (pc := 91) 127 60 rfl (by decide) ?_
            exact h
        · have h := h.2 hb
          refine ex_iconst (pc := 45) 24 rfl ?_
          refine ex_iconst (pc := 46) 25 rfl ?_
          refine ex_iload_n (pc := 47) 26 rfl rfl ?_
          refine ex_imul (pc := 48) 27 rfl ?_
          refine ex_iload_n (pc := 49) 28 rfl rfl ?_
          refine ex_iadd (pc := 50) 29 rfl ?_
          refine ex_ishl (pc := 51) 30 rfl ?_
          refine ex_iconst (pc := 52) 31 rfl ?_
          refine ex_iconst (pc := 53) 32 rfl ?_
          refine ex_iload (pc := 54) 33 rfl rfl ?_
          refine ex_imul (pc := 56) 34 rfl ?_
          refine ex_iload (pc := 57) 35 rfl rfl ?_
          refine ex_iadd (pc := 59) 36 rfl ?_
          refine ex_ishl (pc := 60) 37 rfl ?_
          refine ex_ior (pc := 61) 38 rfl ?_
          refine ex_istore (pc := 62) 39 rfl rfl rfl ?_
          refine ex_goto (pc := 64) 127 40 rfl (by decide) ?_
          exact h
      · have h := h.2 hb
        refine ex_iload_n (pc := 30) 17 rfl rfl ?_
        refine ex_invS (pc := 31) (M' := mX8_bagBit) (As := [.inl p2]) (st := []) 18 rfl calX8_bagBit (Or.inl ww_960) rfl rfl ?_
        refine vm_call.mono h ?_
        rintro m2 _ ⟨r3, rfl, h⟩
        refine ex_istore (pc := 34) 19 rfl rfl rfl ?_
        refine ex_goto (pc := 36) 127 20 rfl (by decide) ?_
        exact h
    · have h := h.2 hb
      exact h
set_option maxRecDepth 20000 in
theorem qX8_joined_12 {G : vm_G} {d : Nat} {v0 : Int} {v1 : Int} {v2 : Int} {v3 : Int} {v4 : Int} {v5 : Int} {mem : vm_M} {Q : vm_M → Int → Prop} (h : (vm_R v1) ∧ ((¬ v1 = 1 → ((¬ v1 = 6 → ((¬ v1 = 5 → ((v1 = 0 → vm_ex G (d + 1) mX8_joined 127 [some (.inl v0), some (.inl v1), some (.inl v2), some (.inl v3), some (.inl v4), some (.inl v5), some (.inl v5), some (.inl 0)] [] mem (vm_qi Q)) ∧ (¬ v1 = 0 → vm_ex G (d + 1) mX8_joined 127 [some (.inl v0), some (.inl v1), some (.inl v2), some (.inl v3), some (.inl v4), some (.inl v5), some (.inl v5), some (.inl (vm_or (vm_or (vm_shl 1 ((3 * v2) + v5)) (vm_shl 1 ((3 * v3) + v5))) (vm_shl 1 ((3 * v4) + v5))))] [] mem (vm_qi Q)))) ∧ (v1 = 5 → vm_ex G (d + 1) mX8_joined 127 [some (.inl v0), some (.inl v1), some (.inl v2), some (.inl v3), some (.inl v4), some (.inl v5), some (.inl v5), some (.inl (vm_or (vm_shl 1 ((3 * v2) + v5)) (vm_shl 1 ((3 * v3) + v5))))] [] mem (vm_qi Q)))) ∧ (v1 = 6 → vm_ex G (d + 1) mX8_joined 127 [some (.inl v0), some (.inl v1), some (.inl v2), some (.inl v3), some (.inl v4), some (.inl v5), some (.inl v5), some (.inl (vm_or (vm_shl 1 ((3 * v2) + v3)) (vm_shl 1 ((3 * v4) + v5))))] [] mem (vm_qi Q)))) ∧ (v1 = 1 → vm_ci G d mX8_bagBit [.inl v2] mem (fun m2 r3 => vm_ex G (d + 1) mX8_joined 127 [some (.inl v0), some (.inl v1), some (.inl v2), some (.inl v3), some (.inl v4), some (.inl v5), some (.inl v5), some (.inl r3)] [] m2 (vm_qi Q))))) : vm_ex G (d + 1) mX8_joined 12 [some (.inl v0), some (.inl v1), some (.inl v2), some (.inl v3), some (.inl v4), some (.inl v5), none, none] [] mem (vm_qi Q) := by
  refine ex_iload (pc := 12) 6 rfl rfl ?_
  refine ex_goto (pc := 14) 20 7 rfl (by decide) ?_
  refine ex_istore (pc := 20) 11 rfl rfl rfl ?_
  refine ex_iconst (pc := 22) 12 rfl ?_
  refine ex_istore (pc := 23) 13 rfl rfl rfl ?_
  refine ex_iload_n (pc := 25) 14 rfl rfl ?_
  refine ex_iconst (pc := 26) 15 rfl ?_
  obtain ⟨hs1, h⟩ := h
  refine ex_icmp_ne (pc := 27) 39 16 rfl (by decide) hs1 ⟨by decide, by decide⟩ (fun hb => ?_) (fun hb => ?_)
  · have h := h.1 hb
    refine ex_iload_n (pc := 39) 21 rfl rfl ?_
    refine ex_bipush (pc := 40) 22 rfl (by decide) ?_
    refine ex_icmp_ne (pc := 42) 67 23 rfl (by decide) hs1 ⟨by decide, by decide⟩ (fun hb => ?_) (fun hb => ?_)
    · have h := h.1 hb
      refine ex_iload_n (pc := 67) 41 rfl rfl ?_
      refine ex_iconst (pc := 68) 42 rfl ?_
      refine ex_icmp_ne (pc := 69) 94 43 rfl (by decide) hs1 ⟨by decide, by decide⟩ (fun hb => ?_) (fun hb => ?_)
      · have h := h.1 hb
        refine ex_iload_n (pc := 94) 61 rfl rfl ?_
        refine ex_if_eq (pc := 95) 127 62 rfl (by decide) hs1 (fun hb => ?_) (fun hb => ?_)
        · have h := h.1 hb
          exact h
        · have h := h.2 hb
          refine ex_iconst (pc := 98) 63 rfl ?_
          refine ex_iconst (pc := 99) 64 rfl ?_
          refine ex_iload_n (pc := 100) 65 rfl rfl ?_
          refine ex_imul (pc := 101) 66 rfl ?_
          refine ex_iload (pc := 102) 67 rfl rfl ?_
          refine ex_iadd (pc := 104) 68 rfl ?_
          refine ex_ishl (pc := 105) 69 rfl ?_
          refine ex_iconst (pc := 106) 70 rfl ?_
          refine ex_iconst (pc := 107) 71 rfl ?_
          refine ex_iload_n (pc := 108) 72 rfl rfl ?_
          refine ex_imul (pc := 109) 73 rfl ?_
          refine ex_iload (pc := 110) 74 rfl rfl ?_
          refine ex_iadd (pc := 112) 75 rfl ?_
          refine ex_ishl (pc := 113) 76 rfl ?_
          refine ex_ior (pc := 114) 77 rfl ?_
          refine ex_iconst (pc := 115) 78 rfl ?_
          refine ex_iconst (pc := 116) 79 rfl ?_
          refine ex_iload (pc := 117) 80 rfl rfl ?_
          refine ex_imul (pc := 119) 81 rfl ?_
          refine ex_iload (pc := 120) 82 rfl rfl ?_
          refine ex_iadd (pc := 122) 83 rfl ?_
          refine ex_ishl (pc := 123) 84 rfl ?_
          refine ex_ior (pc := 124) 85 rfl ?_
          refine ex_istore (pc := 125) 86 rfl rfl rfl ?_
          exact h
      · have h := h.2 hb
        refine ex_iconst (pc := 72) 44 rfl ?_
        refine ex_iconst (pc := 73) 45 rfl ?_
        refine ex_iload_n (pc := 74) 46 rfl rfl ?_
        refine ex_imul (pc := 75) 47 rfl ?_
        refine ex_iload (pc := 76) 48 rfl rfl ?_
        refine ex_iadd (pc := 78) 49 rfl ?_
        refine ex_ishl (pc := 79) 50 rfl ?_
        refine ex_iconst (pc := 80) 51 rfl ?_
        refine ex_iconst (pc := 81) 52 rfl ?_
        refine ex_iload_n (pc := 82) 53 rfl rfl ?_
        refine ex_imul (pc := 83) 54 rfl ?_
        refine ex_iload (pc := 84) 55 rfl rfl ?_
        refine ex_iadd (pc := 86) 56 rfl ?_
        refine ex_ishl (pc := 87) 57 rfl ?_
        refine ex_ior (pc := 88) 58 rfl ?_
        refine ex_istore (pc := 89) 59 rfl rfl rfl ?_
        refine ex_goto (pc := 91) 127 60 rfl (by decide) ?_
        exact h
    · have h := h.2 hb
      refine ex_iconst (pc := 45) 24 rfl ?_
      refine ex_iconst (pc := 46) 25 rfl ?_
      refine ex_iload_n (pc := 47) 26 rfl rfl ?_
      refine ex_imul (pc := 48) 27 rfl ?_
      refine ex_iload_n (pc := 49) 28 rfl rfl ?_
      refine ex_iadd (pc := 50) 29 rfl ?_
      refine ex_ishl (pc := 51) 30 rfl ?_
      refine ex_iconst (pc := 52) 31 rfl ?_
      refine ex_iconst (pc := 53) 32 rfl ?_
      refine ex_iload (pc := 54) 33 rfl rfl ?_
      refine ex_imul (pc := 56) 34 rfl ?_
      refine ex_iload (pc := 57) 35 rfl rfl ?_
      refine ex_iadd (pc := 59) 36 rfl ?_
      refine ex_ishl (pc := 60) 37 rfl ?_
      refine ex_ior (pc := 61) 38 rfl ?_
      refine ex_istore (pc := 62) 39 rfl rfl rfl ?_
      refine ex_goto (pc := 64) 127 40 rfl (by decide) ?_
      exact h
  · have h := h.2 hb
    refine ex_iload_n (pc := 30) 17 rfl rfl ?_
    refine ex_invS (pc := 31) (M' := mX8_bagBit) (As := [.inl v2]) (st := []) 18 rfl calX8_bagBit (Or.inl ww_960) rfl rfl ?_
    refine vm_call.mono h ?_
    rintro m2 _ ⟨r3, rfl, h⟩
    refine ex_istore (pc := 34) 19 rfl rfl rfl ?_
    refine ex_goto (pc := 36) 127 20 rfl (by decide) ?_
    exact h
set_option maxRecDepth 20000 in
theorem qX8_joined_127 {G : vm_G} {d : Nat} {v0 : Int} {v1 : Int} {v2 : Int} {v3 : Int} {v4 : Int} {v5 : Int} {v6 : Int} {v7 : Int} {mem : vm_M} {Q : vm_M → Int → Prop} (h : (vm_R (vm_and (vm_shr v7 v0) 1)) ∧ ((¬ (vm_and (vm_shr v7 v0) 1) = 1 → Q mem (vm_shl 1 v0)) ∧ ((vm_and (vm_shr v7 v0) 1) = 1 → Q mem v7))) : vm_ex G (d + 1) mX8_joined 127 [some (.inl v0), some (.inl v1), some (.inl v2), some (.inl v3), some (.inl v4), some (.inl v5), some (.inl v6), some (.inl v7)] [] mem (vm_qi Q) := by
  refine ex_iload (pc := 127) 87 rfl rfl ?_
  refine ex_iload_n (pc := 129) 88 rfl rfl ?_
  refine ex_ishr (pc := 130) 89 rfl ?_
  refine ex_iconst (pc := 131) 90 rfl ?_
  refine ex_iand (pc := 132) 91 rfl ?_
  refine ex_iconst (pc := 133) 92 rfl ?_
  obtain ⟨hs1, h⟩ := h
  refine ex_icmp_ne (pc := 134) 142 93 rfl (by decide) hs1 ⟨by decide, by decide⟩ (fun hb => ?_) (fun hb => ?_)
  · have h := h.1 hb
    refine ex_iconst (pc := 142) 96 rfl ?_
    refine ex_iload_n (pc := 143) 97 rfl rfl ?_
    refine ex_ishl (pc := 144) 98 rfl ?_
    exact ex_iret (pc := 145) 99 rfl (Or.inl rfl) ⟨_, rfl, h⟩
  · have h := h.2 hb
    refine ex_iload (pc := 137) 94 rfl rfl ?_
    refine ex_goto (pc := 139) 145 95 rfl (by decide) ?_
    exact ex_iret (pc := 145) 99 rfl (Or.inl rfl) ⟨_, rfl, h⟩
set_option maxRecDepth 20000 in
theorem qX8_joinedTo {G : vm_G} {d : Nat} {p1 : Int} {mem : vm_M} {Q : vm_M → Int → Prop} (h : vm_ex G (d + 1) mX8_joinedTo 6 [some (.inr (.inr 24)), some (.inl p1), some (.inl (vm_shl 1 p1)), some (.inl 0), none] [] mem (vm_qi Q)) : vm_ci G (d + 1) mX8_joinedTo [.inr (.inr 24), .inl p1] mem Q := by
  refine vm_enter (al := [some (.inr (.inr 24)), some (.inl p1), none, none, none]) 3 okX8_joinedTo (by decide +kernel) rfl rfl ?_
  refine ex_iconst (pc := 0) 0 rfl ?_
  refine ex_iload_n (pc := 1) 1 rfl rfl ?_
  refine ex_ishl (pc := 2) 2 rfl ?_
  refine ex_istore_n (pc := 3) 3 rfl rfl rfl ?_
  refine ex_iconst (pc := 4) 4 rfl ?_
  refine ex_istore_n (pc := 5) 5 rfl rfl rfl ?_
  exact h
set_option maxRecDepth 20000 in
theorem qX8_joinedTo_6 {G : vm_G} {d : Nat} {v1 : Int} {v2 : Int} {v3 : Int} {mem : vm_M} {Q : vm_M → Int → Prop} (h : (vm_R v3) ∧ (vm_R (mem 25 1)) ∧ (((mem 25 1) ≤ v3 → vm_ex G (d + 1) mX8_joinedTo 77 [some (.inr (.inr 24)), some (.inl v1), some (.inl v2), some (.inl 0), none] [] mem (vm_qi Q)) ∧ (¬ (mem 25 1) ≤ v3 → (vm_R (vm_and (vm_shr (mem 24 10) v3) 1)) ∧ ((¬ (vm_and (vm_shr (mem 24 10) v3) 1) = 1 → vm_ex G (d + 1) mX8_joinedTo 6 [some (.inr (.inr 24)), some (.inl v1), some (.inl (vm_or v2 0)), some (.inl (v3 + 1)), none] [] mem (vm_qi Q)) ∧ ((vm_and (vm_shr (mem 24 10) v3) 1) = 1 → vm_ci G d mX8_of [.inr (.inr 24), .inl v3, .inl 0] mem (fun m4 r5 => vm_ci G d mX8_of [.inr (.inr 24), .inl v3, .inl 1] m4 (fun m6 r7 => vm_ci G d mX8_of [.inr (.inr 24), .inl v3, .inl 2] m6 (fun m8 r9 => vm_ci G d mX8_of [.inr (.inr 24), .inl v3, .inl 3] m8 (fun m10 r11 => vm_ci G d mX8_of [.inr (.inr 24), .inl v3, .inl 4] m10 (fun m12 r13 => vm_ci G d mX8_joined [.inl v1, .inl r5, .inl r7, .inl r9, .inl r11, .inl r13] m12 (fun m14 r15 => vm_ex G (d + 1) mX8_joinedTo 6 [some (.inr (.inr 24)), some (.inl v1), some (.inl (vm_or v2 r15)), some (.inl (v3 + 1)), none] [] m14 (vm_qi Q)))))))))))) : vm_ex G (d + 1) mX8_joinedTo 6 [some (.inr (.inr 24)), some (.inl v1), some (.inl v2), some (.inl v3), none] [] mem (vm_qi Q) := by
  refine ex_iload_n (pc := 6) 6 rfl rfl ?_
  refine ex_aload_n (pc := 7) 7 rfl rfl ?_
  refine ex_geta (pc := 8) 0 8 rfl clk8 rfl rfl (Or.inl ww_740) rfl ?_
  refine ex_iconst (pc := 11) 9 rfl ?_
  refine ex_iaload (pc := 12) 10 rfl rfl rfl ⟨by decide, by decide⟩ ?_
  obtain ⟨hs1, h⟩ := h
  obtain ⟨hs2, h⟩ := h
  refine ex_icmp_ge (pc := 13) 75 11 rfl (by decide) hs1 hs2 (fun hb => ?_) (fun hb => ?_)
  · have h := h.1 hb
    refine ex_iconst (pc := 75) 49 rfl ?_
    refine ex_istore_n (pc := 76) 50 rfl rfl rfl ?_
    exact h
  · have h := h.2 hb
    refine ex_iload_n (pc := 16) 12 rfl rfl ?_
    refine ex_aload_n (pc := 17) 13 rfl rfl ?_
    refine ex_geti (pc := 18) 10 14 rfl clk8 rfl rfl (Or.inl ww_750) rfl ?_
    refine ex_iload_n (pc := 21) 15 rfl rfl ?_
    refine ex_ishr (pc := 22) 16 rfl ?_
    refine ex_iconst (pc := 23) 17 rfl ?_
    refine ex_iand (pc := 24) 18 rfl ?_
    refine ex_iconst (pc := 25) 19 rfl ?_
    obtain ⟨hs3, h⟩ := h
    refine ex_icmp_ne (pc := 26) 66 20 rfl (by decide) hs3 ⟨by decide, by decide⟩ (fun hb => ?_) (fun hb => ?_)
    · have h := h.1 hb
      refine ex_iconst (pc := 66) 44 rfl ?_
      refine ex_ior (pc := 67) 45 rfl ?_
      refine ex_istore_n (pc := 68) 46 rfl rfl rfl ?_
      refine ex_iinc (pc := 69) 47 rfl rfl rfl rfl ?_
      refine ex_goto (pc := 72) 6 48 rfl (by decide) ?_
      exact h
    · have h := h.2 hb
      refine ex_iload_n (pc := 29) 21 rfl rfl ?_
      refine ex_aload_n (pc := 30) 22 rfl rfl ?_
      refine ex_iload_n (pc := 31) 23 rfl rfl ?_
      refine ex_iconst (pc := 32) 24 rfl ?_
      refine ex_invV (pc := 33) (M' := mX8_of) (As := [.inl v3, .inl 0]) (st := [.inl v1, .inl v2]) 25 rfl clk8 rfl rfl calX8_of (Or.inl ww_855) rfl rfl ?_
      refine vm_call.mono h ?_
      rintro m4 _ ⟨r5, rfl, h⟩
      refine ex_aload_n (pc := 36) 26 rfl rfl ?_
      refine ex_iload_n (pc := 37) 27 rfl rfl ?_
      refine ex_iconst (pc := 38) 28 rfl ?_
      refine ex_invV (pc := 39) (M' := mX8_of) (As := [.inl v3, .inl 1]) (st := [.inl r5, .inl v1, .inl v2]) 29 rfl clk8 rfl rfl calX8_of (Or.inl ww_855) rfl rfl ?_
      refine vm_call.mono h ?_
      rintro m6 _ ⟨r7, rfl, h⟩
      refine ex_aload_n (pc := 42) 30 rfl rfl ?_
      refine ex_iload_n (pc := 43) 31 rfl rfl ?_
      refine ex_iconst (pc := 44) 32 rfl ?_
      refine ex_invV (pc := 45) (M' := mX8_of) (As := [.inl v3, .inl 2]) (st := [.inl r7, .inl r5, .inl v1, .inl v2]) 33 rfl clk8 rfl rfl calX8_of (Or.inl ww_855) rfl rfl ?_
      refine vm_call.mono h ?_
      rintro m8 _ ⟨r9, rfl, h⟩
      refine ex_aload_n (pc := 48) 34 rfl rfl ?_
      refine ex_iload_n (pc := 49) 35 rfl rfl ?_
      refine ex_iconst (pc := 50) 36 rfl ?_
      refine ex_invV (pc := 51) (M' := mX8_of) (As := [.inl v3, .inl 3]) (st := [.inl r9, .inl r7, .inl r5, .inl v1, .inl v2]) 37 rfl clk8 rfl rfl calX8_of (Or.inl ww_855) rfl rfl ?_
      refine vm_call.mono h ?_
      rintro m10 _ ⟨r11, rfl, h⟩
      refine ex_aload_n (pc := 54) 38 rfl rfl ?_
      refine ex_iload_n (pc := 55) 39 rfl rfl ?_
      refine ex_iconst (pc := 56) 40 rfl ?_
      refine ex_invV (pc := 57) (M' := mX8_of) (As := [.inl v3, .inl 4]) (st := [.inl r11, .inl r9, .inl r7, .inl r5, .inl v1, .inl v2]) 41 rfl clk8 rfl rfl calX8_of (Or.inl ww_855) rfl rfl ?_
      refine vm_call.mono h ?_
      rintro m12 _ ⟨r13, rfl, h⟩
      refine ex_invS (pc := 60) (M' := mX8_joined) (As := [.inl v1, .inl r5, .inl r7, .inl r9, .inl r11, .inl r13]) (st := [.inl v2]) 42 rfl calX8_joined (Or.inl ww_957) rfl rfl ?_
      refine vm_call.mono h ?_
      rintro m14 _ ⟨r15, rfl, h⟩
      refine ex_goto (pc := 63) 67 43 rfl (by decide) ?_
      refine ex_ior (pc := 67) 45 rfl ?_
      refine ex_istore_n (pc := 68) 46 rfl rfl rfl ?_
      refine ex_iinc (pc := 69) 47 rfl rfl rfl rfl ?_
      refine ex_goto (pc := 72) 6 48 rfl (by decide) ?_
      exact h
set_option maxRecDepth 20000 in
theorem qX8_joinedTo_77 {G : vm_G} {d : Nat} {v1 : Int} {v2 : Int} {v3 : Int} {mem : vm_M} {Q : vm_M → Int → Prop} (h : (vm_R v3) ∧ (vm_R (mem 24 9)) ∧ (((mem 24 9) ≤ v3 → Q mem v2) ∧ (¬ (mem 24 9) ≤ v3 → (0 ≤ (6 * v3) ∧ (6 * v3) < 12) ∧ (0 ≤ ((6 * v3) + 1) ∧ ((6 * v3) + 1) < 12) ∧ (0 ≤ ((6 * v3) + 2) ∧ ((6 * v3) + 2) < 12) ∧ (0 ≤ ((6 * v3) + 3) ∧ ((6 * v3) + 3) < 12) ∧ (0 ≤ ((6 * v3) + 4) ∧ ((6 * v3) + 4) < 12) ∧ vm_ci G d mX8_joined [.inl v1, .inl (mem 31 (6 * v3)), .inl (mem 31 ((6 * v3) + 1)), .inl (mem 31 ((6 * v3) + 2)), .inl (mem 31 ((6 * v3) + 3)), .inl (mem 31 ((6 * v3) + 4))] mem (fun m8 r9 => vm_ex G (d + 1) mX8_joinedTo 77 [some (.inr (.inr 24)), some (.inl v1), some (.inl (vm_or v2 r9)), some (.inl (v3 + 1)), none] [] m8 (vm_qi Q))))) : vm_ex G (d + 1) mX8_joinedTo 77 [some (.inr (.inr 24)), some (.inl v1), some (.inl v2), some (.inl v3), none] [] mem (vm_qi Q) := by
  refine ex_iload_n (pc := 77) 51 rfl rfl ?_
  refine ex_aload_n (pc := 78) 52 rfl rfl ?_
  refine ex_geti (pc := 79) 9 53 rfl clk8 rfl rfl (Or.inl ww_749) rfl ?_
  obtain ⟨hs1, h⟩ := h
  obtain ⟨hs2, h⟩ := h
  refine ex_icmp_ge (pc := 82) 147 54 rfl (by decide) hs1 hs2 (fun hb => ?_) (fun hb => ?_)
  · have h := h.1 hb
    refine ex_iload_n (pc := 147) 94 rfl rfl ?_
    exact ex_iret (pc := 148) 95 rfl (Or.inl rfl) ⟨_, rfl, h⟩
  · have h := h.2 hb
    refine ex_bipush (pc := 85) 55 rfl (by decide) ?_
    refine ex_iload_n (pc := 87) 56 rfl rfl ?_
    refine ex_imul (pc := 88) 57 rfl ?_
    refine ex_istore (pc := 89) 58 rfl rfl rfl ?_
    refine ex_iload_n (pc := 91) 59 rfl rfl ?_
    refine ex_iload_n (pc := 92) 60 rfl rfl ?_
    refine ex_aload_n (pc := 93) 61 rfl rfl ?_
    refine ex_geta (pc := 94) 8 62 rfl clk8 rfl rfl (Or.inl ww_748) rfl ?_
    refine ex_iload (pc := 97) 63 rfl rfl ?_
    obtain ⟨hs3, h⟩ := h
    refine ex_iaload (pc := 99) 64 rfl rfl rfl hs3 ?_
    refine ex_aload_n (pc := 100) 65 rfl rfl ?_
    refine ex_geta (pc := 101) 8 66 rfl clk8 rfl rfl (Or.inl ww_748) rfl ?_
    refine ex_iload (pc := 104) 67 rfl rfl ?_
    refine ex_iconst (pc := 106) 68 rfl ?_
    refine ex_iadd (pc := 107) 69 rfl ?_
    obtain ⟨hs4, h⟩ := h
    refine ex_iaload (pc := 108) 70 rfl rfl rfl hs4 ?_
    refine ex_aload_n (pc := 109) 71 rfl rfl ?_
    refine ex_geta (pc := 110) 8 72 rfl clk8 rfl rfl (Or.inl ww_748) rfl ?_
    refine ex_iload (pc := 113) 73 rfl rfl ?_
    refine ex_iconst (pc := 115) 74 rfl ?_
    refine ex_iadd (pc := 116) 75 rfl ?_
    obtain ⟨hs5, h⟩ := h
    refine ex_iaload (pc := 117) 76 rfl rfl rfl hs5 ?_
    refine ex_aload_n (pc := 118) 77 rfl rfl ?_
    refine ex_geta (pc := 119) 8 78 rfl clk8 rfl rfl (Or.inl ww_748) rfl ?_
    refine ex_iload (pc := 122) 79 rfl rfl ?_
    refine ex_iconst (pc := 124) 80 rfl ?_
    refine ex_iadd (pc := 125) 81 rfl ?_
    obtain ⟨hs6, h⟩ := h
    refine ex_iaload (pc := 126) 82 rfl rfl rfl hs6 ?_
    refine ex_aload_n (pc := 127) 83 rfl rfl ?_
    refine ex_geta (pc := 128) 8 84 rfl clk8 rfl rfl (Or.inl ww_748) rfl ?_
    refine ex_iload (pc := 131) 85 rfl rfl ?_
    refine ex_iconst (pc := 133) 86 rfl ?_
    refine ex_iadd (pc := 134) 87 rfl ?_
    obtain ⟨hs7, h⟩ := h
    refine ex_iaload (pc := 135) 88 rfl rfl rfl hs7 ?_
    refine ex_invS (pc := 136) (M' := mX8_joined) (As := [.inl v1, .inl (mem 31 (6 * v3)), .inl (mem 31 ((6 * v3) + 1)), .inl (mem 31 ((6 * v3) + 2)), .inl (mem 31 ((6 * v3) + 3)), .inl (mem 31 ((6 * v3) + 4))]) (st := [.inl v2]) 89 rfl calX8_joined (Or.inl ww_957) rfl rfl ?_
    refine vm_call.mono h ?_
    rintro m8 _ ⟨r9, rfl, h⟩
    refine ex_ior (pc := 139) 90 rfl ?_
    refine ex_istore_n (pc := 140) 91 rfl rfl rfl ?_
    refine ex_iinc (pc := 141) 92 rfl rfl rfl rfl ?_
    refine ex_goto (pc := 144) 77 93 rfl (by decide) ?_
    exact ex_less [some (.inr (.inr 24)), some (.inl v1), some (.inl (vm_or v2 r9)), some (.inl (v3 + 1)), none] (And.intro rfl (And.intro rfl (And.intro rfl (And.intro rfl (True.intro))))) h
set_option maxRecDepth 20000 in
theorem qX8_part {G : vm_G} {d : Nat} {p1 : Int} {mem : vm_M} {Q : vm_M → Int → Prop} (h : vm_ex G (d + 1) mX8_part 6 [some (.inr (.inr 24)), some (.inl p1), some (.inl (vm_shl 1 p1)), some (.inl 0), none] [] mem (vm_qi Q)) : vm_ci G (d + 1) mX8_part [.inr (.inr 24), .inl p1] mem Q := by
  refine vm_enter (al := [some (.inr (.inr 24)), some (.inl p1), none, none, none]) 3 okX8_part (by decide +kernel) rfl rfl ?_
  refine ex_iconst (pc := 0) 0 rfl ?_
  refine ex_iload_n (pc := 1) 1 rfl rfl ?_
  refine ex_ishl (pc := 2) 2 rfl ?_
  refine ex_istore_n (pc := 3) 3 rfl rfl rfl ?_
  refine ex_iconst (pc := 4) 4 rfl ?_
  refine ex_istore_n (pc := 5) 5 rfl rfl rfl ?_
  exact h
set_option maxRecDepth 20000 in
theorem qX8_part_6 {G : vm_G} {d : Nat} {v1 : Int} {v2 : Int} {v3 : Int} {mem : vm_M} {Q : vm_M → Int → Prop} (h : (vm_R v2) ∧ (vm_R v3) ∧ ((v2 = v3 → Q mem v2) ∧ (¬ v2 = v3 → vm_ex G (d + 1) mX8_part 16 [some (.inr (.inr 24)), some (.inl v1), some (.inl v2), some (.inl v2), some (.inl 0)] [] mem (vm_qi Q)))) : vm_ex G (d + 1) mX8_part 6 [some (.inr (.inr 24)), some (.inl v1), some (.inl v2), some (.inl v3), none] [] mem (vm_qi Q) := by
  refine ex_iload_n (pc := 6) 6 rfl rfl ?_
  refine ex_iload_n (pc := 7) 7 rfl rfl ?_
  obtain ⟨hs1, h⟩ := h
  obtain ⟨hs2, h⟩ := h
  refine ex_icmp_eq (pc := 8) 55 8 rfl (by decide) hs1 hs2 (fun hb => ?_) (fun hb => ?_)
  · have h := h.1 hb
    refine ex_iload_n (pc := 55) 34 rfl rfl ?_
    exact ex_iret (pc := 56) 35 rfl (Or.inl rfl) ⟨_, rfl, h⟩
  · have h := h.2 hb
    refine ex_iload_n (pc := 11) 9 rfl rfl ?_
    refine ex_istore_n (pc := 12) 10 rfl rfl rfl ?_
    refine ex_iconst (pc := 13) 11 rfl ?_
    refine ex_istore (pc := 14) 12 rfl rfl rfl ?_
    exact h
set_option maxRecDepth 20000 in
theorem qX8_part_16 {G : vm_G} {d : Nat} {v1 : Int} {v2 : Int} {v3 : Int} {v4 : Int} {mem : vm_M} {Q : vm_M → Int → Prop} (h : (vm_R v4) ∧ ((12 ≤ v4 → vm_ex G (d + 1) mX8_part 6 [some (.inr (.inr 24)), some (.inl v1), some (.inl v2), some (.inl v3), none] [] mem (vm_qi Q)) ∧ (¬ 12 ≤ v4 → (vm_R (vm_and (vm_shr v3 v4) 1)) ∧ ((¬ (vm_and (vm_shr v3 v4) 1) = 1 → vm_ex G (d + 1) mX8_part 16 [some (.inr (.inr 24)), some (.inl v1), some (.inl (vm_or v2 0)), some (.inl v3), some (.inl (v4 + 1))] [] mem (vm_qi Q)) ∧ ((vm_and (vm_shr v3 v4) 1) = 1 → vm_ci G d mX8_joinedTo [.inr (.inr 24), .inl v4] mem (fun m3 r4 => vm_ex G (d + 1) mX8_part 16 [some (.inr (.inr 24)), some (.inl v1), some (.inl (vm_or v2 r4)), some (.inl v3), some (.inl (v4 + 1))] [] m3 (vm_qi Q))))))) : vm_ex G (d + 1) mX8_part 16 [some (.inr (.inr 24)), some (.inl v1), some (.inl v2), some (.inl v3), some (.inl v4)] [] mem (vm_qi Q) := by
  refine ex_iload (pc := 16) 13 rfl rfl ?_
  refine ex_bipush (pc := 18) 14 rfl (by decide) ?_
  obtain ⟨hs1, h⟩ := h
  refine ex_icmp_ge (pc := 20) 52 15 rfl (by decide) hs1 ⟨by decide, by decide⟩ (fun hb => ?_) (fun hb => ?_)
  · have h := h.1 hb
    refine ex_goto (pc := 52) 6 33 rfl (by decide) ?_
    exact ex_less [some (.inr (.inr 24)), some (.inl v1), some (.inl v2), some (.inl v3), none] (And.intro rfl (And.intro rfl (And.intro rfl (And.intro rfl (True.intro))))) h
  · have h := h.2 hb
    refine ex_iload_n (pc := 23) 16 rfl rfl ?_
    refine ex_iload_n (pc := 24) 17 rfl rfl ?_
    refine ex_iload (pc := 25) 18 rfl rfl ?_
    refine ex_ishr (pc := 27) 19 rfl ?_
    refine ex_iconst (pc := 28) 20 rfl ?_
    refine ex_iand (pc := 29) 21 rfl ?_
    refine ex_iconst (pc := 30) 22 rfl ?_
    obtain ⟨hs2, h⟩ := h
    refine ex_icmp_ne (pc := 31) 43 23 rfl (by decide) hs2 ⟨by decide, by decide⟩ (fun hb => ?_) (fun hb => ?_)
    · have h := h.1 hb
      refine ex_iconst (pc := 43) 28 rfl ?_
      refine ex_ior (pc := 44) 29 rfl ?_
      refine ex_istore_n (pc := 45) 30 rfl rfl rfl ?_
      refine ex_iinc (pc := 46) 31 rfl rfl rfl rfl ?_
      refine ex_goto (pc := 49) 16 32 rfl (by decide) ?_
      exact h
    · have h := h.2 hb
      refine ex_aload_n (pc := 34) 24 rfl rfl ?_
      refine ex_iload (pc := 35) 25 rfl rfl ?_
      refine ex_invV (pc := 37) (M' := mX8_joinedTo) (As := [.inl v4]) (st := [.inl v2]) 26 rfl clk8 rfl rfl calX8_joinedTo (Or.inl ww_953) rfl rfl ?_
      refine vm_call.mono h ?_
      rintro m3 _ ⟨r4, rfl, h⟩
      refine ex_goto (pc := 40) 44 27 rfl (by decide) ?_
      refine ex_ior (pc := 44) 29 rfl ?_
      refine ex_istore_n (pc := 45) 30 rfl rfl rfl ?_
      refine ex_iinc (pc := 46) 31 rfl rfl rfl rfl ?_
      refine ex_goto (pc := 49) 16 32 rfl (by decide) ?_
      exact h
set_option maxRecDepth 20000 in
theorem qX8_narrowest {G : vm_G} {d : Nat} {p1 : Int} {mem : vm_M} {Q : vm_M → Int → Prop} (h : (vm_R (mem 24 12)) ∧ (((mem 24 12) < 0 → vm_ex G d mX8_narrowest 50 [some (.inr (.inr 24)), some (.inl p1), some (.inl (-6)), some (.inl 0)] [] mem (vm_qi Q)) ∧ (¬ (mem 24 12) < 0 → (vm_R (vm_and (vm_shr p1 (mem 24 12)) 1)) ∧ ((¬ (vm_and (vm_shr p1 (mem 24 12)) 1) = 1 → vm_ex G d mX8_narrowest 50 [some (.inr (.inr 24)), some (.inl p1), some (.inl (-6)), some (.inl 0)] [] mem (vm_qi Q)) ∧ ((vm_and (vm_shr p1 (mem 24 12)) 1) = 1 → (0 ≤ (mem 24 12) ∧ (mem 24 12) < 12) ∧ (vm_R (mem 30 (mem 24 12))) ∧ (vm_R (mem 29 (mem 24 12))) ∧ (((mem 30 (mem 24 12)) ≤ (mem 29 (mem 24 12)) → vm_ex G d mX8_narrowest 50 [some (.inr (.inr 24)), some (.inl p1), some (.inl (-6)), some (.inl 0)] [] mem (vm_qi Q)) ∧ (¬ (mem 30 (mem 24 12)) ≤ (mem 29 (mem 24 12)) → Q mem (mem 24 12)))))))) : vm_ci G d mX8_narrowest [.inr (.inr 24), .inl p1] mem Q := by
  refine vm_enter (al := [some (.inr (.inr 24)), some (.inl p1), none, none]) 2 okX8_narrowest (by decide +kernel) rfl rfl ?_
  refine ex_aload_n (pc := 0) 0 rfl rfl ?_
  refine ex_geti (pc := 1) 12 1 rfl clk8 rfl rfl (Or.inl ww_752) rfl ?_
  obtain ⟨hs1, h⟩ := h
  refine ex_if_lt (pc := 4) 45 2 rfl (by decide) hs1 (fun hb => ?_) (fun hb => ?_)
  · have h := h.1 hb
    refine ex_bipush (pc := 45) 25 rfl (by decide) ?_
    refine ex_istore_n (pc := 47) 26 rfl rfl rfl ?_
    refine ex_iconst (pc := 48) 27 rfl ?_
    refine ex_istore_n (pc := 49) 28 rfl rfl rfl ?_
    exact h
  · have h := h.2 hb
    refine ex_iload_n (pc := 7) 3 rfl rfl ?_
    refine ex_aload_n (pc := 8) 4 rfl rfl ?_
    refine ex_geti (pc := 9) 12 5 rfl clk8 rfl rfl (Or.inl ww_752) rfl ?_
    refine ex_ishr (pc := 12) 6 rfl ?_
    refine ex_iconst (pc := 13) 7 rfl ?_
    refine ex_iand (pc := 14) 8 rfl ?_
    refine ex_iconst (pc := 15) 9 rfl ?_
    obtain ⟨hs2, h⟩ := h
    refine ex_icmp_ne (pc := 16) 45 10 rfl (by decide) hs2 ⟨by decide, by decide⟩ (fun hb => ?_) (fun hb => ?_)
    · have h := h.1 hb
      refine ex_bipush (pc := 45) 25 rfl (by decide) ?_
      refine ex_istore_n (pc := 47) 26 rfl rfl rfl ?_
      refine ex_iconst (pc := 48) 27 rfl ?_
      refine ex_istore_n (pc := 49) 28 rfl rfl rfl ?_
      exact h
    · have h := h.2 hb
      refine ex_aload_n (pc := 19) 11 rfl rfl ?_
      refine ex_geta (pc := 20) 7 12 rfl clk8 rfl rfl (Or.inl ww_747) rfl ?_
      refine ex_aload_n (pc := 23) 13 rfl rfl ?_
      refine ex_geti (pc := 24) 12 14 rfl clk8 rfl rfl (Or.inl ww_752) rfl ?_
      obtain ⟨hs3, h⟩ := h
      refine ex_iaload (pc := 27) 15 rfl rfl rfl hs3 ?_
      refine ex_aload_n (pc := 28) 16 rfl rfl ?_
      refine ex_geta (pc := 29) 6 17 rfl clk8 rfl rfl (Or.inl ww_746) rfl ?_
      refine ex_aload_n (pc := 32) 18 rfl rfl ?_
      refine ex_geti (pc := 33) 12 19 rfl clk8 rfl rfl (Or.inl ww_752) rfl ?_
      refine ex_iaload (pc := 36) 20 rfl rfl rfl hs3 ?_
      obtain ⟨hs4, h⟩ := h
      obtain ⟨hs5, h⟩ := h
      refine ex_icmp_le (pc := 37) 45 21 rfl (by decide) hs4 hs5 (fun hb => ?_) (fun hb => ?_)
      · have h := h.1 hb
        refine ex_bipush (pc := 45) 25 rfl (by decide) ?_
        refine ex_istore_n (pc := 47) 26 rfl rfl rfl ?_
        refine ex_iconst (pc := 48) 27 rfl ?_
        refine ex_istore_n (pc := 49) 28 rfl rfl rfl ?_
        exact h
      · have h := h.2 hb
        refine ex_aload_n (pc := 40) 22 rfl rfl ?_
        refine ex_geti (pc := 41) 12 23 rfl clk8 rfl rfl (Or.inl ww_752) rfl ?_
        exact ex_iret (pc := 44) 24 rfl (Or.inl rfl) ⟨_, rfl, h⟩
set_option maxRecDepth 20000 in
theorem qX8_narrowest_50 {G : vm_G} {d : Nat} {v1 : Int} {v2 : Int} {v3 : Int} {mem : vm_M} {Q : vm_M → Int → Prop} (h : (vm_R v3) ∧ ((12 ≤ v3 → Q mem v2) ∧ (¬ 12 ≤ v3 → (vm_R (vm_and (vm_shr v1 v3) 1)) ∧ ((¬ (vm_and (vm_shr v1 v3) 1) = 1 → vm_ex G d mX8_narrowest 50 [some (.inr (.inr 24)), some (.inl v1), some (.inl v2), some (.inl (v3 + 1))] [] mem (vm_qi Q)) ∧ ((vm_and (vm_shr v1 v3) 1) = 1 → (0 ≤ v3 ∧ v3 < 12) ∧ (vm_R (mem 30 v3)) ∧ (vm_R (mem 29 v3)) ∧ (((mem 30 v3) ≤ (mem 29 v3) → vm_ex G d mX8_narrowest 50 [some (.inr (.inr 24)), some (.inl v1), some (.inl v2), some (.inl (v3 + 1))] [] mem (vm_qi Q)) ∧ (¬ (mem 30 v3) ≤ (mem 29 v3) → (vm_R v2) ∧ ((v2 < 0 → vm_ex G d mX8_narrowest 50 [some (.inr (.inr 24)), some (.inl v1), some (.inl v3), some (.inl (v3 + 1))] [] mem (vm_qi Q)) ∧ (¬ v2 < 0 → (0 ≤ v2 ∧ v2 < 12) ∧ (vm_R ((mem 30 v3) - (mem 29 v3))) ∧ (vm_R ((mem 30 v2) - (mem 29 v2))) ∧ ((((mem 30 v2) - (mem 29 v2)) ≤ ((mem 30 v3) - (mem 29 v3)) → vm_ex G d mX8_narrowest 50 [some (.inr (.inr 24)), some (.inl v1), some (.inl v2), some (.inl (v3 + 1))] [] mem (vm_qi Q)) ∧ (¬ ((mem 30 v2) - (mem 29 v2)) ≤ ((mem 30 v3) - (mem 29 v3)) → vm_ex G d mX8_narrowest 50 [some (.inr (.inr 24)), some (.inl v1), some (.inl v3), some (.inl (v3 + 1))] [] mem (vm_qi Q)))))))))))) : vm_ex G d mX8_narrowest 50 [some (.inr (.inr 24)), some (.inl v1), some (.inl v2), some (.inl v3)] [] mem (vm_qi Q) := by
  refine ex_iload_n (pc := 50) 29 rfl rfl ?_
  refine ex_bipush (pc := 51) 30 rfl (by decide) ?_
  obtain ⟨hs1, h⟩ := h
  refine ex_icmp_ge (pc := 53) 121 31 rfl (by decide) hs1 ⟨by decide, by decide⟩ (fun hb => ?_) (fun hb => ?_)
  · have h := h.1 hb
    refine ex_iload_n (pc := 121) 73 rfl rfl ?_
    exact ex_iret (pc := 122) 74 rfl (Or.inl rfl) ⟨_, rfl, h⟩
  · have h := h.2 hb
    refine ex_iload_n (pc := 56) 32 rfl rfl ?_
    refine ex_iload_n (pc := 57) 33 rfl rfl ?_
    refine ex_ishr (pc := 58) 34 rfl ?_
    refine ex_iconst (pc := 59) 35 rfl ?_
    refine ex_iand (pc := 60) 36 rfl ?_
    refine ex_iconst (pc := 61) 37 rfl ?_
    obtain ⟨hs2, h⟩ := h
    refine ex_icmp_ne (pc := 62) 115 38 rfl (by decide) hs2 ⟨by decide, by decide⟩ (fun hb => ?_) (fun hb => ?_)
    · have h := h.1 hb
      refine ex_iinc (pc := 115) 71 rfl rfl rfl rfl ?_
      refine ex_goto (pc := 118) 50 72 rfl (by decide) ?_
      exact h
    · have h := h.2 hb
      refine ex_aload_n (pc := 65) 39 rfl rfl ?_
      refine ex_geta (pc := 66) 7 40 rfl clk8 rfl rfl (Or.inl ww_747) rfl ?_
      refine ex_iload_n (pc := 69) 41 rfl rfl ?_
      obtain ⟨hs3, h⟩ := h
      refine ex_iaload (pc := 70) 42 rfl rfl rfl hs3 ?_
      refine ex_aload_n (pc := 71) 43 rfl rfl ?_
      refine ex_geta (pc := 72) 6 44 rfl clk8 rfl rfl (Or.inl ww_746) rfl ?_
      refine ex_iload_n (pc := 75) 45 rfl rfl ?_
      refine ex_iaload (pc := 76) 46 rfl rfl rfl hs3 ?_
      obtain ⟨hs4, h⟩ := h
      obtain ⟨hs5, h⟩ := h
      refine ex_icmp_le (pc := 77) 115 47 rfl (by decide) hs4 hs5 (fun hb => ?_) (fun hb => ?_)
      · have h := h.1 hb
        refine ex_iinc (pc := 115) 71 rfl rfl rfl rfl ?_
        refine ex_goto (pc := 118) 50 72 rfl (by decide) ?_
        exact h
      · have h := h.2 hb
        refine ex_iload_n (pc := 80) 48 rfl rfl ?_
        obtain ⟨hs6, h⟩ := h
        refine ex_if_lt (pc := 81) 113 49 rfl (by decide) hs6 (fun hb => ?_) (fun hb => ?_)
        · have h := h.1 hb
          refine ex_iload_n (pc := 113) 69 rfl rfl ?_
          refine ex_istore_n (pc := 114) 70 rfl rfl rfl ?_
          refine ex_iinc (pc := 115) 71 rfl rfl rfl rfl ?_
          refine ex_goto (pc := 118) 50 72 rfl (by decide) ?_
          exact h
        · have h := h.2 hb
          refine ex_aload_n (pc := 84) 50 rfl rfl ?_
          refine ex_geta (pc := 85) 7 51 rfl clk8 rfl rfl (Or.inl ww_747) rfl ?_
          refine ex_iload_n (pc := 88) 52 rfl rfl ?_
          refine ex_iaload (pc := 89) 53 rfl rfl rfl hs3 ?_
          refine ex_aload_n (pc := 90) 54 rfl rfl ?_
          refine ex_geta (pc := 91) 6 55 rfl clk8 rfl rfl (Or.inl ww_746) rfl ?_
          refine ex_iload_n (pc := 94) 56 rfl rfl ?_
          refine ex_iaload (pc := 95) 57 rfl rfl rfl hs3 ?_
          refine ex_isub (pc := 96) 58 rfl ?_
          refine ex_aload_n (pc := 97) 59 rfl rfl ?_
          refine ex_geta (pc := 98) 7 60 rfl clk8 rfl rfl (Or.inl ww_747) rfl ?_
          refine ex_iload_n (pc := 101) 61 rfl rfl ?_
          obtain ⟨hs7, h⟩ := h
          refine ex_iaload (pc := 102) 62 rfl rfl rfl hs7 ?_
          refine ex_aload_n (pc := 103) 63 rfl rfl ?_
          refine ex_geta (pc := 104) 6 64 rfl clk8 rfl rfl (Or.inl ww_746) rfl ?_
          refine ex_iload_n (pc := 107) 65 rfl rfl ?_
          refine ex_iaload (pc := 108) 66 rfl rfl rfl hs7 ?_
          refine ex_isub (pc := 109) 67 rfl ?_
          obtain ⟨hs8, h⟩ := h
          obtain ⟨hs9, h⟩ := h
          refine ex_icmp_ge (pc := 110) 115 68 rfl (by decide) hs8 hs9 (fun hb => ?_) (fun hb => ?_)
          · have h := h.1 hb
            refine ex_iinc (pc := 115) 71 rfl rfl rfl rfl ?_
            refine ex_goto (pc := 118) 50 72 rfl (by decide) ?_
            exact h
          · have h := h.2 hb
            refine ex_iload_n (pc := 113) 69 rfl rfl ?_
            refine ex_istore_n (pc := 114) 70 rfl rfl rfl ?_
            refine ex_iinc (pc := 115) 71 rfl rfl rfl rfl ?_
            refine ex_goto (pc := 118) 50 72 rfl (by decide) ?_
            exact h
set_option maxRecDepth 20000 in
theorem qX8_push {G : vm_G} {d : Nat} {p1 : Int} {mem : vm_M} {Q : vm_M → Prop} (h : vm_ex G d mX8_push 2 [some (.inr (.inr 24)), some (.inl p1), some (.inl 0)] [] mem (vm_qn Q)) : vm_cn G d mX8_push [.inr (.inr 24), .inl p1] mem Q := by
  refine vm_enter (al := [some (.inr (.inr 24)), some (.inl p1), none]) 1 okX8_push (by decide +kernel) rfl rfl ?_
  refine ex_iconst (pc := 0) 0 rfl ?_
  refine ex_istore_n (pc := 1) 1 rfl rfl rfl ?_
  exact h
set_option maxRecDepth 20000 in
theorem qX8_push_2 {G : vm_G} {d : Nat} {v1 : Int} {v2 : Int} {mem : vm_M} {Q : vm_M → Prop} (h : (vm_R v2) ∧ ((12 ≤ v2 → Q mem) ∧ (¬ 12 ≤ v2 → (0 ≤ v2 ∧ v2 < 12) ∧ (0 ≤ ((12 * v1) + v2) ∧ ((12 * v1) + v2) < 156) ∧ (∀ m4, m4 = vm_up mem 32 ((12 * v1) + v2) (mem 29 v2) → (∀ m5, m5 = vm_up m4 33 ((12 * v1) + v2) (m4 30 v2) → vm_ex G d mX8_push 2 [some (.inr (.inr 24)), some (.inl v1), some (.inl (v2 + 1))] [] m5 (vm_qn Q)))))) : vm_ex G d mX8_push 2 [some (.inr (.inr 24)), some (.inl v1), some (.inl v2)] [] mem (vm_qn Q) := by
  refine ex_iload_n (pc := 2) 2 rfl rfl ?_
  refine ex_bipush (pc := 3) 3 rfl (by decide) ?_
  obtain ⟨hs1, h⟩ := h
  refine ex_icmp_ge (pc := 5) 48 4 rfl (by decide) hs1 ⟨by decide, by decide⟩ (fun hb => ?_) (fun hb => ?_)
  · have h := h.1 hb
    exact ex_ret (pc := 48) 31 rfl rfl ⟨rfl, h⟩
  · have h := h.2 hb
    refine ex_aload_n (pc := 8) 5 rfl rfl ?_
    refine ex_geta (pc := 9) 13 6 rfl clk8 rfl rfl (Or.inl ww_753) rfl ?_
    refine ex_bipush (pc := 12) 7 rfl (by decide) ?_
    refine ex_iload_n (pc := 14) 8 rfl rfl ?_
    refine ex_imul (pc := 15) 9 rfl ?_
    refine ex_iload_n (pc := 16) 10 rfl rfl ?_
    refine ex_iadd (pc := 17) 11 rfl ?_
    refine ex_aload_n (pc := 18) 12 rfl rfl ?_
    refine ex_geta (pc := 19) 6 13 rfl clk8 rfl rfl (Or.inl ww_746) rfl ?_
    refine ex_iload_n (pc := 22) 14 rfl rfl ?_
    obtain ⟨hs2, h⟩ := h
    refine ex_iaload (pc := 23) 15 rfl rfl rfl hs2 ?_
    obtain ⟨hs3, h⟩ := h
    have h := h _ rfl
    refine ex_iastore (pc := 24) 16 rfl rfl rfl hs3 ?_
    generalize vm_up mem 32 ((12 * v1) + v2) (mem 29 v2) = m4 at h ⊢
    refine ex_aload_n (pc := 25) 17 rfl rfl ?_
    refine ex_geta (pc := 26) 14 18 rfl clk8 rfl rfl (Or.inl ww_754) rfl ?_
    refine ex_bipush (pc := 29) 19 rfl (by decide) ?_
    refine ex_iload_n (pc := 31) 20 rfl rfl ?_
    refine ex_imul (pc := 32) 21 rfl ?_
    refine ex_iload_n (pc := 33) 22 rfl rfl ?_
    refine ex_iadd (pc := 34) 23 rfl ?_
    refine ex_aload_n (pc := 35) 24 rfl rfl ?_
    refine ex_geta (pc := 36) 7 25 rfl clk8 rfl rfl (Or.inl ww_747) rfl ?_
    refine ex_iload_n (pc := 39) 26 rfl rfl ?_
    refine ex_iaload (pc := 40) 27 rfl rfl rfl hs2 ?_
    have h := h _ rfl
    refine ex_iastore (pc := 41) 28 rfl rfl rfl hs3 ?_
    generalize vm_up m4 33 ((12 * v1) + v2) (m4 30 v2) = m5 at h ⊢
    refine ex_iinc (pc := 42) 29 rfl rfl rfl rfl ?_
    refine ex_goto (pc := 45) 2 30 rfl (by decide) ?_
    exact h
set_option maxRecDepth 20000 in
theorem qX8_pull {G : vm_G} {d : Nat} {p1 : Int} {mem : vm_M} {Q : vm_M → Prop} (h : vm_ex G d mX8_pull 2 [some (.inr (.inr 24)), some (.inl p1), some (.inl 0)] [] mem (vm_qn Q)) : vm_cn G d mX8_pull [.inr (.inr 24), .inl p1] mem Q := by
  refine vm_enter (al := [some (.inr (.inr 24)), some (.inl p1), none]) 1 okX8_pull (by decide +kernel) rfl rfl ?_
  refine ex_iconst (pc := 0) 0 rfl ?_
  refine ex_istore_n (pc := 1) 1 rfl rfl rfl ?_
  exact h
set_option maxRecDepth 20000 in
theorem qX8_pull_2 {G : vm_G} {d : Nat} {v1 : Int} {v2 : Int} {mem : vm_M} {Q : vm_M → Prop} (h : (vm_R v2) ∧ ((12 ≤ v2 → Q mem) ∧ (¬ 12 ≤ v2 → (0 ≤ ((12 * v1) + v2) ∧ ((12 * v1) + v2) < 156) ∧ (0 ≤ v2 ∧ v2 < 12) ∧ (∀ m4, m4 = vm_up mem 29 v2 (mem 32 ((12 * v1) + v2)) → (∀ m5, m5 = vm_up m4 30 v2 (m4 33 ((12 * v1) + v2)) → vm_ex G d mX8_pull 2 [some (.inr (.inr 24)), some (.inl v1), some (.inl (v2 + 1))] [] m5 (vm_qn Q)))))) : vm_ex G d mX8_pull 2 [some (.inr (.inr 24)), some (.inl v1), some (.inl v2)] [] mem (vm_qn Q) := by
  refine ex_iload_n (pc := 2) 2 rfl rfl ?_
  refine ex_bipush (pc := 3) 3 rfl (by decide) ?_
  obtain ⟨hs1, h⟩ := h
  refine ex_icmp_ge (pc := 5) 48 4 rfl (by decide) hs1 ⟨by decide, by decide⟩ (fun hb => ?_) (fun hb => ?_)
  · have h := h.1 hb
    exact ex_ret (pc := 48) 31 rfl rfl ⟨rfl, h⟩
  · have h := h.2 hb
    refine ex_aload_n (pc := 8) 5 rfl rfl ?_
    refine ex_geta (pc := 9) 6 6 rfl clk8 rfl rfl (Or.inl ww_746) rfl ?_
    refine ex_iload_n (pc := 12) 7 rfl rfl ?_
    refine ex_aload_n (pc := 13) 8 rfl rfl ?_
    refine ex_geta (pc := 14) 13 9 rfl clk8 rfl rfl (Or.inl ww_753) rfl ?_
    refine ex_bipush (pc := 17) 10 rfl (by decide) ?_
    refine ex_iload_n (pc := 19) 11 rfl rfl ?_
    refine ex_imul (pc := 20) 12 rfl ?_
    refine ex_iload_n (pc := 21) 13 rfl rfl ?_
    refine ex_iadd (pc := 22) 14 rfl ?_
    obtain ⟨hs2, h⟩ := h
    refine ex_iaload (pc := 23) 15 rfl rfl rfl hs2 ?_
    obtain ⟨hs3, h⟩ := h
    have h := h _ rfl
    refine ex_iastore (pc := 24) 16 rfl rfl rfl hs3 ?_
    generalize vm_up mem 29 v2 (mem 32 ((12 * v1) + v2)) = m4 at h ⊢
    refine ex_aload_n (pc := 25) 17 rfl rfl ?_
    refine ex_geta (pc := 26) 7 18 rfl clk8 rfl rfl (Or.inl ww_747) rfl ?_
    refine ex_iload_n (pc := 29) 19 rfl rfl ?_
    refine ex_aload_n (pc := 30) 20 rfl rfl ?_
    refine ex_geta (pc := 31) 14 21 rfl clk8 rfl rfl (Or.inl ww_754) rfl ?_
    refine ex_bipush (pc := 34) 22 rfl (by decide) ?_
    refine ex_iload_n (pc := 36) 23 rfl rfl ?_
    refine ex_imul (pc := 37) 24 rfl ?_
    refine ex_iload_n (pc := 38) 25 rfl rfl ?_
    refine ex_iadd (pc := 39) 26 rfl ?_
    refine ex_iaload (pc := 40) 27 rfl rfl rfl hs2 ?_
    have h := h _ rfl
    refine ex_iastore (pc := 41) 28 rfl rfl rfl hs3 ?_
    generalize vm_up m4 30 v2 (m4 33 ((12 * v1) + v2)) = m5 at h ⊢
    refine ex_iinc (pc := 42) 29 rfl rfl rfl rfl ?_
    refine ex_goto (pc := 45) 2 30 rfl (by decide) ?_
    exact h
set_option maxRecDepth 20000 in
theorem qX8_search {G : vm_G} {d : Nat} {p1 : Int} {p2 : Int} {mem : vm_M} {Q : vm_M → Int → Prop} (h : (∀ m1, m1 = vm_up mem 24 12 (-6) → vm_cb G d mX8_narrow [.inr (.inr 24)] m1 (fun m2 r3 => vm_ex G (d + 1) mX8_search 17 [some (.inr (.inr 24)), some (.inl p1), some (.inl p2), some (.inl 0), some (.inl 0), some (.inl (vm_b2i r3)), none, none, none] [] m2 (vm_qi Q)))) : vm_ci G (d + 1) mX8_search [.inr (.inr 24), .inl p1, .inl p2] mem Q := by
  refine vm_enter (al := [some (.inr (.inr 24)), some (.inl p1), some (.inl p2), none, none, none, none, none, none]) 6 okX8_search (by decide +kernel) rfl rfl ?_
  refine ex_iconst (pc := 0) 0 rfl ?_
  refine ex_istore_n (pc := 1) 1 rfl rfl rfl ?_
  refine ex_iconst (pc := 2) 2 rfl ?_
  refine ex_istore (pc := 3) 3 rfl rfl rfl ?_
  refine ex_aload_n (pc := 5) 4 rfl rfl ?_
  refine ex_bipush (pc := 6) 5 rfl (by decide) ?_
  have h := h _ rfl
  refine ex_puti (pc := 8) 12 6 rfl clk8 rfl rfl (Or.inl ww_752) rfl rfl rfl ?_
  generalize vm_up mem 24 _ (-6) = m1 at h ⊢
  refine ex_aload_n (pc := 11) 7 rfl rfl ?_
  refine ex_invV (pc := 12) (M' := mX8_narrow) (As := []) (st := []) 8 rfl clk8 rfl rfl calX8_narrow (Or.inl ww_887) rfl rfl ?_
  refine vm_call.mono h ?_
  rintro m2 _ ⟨r3, rfl, h⟩
  refine ex_istore (pc := 15) 9 rfl rfl rfl ?_
  exact h
set_option maxRecDepth 20000 in
theorem qX8_search_17 {G : vm_G} {d : Nat} {v1 : Int} {v2 : Int} {v3 : Int} {v4 : Int} {v5 : Int} {mem : vm_M} {Q : vm_M → Int → Prop} (h : (vm_R v5) ∧ ((v5 = 0 → ((v5 = 0 → (vm_R (v3 + 0)) ∧ (vm_R v2) ∧ ((¬ (v3 + 0) = v2 → vm_ex G (d + 1) mX8_search 121 [some (.inr (.inr 24)), some (.inl v1), some (.inl v2), some (.inl (v3 + 0)), some (.inl v4), some (.inl v5), some (.inl (-6)), some (.inl 0), none] [] mem (vm_qi Q)) ∧ ((v3 + 0) = v2 → Q mem (v3 + 0)))) ∧ (¬ v5 = 0 → (vm_R (v3 + 1)) ∧ (vm_R v2) ∧ ((¬ (v3 + 1) = v2 → vm_ex G (d + 1) mX8_search 121 [some (.inr (.inr 24)), some (.inl v1), some (.inl v2), some (.inl (v3 + 1)), some (.inl v4), some (.inl v5), some (.inl (-6)), some (.inl 0), none] [] mem (vm_qi Q)) ∧ ((v3 + 1) = v2 → Q mem (v3 + 1)))))) ∧ (¬ v5 = 0 → vm_ci G d mX8_narrowest [.inr (.inr 24), .inl v1] mem (fun m6 r7 => (vm_R r7) ∧ ((r7 < 0 → ((v5 = 0 → (vm_R (v3 + 0)) ∧ (vm_R v2) ∧ ((¬ (v3 + 0) = v2 → vm_ex G (d + 1) mX8_search 121 [some (.inr (.inr 24)), some (.inl v1), some (.inl v2), some (.inl (v3 + 0)), some (.inl v4), some (.inl v5), some (.inl r7), some (.inl 0), none] [] m6 (vm_qi Q)) ∧ ((v3 + 0) = v2 → Q m6 (v3 + 0)))) ∧ (¬ v5 = 0 → (vm_R (v3 + 1)) ∧ (vm_R v2) ∧ ((¬ (v3 + 1) = v2 → vm_ex G (d + 1) mX8_search 121 [some (.inr (.inr 24)), some (.inl v1), some (.inl v2), some (.inl (v3 + 1)), some (.inl v4), some (.inl v5), some (.inl r7), some (.inl 0), none] [] m6 (vm_qi Q)) ∧ ((v3 + 1) = v2 → Q m6 (v3 + 1)))))) ∧ (¬ r7 < 0 → vm_cn G d mX8_push [.inr (.inr 24), .inl v4] m6 (fun m13 => (0 ≤ v4 ∧ v4 < 13) ∧ (∀ m16, m16 = vm_up m13 34 v4 r7 → (0 ≤ r7 ∧ r7 < 12) ∧ (∀ m18, m18 = vm_up m16 30 r7 (m16 29 r7) → vm_cb G d mX8_narrow [.inr (.inr 24)] m18 (fun m19 r20 => (r20 = false → (∀ m21, m21 = vm_up m19 24 12 r7 → vm_ex G (d + 1) mX8_search 17 [some (.inr (.inr 24)), some (.inl v1), some (.inl v2), some (.inl v3), some (.inl (v4 + 1)), some (.inl (vm_b2i r20)), none, none, none] [] m21 (vm_qi Q))) ∧ (r20 = true → (∀ m22, m22 = vm_up m19 24 12 (m19 24 12) → vm_ex G (d + 1) mX8_search 17 [some (.inr (.inr 24)), some (.inl v1), some (.inl v2), some (.inl v3), some (.inl (v4 + 1)), some (.inl (vm_b2i r20)), none, none, none] [] m22 (vm_qi Q))))))))))))) : vm_ex G (d + 1) mX8_search 17 [some (.inr (.inr 24)), some (.inl v1), some (.inl v2), some (.inl v3), some (.inl v4), some (.inl v5), none, none, none] [] mem (vm_qi Q) := by
  refine ex_iload (pc := 17) 10 rfl rfl ?_
  obtain ⟨hs1, h⟩ := h
  refine ex_if_eq (pc := 19) 30 11 rfl (by decide) hs1 (fun hb => ?_) (fun hb => ?_)
  · have h := h.1 hb
    refine ex_bipush (pc := 30) 16 rfl (by decide) ?_
    refine ex_istore (pc := 32) 17 rfl rfl rfl ?_
    refine ex_iload (pc := 34) 18 rfl rfl ?_
    refine ex_if_lt (pc := 36) 98 19 rfl (by decide) ⟨by decide, by decide⟩ (fun hb => ?_) (fun hb => ?_)
    · skip
      refine ex_iload_n (pc := 98) 49 rfl rfl ?_
      refine ex_iload (pc := 99) 50 rfl rfl ?_
      refine ex_if_eq (pc := 101) 108 51 rfl (by decide) hs1 (fun hb => ?_) (fun hb => ?_)
      · have h := h.1 hb
        refine ex_iconst (pc := 108) 54 rfl ?_
        refine ex_iadd (pc := 109) 55 rfl ?_
        refine ex_istore_n (pc := 110) 56 rfl rfl rfl ?_
        refine ex_iload_n (pc := 111) 57 rfl rfl ?_
        refine ex_iload_n (pc := 112) 58 rfl rfl ?_
        obtain ⟨hs2, h⟩ := h
        obtain ⟨hs3, h⟩ := h
        refine ex_icmp_ne (pc := 113) 118 59 rfl (by decide) hs2 hs3 (fun hb => ?_) (fun hb => ?_)
        · have h := h.1 hb
          refine ex_iconst (pc := 118) 62 rfl ?_
          refine ex_istore (pc := 119) 63 rfl rfl rfl ?_
          exact h
        · have h := h.2 hb
          refine ex_iload_n (pc := 116) 60 rfl rfl ?_
          exact ex_iret (pc := 117) 61 rfl (Or.inl rfl) ⟨_, rfl, h⟩
      · have h := h.2 hb
        refine ex_iconst (pc := 104) 52 rfl ?_
        refine ex_goto (pc := 105) 109 53 rfl (by decide) ?_
        refine ex_iadd (pc := 109) 55 rfl ?_
        refine ex_istore_n (pc := 110) 56 rfl rfl rfl ?_
        refine ex_iload_n (pc := 111) 57 rfl rfl ?_
        refine ex_iload_n (pc := 112) 58 rfl rfl ?_
        obtain ⟨hs4, h⟩ := h
        obtain ⟨hs5, h⟩ := h
        refine ex_icmp_ne (pc := 113) 118 59 rfl (by decide) hs4 hs5 (fun hb => ?_) (fun hb => ?_)
        · have h := h.1 hb
          refine ex_iconst (pc := 118) 62 rfl ?_
          refine ex_istore (pc := 119) 63 rfl rfl rfl ?_
          exact h
        · have h := h.2 hb
          refine ex_iload_n (pc := 116) 60 rfl rfl ?_
          exact ex_iret (pc := 117) 61 rfl (Or.inl rfl) ⟨_, rfl, h⟩
    · exact absurd hb (by decide)
  · have h := h.2 hb
    refine ex_aload_n (pc := 22) 12 rfl rfl ?_
    refine ex_iload_n (pc := 23) 13 rfl rfl ?_
    refine ex_invV (pc := 24) (M' := mX8_narrowest) (As := [.inl v1]) (st := []) 14 rfl clk8 rfl rfl calX8_narrowest (Or.inl ww_967) rfl rfl ?_
    refine vm_call.mono h ?_
    rintro m6 _ ⟨r7, rfl, h⟩
    refine ex_goto (pc := 27) 32 15 rfl (by decide) ?_
    refine ex_istore (pc := 32) 17 rfl rfl rfl ?_
    refine ex_iload (pc := 34) 18 rfl rfl ?_
    obtain ⟨hs8, h⟩ := h
    refine ex_if_lt (pc := 36) 98 19 rfl (by decide) hs8 (fun hb => ?_) (fun hb => ?_)
    · have h := h.1 hb
      refine ex_iload_n (pc := 98) 49 rfl rfl ?_
      refine ex_iload (pc := 99) 50 rfl rfl ?_
      refine ex_if_eq (pc := 101) 108 51 rfl (by decide) hs1 (fun hb => ?_) (fun hb => ?_)
      · have h := h.1 hb
        refine ex_iconst (pc := 108) 54 rfl ?_
        refine ex_iadd (pc := 109) 55 rfl ?_
        refine ex_istore_n (pc := 110) 56 rfl rfl rfl ?_
        refine ex_iload_n (pc := 111) 57 rfl rfl ?_
        refine ex_iload_n (pc := 112) 58 rfl rfl ?_
        obtain ⟨hs9, h⟩ := h
        obtain ⟨hs10, h⟩ := h
        refine ex_icmp_ne (pc := 113) 118 59 rfl (by decide) hs9 hs10 (fun hb => ?_) (fun hb => ?_)
        · have h := h.1 hb
          refine ex_iconst (pc := 118) 62 rfl ?_
          refine ex_istore (pc := 119) 63 rfl rfl rfl ?_
          exact h
        · have h := h.2 hb
          refine ex_iload_n (pc := 116) 60 rfl rfl ?_
          exact ex_iret (pc := 117) 61 rfl (Or.inl rfl) ⟨_, rfl, h⟩
      · have h := h.2 hb
        refine ex_iconst (pc := 104) 52 rfl ?_
        refine ex_goto (pc := 105) 109 53 rfl (by decide) ?_
        refine ex_iadd (pc := 109) 55 rfl ?_
        refine ex_istore_n (pc := 110) 56 rfl rfl rfl ?_
        refine ex_iload_n (pc := 111) 57 rfl rfl ?_
        refine ex_iload_n (pc := 112) 58 rfl rfl ?_
        obtain ⟨hs11, h⟩ := h
        obtain ⟨hs12, h⟩ := h
        refine ex_icmp_ne (pc := 113) 118 59 rfl (by decide) hs11 hs12 (fun hb => ?_) (fun hb => ?_)
        · have h := h.1 hb
          refine ex_iconst (pc := 118) 62 rfl ?_
          refine ex_istore (pc := 119) 63 rfl rfl rfl ?_
          exact h
        · have h := h.2 hb
          refine ex_iload_n (pc := 116) 60 rfl rfl ?_
          exact ex_iret (pc := 117) 61 rfl (Or.inl rfl) ⟨_, rfl, h⟩
    · have h := h.2 hb
      refine ex_aload_n (pc := 39) 20 rfl rfl ?_
      refine ex_iload (pc := 40) 21 rfl rfl ?_
      refine ex_invV (pc := 42) (M' := mX8_push) (As := [.inl v4]) (st := []) 22 rfl clk8 rfl rfl calX8_push (Or.inl ww_971) rfl rfl ?_
      refine vm_call.mono h ?_
      rintro m13 _ ⟨rfl, h⟩
      refine ex_aload_n (pc := 45) 23 rfl rfl ?_
      refine ex_geta (pc := 46) 15 24 rfl clk8 rfl rfl (Or.inl ww_755) rfl ?_
      refine ex_iload (pc := 49) 25 rfl rfl ?_
      refine ex_iload (pc := 51) 26 rfl rfl ?_
      obtain ⟨hs15, h⟩ := h
      have h := h _ rfl
      refine ex_iastore (pc := 53) 27 rfl rfl rfl hs15 ?_
      generalize vm_up m13 34 v4 r7 = m16 at h ⊢
      refine ex_iinc (pc := 54) 28 rfl rfl rfl rfl ?_
      refine ex_aload_n (pc := 57) 29 rfl rfl ?_
      refine ex_geta (pc := 58) 7 30 rfl clk8 rfl rfl (Or.inl ww_747) rfl ?_
      refine ex_iload (pc := 61) 31 rfl rfl ?_
      refine ex_aload_n (pc := 63) 32 rfl rfl ?_
      refine ex_geta (pc := 64) 6 33 rfl clk8 rfl rfl (Or.inl ww_746) rfl ?_
      refine ex_iload (pc := 67) 34 rfl rfl ?_
      obtain ⟨hs17, h⟩ := h
      refine ex_iaload (pc := 69) 35 rfl rfl rfl hs17 ?_
      have h := h _ rfl
      refine ex_iastore (pc := 70) 36 rfl rfl rfl hs17 ?_
      generalize vm_up m16 30 r7 (m16 29 r7) = m18 at h ⊢
      refine ex_aload_n (pc := 71) 37 rfl rfl ?_
      refine ex_invV (pc := 72) (M' := mX8_narrow) (As := []) (st := []) 38 rfl clk8 rfl rfl calX8_narrow (Or.inl ww_887) rfl rfl ?_
      refine vm_call.mono h ?_
      rintro m19 _ ⟨r20, rfl, h⟩
      refine ex_istore (pc := 75) 39 rfl rfl rfl ?_
      refine ex_aload_n (pc := 77) 40 rfl rfl ?_
      refine ex_iload (pc := 78) 41 rfl rfl ?_
      refine ex_if_eq (pc := 80) 90 42 rfl (by decide) (vm_b2i_R _) (fun hb => ?_) (fun hb => ?_)
      · have h := h.1 (vm_b2i_0.mp hb)
        refine ex_iload (pc := 90) 46 rfl rfl ?_
        have h := h _ rfl
        refine ex_puti (pc := 92) 12 47 rfl clk8 rfl rfl (Or.inl ww_752) rfl rfl rfl ?_
        generalize vm_up m19 24 _ r7 = m21 at h ⊢
        refine ex_goto (pc := 95) 17 48 rfl (by decide) ?_
        exact ex_less [some (.inr (.inr 24)), some (.inl v1), some (.inl v2), some (.inl v3), some (.inl (v4 + 1)), some (.inl (vm_b2i r20)), none, none, none] (And.intro rfl (And.intro rfl (And.intro rfl (And.intro rfl (And.intro rfl (And.intro rfl (True.intro))))))) h
      · have h := h.2 (vm_b2i_n.mp hb)
        refine ex_aload_n (pc := 83) 43 rfl rfl ?_
        refine ex_geti (pc := 84) 12 44 rfl clk8 rfl rfl (Or.inl ww_752) rfl ?_
        refine ex_goto (pc := 87) 92 45 rfl (by decide) ?_
        have h := h _ rfl
        refine ex_puti (pc := 92) 12 47 rfl clk8 rfl rfl (Or.inl ww_752) rfl rfl rfl ?_
        generalize vm_up m19 24 _ (m19 24 12) = m22 at h ⊢
        refine ex_goto (pc := 95) 17 48 rfl (by decide) ?_
        exact ex_less [some (.inr (.inr 24)), some (.inl v1), some (.inl v2), some (.inl v3), some (.inl (v4 + 1)), some (.inl (vm_b2i r20)), none, none, none] (And.intro rfl (And.intro rfl (And.intro rfl (And.intro rfl (And.intro rfl (And.intro rfl (True.intro))))))) h
set_option maxRecDepth 20000 in
theorem qX8_search_121 {G : vm_G} {d : Nat} {v1 : Int} {v2 : Int} {v3 : Int} {v4 : Int} {v5 : Int} {v6 : Int} {v7 : Int} {mem : vm_M} {Q : vm_M → Int → Prop} (h : (vm_R v4) ∧ ((v4 ≤ 0 → (vm_R v7) ∧ ((¬ v7 = 0 → vm_cb G d mX8_narrow [.inr (.inr 24)] mem (fun m3 r4 => (r4 = false → (0 ≤ v4 ∧ v4 < 13) ∧ (∀ m6, m6 = vm_up m3 24 12 (m3 34 v4) → vm_ex G (d + 1) mX8_search 17 [some (.inr (.inr 24)), some (.inl v1), some (.inl v2), some (.inl v3), some (.inl v4), some (.inl (vm_b2i r4)), none, none, none] [] m6 (vm_qi Q))) ∧ (r4 = true → (∀ m7, m7 = vm_up m3 24 12 (m3 24 12) → vm_ex G (d + 1) mX8_search 17 [some (.inr (.inr 24)), some (.inl v1), some (.inl v2), some (.inl v3), some (.inl v4), some (.inl (vm_b2i r4)), none, none, none] [] m7 (vm_qi Q))))) ∧ (v7 = 0 → Q mem v3))) ∧ (¬ v4 ≤ 0 → (vm_R v7) ∧ ((¬ v7 = 0 → ((¬ v7 = 0 → vm_cb G d mX8_narrow [.inr (.inr 24)] mem (fun m9 r10 => (r10 = false → (0 ≤ v4 ∧ v4 < 13) ∧ (∀ m12, m12 = vm_up m9 24 12 (m9 34 v4) → vm_ex G (d + 1) mX8_search 17 [some (.inr (.inr 24)), some (.inl v1), some (.inl v2), some (.inl v3), some (.inl v4), some (.inl (vm_b2i r10)), none, none, none] [] m12 (vm_qi Q))) ∧ (r10 = true → (∀ m13, m13 = vm_up m9 24 12 (m9 24 12) → vm_ex G (d + 1) mX8_search 17 [some (.inr (.inr 24)), some (.inl v1), some (.inl v2), some (.inl v3), some (.inl v4), some (.inl (vm_b2i r10)), none, none, none] [] m13 (vm_qi Q))))) ∧ (v7 = 0 → Q mem v3))) ∧ (v7 = 0 → vm_cn G d mX8_pull [.inr (.inr 24), .inl (v4 + (-1))] mem (fun m14 => (0 ≤ (v4 + (-1)) ∧ (v4 + (-1)) < 13) ∧ (0 ≤ (m14 34 (v4 + (-1))) ∧ (m14 34 (v4 + (-1))) < 12) ∧ (∀ m18, m18 = vm_up m14 29 (m14 34 (v4 + (-1))) ((m14 29 (m14 34 (v4 + (-1)))) + 1) → (vm_R (m18 29 (m14 34 (v4 + (-1))))) ∧ (vm_R (m18 30 (m14 34 (v4 + (-1))))) ∧ (((m18 30 (m14 34 (v4 + (-1)))) < (m18 29 (m14 34 (v4 + (-1)))) → vm_ex G (d + 1) mX8_search 121 [some (.inr (.inr 24)), some (.inl v1), some (.inl v2), some (.inl v3), some (.inl (v4 + (-1))), some (.inl v5), some (.inl v6), some (.inl 0), none] [] m18 (vm_qi Q)) ∧ (¬ (m18 30 (m14 34 (v4 + (-1)))) < (m18 29 (m14 34 (v4 + (-1)))) → vm_ex G (d + 1) mX8_search 121 [some (.inr (.inr 24)), some (.inl v1), some (.inl v2), some (.inl v3), some (.inl (v4 + (-1))), some (.inl v5), some (.inl v6), some (.inl 1), none] [] m18 (vm_qi Q)))))))))) : vm_ex G (d + 1) mX8_search 121 [some (.inr (.inr 24)), some (.inl v1), some (.inl v2), some (.inl v3), some (.inl v4), some (.inl v5), some (.inl v6), some (.inl v7), none] [] mem (vm_qi Q) := by
  refine ex_iload (pc := 121) 64 rfl rfl ?_
  obtain ⟨hs1, h⟩ := h
  refine ex_if_le (pc := 123) 187 65 rfl (by decide) hs1 (fun hb => ?_) (fun hb => ?_)
  · have h := h.1 hb
    refine ex_iload (pc := 187) 99 rfl rfl ?_
    obtain ⟨hs2, h⟩ := h
    refine ex_if_ne (pc := 189) 194 100 rfl (by decide) hs2 (fun hb => ?_) (fun hb => ?_)
    · have h := h.1 hb
      refine ex_aload_n (pc := 194) 103 rfl rfl ?_
      refine ex_invV (pc := 195) (M' := mX8_narrow) (As := []) (st := []) 104 rfl clk8 rfl rfl calX8_narrow (Or.inl ww_887) rfl rfl ?_
      refine vm_call.mono h ?_
      rintro m3 _ ⟨r4, rfl, h⟩
      refine ex_istore (pc := 198) 105 rfl rfl rfl ?_
      refine ex_aload_n (pc := 200) 106 rfl rfl ?_
      refine ex_iload (pc := 201) 107 rfl rfl ?_
      refine ex_if_eq (pc := 203) 213 108 rfl (by decide) (vm_b2i_R _) (fun hb => ?_) (fun hb => ?_)
      · have h := h.1 (vm_b2i_0.mp hb)
        refine ex_aload_n (pc := 213) 112 rfl rfl ?_
        refine ex_geta (pc := 214) 15 113 rfl clk8 rfl rfl (Or.inl ww_755) rfl ?_
        refine ex_iload (pc := 217) 114 rfl rfl ?_
        obtain ⟨hs5, h⟩ := h
        refine ex_iaload (pc := 219) 115 rfl rfl rfl hs5 ?_
        have h := h _ rfl
        refine ex_puti (pc := 220) 12 116 rfl clk8 rfl rfl (Or.inl ww_752) rfl rfl rfl ?_
        generalize vm_up m3 24 _ (m3 34 v4) = m6 at h ⊢
        refine ex_goto (pc := 223) 17 117 rfl (by decide) ?_
        exact ex_less [some (.inr (.inr 24)), some (.inl v1), some (.inl v2), some (.inl v3), some (.inl v4), some (.inl (vm_b2i r4)), none, none, none] (And.intro rfl (And.intro rfl (And.intro rfl (And.intro rfl (And.intro rfl (And.intro rfl (True.intro))))))) h
      · have h := h.2 (vm_b2i_n.mp hb)
        refine ex_aload_n (pc := 206) 109 rfl rfl ?_
        refine ex_geti (pc := 207) 12 110 rfl clk8 rfl rfl (Or.inl ww_752) rfl ?_
        refine ex_goto (pc := 210) 220 111 rfl (by decide) ?_
        have h := h _ rfl
        refine ex_puti (pc := 220) 12 116 rfl clk8 rfl rfl (Or.inl ww_752) rfl rfl rfl ?_
        generalize vm_up m3 24 _ (m3 24 12) = m7 at h ⊢
        refine ex_goto (pc := 223) 17 117 rfl (by decide) ?_
        exact ex_less [some (.inr (.inr 24)), some (.inl v1), some (.inl v2), some (.inl v3), some (.inl v4), some (.inl (vm_b2i r4)), none, none, none] (And.intro rfl (And.intro rfl (And.intro rfl (And.intro rfl (And.intro rfl (And.intro rfl (True.intro))))))) h
    · have h := h.2 hb
      refine ex_iload_n (pc := 192) 101 rfl rfl ?_
      exact ex_iret (pc := 193) 102 rfl (Or.inl rfl) ⟨_, rfl, h⟩
  · have h := h.2 hb
    refine ex_iload (pc := 126) 66 rfl rfl ?_
    obtain ⟨hs8, h⟩ := h
    refine ex_if_ne (pc := 128) 187 67 rfl (by decide) hs8 (fun hb => ?_) (fun hb => ?_)
    · have h := h.1 hb
      refine ex_iload (pc := 187) 99 rfl rfl ?_
      refine ex_if_ne (pc := 189) 194 100 rfl (by decide) hs8 (fun hb => ?_) (fun hb => ?_)
      · have h := h.1 hb
        refine ex_aload_n (pc := 194) 103 rfl rfl ?_
        refine ex_invV (pc := 195) (M' := mX8_narrow) (As := []) (st := []) 104 rfl clk8 rfl rfl calX8_narrow (Or.inl ww_887) rfl rfl ?_
        refine vm_call.mono h ?_
        rintro m9 _ ⟨r10, rfl, h⟩
        refine ex_istore (pc := 198) 105 rfl rfl rfl ?_
        refine ex_aload_n (pc := 200) 106 rfl rfl ?_
        refine ex_iload (pc := 201) 107 rfl rfl ?_
        refine ex_if_eq (pc := 203) 213 108 rfl (by decide) (vm_b2i_R _) (fun hb => ?_) (fun hb => ?_)
        · have h := h.1 (vm_b2i_0.mp hb)
          refine ex_aload_n (pc := 213) 112 rfl rfl ?_
          refine ex_geta (pc := 214) 15 113 rfl clk8 rfl rfl (Or.inl ww_755) rfl ?_
          refine ex_iload (pc := 217) 114 rfl rfl ?_
          obtain ⟨hs11, h⟩ := h
          refine ex_iaload (pc := 219) 115 rfl rfl rfl hs11 ?_
          have h := h _ rfl
          refine ex_puti (pc := 220) 12 116 rfl clk8 rfl rfl (Or.inl ww_752) rfl rfl rfl ?_
          generalize vm_up m9 24 _ (m9 34 v4) = m12 at h ⊢
          refine ex_goto (pc := 223) 17 117 rfl (by decide) ?_
          exact ex_less [some (.inr (.inr 24)), some (.inl v1), some (.inl v2), some (.inl v3), some (.inl v4), some (.inl (vm_b2i r10)), none, none, none] (And.intro rfl (And.intro rfl (And.intro rfl (And.intro rfl (And.intro rfl (And.intro rfl (True.intro))))))) h
        · have h := h.2 (vm_b2i_n.mp hb)
          refine ex_aload_n (pc := 206) 109 rfl rfl ?_
          refine ex_geti (pc := 207) 12 110 rfl clk8 rfl rfl (Or.inl ww_752) rfl ?_
          refine ex_goto (pc := 210) 220 111 rfl (by decide) ?_
          have h := h _ rfl
          refine ex_puti (pc := 220) 12 116 rfl clk8 rfl rfl (Or.inl ww_752) rfl rfl rfl ?_
          generalize vm_up m9 24 _ (m9 24 12) = m13 at h ⊢
          refine ex_goto (pc := 223) 17 117 rfl (by decide) ?_
          exact ex_less [some (.inr (.inr 24)), some (.inl v1), some (.inl v2), some (.inl v3), some (.inl v4), some (.inl (vm_b2i r10)), none, none, none] (And.intro rfl (And.intro rfl (And.intro rfl (And.intro rfl (And.intro rfl (And.intro rfl (True.intro))))))) h
      · have h := h.2 hb
        refine ex_iload_n (pc := 192) 101 rfl rfl ?_
        exact ex_iret (pc := 193) 102 rfl (Or.inl rfl) ⟨_, rfl, h⟩
    · have h := h.2 hb
      refine ex_iinc (pc := 131) 68 rfl rfl rfl rfl ?_
      refine ex_aload_n (pc := 134) 69 rfl rfl ?_
      refine ex_iload (pc := 135) 70 rfl rfl ?_
      refine ex_invV (pc := 137) (M' := mX8_pull) (As := [.inl (v4 + (-1))]) (st := []) 71 rfl clk8 rfl rfl calX8_pull (Or.inl ww_975) rfl rfl ?_
      refine vm_call.mono h ?_
      rintro m14 _ ⟨rfl, h⟩
      refine ex_aload_n (pc := 140) 72 rfl rfl ?_
      refine ex_geta (pc := 141) 15 73 rfl clk8 rfl rfl (Or.inl ww_755) rfl ?_
      refine ex_iload (pc := 144) 74 rfl rfl ?_
      obtain ⟨hs16, h⟩ := h
      refine ex_iaload (pc := 146) 75 rfl rfl rfl hs16 ?_
      refine ex_istore (pc := 147) 76 rfl rfl rfl ?_
      refine ex_aload_n (pc := 149) 77 rfl rfl ?_
      refine ex_geta (pc := 150) 6 78 rfl clk8 rfl rfl (Or.inl ww_746) rfl ?_
      refine ex_iload (pc := 153) 79 rfl rfl ?_
      refine ex_dup2 (pc := 155) 80 rfl ?_
      obtain ⟨hs17, h⟩ := h
      refine ex_iaload (pc := 156) 81 rfl rfl rfl hs17 ?_
      refine ex_iconst (pc := 157) 82 rfl ?_
      refine ex_iadd (pc := 158) 83 rfl ?_
      have h := h _ rfl
      refine ex_iastore (pc := 159) 84 rfl rfl rfl hs17 ?_
      generalize vm_up m14 29 (m14 34 (v4 + (-1))) ((m14 29 (m14 34 (v4 + (-1)))) + 1) = m18 at h ⊢
      refine ex_aload_n (pc := 160) 85 rfl rfl ?_
      refine ex_geta (pc := 161) 6 86 rfl clk8 rfl rfl (Or.inl ww_746) rfl ?_
      refine ex_iload (pc := 164) 87 rfl rfl ?_
      refine ex_iaload (pc := 166) 88 rfl rfl rfl hs17 ?_
      refine ex_aload_n (pc := 167) 89 rfl rfl ?_
      refine ex_geta (pc := 168) 7 90 rfl clk8 rfl rfl (Or.inl ww_747) rfl ?_
      refine ex_iload (pc := 171) 91 rfl rfl ?_
      refine ex_iaload (pc := 173) 92 rfl rfl rfl hs17 ?_
      obtain ⟨hs19, h⟩ := h
      obtain ⟨hs20, h⟩ := h
      refine ex_icmp_gt (pc := 174) 181 93 rfl (by decide) hs19 hs20 (fun hb => ?_) (fun hb => ?_)
      · have h := h.1 hb
        refine ex_iconst (pc := 181) 96 rfl ?_
        refine ex_istore (pc := 182) 97 rfl rfl rfl ?_
        refine ex_goto (pc := 184) 121 98 rfl (by decide) ?_
        exact ex_less [some (.inr (.inr 24)), some (.inl v1), some (.inl v2), some (.inl v3), some (.inl (v4 + (-1))), some (.inl v5), some (.inl v6), some (.inl 0), none] (And.intro rfl (And.intro rfl (And.intro rfl (And.intro rfl (And.intro rfl (And.intro rfl (And.intro rfl (And.intro rfl (True.intro))))))))) h
      · have h := h.2 hb
        refine ex_iconst (pc := 177) 94 rfl ?_
        refine ex_goto (pc := 178) 182 95 rfl (by decide) ?_
        refine ex_istore (pc := 182) 97 rfl rfl rfl ?_
        refine ex_goto (pc := 184) 121 98 rfl (by decide) ?_
        exact ex_less [some (.inr (.inr 24)), some (.inl v1), some (.inl v2), some (.inl v3), some (.inl (v4 + (-1))), some (.inl v5), some (.inl v6), some (.inl 1), none] (And.intro rfl (And.intro rfl (And.intro rfl (And.intro rfl (And.intro rfl (And.intro rfl (And.intro rfl (And.intro rfl (True.intro))))))))) h
set_option maxRecDepth 20000 in
theorem qX8_layAll {G : vm_G} {d : Nat}  {mem : vm_M} {Q : vm_M → Prop} (h : vm_ex G d mX8_layAll 2 [some (.inr (.inr 24)), some (.inl 0)] [] mem (vm_qn Q)) : vm_cn G d mX8_layAll [.inr (.inr 24)] mem Q := by
  refine vm_enter (al := [some (.inr (.inr 24)), none]) 1 okX8_layAll (by decide +kernel) rfl rfl ?_
  refine ex_iconst (pc := 0) 0 rfl ?_
  refine ex_istore_n (pc := 1) 1 rfl rfl rfl ?_
  exact h
set_option maxRecDepth 20000 in
theorem qX8_layAll_2 {G : vm_G} {d : Nat} {v1 : Int} {mem : vm_M} {Q : vm_M → Prop} (h : (vm_R v1) ∧ ((12 ≤ v1 → Q mem) ∧ (¬ 12 ≤ v1 → (0 ≤ v1 ∧ v1 < 12) ∧ (∀ m3, m3 = vm_up mem 29 v1 0 → (∀ m4, m4 = vm_up m3 30 v1 (m3 25 0) → vm_ex G d mX8_layAll 2 [some (.inr (.inr 24)), some (.inl (v1 + 1))] [] m4 (vm_qn Q)))))) : vm_ex G d mX8_layAll 2 [some (.inr (.inr 24)), some (.inl v1)] [] mem (vm_qn Q) := by
  refine ex_iload_n (pc := 2) 2 rfl rfl ?_
  refine ex_bipush (pc := 3) 3 rfl (by decide) ?_
  obtain ⟨hs1, h⟩ := h
  refine ex_icmp_ge (pc := 5) 33 4 rfl (by decide) hs1 ⟨by decide, by decide⟩ (fun hb => ?_) (fun hb => ?_)
  · have h := h.1 hb
    exact ex_ret (pc := 33) 20 rfl rfl ⟨rfl, h⟩
  · have h := h.2 hb
    refine ex_aload_n (pc := 8) 5 rfl rfl ?_
    refine ex_geta (pc := 9) 6 6 rfl clk8 rfl rfl (Or.inl ww_746) rfl ?_
    refine ex_iload_n (pc := 12) 7 rfl rfl ?_
    refine ex_iconst (pc := 13) 8 rfl ?_
    obtain ⟨hs2, h⟩ := h
    have h := h _ rfl
    refine ex_iastore (pc := 14) 9 rfl rfl rfl hs2 ?_
    generalize vm_up mem 29 v1 0 = m3 at h ⊢
    refine ex_aload_n (pc := 15) 10 rfl rfl ?_
    refine ex_geta (pc := 16) 7 11 rfl clk8 rfl rfl (Or.inl ww_747) rfl ?_
    refine ex_iload_n (pc := 19) 12 rfl rfl ?_
    refine ex_aload_n (pc := 20) 13 rfl rfl ?_
    refine ex_geta (pc := 21) 0 14 rfl clk8 rfl rfl (Or.inl ww_740) rfl ?_
    refine ex_iconst (pc := 24) 15 rfl ?_
    refine ex_iaload (pc := 25) 16 rfl rfl rfl ⟨by decide, by decide⟩ ?_
    have h := h _ rfl
    refine ex_iastore (pc := 26) 17 rfl rfl rfl hs2 ?_
    generalize vm_up m3 30 v1 (m3 25 0) = m4 at h ⊢
    refine ex_iinc (pc := 27) 18 rfl rfl rfl rfl ?_
    refine ex_goto (pc := 30) 2 19 rfl (by decide) ?_
    exact h
set_option maxRecDepth 20000 in
theorem qX8_isSolvedByParts {G : vm_G} {d : Nat}  {mem : vm_M} {Q : vm_M → Bool → Prop} (h : vm_cb G d mX8_narrow [.inr (.inr 24)] mem (fun m1 r2 => vm_ex G (d + 1) mX8_isSolvedByParts 9 [some (.inr (.inr 24)), some (.inl 0), some (.inl (vm_b2i r2)), some (.inl 0), none] [] m1 (vm_qb Q))) : vm_cb G (d + 1) mX8_isSolvedByParts [.inr (.inr 24)] mem Q := by
  refine vm_enter (al := [some (.inr (.inr 24)), none, none, none, none]) 4 okX8_isSolvedByParts (by decide +kernel) rfl rfl ?_
  refine ex_iconst (pc := 0) 0 rfl ?_
  refine ex_istore_n (pc := 1) 1 rfl rfl rfl ?_
  refine ex_aload_n (pc := 2) 2 rfl rfl ?_
  refine ex_invV (pc := 3) (M' := mX8_narrow) (As := []) (st := []) 3 rfl clk8 rfl rfl calX8_narrow (Or.inl ww_887) rfl rfl ?_
  refine vm_call.mono h ?_
  rintro m1 _ ⟨r2, rfl, h⟩
  refine ex_istore_n (pc := 6) 4 rfl rfl rfl ?_
  refine ex_iconst (pc := 7) 5 rfl ?_
  refine ex_istore_n (pc := 8) 6 rfl rfl rfl ?_
  exact h
set_option maxRecDepth 20000 in
theorem qX8_isSolvedByParts_9 {G : vm_G} {d : Nat} {v1 : Int} {v2 : Int} {v3 : Int} {mem : vm_M} {Q : vm_M → Bool → Prop} (h : (vm_R v3) ∧ ((12 ≤ v3 → (∃ b2 : Bool, v2 = vm_b2i b2 ∧ Q mem b2)) ∧ (¬ 12 ≤ v3 → (vm_R v2) ∧ ((v2 = 0 → (∃ b4 : Bool, v2 = vm_b2i b4 ∧ Q mem b4)) ∧ (¬ v2 = 0 → (vm_R (vm_and (vm_shr v1 v3) 1)) ∧ ((¬ (vm_and (vm_shr v1 v3) 1) = 0 → vm_ex G (d + 1) mX8_isSolvedByParts 9 [some (.inr (.inr 24)), some (.inl v1), some (.inl v2), some (.inl (v3 + 1)), none] [] mem (vm_qb Q)) ∧ ((vm_and (vm_shr v1 v3) 1) = 0 → vm_ci G d mX8_part [.inr (.inr 24), .inl v3] mem (fun m6 r7 => vm_ci G d mX8_search [.inr (.inr 24), .inl r7, .inl 1] m6 (fun m8 r9 => (vm_R r9) ∧ ((¬ r9 = 1 → vm_ex G (d + 1) mX8_isSolvedByParts 9 [some (.inr (.inr 24)), some (.inl (vm_or v1 r7)), some (.inl 0), some (.inl (v3 + 1)), none] [] m8 (vm_qb Q)) ∧ (r9 = 1 → vm_ex G (d + 1) mX8_isSolvedByParts 9 [some (.inr (.inr 24)), some (.inl (vm_or v1 r7)), some (.inl 1), some (.inl (v3 + 1)), none] [] m8 (vm_qb Q)))))))))))) : vm_ex G (d + 1) mX8_isSolvedByParts 9 [some (.inr (.inr 24)), some (.inl v1), some (.inl v2), some (.inl v3), none] [] mem (vm_qb Q) := by
  refine ex_iload_n (pc := 9) 7 rfl rfl ?_
  refine ex_bipush (pc := 10) 8 rfl (by decide) ?_
  obtain ⟨hs1, h⟩ := h
  refine ex_icmp_ge (pc := 12) 62 9 rfl (by decide) hs1 ⟨by decide, by decide⟩ (fun hb => ?_) (fun hb => ?_)
  · have h := h.1 hb
    refine ex_iload_n (pc := 62) 38 rfl rfl ?_
    obtain ⟨b2, hbe, h⟩ := h
    rw [hbe]
    exact ex_iret (pc := 63) 39 rfl (Or.inr ⟨rfl, vm_b2i_01 _⟩) ⟨_, rfl, h⟩
  · have h := h.2 hb
    refine ex_iload_n (pc := 15) 10 rfl rfl ?_
    obtain ⟨hs3, h⟩ := h
    refine ex_if_eq (pc := 16) 62 11 rfl (by decide) hs3 (fun hb => ?_) (fun hb => ?_)
    · have h := h.1 hb
      refine ex_iload_n (pc := 62) 38 rfl rfl ?_
      obtain ⟨b4, hbe, h⟩ := h
      rw [hbe]
      exact ex_iret (pc := 63) 39 rfl (Or.inr ⟨rfl, vm_b2i_01 _⟩) ⟨_, rfl, h⟩
    · have h := h.2 hb
      refine ex_iload_n (pc := 19) 12 rfl rfl ?_
      refine ex_iload_n (pc := 20) 13 rfl rfl ?_
      refine ex_ishr (pc := 21) 14 rfl ?_
      refine ex_iconst (pc := 22) 15 rfl ?_
      refine ex_iand (pc := 23) 16 rfl ?_
      obtain ⟨hs5, h⟩ := h
      refine ex_if_ne (pc := 24) 56 17 rfl (by decide) hs5 (fun hb => ?_) (fun hb => ?_)
      · have h := h.1 hb
        refine ex_iinc (pc := 56) 36 rfl rfl rfl rfl ?_
        refine ex_goto (pc := 59) 9 37 rfl (by decide) ?_
        exact h
      · have h := h.2 hb
        refine ex_aload_n (pc := 27) 18 rfl rfl ?_
        refine ex_iload_n (pc := 28) 19 rfl rfl ?_
        refine ex_invV (pc := 29) (M' := mX8_part) (As := [.inl v3]) (st := []) 20 rfl clk8 rfl rfl calX8_part (Or.inl ww_949) rfl rfl ?_
        refine vm_call.mono h ?_
        rintro m6 _ ⟨r7, rfl, h⟩
        refine ex_istore (pc := 32) 21 rfl rfl rfl ?_
        refine ex_iload_n (pc := 34) 22 rfl rfl ?_
        refine ex_iload (pc := 35) 23 rfl rfl ?_
        refine ex_ior (pc := 37) 24 rfl ?_
        refine ex_istore_n (pc := 38) 25 rfl rfl rfl ?_
        refine ex_aload_n (pc := 39) 26 rfl rfl ?_
        refine ex_iload (pc := 40) 27 rfl rfl ?_
        refine ex_iconst (pc := 42) 28 rfl ?_
        refine ex_invV (pc := 43) (M' := mX8_search) (As := [.inl r7, .inl 1]) (st := []) 29 rfl clk8 rfl rfl calX8_search (Or.inl ww_963) rfl rfl ?_
        refine vm_call.mono h ?_
        rintro m8 _ ⟨r9, rfl, h⟩
        refine ex_iconst (pc := 46) 30 rfl ?_
        obtain ⟨hs10, h⟩ := h
        refine ex_icmp_ne (pc := 47) 54 31 rfl (by decide) hs10 ⟨by decide, by decide⟩ (fun hb => ?_) (fun hb => ?_)
        · have h := h.1 hb
          refine ex_iconst (pc := 54) 34 rfl ?_
          refine ex_istore_n (pc := 55) 35 rfl rfl rfl ?_
          refine ex_iinc (pc := 56) 36 rfl rfl rfl rfl ?_
          refine ex_goto (pc := 59) 9 37 rfl (by decide) ?_
          exact ex_less [some (.inr (.inr 24)), some (.inl (vm_or v1 r7)), some (.inl 0), some (.inl (v3 + 1)), none] (And.intro rfl (And.intro rfl (And.intro rfl (And.intro rfl (True.intro))))) h
        · have h := h.2 hb
          refine ex_iconst (pc := 50) 32 rfl ?_
          refine ex_goto (pc := 51) 55 33 rfl (by decide) ?_
          refine ex_istore_n (pc := 55) 35 rfl rfl rfl ?_
          refine ex_iinc (pc := 56) 36 rfl rfl rfl rfl ?_
          refine ex_goto (pc := 59) 9 37 rfl (by decide) ?_
          exact ex_less [some (.inr (.inr 24)), some (.inl (vm_or v1 r7)), some (.inl 1), some (.inl (v3 + 1)), none] (And.intro rfl (And.intro rfl (And.intro rfl (And.intro rfl (True.intro))))) h
set_option maxRecDepth 20000 in
theorem qX8_isSolved {G : vm_G} {d : Nat} {p1 : Int} {mem : vm_M} {Q : vm_M → Bool → Prop} (h : (∀ m1, m1 = vm_up mem 24 10 p1 → vm_cn G d mX8_layAll [.inr (.inr 24)] m1 (fun m2 => vm_cb G d mX8_isSolvedByParts [.inr (.inr 24)] m2 (fun m4 r5 => Q m4 r5)))) : vm_cb G (d + 1) mX8_isSolved [.inr (.inr 24), .inl p1] mem Q := by
  refine vm_enter (al := [some (.inr (.inr 24)), some (.inl p1)]) 0 okX8_isSolved (by decide +kernel) rfl rfl ?_
  refine ex_aload_n (pc := 0) 0 rfl rfl ?_
  refine ex_iload_n (pc := 1) 1 rfl rfl ?_
  have h := h _ rfl
  refine ex_puti (pc := 2) 10 2 rfl clk8 rfl rfl (Or.inl ww_750) rfl rfl rfl ?_
  generalize vm_up mem 24 _ p1 = m1 at h ⊢
  refine ex_aload_n (pc := 5) 3 rfl rfl ?_
  refine ex_invV (pc := 6) (M' := mX8_layAll) (As := []) (st := []) 4 rfl clk8 rfl rfl calX8_layAll (Or.inl ww_879) rfl rfl ?_
  refine vm_call.mono h ?_
  rintro m2 _ ⟨rfl, h⟩
  refine ex_aload_n (pc := 9) 5 rfl rfl ?_
  refine ex_invV (pc := 10) (M' := mX8_isSolvedByParts) (As := []) (st := []) 6 rfl clk8 rfl rfl calX8_isSolvedByParts (Or.inl ww_883) rfl rfl ?_
  refine vm_call.mono h ?_
  rintro m4 _ ⟨r5, rfl, h⟩
  exact ex_iret (pc := 13) 7 rfl (Or.inr ⟨rfl, vm_b2i_01 _⟩) ⟨_, rfl, h⟩
set_option maxRecDepth 20000 in
theorem qX8_isSolvedNow {G : vm_G} {d : Nat}  {mem : vm_M} {Q : vm_M → Bool → Prop} (h : (∀ m1, m1 = vm_up mem 24 9 0 → vm_ci G d mX8_allFacts [.inr (.inr 24)] m1 (fun m2 r3 => vm_cb G d mX8_isSolved [.inr (.inr 24), .inl r3] m2 (fun m4 r5 => Q m4 r5)))) : vm_cb G (d + 1) mX8_isSolvedNow [.inr (.inr 24)] mem Q := by
  refine vm_enter (al := [some (.inr (.inr 24))]) 0 okX8_isSolvedNow (by decide +kernel) rfl rfl ?_
  refine ex_aload_n (pc := 0) 0 rfl rfl ?_
  refine ex_iconst (pc := 1) 1 rfl ?_
  have h := h _ rfl
  refine ex_puti (pc := 2) 9 2 rfl clk8 rfl rfl (Or.inl ww_749) rfl rfl rfl ?_
  generalize vm_up mem 24 _ 0 = m1 at h ⊢
  refine ex_aload_n (pc := 5) 3 rfl rfl ?_
  refine ex_aload_n (pc := 6) 4 rfl rfl ?_
  refine ex_invV (pc := 7) (M' := mX8_allFacts) (As := []) (st := [.inr (.inr 24)]) 5 rfl clk8 rfl rfl calX8_allFacts (Or.inl ww_871) rfl rfl ?_
  refine vm_call.mono h ?_
  rintro m2 _ ⟨r3, rfl, h⟩
  refine ex_invV (pc := 10) (M' := mX8_isSolved) (As := [.inl r3]) (st := []) 6 rfl clk8 rfl rfl calX8_isSolved (Or.inl ww_875) rfl rfl ?_
  refine vm_call.mono h ?_
  rintro m4 _ ⟨r5, rfl, h⟩
  exact ex_iret (pc := 13) 7 rfl (Or.inr ⟨rfl, vm_b2i_01 _⟩) ⟨_, rfl, h⟩
set_option maxRecDepth 20000 in
theorem qX8_add {G : vm_G} {d : Nat} {p1 : Int} {p2 : Int} {p3 : Int} {p4 : Int} {p5 : Int} {p6 : Int} {mem : vm_M} {Q : vm_M → Prop} (h : (0 ≤ (6 * (mem 24 9)) ∧ (6 * (mem 24 9)) < 12) ∧ (∀ m2, m2 = vm_up mem 31 (6 * (mem 24 9)) p1 → (0 ≤ ((6 * (mem 24 9)) + 1) ∧ ((6 * (mem 24 9)) + 1) < 12) ∧ (∀ m4, m4 = vm_up m2 31 ((6 * (mem 24 9)) + 1) p2 → (0 ≤ ((6 * (mem 24 9)) + 2) ∧ ((6 * (mem 24 9)) + 2) < 12) ∧ (∀ m6, m6 = vm_up m4 31 ((6 * (mem 24 9)) + 2) p3 → (0 ≤ ((6 * (mem 24 9)) + 3) ∧ ((6 * (mem 24 9)) + 3) < 12) ∧ (∀ m8, m8 = vm_up m6 31 ((6 * (mem 24 9)) + 3) p4 → (0 ≤ ((6 * (mem 24 9)) + 4) ∧ ((6 * (mem 24 9)) + 4) < 12) ∧ (∀ m10, m10 = vm_up m8 31 ((6 * (mem 24 9)) + 4) p5 → (0 ≤ ((6 * (mem 24 9)) + 5) ∧ ((6 * (mem 24 9)) + 5) < 12) ∧ (∀ m12, m12 = vm_up m10 31 ((6 * (mem 24 9)) + 5) p6 → (∀ m13, m13 = vm_up m12 24 9 ((m12 24 9) + 1) → Q m13)))))))) : vm_cn G d mX8_add [.inr (.inr 24), .inl p1, .inl p2, .inl p3, .inl p4, .inl p5, .inl p6] mem Q := by
  refine vm_enter (al := [some (.inr (.inr 24)), some (.inl p1), some (.inl p2), some (.inl p3), some (.inl p4), some (.inl p5), some (.inl p6), none]) 1 okX8_add (by decide +kernel) rfl rfl ?_
  refine ex_bipush (pc := 0) 0 rfl (by decide) ?_
  refine ex_aload_n (pc := 2) 1 rfl rfl ?_
  refine ex_geti (pc := 3) 9 2 rfl clk8 rfl rfl (Or.inl ww_749) rfl ?_
  refine ex_imul (pc := 6) 3 rfl ?_
  refine ex_istore (pc := 7) 4 rfl rfl rfl ?_
  refine ex_aload_n (pc := 9) 5 rfl rfl ?_
  refine ex_geta (pc := 10) 8 6 rfl clk8 rfl rfl (Or.inl ww_748) rfl ?_
  refine ex_iload (pc := 13) 7 rfl rfl ?_
  refine ex_iload_n (pc := 15) 8 rfl rfl ?_
  obtain ⟨hs1, h⟩ := h
  have h := h _ rfl
  refine ex_iastore (pc := 16) 9 rfl rfl rfl hs1 ?_
  generalize vm_up mem 31 (6 * (mem 24 9)) p1 = m2 at h ⊢
  refine ex_aload_n (pc := 17) 10 rfl rfl ?_
  refine ex_geta (pc := 18) 8 11 rfl clk8 rfl rfl (Or.inl ww_748) rfl ?_
  refine ex_iload (pc := 21) 12 rfl rfl ?_
  refine ex_iconst (pc := 23) 13 rfl ?_
  refine ex_iadd (pc := 24) 14 rfl ?_
  refine ex_iload_n (pc := 25) 15 rfl rfl ?_
  obtain ⟨hs3, h⟩ := h
  have h := h _ rfl
  refine ex_iastore (pc := 26) 16 rfl rfl rfl hs3 ?_
  generalize vm_up m2 31 ((6 * (mem 24 9)) + 1) p2 = m4 at h ⊢
  refine ex_aload_n (pc := 27) 17 rfl rfl ?_
  refine ex_geta (pc := 28) 8 18 rfl clk8 rfl rfl (Or.inl ww_748) rfl ?_
  refine ex_iload (pc := 31) 19 rfl rfl ?_
  refine ex_iconst (pc := 33) 20 rfl ?_
  refine ex_iadd (pc := 34) 21 rfl ?_
  refine ex_iload_n (pc := 35) 22 rfl rfl ?_
  obtain ⟨hs5, h⟩ := h
  have h := h _ rfl
  refine ex_iastore (pc := 36) 23 rfl rfl rfl hs5 ?_
  generalize vm_up m4 31 ((6 * (mem 24 9)) + 2) p3 = m6 at h ⊢
  refine ex_aload_n (pc := 37) 24 rfl rfl ?_
  refine ex_geta (pc := 38) 8 25 rfl clk8 rfl rfl (Or.inl ww_748) rfl ?_
  refine ex_iload (pc := 41) 26 rfl rfl ?_
  refine ex_iconst (pc := 43) 27 rfl ?_
  refine ex_iadd (pc := 44) 28 rfl ?_
  refine ex_iload (pc := 45) 29 rfl rfl ?_
  obtain ⟨hs7, h⟩ := h
  have h := h _ rfl
  refine ex_iastore (pc := 47) 30 rfl rfl rfl hs7 ?_
  generalize vm_up m6 31 ((6 * (mem 24 9)) + 3) p4 = m8 at h ⊢
  refine ex_aload_n (pc := 48) 31 rfl rfl ?_
  refine ex_geta (pc := 49) 8 32 rfl clk8 rfl rfl (Or.inl ww_748) rfl ?_
  refine ex_iload (pc := 52) 33 rfl rfl ?_
  refine ex_iconst (pc := 54) 34 rfl ?_
  refine ex_iadd (pc := 55) 35 rfl ?_
  refine ex_iload (pc := 56) 36 rfl rfl ?_
  obtain ⟨hs9, h⟩ := h
  have h := h _ rfl
  refine ex_iastore (pc := 58) 37 rfl rfl rfl hs9 ?_
  generalize vm_up m8 31 ((6 * (mem 24 9)) + 4) p5 = m10 at h ⊢
  refine ex_aload_n (pc := 59) 38 rfl rfl ?_
  refine ex_geta (pc := 60) 8 39 rfl clk8 rfl rfl (Or.inl ww_748) rfl ?_
  refine ex_iload (pc := 63) 40 rfl rfl ?_
  refine ex_iconst (pc := 65) 41 rfl ?_
  refine ex_iadd (pc := 66) 42 rfl ?_
  refine ex_iload (pc := 67) 43 rfl rfl ?_
  obtain ⟨hs11, h⟩ := h
  have h := h _ rfl
  refine ex_iastore (pc := 69) 44 rfl rfl rfl hs11 ?_
  generalize vm_up m10 31 ((6 * (mem 24 9)) + 5) p6 = m12 at h ⊢
  refine ex_aload_n (pc := 70) 45 rfl rfl ?_
  refine ex_dupa (pc := 71) 46 rfl ?_
  refine ex_geti (pc := 72) 9 47 rfl clk8 rfl rfl (Or.inl ww_749) rfl ?_
  refine ex_iconst (pc := 75) 48 rfl ?_
  refine ex_iadd (pc := 76) 49 rfl ?_
  have h := h _ rfl
  refine ex_puti (pc := 77) 9 50 rfl clk8 rfl rfl (Or.inl ww_749) rfl rfl rfl ?_
  generalize vm_up m12 24 _ ((m12 24 9) + 1) = m13 at h ⊢
  exact ex_ret (pc := 80) 51 rfl rfl ⟨rfl, h⟩
set_option maxRecDepth 20000 in
theorem qX8_isSolvedWith {G : vm_G} {d : Nat} {p1 : Int} {p2 : Int} {p3 : Int} {p4 : Int} {p5 : Int} {p6 : Int} {p7 : Int} {mem : vm_M} {Q : vm_M → Bool → Prop} (h : (∀ m1, m1 = vm_up mem 24 9 0 → vm_cn G d mX8_add [.inr (.inr 24), .inl p2, .inl p3, .inl p4, .inl p5, .inl p6, .inl p7] m1 (fun m2 => vm_cb G d mX8_isSolved [.inr (.inr 24), .inl p1] m2 (fun m4 r5 => Q m4 r5)))) : vm_cb G (d + 1) mX8_isSolvedWith [.inr (.inr 24), .inl p1, .inl p2, .inl p3, .inl p4, .inl p5, .inl p6, .inl p7] mem Q := by
  refine vm_enter (al := [some (.inr (.inr 24)), some (.inl p1), some (.inl p2), some (.inl p3), some (.inl p4), some (.inl p5), some (.inl p6), some (.inl p7)]) 0 okX8_isSolvedWith (by decide +kernel) rfl rfl ?_
  refine ex_aload_n (pc := 0) 0 rfl rfl ?_
  refine ex_iconst (pc := 1) 1 rfl ?_
  have h := h _ rfl
  refine ex_puti (pc := 2) 9 2 rfl clk8 rfl rfl (Or.inl ww_749) rfl rfl rfl ?_
  generalize vm_up mem 24 _ 0 = m1 at h ⊢
  refine ex_aload_n (pc := 5) 3 rfl rfl ?_
  refine ex_iload_n (pc := 6) 4 rfl rfl ?_
  refine ex_iload_n (pc := 7) 5 rfl rfl ?_
  refine ex_iload (pc := 8) 6 rfl rfl ?_
  refine ex_iload (pc := 10) 7 rfl rfl ?_
  refine ex_iload (pc := 12) 8 rfl rfl ?_
  refine ex_iload (pc := 14) 9 rfl rfl ?_
  refine ex_invV (pc := 16) (M' := mX8_add) (As := [.inl p2, .inl p3, .inl p4, .inl p5, .inl p6, .inl p7]) (st := []) 10 rfl clk8 rfl rfl calX8_add (Or.inl ww_994) rfl rfl ?_
  refine vm_call.mono h ?_
  rintro m2 _ ⟨rfl, h⟩
  refine ex_aload_n (pc := 19) 11 rfl rfl ?_
  refine ex_iload_n (pc := 20) 12 rfl rfl ?_
  refine ex_invV (pc := 21) (M' := mX8_isSolved) (As := [.inl p1]) (st := []) 13 rfl clk8 rfl rfl calX8_isSolved (Or.inl ww_875) rfl rfl ?_
  refine vm_call.mono h ?_
  rintro m4 _ ⟨r5, rfl, h⟩
  exact ex_iret (pc := 24) 14 rfl (Or.inr ⟨rfl, vm_b2i_01 _⟩) ⟨_, rfl, h⟩
set_option maxRecDepth 20000 in
theorem qX8_isSolvedWithBoth {G : vm_G} {d : Nat} {p1 : Int} {p2 : Int} {p3 : Int} {p4 : Int} {p5 : Int} {p6 : Bool} {mem : vm_M} {Q : vm_M → Bool → Prop} (h : (∀ m1, m1 = vm_up mem 24 9 0 → (p6 = false → (p6 = false → vm_cn G d mX8_add [.inr (.inr 24), .inl 6, .inl p4, .inl p3, .inl p2, .inl p3, .inl 1] m1 (fun m2 => (p6 = false → (p6 = false → vm_cn G d mX8_add [.inr (.inr 24), .inl 6, .inl p5, .inl p3, .inl p2, .inl p3, .inl 1] m2 (fun m4 => vm_cb G d mX8_isSolved [.inr (.inr 24), .inl p1] m4 (fun m6 r7 => Q m6 r7))) ∧ (p6 = true → vm_cn G d mX8_add [.inr (.inr 24), .inl 6, .inl p5, .inl p3, .inl p5, .inl p3, .inl 1] m2 (fun m8 => vm_cb G d mX8_isSolved [.inr (.inr 24), .inl p1] m8 (fun m10 r11 => Q m10 r11)))) ∧ (p6 = true → (p6 = false → vm_cn G d mX8_add [.inr (.inr 24), .inl 6, .inl p2, .inl p3, .inl p2, .inl p3, .inl 1] m2 (fun m12 => vm_cb G d mX8_isSolved [.inr (.inr 24), .inl p1] m12 (fun m14 r15 => Q m14 r15))) ∧ (p6 = true → vm_cn G d mX8_add [.inr (.inr 24), .inl 6, .inl p2, .inl p3, .inl p5, .inl p3, .inl 1] m2 (fun m16 => vm_cb G d mX8_isSolved [.inr (.inr 24), .inl p1] m16 (fun m18 r19 => Q m18 r19)))))) ∧ (p6 = true → vm_cn G d mX8_add [.inr (.inr 24), .inl 6, .inl p4, .inl p3, .inl p4, .inl p3, .inl 1] m1 (fun m20 => (p6 = false → (p6 = false → vm_cn G d mX8_add [.inr (.inr 24), .inl 6, .inl p5, .inl p3, .inl p2, .inl p3, .inl 1] m20 (fun m22 => vm_cb G d mX8_isSolved [.inr (.inr 24), .inl p1] m22 (fun m24 r25 => Q m24 r25))) ∧ (p6 = true → vm_cn G d mX8_add [.inr (.inr 24), .inl 6, .inl p5, .inl p3, .inl p5, .inl p3, .inl 1] m20 (fun m26 => vm_cb G d mX8_isSolved [.inr (.inr 24), .inl p1] m26 (fun m28 r29 => Q m28 r29)))) ∧ (p6 = true → (p6 = false → vm_cn G d mX8_add [.inr (.inr 24), .inl 6, .inl p2, .inl p3, .inl p2, .inl p3, .inl 1] m20 (fun m30 => vm_cb G d mX8_isSolved [.inr (.inr 24), .inl p1] m30 (fun m32 r33 => Q m32 r33))) ∧ (p6 = true → vm_cn G d mX8_add [.inr (.inr 24), .inl 6, .inl p2, .inl p3, .inl p5, .inl p3, .inl 1] m20 (fun m34 => vm_cb G d mX8_isSolved [.inr (.inr 24), .inl p1] m34 (fun m36 r37 => Q m36 r37))))))) ∧ (p6 = true → (p6 = false → vm_cn G d mX8_add [.inr (.inr 24), .inl 6, .inl p2, .inl p3, .inl p2, .inl p3, .inl 1] m1 (fun m38 => (p6 = false → (p6 = false → vm_cn G d mX8_add [.inr (.inr 24), .inl 6, .inl p5, .inl p3, .inl p2, .inl p3, .inl 1] m38 (fun m40 => vm_cb G d mX8_isSolved [.inr (.inr 24), .inl p1] m40 (fun m42 r43 => Q m42 r43))) ∧ (p6 = true → vm_cn G d mX8_add [.inr (.inr 24), .inl 6, .inl p5, .inl p3, .inl p5, .inl p3, .inl 1] m38 (fun m44 => vm_cb G d mX8_isSolved [.inr (.inr 24), .inl p1] m44 (fun m46 r47 => Q m46 r47)))) ∧ (p6 = true → (p6 = false → vm_cn G d mX8_add [.inr (.inr 24), .inl 6, .inl p2, .inl p3, .inl p2, .inl p3, .inl 1] m38 (fun m48 => vm_cb G d mX8_isSolved [.inr (.inr 24), .inl p1] m48 (fun m50 r51 => Q m50 r51))) ∧ (p6 = true → vm_cn G d mX8_add [.inr (.inr 24), .inl 6, .inl p2, .inl p3, .inl p5, .inl p3, .inl 1] m38 (fun m52 => vm_cb G d mX8_isSolved [.inr (.inr 24), .inl p1] m52 (fun m54 r55 => Q m54 r55)))))) ∧ (p6 = true → vm_cn G d mX8_add [.inr (.inr 24), .inl 6, .inl p2, .inl p3, .inl p4, .inl p3, .inl 1] m1 (fun m56 => (p6 = false → (p6 = false → vm_cn G d mX8_add [.inr (.inr 24), .inl 6, .inl p5, .inl p3, .inl p2, .inl p3, .inl 1] m56 (fun m58 => vm_cb G d mX8_isSolved [.inr (.inr 24), .inl p1] m58 (fun m60 r61 => Q m60 r61))) ∧ (p6 = true → vm_cn G d mX8_add [.inr (.inr 24), .inl 6, .inl p5, .inl p3, .inl p5, .inl p3, .inl 1] m56 (fun m62 => vm_cb G d mX8_isSolved [.inr (.inr 24), .inl p1] m62 (fun m64 r65 => Q m64 r65)))) ∧ (p6 = true → (p6 = false → vm_cn G d mX8_add [.inr (.inr 24), .inl 6, .inl p2, .inl p3, .inl p2, .inl p3, .inl 1] m56 (fun m66 => vm_cb G d mX8_isSolved [.inr (.inr 24), .inl p1] m66 (fun m68 r69 => Q m68 r69))) ∧ (p6 = true → vm_cn G d mX8_add [.inr (.inr 24), .inl 6, .inl p2, .inl p3, .inl p5, .inl p3, .inl 1] m56 (fun m70 => vm_cb G d mX8_isSolved [.inr (.inr 24), .inl p1] m70 (fun m72 r73 => Q m72 r73))))))))) : vm_cb G (d + 1) mX8_isSolvedWithBoth [.inr (.inr 24), .inl p1, .inl p2, .inl p3, .inl p4, .inl p5, .inl (vm_b2i p6)] mem Q := by
  refine vm_enter (al := [some (.inr (.inr 24)), some (.inl p1), some (.inl p2), some (.inl p3), some (.inl p4), some (.inl p5), some (.inl (vm_b2i p6))]) 0 okX8_isSolvedWithBoth (by decide +kernel) rfl rfl ?_
  refine ex_aload_n (pc := 0) 0 rfl rfl ?_
  refine ex_iconst (pc := 1) 1 rfl ?_
  have h := h _ rfl
  refine ex_puti (pc := 2) 9 2 rfl clk8 rfl rfl (Or.inl ww_749) rfl rfl rfl ?_
  generalize vm_up mem 24 _ 0 = m1 at h ⊢
  refine ex_aload_n (pc := 5) 3 rfl rfl ?_
  refine ex_bipush (pc := 6) 4 rfl (by decide) ?_
  refine ex_iload (pc := 8) 5 rfl rfl ?_
  refine ex_if_eq (pc := 10) 17 6 rfl (by decide) (vm_b2i_R _) (fun hb => ?_) (fun hb => ?_)
  · have h := h.1 (vm_b2i_0.mp hb)
    refine ex_iload (pc := 17) 9 rfl rfl ?_
    refine ex_iload_n (pc := 19) 10 rfl rfl ?_
    refine ex_iload (pc := 20) 11 rfl rfl ?_
    refine ex_if_eq (pc := 22) 30 12 rfl (by decide) (vm_b2i_R _) (fun hb => ?_) (fun hb => ?_)
    · have h := h.1 (vm_b2i_0.mp hb)
      refine ex_iload_n (pc := 30) 15 rfl rfl ?_
      refine ex_iload_n (pc := 31) 16 rfl rfl ?_
      refine ex_iconst (pc := 32) 17 rfl ?_
      refine ex_invV (pc := 33) (M' := mX8_add) (As := [.inl 6, .inl p4, .inl p3, .inl p2, .inl p3, .inl 1]) (st := []) 18 rfl clk8 rfl rfl calX8_add (Or.inl ww_994) rfl rfl ?_
      refine vm_call.mono h ?_
      rintro m2 _ ⟨rfl, h⟩
      refine ex_aload_n (pc := 36) 19 rfl rfl ?_
      refine ex_bipush (pc := 37) 20 rfl (by decide) ?_
      refine ex_iload (pc := 39) 21 rfl rfl ?_
      refine ex_if_eq (pc := 41) 48 22 rfl (by decide) (vm_b2i_R _) (fun hb => ?_) (fun hb => ?_)
      · have h := h.1 (vm_b2i_0.mp hb)
        refine ex_iload (pc := 48) 25 rfl rfl ?_
        refine ex_iload_n (pc := 50) 26 rfl rfl ?_
        refine ex_iload (pc := 51) 27 rfl rfl ?_
        refine ex_if_eq (pc := 53) 61 28 rfl (by decide) (vm_b2i_R _) (fun hb => ?_) (fun hb => ?_)
        · have h := h.1 (vm_b2i_0.mp hb)
          refine ex_iload_n (pc := 61) 31 rfl rfl ?_
          refine ex_iload_n (pc := 62) 32 rfl rfl ?_
          refine ex_iconst (pc := 63) 33 rfl ?_
          refine ex_invV (pc := 64) (M' := mX8_add) (As := [.inl 6, .inl p5, .inl p3, .inl p2, .inl p3, .inl 1]) (st := []) 34 rfl clk8 rfl rfl calX8_add (Or.inl ww_994) rfl rfl ?_
          refine vm_call.mono h ?_
          rintro m4 _ ⟨rfl, h⟩
          refine ex_aload_n (pc := 67) 35 rfl rfl ?_
          refine ex_iload_n (pc := 68) 36 rfl rfl ?_
          refine ex_invV (pc := 69) (M' := mX8_isSolved) (As := [.inl p1]) (st := []) 37 rfl clk8 rfl rfl calX8_isSolved (Or.inl ww_875) rfl rfl ?_
          refine vm_call.mono h ?_
          rintro m6 _ ⟨r7, rfl, h⟩
          exact ex_iret (pc := 72) 38 rfl (Or.inr ⟨rfl, vm_b2i_01 _⟩) ⟨_, rfl, h⟩
        · have h := h.2 (vm_b2i_n.mp hb)
          refine ex_iload (pc := 56) 29 rfl rfl ?_
          refine ex_goto (pc := 58) 62 30 rfl (by decide) ?_
          refine ex_iload_n (pc := 62) 32 rfl rfl ?_
          refine ex_iconst (pc := 63) 33 rfl ?_
          refine ex_invV (pc := 64) (M' := mX8_add) (As := [.inl 6, .inl p5, .inl p3, .inl p5, .inl p3, .inl 1]) (st := []) 34 rfl clk8 rfl rfl calX8_add (Or.inl ww_994) rfl rfl ?_
          refine vm_call.mono h ?_
          rintro m8 _ ⟨rfl, h⟩
          refine ex_aload_n (pc := 67) 35 rfl rfl ?_
          refine ex_iload_n (pc := 68) 36 rfl rfl ?_
          refine ex_invV (pc := 69) (M' := mX8_isSolved) (As := [.inl p1]) (st := []) 37 rfl clk8 rfl rfl calX8_isSolved (Or.inl ww_875) rfl rfl ?_
          refine vm_call.mono h ?_
          rintro m10 _ ⟨r11, rfl, h⟩
          exact ex_iret (pc := 72) 38 rfl (Or.inr ⟨rfl, vm_b2i_01 _⟩) ⟨_, rfl, h⟩
      · have h := h.2 (vm_b2i_n.mp hb)
        refine ex_iload_n (pc := 44) 23 rfl rfl ?_
        refine ex_goto (pc := 45) 50 24 rfl (by decide) ?_
        refine ex_iload_n (pc := 50) 26 rfl rfl ?_
        refine ex_iload (pc := 51) 27 rfl rfl ?_
        refine ex_if_eq (pc := 53) 61 28 rfl (by decide) (vm_b2i_R _) (fun hb => ?_) (fun hb => ?_)
        · have h := h.1 (vm_b2i_0.mp hb)
          refine ex_iload_n (pc := 61) 31 rfl rfl ?_
          refine ex_iload_n (pc := 62) 32 rfl rfl ?_
          refine ex_iconst (pc := 63) 33 rfl ?_
          refine ex_invV (pc := 64) (M' := mX8_add) (As := [.inl 6, .inl p2, .inl p3, .inl p2, .inl p3, .inl 1]) (st := []) 34 rfl clk8 rfl rfl calX8_add (Or.inl ww_994) rfl rfl ?_
          refine vm_call.mono h ?_
          rintro m12 _ ⟨rfl, h⟩
          refine ex_aload_n (pc := 67) 35 rfl rfl ?_
          refine ex_iload_n (pc := 68) 36 rfl rfl ?_
          refine ex_invV (pc := 69) (M' := mX8_isSolved) (As := [.inl p1]) (st := []) 37 rfl clk8 rfl rfl calX8_isSolved (Or.inl ww_875) rfl rfl ?_
          refine vm_call.mono h ?_
          rintro m14 _ ⟨r15, rfl, h⟩
          exact ex_iret (pc := 72) 38 rfl (Or.inr ⟨rfl, vm_b2i_01 _⟩) ⟨_, rfl, h⟩
        · have h := h.2 (vm_b2i_n.mp hb)
          refine ex_iload (pc := 56) 29 rfl rfl ?_
          refine ex_goto (pc := 58) 62 30 rfl (by decide) ?_
          refine ex_iload_n (pc := 62) 32 rfl rfl ?_
          refine ex_iconst (pc := 63) 33 rfl ?_
          refine ex_invV (pc := 64) (M' := mX8_add) (As := [.inl 6, .inl p2, .inl p3, .inl p5, .inl p3, .inl 1]) (st := []) 34 rfl clk8 rfl rfl calX8_add (Or.inl ww_994) rfl rfl ?_
          refine vm_call.mono h ?_
          rintro m16 _ ⟨rfl, h⟩
          refine ex_aload_n (pc := 67) 35 rfl rfl ?_
          refine ex_iload_n (pc := 68) 36 rfl rfl ?_
          refine ex_invV (pc := 69) (M' := mX8_isSolved) (As := [.inl p1]) (st := []) 37 rfl clk8 rfl rfl calX8_isSolved (Or.inl ww_875) rfl rfl ?_
          refine vm_call.mono h ?_
          rintro m18 _ ⟨r19, rfl, h⟩
          exact ex_iret (pc := 72) 38 rfl (Or.inr ⟨rfl, vm_b2i_01 _⟩) ⟨_, rfl, h⟩
    · have h := h.2 (vm_b2i_n.mp hb)
      refine ex_iload (pc := 25) 13 rfl rfl ?_
      refine ex_goto (pc := 27) 31 14 rfl (by decide) ?_
      refine ex_iload_n (pc := 31) 16 rfl rfl ?_
      refine ex_iconst (pc := 32) 17 rfl ?_
      refine ex_invV (pc := 33) (M' := mX8_add) (As := [.inl 6, .inl p4, .inl p3, .inl p4, .inl p3, .inl 1]) (st := []) 18 rfl clk8 rfl rfl calX8_add (Or.inl ww_994) rfl rfl ?_
      refine vm_call.mono h ?_
      rintro m20 _ ⟨rfl, h⟩
      refine ex_aload_n (pc := 36) 19 rfl rfl ?_
      refine ex_bipush (pc := 37) 20 rfl (by decide) ?_
      refine ex_iload (pc := 39) 21 rfl rfl ?_
      refine ex_if_eq (pc := 41) 48 22 rfl (by decide) (vm_b2i_R _) (fun hb => ?_) (fun hb => ?_)
      · have h := h.1 (vm_b2i_0.mp hb)
        refine ex_iload (pc := 48) 25 rfl rfl ?_
        refine ex_iload_n (pc := 50) 26 rfl rfl ?_
        refine ex_iload (pc := 51) 27 rfl rfl ?_
        refine ex_if_eq (pc := 53) 61 28 rfl (by decide) (vm_b2i_R _) (fun hb => ?_) (fun hb => ?_)
        · have h := h.1 (vm_b2i_0.mp hb)
          refine ex_iload_n (pc := 61) 31 rfl rfl ?_
          refine ex_iload_n (pc := 62) 32 rfl rfl ?_
          refine ex_iconst (pc := 63) 33 rfl ?_
          refine ex_invV (pc := 64) (M' := mX8_add) (As := [.inl 6, .inl p5, .inl p3, .inl p2, .inl p3, .inl 1]) (st := []) 34 rfl clk8 rfl rfl calX8_add (Or.inl ww_994) rfl rfl ?_
          refine vm_call.mono h ?_
          rintro m22 _ ⟨rfl, h⟩
          refine ex_aload_n (pc := 67) 35 rfl rfl ?_
          refine ex_iload_n (pc := 68) 36 rfl rfl ?_
          refine ex_invV (pc := 69) (M' := mX8_isSolved) (As := [.inl p1]) (st := []) 37 rfl clk8 rfl rfl calX8_isSolved (Or.inl ww_875) rfl rfl ?_
          refine vm_call.mono h ?_
          rintro m24 _ ⟨r25, rfl, h⟩
          exact ex_iret (pc := 72) 38 rfl (Or.inr ⟨rfl, vm_b2i_01 _⟩) ⟨_, rfl, h⟩
        · have h := h.2 (vm_b2i_n.mp hb)
          refine ex_iload (pc := 56) 29 rfl rfl ?_
          refine ex_goto (pc := 58) 62 30 rfl (by decide) ?_
          refine ex_iload_n (pc := 62) 32 rfl rfl ?_
          refine ex_iconst (pc := 63) 33 rfl ?_
          refine ex_invV (pc := 64) (M' := mX8_add) (As := [.inl 6, .inl p5, .inl p3, .inl p5, .inl p3, .inl 1]) (st := []) 34 rfl clk8 rfl rfl calX8_add (Or.inl ww_994) rfl rfl ?_
          refine vm_call.mono h ?_
          rintro m26 _ ⟨rfl, h⟩
          refine ex_aload_n (pc := 67) 35 rfl rfl ?_
          refine ex_iload_n (pc := 68) 36 rfl rfl ?_
          refine ex_invV (pc := 69) (M' := mX8_isSolved) (As := [.inl p1]) (st := []) 37 rfl clk8 rfl rfl calX8_isSolved (Or.inl ww_875) rfl rfl ?_
          refine vm_call.mono h ?_
          rintro m28 _ ⟨r29, rfl, h⟩
          exact ex_iret (pc := 72) 38 rfl (Or.inr ⟨rfl, vm_b2i_01 _⟩) ⟨_, rfl, h⟩
      · have h := h.2 (vm_b2i_n.mp hb)
        refine ex_iload_n (pc := 44) 23 rfl rfl ?_
        refine ex_goto (pc := 45) 50 24 rfl (by decide) ?_
        refine ex_iload_n (pc := 50) 26 rfl rfl ?_
        refine ex_iload (pc := 51) 27 rfl rfl ?_
        refine ex_if_eq (pc := 53) 61 28 rfl (by decide) (vm_b2i_R _) (fun hb => ?_) (fun hb => ?_)
        · have h := h.1 (vm_b2i_0.mp hb)
          refine ex_iload_n (pc := 61) 31 rfl rfl ?_
          refine ex_iload_n (pc := 62) 32 rfl rfl ?_
          refine ex_iconst (pc := 63) 33 rfl ?_
          refine ex_invV (pc := 64) (M' := mX8_add) (As := [.inl 6, .inl p2, .inl p3, .inl p2, .inl p3, .inl 1]) (st := []) 34 rfl clk8 rfl rfl calX8_add (Or.inl ww_994) rfl rfl ?_
          refine vm_call.mono h ?_
          rintro m30 _ ⟨rfl, h⟩
          refine ex_aload_n (pc := 67) 35 rfl rfl ?_
          refine ex_iload_n (pc := 68) 36 rfl rfl ?_
          refine ex_invV (pc := 69) (M' := mX8_isSolved) (As := [.inl p1]) (st := []) 37 rfl clk8 rfl rfl calX8_isSolved (Or.inl ww_875) rfl rfl ?_
          refine vm_call.mono h ?_
          rintro m32 _ ⟨r33, rfl, h⟩
          exact ex_iret (pc := 72) 38 rfl (Or.inr ⟨rfl, vm_b2i_01 _⟩) ⟨_, rfl, h⟩
        · have h := h.2 (vm_b2i_n.mp hb)
          refine ex_iload (pc := 56) 29 rfl rfl ?_
          refine ex_goto (pc := 58) 62 30 rfl (by decide) ?_
          refine ex_iload_n (pc := 62) 32 rfl rfl ?_
          refine ex_iconst (pc := 63) 33 rfl ?_
          refine ex_invV (pc := 64) (M' := mX8_add) (As := [.inl 6, .inl p2, .inl p3, .inl p5, .inl p3, .inl 1]) (st := []) 34 rfl clk8 rfl rfl calX8_add (Or.inl ww_994) rfl rfl ?_
          refine vm_call.mono h ?_
          rintro m34 _ ⟨rfl, h⟩
          refine ex_aload_n (pc := 67) 35 rfl rfl ?_
          refine ex_iload_n (pc := 68) 36 rfl rfl ?_
          refine ex_invV (pc := 69) (M' := mX8_isSolved) (As := [.inl p1]) (st := []) 37 rfl clk8 rfl rfl calX8_isSolved (Or.inl ww_875) rfl rfl ?_
          refine vm_call.mono h ?_
          rintro m36 _ ⟨r37, rfl, h⟩
          exact ex_iret (pc := 72) 38 rfl (Or.inr ⟨rfl, vm_b2i_01 _⟩) ⟨_, rfl, h⟩
  · have h := h.2 (vm_b2i_n.mp hb)
    refine ex_iload_n (pc := 13) 7 rfl rfl ?_
    refine ex_goto (pc := 14) 19 8 rfl (by decide) ?_
    refine ex_iload_n (pc := 19) 10 rfl rfl ?_
    refine ex_iload (pc := 20) 11 rfl rfl ?_
    refine ex_if_eq (pc := 22) 30 12 rfl (by decide) (vm_b2i_R _) (fun hb => ?_) (fun hb => ?_)
    · have h := h.1 (vm_b2i_0.mp hb)
      refine ex_iload_n (pc := 30) 15 rfl rfl ?_
      refine ex_iload_n (pc := 31) 16 rfl rfl ?_
      refine ex_iconst (pc := 32) 17 rfl ?_
      refine ex_invV (pc := 33) (M' := mX8_add) (As := [.inl 6, .inl p2, .inl p3, .inl p2, .inl p3, .inl 1]) (st := []) 18 rfl clk8 rfl rfl calX8_add (Or.inl ww_994) rfl rfl ?_
      refine vm_call.mono h ?_
      rintro m38 _ ⟨rfl, h⟩
      refine ex_aload_n (pc := 36) 19 rfl rfl ?_
      refine ex_bipush (pc := 37) 20 rfl (by decide) ?_
      refine ex_iload (pc := 39) 21 rfl rfl ?_
      refine ex_if_eq (pc := 41) 48 22 rfl (by decide) (vm_b2i_R _) (fun hb => ?_) (fun hb => ?_)
      · have h := h.1 (vm_b2i_0.mp hb)
        refine ex_iload (pc := 48) 25 rfl rfl ?_
        refine ex_iload_n (pc := 50) 26 rfl rfl ?_
        refine ex_iload (pc := 51) 27 rfl rfl ?_
        refine ex_if_eq (pc := 53) 61 28 rfl (by decide) (vm_b2i_R _) (fun hb => ?_) (fun hb => ?_)
        · have h := h.1 (vm_b2i_0.mp hb)
          refine ex_iload_n (pc := 61) 31 rfl rfl ?_
          refine ex_iload_n (pc := 62) 32 rfl rfl ?_
          refine ex_iconst (pc := 63) 33 rfl ?_
          refine ex_invV (pc := 64) (M' := mX8_add) (As := [.inl 6, .inl p5, .inl p3, .inl p2, .inl p3, .inl 1]) (st := []) 34 rfl clk8 rfl rfl calX8_add (Or.inl ww_994) rfl rfl ?_
          refine vm_call.mono h ?_
          rintro m40 _ ⟨rfl, h⟩
          refine ex_aload_n (pc := 67) 35 rfl rfl ?_
          refine ex_iload_n (pc := 68) 36 rfl rfl ?_
          refine ex_invV (pc := 69) (M' := mX8_isSolved) (As := [.inl p1]) (st := []) 37 rfl clk8 rfl rfl calX8_isSolved (Or.inl ww_875) rfl rfl ?_
          refine vm_call.mono h ?_
          rintro m42 _ ⟨r43, rfl, h⟩
          exact ex_iret (pc := 72) 38 rfl (Or.inr ⟨rfl, vm_b2i_01 _⟩) ⟨_, rfl, h⟩
        · have h := h.2 (vm_b2i_n.mp hb)
          refine ex_iload (pc := 56) 29 rfl rfl ?_
          refine ex_goto (pc := 58) 62 30 rfl (by decide) ?_
          refine ex_iload_n (pc := 62) 32 rfl rfl ?_
          refine ex_iconst (pc := 63) 33 rfl ?_
          refine ex_invV (pc := 64) (M' := mX8_add) (As := [.inl 6, .inl p5, .inl p3, .inl p5, .inl p3, .inl 1]) (st := []) 34 rfl clk8 rfl rfl calX8_add (Or.inl ww_994) rfl rfl ?_
          refine vm_call.mono h ?_
          rintro m44 _ ⟨rfl, h⟩
          refine ex_aload_n (pc := 67) 35 rfl rfl ?_
          refine ex_iload_n (pc := 68) 36 rfl rfl ?_
          refine ex_invV (pc := 69) (M' := mX8_isSolved) (As := [.inl p1]) (st := []) 37 rfl clk8 rfl rfl calX8_isSolved (Or.inl ww_875) rfl rfl ?_
          refine vm_call.mono h ?_
          rintro m46 _ ⟨r47, rfl, h⟩
          exact ex_iret (pc := 72) 38 rfl (Or.inr ⟨rfl, vm_b2i_01 _⟩) ⟨_, rfl, h⟩
      · have h := h.2 (vm_b2i_n.mp hb)
        refine ex_iload_n (pc := 44) 23 rfl rfl ?_
        refine ex_goto (pc := 45) 50 24 rfl (by decide) ?_
        refine ex_iload_n (pc := 50) 26 rfl rfl ?_
        refine ex_iload (pc := 51) 27 rfl rfl ?_
        refine ex_if_eq (pc := 53) 61 28 rfl (by decide) (vm_b2i_R _) (fun hb => ?_) (fun hb => ?_)
        · have h := h.1 (vm_b2i_0.mp hb)
          refine ex_iload_n (pc := 61) 31 rfl rfl ?_
          refine ex_iload_n (pc := 62) 32 rfl rfl ?_
          refine ex_iconst (pc := 63) 33 rfl ?_
          refine ex_invV (pc := 64) (M' := mX8_add) (As := [.inl 6, .inl p2, .inl p3, .inl p2, .inl p3, .inl 1]) (st := []) 34 rfl clk8 rfl rfl calX8_add (Or.inl ww_994) rfl rfl ?_
          refine vm_call.mono h ?_
          rintro m48 _ ⟨rfl, h⟩
          refine ex_aload_n (pc := 67) 35 rfl rfl ?_
          refine ex_iload_n (pc := 68) 36 rfl rfl ?_
          refine ex_invV (pc := 69) (M' := mX8_isSolved) (As := [.inl p1]) (st := []) 37 rfl clk8 rfl rfl calX8_isSolved (Or.inl ww_875) rfl rfl ?_
          refine vm_call.mono h ?_
          rintro m50 _ ⟨r51, rfl, h⟩
          exact ex_iret (pc := 72) 38 rfl (Or.inr ⟨rfl, vm_b2i_01 _⟩) ⟨_, rfl, h⟩
        · have h := h.2 (vm_b2i_n.mp hb)
          refine ex_iload (pc := 56) 29 rfl rfl ?_
          refine ex_goto (pc := 58) 62 30 rfl (by decide) ?_
          refine ex_iload_n (pc := 62) 32 rfl rfl ?_
          refine ex_iconst (pc := 63) 33 rfl ?_
          refine ex_invV (pc := 64) (M' := mX8_add) (As := [.inl 6, .inl p2, .inl p3, .inl p5, .inl p3, .inl 1]) (st := []) 34 rfl clk8 rfl rfl calX8_add (Or.inl ww_994) rfl rfl ?_
          refine vm_call.mono h ?_
          rintro m52 _ ⟨rfl, h⟩
          refine ex_aload_n (pc := 67) 35 rfl rfl ?_
          refine ex_iload_n (pc := 68) 36 rfl rfl ?_
          refine ex_invV (pc := 69) (M' := mX8_isSolved) (As := [.inl p1]) (st := []) 37 rfl clk8 rfl rfl calX8_isSolved (Or.inl ww_875) rfl rfl ?_
          refine vm_call.mono h ?_
          rintro m54 _ ⟨r55, rfl, h⟩
          exact ex_iret (pc := 72) 38 rfl (Or.inr ⟨rfl, vm_b2i_01 _⟩) ⟨_, rfl, h⟩
    · have h := h.2 (vm_b2i_n.mp hb)
      refine ex_iload (pc := 25) 13 rfl rfl ?_
      refine ex_goto (pc := 27) 31 14 rfl (by decide) ?_
      refine ex_iload_n (pc := 31) 16 rfl rfl ?_
      refine ex_iconst (pc := 32) 17 rfl ?_
      refine ex_invV (pc := 33) (M' := mX8_add) (As := [.inl 6, .inl p2, .inl p3, .inl p4, .inl p3, .inl 1]) (st := []) 18 rfl clk8 rfl rfl calX8_add (Or.inl ww_994) rfl rfl ?_
      refine vm_call.mono h ?_
      rintro m56 _ ⟨rfl, h⟩
      refine ex_aload_n (pc := 36) 19 rfl rfl ?_
      refine ex_bipush (pc := 37) 20 rfl (by decide) ?_
      refine ex_iload (pc := 39) 21 rfl rfl ?_
      refine ex_if_eq (pc := 41) 48 22 rfl (by decide) (vm_b2i_R _) (fun hb => ?_) (fun hb => ?_)
      · have h := h.1 (vm_b2i_0.mp hb)
        refine ex_iload (pc := 48) 25 rfl rfl ?_
        refine ex_iload_n (pc := 50) 26 rfl rfl ?_
        refine ex_iload (pc := 51) 27 rfl rfl ?_
        refine ex_if_eq (pc := 53) 61 28 rfl (by decide) (vm_b2i_R _) (fun hb => ?_) (fun hb => ?_)
        · have h := h.1 (vm_b2i_0.mp hb)
          refine ex_iload_n (pc := 61) 31 rfl rfl ?_
          refine ex_iload_n (pc := 62) 32 rfl rfl ?_
          refine ex_iconst (pc := 63) 33 rfl ?_
          refine ex_invV (pc := 64) (M' := mX8_add) (As := [.inl 6, .inl p5, .inl p3, .inl p2, .inl p3, .inl 1]) (st := []) 34 rfl clk8 rfl rfl calX8_add (Or.inl ww_994) rfl rfl ?_
          refine vm_call.mono h ?_
          rintro m58 _ ⟨rfl, h⟩
          refine ex_aload_n (pc := 67) 35 rfl rfl ?_
          refine ex_iload_n (pc := 68) 36 rfl rfl ?_
          refine ex_invV (pc := 69) (M' := mX8_isSolved) (As := [.inl p1]) (st := []) 37 rfl clk8 rfl rfl calX8_isSolved (Or.inl ww_875) rfl rfl ?_
          refine vm_call.mono h ?_
          rintro m60 _ ⟨r61, rfl, h⟩
          exact ex_iret (pc := 72) 38 rfl (Or.inr ⟨rfl, vm_b2i_01 _⟩) ⟨_, rfl, h⟩
        · have h := h.2 (vm_b2i_n.mp hb)
          refine ex_iload (pc := 56) 29 rfl rfl ?_
          refine ex_goto (pc := 58) 62 30 rfl (by decide) ?_
          refine ex_iload_n (pc := 62) 32 rfl rfl ?_
          refine ex_iconst (pc := 63) 33 rfl ?_
          refine ex_invV (pc := 64) (M' := mX8_add) (As := [.inl 6, .inl p5, .inl p3, .inl p5, .inl p3, .inl 1]) (st := []) 34 rfl clk8 rfl rfl calX8_add (Or.inl ww_994) rfl rfl ?_
          refine vm_call.mono h ?_
          rintro m62 _ ⟨rfl, h⟩
          refine ex_aload_n (pc := 67) 35 rfl rfl ?_
          refine ex_iload_n (pc := 68) 36 rfl rfl ?_
          refine ex_invV (pc := 69) (M' := mX8_isSolved) (As := [.inl p1]) (st := []) 37 rfl clk8 rfl rfl calX8_isSolved (Or.inl ww_875) rfl rfl ?_
          refine vm_call.mono h ?_
          rintro m64 _ ⟨r65, rfl, h⟩
          exact ex_iret (pc := 72) 38 rfl (Or.inr ⟨rfl, vm_b2i_01 _⟩) ⟨_, rfl, h⟩
      · have h := h.2 (vm_b2i_n.mp hb)
        refine ex_iload_n (pc := 44) 23 rfl rfl ?_
        refine ex_goto (pc := 45) 50 24 rfl (by decide) ?_
        refine ex_iload_n (pc := 50) 26 rfl rfl ?_
        refine ex_iload (pc := 51) 27 rfl rfl ?_
        refine ex_if_eq (pc := 53) 61 28 rfl (by decide) (vm_b2i_R _) (fun hb => ?_) (fun hb => ?_)
        · have h := h.1 (vm_b2i_0.mp hb)
          refine ex_iload_n (pc := 61) 31 rfl rfl ?_
          refine ex_iload_n (pc := 62) 32 rfl rfl ?_
          refine ex_iconst (pc := 63) 33 rfl ?_
          refine ex_invV (pc := 64) (M' := mX8_add) (As := [.inl 6, .inl p2, .inl p3, .inl p2, .inl p3, .inl 1]) (st := []) 34 rfl clk8 rfl rfl calX8_add (Or.inl ww_994) rfl rfl ?_
          refine vm_call.mono h ?_
          rintro m66 _ ⟨rfl, h⟩
          refine ex_aload_n (pc := 67) 35 rfl rfl ?_
          refine ex_iload_n (pc := 68) 36 rfl rfl ?_
          refine ex_invV (pc := 69) (M' := mX8_isSolved) (As := [.inl p1]) (st := []) 37 rfl clk8 rfl rfl calX8_isSolved (Or.inl ww_875) rfl rfl ?_
          refine vm_call.mono h ?_
          rintro m68 _ ⟨r69, rfl, h⟩
          exact ex_iret (pc := 72) 38 rfl (Or.inr ⟨rfl, vm_b2i_01 _⟩) ⟨_, rfl, h⟩
        · have h := h.2 (vm_b2i_n.mp hb)
          refine ex_iload (pc := 56) 29 rfl rfl ?_
          refine ex_goto (pc := 58) 62 30 rfl (by decide) ?_
          refine ex_iload_n (pc := 62) 32 rfl rfl ?_
          refine ex_iconst (pc := 63) 33 rfl ?_
          refine ex_invV (pc := 64) (M' := mX8_add) (As := [.inl 6, .inl p2, .inl p3, .inl p5, .inl p3, .inl 1]) (st := []) 34 rfl clk8 rfl rfl calX8_add (Or.inl ww_994) rfl rfl ?_
          refine vm_call.mono h ?_
          rintro m70 _ ⟨rfl, h⟩
          refine ex_aload_n (pc := 67) 35 rfl rfl ?_
          refine ex_iload_n (pc := 68) 36 rfl rfl ?_
          refine ex_invV (pc := 69) (M' := mX8_isSolved) (As := [.inl p1]) (st := []) 37 rfl clk8 rfl rfl calX8_isSolved (Or.inl ww_875) rfl rfl ?_
          refine vm_call.mono h ?_
          rintro m72 _ ⟨r73, rfl, h⟩
          exact ex_iret (pc := 72) 38 rfl (Or.inr ⟨rfl, vm_b2i_01 _⟩) ⟨_, rfl, h⟩
set_option maxRecDepth 20000 in
theorem qX8_failsAt {G : vm_G} {d : Nat} {p1 : Int} {p2 : Int} {p3 : Int} {p4 : Int} {p5 : Int} {p6 : Int} {mem : vm_M} {Q : vm_M → Bool → Prop} (h : (vm_R p2) ∧ ((p2 = 2 → vm_cb G d mX8_isSolvedWith [.inr (.inr 24), .inl p1, .inl 7, .inl p3, .inl p4, .inl p5, .inl p6, .inl 0] mem (fun m2 r3 => (r3 = true → Q m2 true) ∧ (r3 = false → vm_cb G d mX8_isSolvedWith [.inr (.inr 24), .inl p1, .inl 8, .inl p3, .inl p4, .inl p5, .inl p6, .inl 0] m2 (fun m4 r5 => (r5 = false → Q m4 false) ∧ (r5 = true → Q m4 true))))) ∧ (p2 = 3 → vm_cb G d mX8_isSolvedWith [.inr (.inr 24), .inl p1, .inl 6, .inl p4, .inl p6, .inl p3, .inl p6, .inl 1] mem (fun m6 r7 => (r7 = true → Q m6 true) ∧ (r7 = false → vm_cb G d mX8_isSolvedWith [.inr (.inr 24), .inl p1, .inl 6, .inl p5, .inl p6, .inl p3, .inl p6, .inl 1] m6 (fun m8 r9 => (r9 = true → Q m8 true) ∧ (r9 = false → vm_cb G d mX8_isSolvedWithBoth [.inr (.inr 24), .inl p1, .inl p3, .inl p6, .inl p4, .inl p5, .inl 1] m8 (fun m10 r11 => (r11 = false → Q m10 false) ∧ (r11 = true → Q m10 true))))))) ∧ (p2 = 4 → vm_cb G d mX8_isSolvedWith [.inr (.inr 24), .inl p1, .inl 6, .inl p3, .inl p6, .inl p4, .inl p6, .inl 1] mem (fun m12 r13 => (r13 = true → Q m12 true) ∧ (r13 = false → vm_cb G d mX8_isSolvedWith [.inr (.inr 24), .inl p1, .inl 6, .inl p3, .inl p6, .inl p5, .inl p6, .inl 1] m12 (fun m14 r15 => (r15 = true → Q m14 true) ∧ (r15 = false → vm_cb G d mX8_isSolvedWithBoth [.inr (.inr 24), .inl p1, .inl p3, .inl p6, .inl p4, .inl p5, .inl 0] m14 (fun m16 r17 => (r17 = false → Q m16 false) ∧ (r17 = true → Q m16 true))))))) ∧ (p2 < 2 ∨ 4 < p2 → vm_cb G d mX8_isSolvedWith [.inr (.inr 24), .inl p1, .inl 6, .inl p3, .inl p6, .inl p4, .inl p6, .inl 1] mem (fun m18 r19 => Q m18 r19)))) : vm_cb G (d + 1) mX8_failsAt [.inr (.inr 24), .inl p1, .inl p2, .inl p3, .inl p4, .inl p5, .inl p6] mem Q := by
  refine vm_enter (al := [some (.inr (.inr 24)), some (.inl p1), some (.inl p2), some (.inl p3), some (.inl p4), some (.inl p5), some (.inl p6)]) 0 okX8_failsAt (by decide +kernel) rfl rfl ?_
  refine ex_iload_n (pc := 0) 0 rfl rfl ?_
  obtain ⟨hs1, h⟩ := h
  obtain ⟨h0, h1, h2, h3⟩ := h
  refine ex_tsw (pc := 1) 1 rfl hs1 rfl ⟨fun hb => ⟨?_, by decide⟩, fun hb => ⟨?_, by decide⟩, fun hb => ⟨?_, by decide⟩, trivial⟩ (fun hb => ?_) (by decide)
  · have h := h0 hb
    refine ex_aload_n (pc := 28) 2 rfl rfl ?_
    refine ex_iload_n (pc := 29) 3 rfl rfl ?_
    refine ex_bipush (pc := 30) 4 rfl (by decide) ?_
    refine ex_iload_n (pc := 32) 5 rfl rfl ?_
    refine ex_iload (pc := 33) 6 rfl rfl ?_
    refine ex_iload (pc := 35) 7 rfl rfl ?_
    refine ex_iload (pc := 37) 8 rfl rfl ?_
    refine ex_iconst (pc := 39) 9 rfl ?_
    refine ex_invV (pc := 40) (M' := mX8_isSolvedWith) (As := [.inl p1, .inl 7, .inl p3, .inl p4, .inl p5, .inl p6, .inl 0]) (st := []) 10 rfl clk8 rfl rfl calX8_isSolvedWith (Or.inl ww_990) rfl rfl ?_
    refine vm_call.mono h ?_
    rintro m2 _ ⟨r3, rfl, h⟩
    refine ex_if_ne (pc := 43) 64 11 rfl (by decide) (vm_b2i_R _) (fun hb => ?_) (fun hb => ?_)
    · have h := h.1 (vm_b2i_n.mp hb)
      refine ex_iconst (pc := 64) 22 rfl ?_
      refine ex_goto (pc := 65) 69 23 rfl (by decide) ?_
      exact ex_iret (pc := 69) 25 rfl (Or.inr ⟨rfl, by decide⟩) ⟨true, rfl, h⟩
    · have h := h.2 (vm_b2i_0.mp hb)
      refine ex_aload_n (pc := 46) 12 rfl rfl ?_
      refine ex_iload_n (pc := 47) 13 rfl rfl ?_
      refine ex_bipush (pc := 48) 14 rfl (by decide) ?_
      refine ex_iload_n (pc := 50) 15 rfl rfl ?_
      refine ex_iload (pc := 51) 16 rfl rfl ?_
      refine ex_iload (pc := 53) 17 rfl rfl ?_
      refine ex_iload (pc := 55) 18 rfl rfl ?_
      refine ex_iconst (pc := 57) 19 rfl ?_
      refine ex_invV (pc := 58) (M' := mX8_isSolvedWith) (As := [.inl p1, .inl 8, .inl p3, .inl p4, .inl p5, .inl p6, .inl 0]) (st := []) 20 rfl clk8 rfl rfl calX8_isSolvedWith (Or.inl ww_990) rfl rfl ?_
      refine vm_call.mono h ?_
      rintro m4 _ ⟨r5, rfl, h⟩
      refine ex_if_eq (pc := 61) 68 21 rfl (by decide) (vm_b2i_R _) (fun hb => ?_) (fun hb => ?_)
      · have h := h.1 (vm_b2i_0.mp hb)
        refine ex_iconst (pc := 68) 24 rfl ?_
        exact ex_iret (pc := 69) 25 rfl (Or.inr ⟨rfl, by decide⟩) ⟨false, rfl, h⟩
      · have h := h.2 (vm_b2i_n.mp hb)
        refine ex_iconst (pc := 64) 22 rfl ?_
        refine ex_goto (pc := 65) 69 23 rfl (by decide) ?_
        exact ex_iret (pc := 69) 25 rfl (Or.inr ⟨rfl, by decide⟩) ⟨true, rfl, h⟩
  · have h := h1 hb
    refine ex_aload_n (pc := 70) 26 rfl rfl ?_
    refine ex_iload_n (pc := 71) 27 rfl rfl ?_
    refine ex_bipush (pc := 72) 28 rfl (by decide) ?_
    refine ex_iload (pc := 74) 29 rfl rfl ?_
    refine ex_iload (pc := 76) 30 rfl rfl ?_
    refine ex_iload_n (pc := 78) 31 rfl rfl ?_
    refine ex_iload (pc := 79) 32 rfl rfl ?_
    refine ex_iconst (pc := 81) 33 rfl ?_
    refine ex_invV (pc := 82) (M' := mX8_isSolvedWith) (As := [.inl p1, .inl 6, .inl p4, .inl p6, .inl p3, .inl p6, .inl 1]) (st := []) 34 rfl clk8 rfl rfl calX8_isSolvedWith (Or.inl ww_990) rfl rfl ?_
    refine vm_call.mono h ?_
    rintro m6 _ ⟨r7, rfl, h⟩
    refine ex_if_ne (pc := 85) 122 35 rfl (by decide) (vm_b2i_R _) (fun hb => ?_) (fun hb => ?_)
    · have h := h.1 (vm_b2i_n.mp hb)
      refine ex_iconst (pc := 122) 55 rfl ?_
      refine ex_goto (pc := 123) 127 56 rfl (by decide) ?_
      exact ex_iret (pc := 127) 58 rfl (Or.inr ⟨rfl, by decide⟩) ⟨true, rfl, h⟩
    · have h := h.2 (vm_b2i_0.mp hb)
      refine ex_aload_n (pc := 88) 36 rfl rfl ?_
      refine ex_iload_n (pc := 89) 37 rfl rfl ?_
      refine ex_bipush (pc := 90) 38 rfl (by decide) ?_
      refine ex_iload (pc := 92) 39 rfl rfl ?_
      refine ex_iload (pc := 94) 40 rfl rfl ?_
      refine ex_iload_n (pc := 96) 41 rfl rfl ?_
      refine ex_iload (pc := 97) 42 rfl rfl ?_
      refine ex_iconst (pc := 99) 43 rfl ?_
      refine ex_invV (pc := 100) (M' := mX8_isSolvedWith) (As := [.inl p1, .inl 6, .inl p5, .inl p6, .inl p3, .inl p6, .inl 1]) (st := []) 44 rfl clk8 rfl rfl calX8_isSolvedWith (Or.inl ww_990) rfl rfl ?_
      refine vm_call.mono h ?_
      rintro m8 _ ⟨r9, rfl, h⟩
      refine ex_if_ne (pc := 103) 122 45 rfl (by decide) (vm_b2i_R _) (fun hb => ?_) (fun hb => ?_)
      · have h := h.1 (vm_b2i_n.mp hb)
        refine ex_iconst (pc := 122) 55 rfl ?_
        refine ex_goto (pc := 123) 127 56 rfl (by decide) ?_
        exact ex_iret (pc := 127) 58 rfl (Or.inr ⟨rfl, by decide⟩) ⟨true, rfl, h⟩
      · have h := h.2 (vm_b2i_0.mp hb)
        refine ex_aload_n (pc := 106) 46 rfl rfl ?_
        refine ex_iload_n (pc := 107) 47 rfl rfl ?_
        refine ex_iload_n (pc := 108) 48 rfl rfl ?_
        refine ex_iload (pc := 109) 49 rfl rfl ?_
        refine ex_iload (pc := 111) 50 rfl rfl ?_
        refine ex_iload (pc := 113) 51 rfl rfl ?_
        refine ex_iconst (pc := 115) 52 rfl ?_
        refine ex_invV (pc := 116) (M' := mX8_isSolvedWithBoth) (As := [.inl p1, .inl p3, .inl p6, .inl p4, .inl p5, .inl 1]) (st := []) 53 rfl clk8 rfl rfl calX8_isSolvedWithBoth (Or.inl ww_1034) rfl rfl ?_
        refine vm_call.mono h ?_
        rintro m10 _ ⟨r11, rfl, h⟩
        refine ex_if_eq (pc := 119) 126 54 rfl (by decide) (vm_b2i_R _) (fun hb => ?_) (fun hb => ?_)
        · have h := h.1 (vm_b2i_0.mp hb)
          refine ex_iconst (pc := 126) 57 rfl ?_
          exact ex_iret (pc := 127) 58 rfl (Or.inr ⟨rfl, by decide⟩) ⟨false, rfl, h⟩
        · have h := h.2 (vm_b2i_n.mp hb)
          refine ex_iconst (pc := 122) 55 rfl ?_
          refine ex_goto (pc := 123) 127 56 rfl (by decide) ?_
          exact ex_iret (pc := 127) 58 rfl (Or.inr ⟨rfl, by decide⟩) ⟨true, rfl, h⟩
  · have h := h2 hb
    refine ex_aload_n (pc := 128) 59 rfl rfl ?_
    refine ex_iload_n (pc := 129) 60 rfl rfl ?_
    refine ex_bipush (pc := 130) 61 rfl (by decide) ?_
    refine ex_iload_n (pc := 132) 62 rfl rfl ?_
    refine ex_iload (pc := 133) 63 rfl rfl ?_
    refine ex_iload (pc := 135) 64 rfl rfl ?_
    refine ex_iload (pc := 137) 65 rfl rfl ?_
    refine ex_iconst (pc := 139) 66 rfl ?_
    refine ex_invV (pc := 140) (M' := mX8_isSolvedWith) (As := [.inl p1, .inl 6, .inl p3, .inl p6, .inl p4, .inl p6, .inl 1]) (st := []) 67 rfl clk8 rfl rfl calX8_isSolvedWith (Or.inl ww_990) rfl rfl ?_
    refine vm_call.mono h ?_
    rintro m12 _ ⟨r13, rfl, h⟩
    refine ex_if_ne (pc := 143) 180 68 rfl (by decide) (vm_b2i_R _) (fun hb => ?_) (fun hb => ?_)
    · have h := h.1 (vm_b2i_n.mp hb)
      refine ex_iconst (pc := 180) 88 rfl ?_
      refine ex_goto (pc := 181) 185 89 rfl (by decide) ?_
      exact ex_iret (pc := 185) 91 rfl (Or.inr ⟨rfl, by decide⟩) ⟨true, rfl, h⟩
    · have h := h.2 (vm_b2i_0.mp hb)
      refine ex_aload_n (pc := 146) 69 rfl rfl ?_
      refine ex_iload_n (pc := 147) 70 rfl rfl ?_
      refine ex_bipush (pc := 148) 71 rfl (by decide) ?_
      refine ex_iload_n (pc := 150) 72 rfl rfl ?_
      refine ex_iload (pc := 151) 73 rfl rfl ?_
      refine ex_iload (pc := 153) 74 rfl rfl ?_
      refine ex_iload (pc := 155) 75 rfl rfl ?_
      refine ex_iconst (pc := 157) 76 rfl ?_
      refine ex_invV (pc := 158) (M' := mX8_isSolvedWith) (As := [.inl p1, .inl 6, .inl p3, .inl p6, .inl p5, .inl p6, .inl 1]) (st := []) 77 rfl clk8 rfl rfl calX8_isSolvedWith (Or.inl ww_990) rfl rfl ?_
      refine vm_call.mono h ?_
      rintro m14 _ ⟨r15, rfl, h⟩
      refine ex_if_ne (pc := 161) 180 78 rfl (by decide) (vm_b2i_R _) (fun hb => ?_) (fun hb => ?_)
      · have h := h.1 (vm_b2i_n.mp hb)
        refine ex_iconst (pc := 180) 88 rfl ?_
        refine ex_goto (pc := 181) 185 89 rfl (by decide) ?_
        exact ex_iret (pc := 185) 91 rfl (Or.inr ⟨rfl, by decide⟩) ⟨true, rfl, h⟩
      · have h := h.2 (vm_b2i_0.mp hb)
        refine ex_aload_n (pc := 164) 79 rfl rfl ?_
        refine ex_iload_n (pc := 165) 80 rfl rfl ?_
        refine ex_iload_n (pc := 166) 81 rfl rfl ?_
        refine ex_iload (pc := 167) 82 rfl rfl ?_
        refine ex_iload (pc := 169) 83 rfl rfl ?_
        refine ex_iload (pc := 171) 84 rfl rfl ?_
        refine ex_iconst (pc := 173) 85 rfl ?_
        refine ex_invV (pc := 174) (M' := mX8_isSolvedWithBoth) (As := [.inl p1, .inl p3, .inl p6, .inl p4, .inl p5, .inl 0]) (st := []) 86 rfl clk8 rfl rfl calX8_isSolvedWithBoth (Or.inl ww_1034) rfl rfl ?_
        refine vm_call.mono h ?_
        rintro m16 _ ⟨r17, rfl, h⟩
        refine ex_if_eq (pc := 177) 184 87 rfl (by decide) (vm_b2i_R _) (fun hb => ?_) (fun hb => ?_)
        · have h := h.1 (vm_b2i_0.mp hb)
          refine ex_iconst (pc := 184) 90 rfl ?_
          exact ex_iret (pc := 185) 91 rfl (Or.inr ⟨rfl, by decide⟩) ⟨false, rfl, h⟩
        · have h := h.2 (vm_b2i_n.mp hb)
          refine ex_iconst (pc := 180) 88 rfl ?_
          refine ex_goto (pc := 181) 185 89 rfl (by decide) ?_
          exact ex_iret (pc := 185) 91 rfl (Or.inr ⟨rfl, by decide⟩) ⟨true, rfl, h⟩
  · have h := h3 hb
    refine ex_aload_n (pc := 186) 92 rfl rfl ?_
    refine ex_iload_n (pc := 187) 93 rfl rfl ?_
    refine ex_bipush (pc := 188) 94 rfl (by decide) ?_
    refine ex_iload_n (pc := 190) 95 rfl rfl ?_
    refine ex_iload (pc := 191) 96 rfl rfl ?_
    refine ex_iload (pc := 193) 97 rfl rfl ?_
    refine ex_iload (pc := 195) 98 rfl rfl ?_
    refine ex_iconst (pc := 197) 99 rfl ?_
    refine ex_invV (pc := 198) (M' := mX8_isSolvedWith) (As := [.inl p1, .inl 6, .inl p3, .inl p6, .inl p4, .inl p6, .inl 1]) (st := []) 100 rfl clk8 rfl rfl calX8_isSolvedWith (Or.inl ww_990) rfl rfl ?_
    refine vm_call.mono h ?_
    rintro m18 _ ⟨r19, rfl, h⟩
    exact ex_iret (pc := 201) 101 rfl (Or.inr ⟨rfl, vm_b2i_01 _⟩) ⟨_, rfl, h⟩
set_option maxRecDepth 20000 in
theorem qX8_canFail {G : vm_G} {d : Nat} {p1 : Int} {p2 : Int} {p3 : Int} {p4 : Int} {p5 : Int} {p6 : Int} {p7 : Int} {mem : vm_M} {Q : vm_M → Bool → Prop} (h : (vm_R p2) ∧ ((¬ p2 = 0 → ((¬ p2 = 1 → ((¬ p2 = 6 → vm_ex G (d + 1) mX8_canFail 124 [some (.inr (.inr 24)), some (.inl p1), some (.inl p2), some (.inl p3), some (.inl p4), some (.inl p5), some (.inl p6), some (.inl p7), some (.inl 0), some (.inl 0)] [] mem (vm_qb Q)) ∧ (p2 = 6 → vm_cb G d mX8_isSolvedWith [.inr (.inr 24), .inl p1, .inl 6, .inl p5, .inl p6, .inl p3, .inl p4, .inl (1 - p7)] mem (fun m2 r3 => Q m2 r3)))) ∧ (p2 = 1 → vm_cb G d mX8_isSolvedWith [.inr (.inr 24), .inl p1, .inl 1, .inl p3, .inl 0, .inl (p4 - 1), .inl 0, .inl 0] mem (fun m4 r5 => (r5 = true → Q m4 true) ∧ (r5 = false → vm_cb G d mX8_isSolvedWith [.inr (.inr 24), .inl p1, .inl 1, .inl p3, .inl (p5 + 1), .inl 18, .inl 0, .inl 0] m4 (fun m6 r7 => (r7 = false → Q m6 false) ∧ (r7 = true → Q m6 true))))))) ∧ (p2 = 0 → vm_cb G d mX8_isSolvedWith [.inr (.inr 24), .inl p1, .inl 0, .inl p3, .inl p4, .inl 0, .inl (p5 - 1), .inl 0] mem (fun m8 r9 => (r9 = true → Q m8 true) ∧ (r9 = false → vm_cb G d mX8_isSolvedWith [.inr (.inr 24), .inl p1, .inl 0, .inl p3, .inl p4, .inl (p6 + 1), .inl 6, .inl 0] m8 (fun m10 r11 => (r11 = false → Q m10 false) ∧ (r11 = true → Q m10 true))))))) : vm_cb G (d + 1) mX8_canFail [.inr (.inr 24), .inl p1, .inl p2, .inl p3, .inl p4, .inl p5, .inl p6, .inl p7] mem Q := by
  refine vm_enter (al := [some (.inr (.inr 24)), some (.inl p1), some (.inl p2), some (.inl p3), some (.inl p4), some (.inl p5), some (.inl p6), some (.inl p7), none, none]) 2 okX8_canFail (by decide +kernel) rfl rfl ?_
  refine ex_iload_n (pc := 0) 0 rfl rfl ?_
  obtain ⟨hs1, h⟩ := h
  refine ex_if_ne (pc := 1) 47 1 rfl (by decide) hs1 (fun hb => ?_) (fun hb => ?_)
  · have h := h.1 hb
    refine ex_iload_n (pc := 47) 30 rfl rfl ?_
    refine ex_iconst (pc := 48) 31 rfl ?_
    refine ex_icmp_ne (pc := 49) 93 32 rfl (by decide) hs1 ⟨by decide, by decide⟩ (fun hb => ?_) (fun hb => ?_)
    · have h := h.1 hb
      refine ex_iload_n (pc := 93) 61 rfl rfl ?_
      refine ex_bipush (pc := 94) 62 rfl (by decide) ?_
      refine ex_icmp_ne (pc := 96) 118 63 rfl (by decide) hs1 ⟨by decide, by decide⟩ (fun hb => ?_) (fun hb => ?_)
      · have h := h.1 hb
        refine ex_iconst (pc := 118) 76 rfl ?_
        refine ex_istore (pc := 119) 77 rfl rfl rfl ?_
        refine ex_iconst (pc := 121) 78 rfl ?_
        refine ex_istore (pc := 122) 79 rfl rfl rfl ?_
        exact h
      · have h := h.2 hb
        refine ex_aload_n (pc := 99) 64 rfl rfl ?_
        refine ex_iload_n (pc := 100) 65 rfl rfl ?_
        refine ex_bipush (pc := 101) 66 rfl (by decide) ?_
        refine ex_iload (pc := 103) 67 rfl rfl ?_
        refine ex_iload (pc := 105) 68 rfl rfl ?_
        refine ex_iload_n (pc := 107) 69 rfl rfl ?_
        refine ex_iload (pc := 108) 70 rfl rfl ?_
        refine ex_iconst (pc := 110) 71 rfl ?_
        refine ex_iload (pc := 111) 72 rfl rfl ?_
        refine ex_isub (pc := 113) 73 rfl ?_
        refine ex_invV (pc := 114) (M' := mX8_isSolvedWith) (As := [.inl p1, .inl 6, .inl p5, .inl p6, .inl p3, .inl p4, .inl (1 - p7)]) (st := []) 74 rfl clk8 rfl rfl calX8_isSolvedWith (Or.inl ww_990) rfl rfl ?_
        refine vm_call.mono h ?_
        rintro m2 _ ⟨r3, rfl, h⟩
        exact ex_iret (pc := 117) 75 rfl (Or.inr ⟨rfl, vm_b2i_01 _⟩) ⟨_, rfl, h⟩
    · have h := h.2 hb
      refine ex_aload_n (pc := 52) 33 rfl rfl ?_
      refine ex_iload_n (pc := 53) 34 rfl rfl ?_
      refine ex_iconst (pc := 54) 35 rfl ?_
      refine ex_iload_n (pc := 55) 36 rfl rfl ?_
      refine ex_iconst (pc := 56) 37 rfl ?_
      refine ex_iload (pc := 57) 38 rfl rfl ?_
      refine ex_iconst (pc := 59) 39 rfl ?_
      refine ex_isub (pc := 60) 40 rfl ?_
      refine ex_iconst (pc := 61) 41 rfl ?_
      refine ex_iconst (pc := 62) 42 rfl ?_
      refine ex_invV (pc := 63) (M' := mX8_isSolvedWith) (As := [.inl p1, .inl 1, .inl p3, .inl 0, .inl (p4 - 1), .inl 0, .inl 0]) (st := []) 43 rfl clk8 rfl rfl calX8_isSolvedWith (Or.inl ww_990) rfl rfl ?_
      refine vm_call.mono h ?_
      rintro m4 _ ⟨r5, rfl, h⟩
      refine ex_if_ne (pc := 66) 87 44 rfl (by decide) (vm_b2i_R _) (fun hb => ?_) (fun hb => ?_)
      · have h := h.1 (vm_b2i_n.mp hb)
        refine ex_iconst (pc := 87) 57 rfl ?_
        refine ex_goto (pc := 88) 92 58 rfl (by decide) ?_
        exact ex_iret (pc := 92) 60 rfl (Or.inr ⟨rfl, by decide⟩) ⟨true, rfl, h⟩
      · have h := h.2 (vm_b2i_0.mp hb)
        refine ex_aload_n (pc := 69) 45 rfl rfl ?_
        refine ex_iload_n (pc := 70) 46 rfl rfl ?_
        refine ex_iconst (pc := 71) 47 rfl ?_
        refine ex_iload_n (pc := 72) 48 rfl rfl ?_
        refine ex_iload (pc := 73) 49 rfl rfl ?_
        refine ex_iconst (pc := 75) 50 rfl ?_
        refine ex_iadd (pc := 76) 51 rfl ?_
        refine ex_bipush (pc := 77) 52 rfl (by decide) ?_
        refine ex_iconst (pc := 79) 53 rfl ?_
        refine ex_iconst (pc := 80) 54 rfl ?_
        refine ex_invV (pc := 81) (M' := mX8_isSolvedWith) (As := [.inl p1, .inl 1, .inl p3, .inl (p5 + 1), .inl 18, .inl 0, .inl 0]) (st := []) 55 rfl clk8 rfl rfl calX8_isSolvedWith (Or.inl ww_990) rfl rfl ?_
        refine vm_call.mono h ?_
        rintro m6 _ ⟨r7, rfl, h⟩
        refine ex_if_eq (pc := 84) 91 56 rfl (by decide) (vm_b2i_R _) (fun hb => ?_) (fun hb => ?_)
        · have h := h.1 (vm_b2i_0.mp hb)
          refine ex_iconst (pc := 91) 59 rfl ?_
          exact ex_iret (pc := 92) 60 rfl (Or.inr ⟨rfl, by decide⟩) ⟨false, rfl, h⟩
        · have h := h.2 (vm_b2i_n.mp hb)
          refine ex_iconst (pc := 87) 57 rfl ?_
          refine ex_goto (pc := 88) 92 58 rfl (by decide) ?_
          exact ex_iret (pc := 92) 60 rfl (Or.inr ⟨rfl, by decide⟩) ⟨true, rfl, h⟩
  · have h := h.2 hb
    refine ex_aload_n (pc := 4) 2 rfl rfl ?_
    refine ex_iload_n (pc := 5) 3 rfl rfl ?_
    refine ex_iconst (pc := 6) 4 rfl ?_
    refine ex_iload_n (pc := 7) 5 rfl rfl ?_
    refine ex_iload (pc := 8) 6 rfl rfl ?_
    refine ex_iconst (pc := 10) 7 rfl ?_
    refine ex_iload (pc := 11) 8 rfl rfl ?_
    refine ex_iconst (pc := 13) 9 rfl ?_
    refine ex_isub (pc := 14) 10 rfl ?_
    refine ex_iconst (pc := 15) 11 rfl ?_
    refine ex_invV (pc := 16) (M' := mX8_isSolvedWith) (As := [.inl p1, .inl 0, .inl p3, .inl p4, .inl 0, .inl (p5 - 1), .inl 0]) (st := []) 12 rfl clk8 rfl rfl calX8_isSolvedWith (Or.inl ww_990) rfl rfl ?_
    refine vm_call.mono h ?_
    rintro m8 _ ⟨r9, rfl, h⟩
    refine ex_if_ne (pc := 19) 41 13 rfl (by decide) (vm_b2i_R _) (fun hb => ?_) (fun hb => ?_)
    · have h := h.1 (vm_b2i_n.mp hb)
      refine ex_iconst (pc := 41) 26 rfl ?_
      refine ex_goto (pc := 42) 46 27 rfl (by decide) ?_
      exact ex_iret (pc := 46) 29 rfl (Or.inr ⟨rfl, by decide⟩) ⟨true, rfl, h⟩
    · have h := h.2 (vm_b2i_0.mp hb)
      refine ex_aload_n (pc := 22) 14 rfl rfl ?_
      refine ex_iload_n (pc := 23) 15 rfl rfl ?_
      refine ex_iconst (pc := 24) 16 rfl ?_
      refine ex_iload_n (pc := 25) 17 rfl rfl ?_
      refine ex_iload (pc := 26) 18 rfl rfl ?_
      refine ex_iload (pc := 28) 19 rfl rfl ?_
      refine ex_iconst (pc := 30) 20 rfl ?_
      refine ex_iadd (pc := 31) 21 rfl ?_
      refine ex_bipush (pc := 32) 22 rfl (by decide) ?_
      refine ex_iconst (pc := 34) 23 rfl ?_
      refine ex_invV (pc := 35) (M' := mX8_isSolvedWith) (As := [.inl p1, .inl 0, .inl p3, .inl p4, .inl (p6 + 1), .inl 6, .inl 0]) (st := []) 24 rfl clk8 rfl rfl calX8_isSolvedWith (Or.inl ww_990) rfl rfl ?_
      refine vm_call.mono h ?_
      rintro m10 _ ⟨r11, rfl, h⟩
      refine ex_if_eq (pc := 38) 45 25 rfl (by decide) (vm_b2i_R _) (fun hb => ?_) (fun hb => ?_)
      · have h := h.1 (vm_b2i_0.mp hb)
        refine ex_iconst (pc := 45) 28 rfl ?_
        exact ex_iret (pc := 46) 29 rfl (Or.inr ⟨rfl, by decide⟩) ⟨false, rfl, h⟩
      · have h := h.2 (vm_b2i_n.mp hb)
        refine ex_iconst (pc := 41) 26 rfl ?_
        refine ex_goto (pc := 42) 46 27 rfl (by decide) ?_
        exact ex_iret (pc := 46) 29 rfl (Or.inr ⟨rfl, by decide⟩) ⟨true, rfl, h⟩
set_option maxRecDepth 20000 in
theorem qX8_canFail_124 {G : vm_G} {d : Nat} {v1 : Int} {v2 : Int} {v3 : Int} {v4 : Int} {v5 : Int} {v6 : Int} {v7 : Int} {v8 : Int} {v9 : Int} {mem : vm_M} {Q : vm_M → Bool → Prop} (h : (vm_R v9) ∧ ((3 ≤ v9 → (∃ b2 : Bool, v8 = vm_b2i b2 ∧ Q mem b2)) ∧ (¬ 3 ≤ v9 → (vm_R v8) ∧ ((¬ v8 = 0 → (∃ b4 : Bool, v8 = vm_b2i b4 ∧ Q mem b4)) ∧ (v8 = 0 → vm_cb G d mX8_failsAt [.inr (.inr 24), .inl v1, .inl v2, .inl v3, .inl v4, .inl v5, .inl v9] mem (fun m5 r6 => vm_ex G (d + 1) mX8_canFail 124 [some (.inr (.inr 24)), some (.inl v1), some (.inl v2), some (.inl v3), some (.inl v4), some (.inl v5), some (.inl v6), some (.inl v7), some (.inl (vm_b2i r6)), some (.inl (v9 + 1))] [] m5 (vm_qb Q))))))) : vm_ex G (d + 1) mX8_canFail 124 [some (.inr (.inr 24)), some (.inl v1), some (.inl v2), some (.inl v3), some (.inl v4), some (.inl v5), some (.inl v6), some (.inl v7), some (.inl v8), some (.inl v9)] [] mem (vm_qb Q) := by
  refine ex_iload (pc := 124) 80 rfl rfl ?_
  refine ex_iconst (pc := 126) 81 rfl ?_
  obtain ⟨hs1, h⟩ := h
  refine ex_icmp_ge (pc := 127) 156 82 rfl (by decide) hs1 ⟨by decide, by decide⟩ (fun hb => ?_) (fun hb => ?_)
  · have h := h.1 hb
    refine ex_iload (pc := 156) 96 rfl rfl ?_
    obtain ⟨b2, hbe, h⟩ := h
    rw [hbe]
    exact ex_iret (pc := 158) 97 rfl (Or.inr ⟨rfl, vm_b2i_01 _⟩) ⟨_, rfl, h⟩
  · have h := h.2 hb
    refine ex_iload (pc := 130) 83 rfl rfl ?_
    obtain ⟨hs3, h⟩ := h
    refine ex_if_ne (pc := 132) 156 84 rfl (by decide) hs3 (fun hb => ?_) (fun hb => ?_)
    · have h := h.1 hb
      refine ex_iload (pc := 156) 96 rfl rfl ?_
      obtain ⟨b4, hbe, h⟩ := h
      rw [hbe]
      exact ex_iret (pc := 158) 97 rfl (Or.inr ⟨rfl, vm_b2i_01 _⟩) ⟨_, rfl, h⟩
    · have h := h.2 hb
      refine ex_aload_n (pc := 135) 85 rfl rfl ?_
      refine ex_iload_n (pc := 136) 86 rfl rfl ?_
      refine ex_iload_n (pc := 137) 87 rfl rfl ?_
      refine ex_iload_n (pc := 138) 88 rfl rfl ?_
      refine ex_iload (pc := 139) 89 rfl rfl ?_
      refine ex_iload (pc := 141) 90 rfl rfl ?_
      refine ex_iload (pc := 143) 91 rfl rfl ?_
      refine ex_invV (pc := 145) (M' := mX8_failsAt) (As := [.inl v1, .inl v2, .inl v3, .inl v4, .inl v5, .inl v9]) (st := []) 92 rfl clk8 rfl rfl calX8_failsAt (Or.inl ww_1030) rfl rfl ?_
      refine vm_call.mono h ?_
      rintro m5 _ ⟨r6, rfl, h⟩
      refine ex_istore (pc := 148) 93 rfl rfl rfl ?_
      refine ex_iinc (pc := 150) 94 rfl rfl rfl rfl ?_
      refine ex_goto (pc := 153) 124 95 rfl (by decide) ?_
      exact h
set_option maxRecDepth 20000 in
theorem qX8_isFact {G : vm_G} {d : Nat} {p0 : Int} {p1 : Int} {p2 : Int} {p3 : Int} {p4 : Int} {p5 : Int} {mem : vm_M} {Q : vm_M → Bool → Prop} (h : (vm_R p0) ∧ ((p0 = 0 → vm_cb G d mX8_isBag [.inl p1] mem (fun m2 r3 => (r3 = false → Q m2 false) ∧ (r3 = true → vm_cb G d mX8_isKind [.inl p2] m2 (fun m4 r5 => (r5 = false → Q m4 false) ∧ (r5 = true → vm_cb G d mX8_in [.inl p3, .inl 0, .inl 6] m4 (fun m6 r7 => (r7 = false → Q m6 false) ∧ (r7 = true → vm_cb G d mX8_in [.inl p4, .inl p3, .inl 6] m6 (fun m8 r9 => (r9 = false → Q m8 false) ∧ (r9 = true → (vm_R p5) ∧ ((¬ p5 = 0 → Q m8 false) ∧ (p5 = 0 → Q m8 true))))))))))) ∧ (p0 = 1 → vm_cb G d mX8_isBag [.inl p1] mem (fun m11 r12 => (r12 = false → Q m11 false) ∧ (r12 = true → vm_cb G d mX8_in [.inl p2, .inl 0, .inl 18] m11 (fun m13 r14 => (r14 = false → Q m13 false) ∧ (r14 = true → vm_cb G d mX8_in [.inl p3, .inl p2, .inl 18] m13 (fun m15 r16 => (r16 = false → Q m15 false) ∧ (r16 = true → (vm_R p4) ∧ ((¬ p4 = 0 → Q m15 false) ∧ (p4 = 0 → (vm_R p5) ∧ ((¬ p5 = 0 → Q m15 false) ∧ (p5 = 0 → Q m15 true))))))))))) ∧ (p0 = 2 → vm_cb G d mX8_isBag [.inl p1] mem (fun m19 r20 => (r20 = false → Q m19 false) ∧ (r20 = true → vm_cb G d mX8_isBag [.inl p2] m19 (fun m21 r22 => (r22 = false → Q m21 false) ∧ (r22 = true → vm_cb G d mX8_isBag [.inl p3] m21 (fun m23 r24 => (r24 = false → Q m23 false) ∧ (r24 = true → (vm_R p4) ∧ ((¬ p4 = 0 → Q m23 false) ∧ (p4 = 0 → (vm_R p5) ∧ ((¬ p5 = 0 → Q m23 false) ∧ (p5 = 0 → Q m23 true))))))))))) ∧ (p0 = 3 → vm_cb G d mX8_isBag [.inl p1] mem (fun m27 r28 => (r28 = false → Q m27 false) ∧ (r28 = true → vm_cb G d mX8_isBag [.inl p2] m27 (fun m29 r30 => (r30 = false → Q m29 false) ∧ (r30 = true → vm_cb G d mX8_isBag [.inl p3] m29 (fun m31 r32 => (r32 = false → Q m31 false) ∧ (r32 = true → (vm_R p4) ∧ ((¬ p4 = 0 → Q m31 false) ∧ (p4 = 0 → (vm_R p5) ∧ ((¬ p5 = 0 → Q m31 false) ∧ (p5 = 0 → Q m31 true))))))))))) ∧ (p0 = 4 → vm_cb G d mX8_isBag [.inl p1] mem (fun m35 r36 => (r36 = false → Q m35 false) ∧ (r36 = true → vm_cb G d mX8_isBag [.inl p2] m35 (fun m37 r38 => (r38 = false → Q m37 false) ∧ (r38 = true → vm_cb G d mX8_isBag [.inl p3] m37 (fun m39 r40 => (r40 = false → Q m39 false) ∧ (r40 = true → (vm_R p4) ∧ ((¬ p4 = 0 → Q m39 false) ∧ (p4 = 0 → (vm_R p5) ∧ ((¬ p5 = 0 → Q m39 false) ∧ (p5 = 0 → Q m39 true))))))))))) ∧ (p0 = 5 → vm_cb G d mX8_isBag [.inl p1] mem (fun m43 r44 => (r44 = false → Q m43 false) ∧ (r44 = true → vm_cb G d mX8_isBag [.inl p2] m43 (fun m45 r46 => (r46 = false → Q m45 false) ∧ (r46 = true → (vm_R p3) ∧ ((¬ p3 = 0 → Q m45 false) ∧ (p3 = 0 → (vm_R p4) ∧ ((¬ p4 = 0 → Q m45 false) ∧ (p4 = 0 → (vm_R p5) ∧ ((¬ p5 = 0 → Q m45 false) ∧ (p5 = 0 → Q m45 true))))))))))) ∧ (p0 < 0 ∨ 5 < p0 → ((¬ p0 = 6 → Q mem false) ∧ (p0 = 6 → vm_cb G d mX8_isBag [.inl p1] mem (fun m50 r51 => (r51 = false → Q m50 false) ∧ (r51 = true → vm_cb G d mX8_isKind [.inl p2] m50 (fun m52 r53 => (r53 = false → Q m52 false) ∧ (r53 = true → vm_cb G d mX8_isBag [.inl p3] m52 (fun m54 r55 => (r55 = false → Q m54 false) ∧ (r55 = true → vm_cb G d mX8_isKind [.inl p4] m54 (fun m56 r57 => (r57 = false → Q m56 false) ∧ (r57 = true → vm_cb G d mX8_in [.inl p5, .inl (-6), .inl 6] m56 (fun m58 r59 => (r59 = false → Q m58 false) ∧ (r59 = true → Q m58 true))))))))))))))) : vm_cb G (d + 1) mX8_isFact [.inl p0, .inl p1, .inl p2, .inl p3, .inl p4, .inl p5] mem Q := by
  refine vm_enter (al := [some (.inl p0), some (.inl p1), some (.inl p2), some (.inl p3), some (.inl p4), some (.inl p5)]) 0 okX8_isFact (by decide +kernel) rfl rfl ?_
  refine ex_iload_n (pc := 0) 0 rfl rfl ?_
  obtain ⟨hs1, h⟩ := h
  obtain ⟨h0, h1, h2, h3, h4, h5, h6⟩ := h
  refine ex_tsw (pc := 1) 1 rfl hs1 rfl ⟨fun hb => ⟨?_, by decide⟩, fun hb => ⟨?_, by decide⟩, fun hb => ⟨?_, by decide⟩, fun hb => ⟨?_, by decide⟩, fun hb => ⟨?_, by decide⟩, fun hb => ⟨?_, by decide⟩, trivial⟩ (fun hb => ?_) (by decide)
  · have h := h0 hb
    refine ex_iload_n (pc := 40) 2 rfl rfl ?_
    refine ex_invS (pc := 41) (M' := mX8_isBag) (As := [.inl p1]) (st := []) 3 rfl calX8_isBag (Or.inl ww_833) rfl rfl ?_
    refine vm_call.mono h ?_
    rintro m2 _ ⟨r3, rfl, h⟩
    refine ex_if_eq (pc := 44) 84 4 rfl (by decide) (vm_b2i_R _) (fun hb => ?_) (fun hb => ?_)
    · have h := h.1 (vm_b2i_0.mp hb)
      refine ex_iconst (pc := 84) 22 rfl ?_
      exact ex_iret (pc := 85) 23 rfl (Or.inr ⟨rfl, by decide⟩) ⟨false, rfl, h⟩
    · have h := h.2 (vm_b2i_n.mp hb)
      refine ex_iload_n (pc := 47) 5 rfl rfl ?_
      refine ex_invS (pc := 48) (M' := mX8_isKind) (As := [.inl p2]) (st := []) 6 rfl calX8_isKind (Or.inl ww_836) rfl rfl ?_
      refine vm_call.mono h ?_
      rintro m4 _ ⟨r5, rfl, h⟩
      refine ex_if_eq (pc := 51) 84 7 rfl (by decide) (vm_b2i_R _) (fun hb => ?_) (fun hb => ?_)
      · have h := h.1 (vm_b2i_0.mp hb)
        refine ex_iconst (pc := 84) 22 rfl ?_
        exact ex_iret (pc := 85) 23 rfl (Or.inr ⟨rfl, by decide⟩) ⟨false, rfl, h⟩
      · have h := h.2 (vm_b2i_n.mp hb)
        refine ex_iload_n (pc := 54) 8 rfl rfl ?_
        refine ex_iconst (pc := 55) 9 rfl ?_
        refine ex_bipush (pc := 56) 10 rfl (by decide) ?_
        refine ex_invS (pc := 58) (M' := mX8_in) (As := [.inl p3, .inl 0, .inl 6]) (st := []) 11 rfl calX8_in (Or.inl ww_815) rfl rfl ?_
        refine vm_call.mono h ?_
        rintro m6 _ ⟨r7, rfl, h⟩
        refine ex_if_eq (pc := 61) 84 12 rfl (by decide) (vm_b2i_R _) (fun hb => ?_) (fun hb => ?_)
        · have h := h.1 (vm_b2i_0.mp hb)
          refine ex_iconst (pc := 84) 22 rfl ?_
          exact ex_iret (pc := 85) 23 rfl (Or.inr ⟨rfl, by decide⟩) ⟨false, rfl, h⟩
        · have h := h.2 (vm_b2i_n.mp hb)
          refine ex_iload (pc := 64) 13 rfl rfl ?_
          refine ex_iload_n (pc := 66) 14 rfl rfl ?_
          refine ex_bipush (pc := 67) 15 rfl (by decide) ?_
          refine ex_invS (pc := 69) (M' := mX8_in) (As := [.inl p4, .inl p3, .inl 6]) (st := []) 16 rfl calX8_in (Or.inl ww_815) rfl rfl ?_
          refine vm_call.mono h ?_
          rintro m8 _ ⟨r9, rfl, h⟩
          refine ex_if_eq (pc := 72) 84 17 rfl (by decide) (vm_b2i_R _) (fun hb => ?_) (fun hb => ?_)
          · have h := h.1 (vm_b2i_0.mp hb)
            refine ex_iconst (pc := 84) 22 rfl ?_
            exact ex_iret (pc := 85) 23 rfl (Or.inr ⟨rfl, by decide⟩) ⟨false, rfl, h⟩
          · have h := h.2 (vm_b2i_n.mp hb)
            refine ex_iload (pc := 75) 18 rfl rfl ?_
            obtain ⟨hs10, h⟩ := h
            refine ex_if_ne (pc := 77) 84 19 rfl (by decide) hs10 (fun hb => ?_) (fun hb => ?_)
            · have h := h.1 hb
              refine ex_iconst (pc := 84) 22 rfl ?_
              exact ex_iret (pc := 85) 23 rfl (Or.inr ⟨rfl, by decide⟩) ⟨false, rfl, h⟩
            · have h := h.2 hb
              refine ex_iconst (pc := 80) 20 rfl ?_
              refine ex_goto (pc := 81) 85 21 rfl (by decide) ?_
              exact ex_iret (pc := 85) 23 rfl (Or.inr ⟨rfl, by decide⟩) ⟨true, rfl, h⟩
  · have h := h1 hb
    refine ex_iload_n (pc := 86) 24 rfl rfl ?_
    refine ex_invS (pc := 87) (M' := mX8_isBag) (As := [.inl p1]) (st := []) 25 rfl calX8_isBag (Or.inl ww_833) rfl rfl ?_
    refine vm_call.mono h ?_
    rintro m11 _ ⟨r12, rfl, h⟩
    refine ex_if_eq (pc := 90) 127 26 rfl (by decide) (vm_b2i_R _) (fun hb => ?_) (fun hb => ?_)
    · have h := h.1 (vm_b2i_0.mp hb)
      refine ex_iconst (pc := 127) 43 rfl ?_
      exact ex_iret (pc := 128) 44 rfl (Or.inr ⟨rfl, by decide⟩) ⟨false, rfl, h⟩
    · have h := h.2 (vm_b2i_n.mp hb)
      refine ex_iload_n (pc := 93) 27 rfl rfl ?_
      refine ex_iconst (pc := 94) 28 rfl ?_
      refine ex_bipush (pc := 95) 29 rfl (by decide) ?_
      refine ex_invS (pc := 97) (M' := mX8_in) (As := [.inl p2, .inl 0, .inl 18]) (st := []) 30 rfl calX8_in (Or.inl ww_815) rfl rfl ?_
      refine vm_call.mono h ?_
      rintro m13 _ ⟨r14, rfl, h⟩
      refine ex_if_eq (pc := 100) 127 31 rfl (by decide) (vm_b2i_R _) (fun hb => ?_) (fun hb => ?_)
      · have h := h.1 (vm_b2i_0.mp hb)
        refine ex_iconst (pc := 127) 43 rfl ?_
        exact ex_iret (pc := 128) 44 rfl (Or.inr ⟨rfl, by decide⟩) ⟨false, rfl, h⟩
      · have h := h.2 (vm_b2i_n.mp hb)
        refine ex_iload_n (pc := 103) 32 rfl rfl ?_
        refine ex_iload_n (pc := 104) 33 rfl rfl ?_
        refine ex_bipush (pc := 105) 34 rfl (by decide) ?_
        refine ex_invS (pc := 107) (M' := mX8_in) (As := [.inl p3, .inl p2, .inl 18]) (st := []) 35 rfl calX8_in (Or.inl ww_815) rfl rfl ?_
        refine vm_call.mono h ?_
        rintro m15 _ ⟨r16, rfl, h⟩
        refine ex_if_eq (pc := 110) 127 36 rfl (by decide) (vm_b2i_R _) (fun hb => ?_) (fun hb => ?_)
        · have h := h.1 (vm_b2i_0.mp hb)
          refine ex_iconst (pc := 127) 43 rfl ?_
          exact ex_iret (pc := 128) 44 rfl (Or.inr ⟨rfl, by decide⟩) ⟨false, rfl, h⟩
        · have h := h.2 (vm_b2i_n.mp hb)
          refine ex_iload (pc := 113) 37 rfl rfl ?_
          obtain ⟨hs17, h⟩ := h
          refine ex_if_ne (pc := 115) 127 38 rfl (by decide) hs17 (fun hb => ?_) (fun hb => ?_)
          · have h := h.1 hb
            refine ex_iconst (pc := 127) 43 rfl ?_
            exact ex_iret (pc := 128) 44 rfl (Or.inr ⟨rfl, by decide⟩) ⟨false, rfl, h⟩
          · have h := h.2 hb
            refine ex_iload (pc := 118) 39 rfl rfl ?_
            obtain ⟨hs18, h⟩ := h
            refine ex_if_ne (pc := 120) 127 40 rfl (by decide) hs18 (fun hb => ?_) (fun hb => ?_)
            · have h := h.1 hb
              refine ex_iconst (pc := 127) 43 rfl ?_
              exact ex_iret (pc := 128) 44 rfl (Or.inr ⟨rfl, by decide⟩) ⟨false, rfl, h⟩
            · have h := h.2 hb
              refine ex_iconst (pc := 123) 41 rfl ?_
              refine ex_goto (pc := 124) 128 42 rfl (by decide) ?_
              exact ex_iret (pc := 128) 44 rfl (Or.inr ⟨rfl, by decide⟩) ⟨true, rfl, h⟩
  · have h := h2 hb
    refine ex_iload_n (pc := 129) 45 rfl rfl ?_
    refine ex_invS (pc := 130) (M' := mX8_isBag) (As := [.inl p1]) (st := []) 46 rfl calX8_isBag (Or.inl ww_833) rfl rfl ?_
    refine vm_call.mono h ?_
    rintro m19 _ ⟨r20, rfl, h⟩
    refine ex_if_eq (pc := 133) 164 47 rfl (by decide) (vm_b2i_R _) (fun hb => ?_) (fun hb => ?_)
    · have h := h.1 (vm_b2i_0.mp hb)
      refine ex_iconst (pc := 164) 60 rfl ?_
      exact ex_iret (pc := 165) 61 rfl (Or.inr ⟨rfl, by decide⟩) ⟨false, rfl, h⟩
    · have h := h.2 (vm_b2i_n.mp hb)
      refine ex_iload_n (pc := 136) 48 rfl rfl ?_
      refine ex_invS (pc := 137) (M' := mX8_isBag) (As := [.inl p2]) (st := []) 49 rfl calX8_isBag (Or.inl ww_833) rfl rfl ?_
      refine vm_call.mono h ?_
      rintro m21 _ ⟨r22, rfl, h⟩
      refine ex_if_eq (pc := 140) 164 50 rfl (by decide) (vm_b2i_R _) (fun hb => ?_) (fun hb => ?_)
      · have h := h.1 (vm_b2i_0.mp hb)
        refine ex_iconst (pc := 164) 60 rfl ?_
        exact ex_iret (pc := 165) 61 rfl (Or.inr ⟨rfl, by decide⟩) ⟨false, rfl, h⟩
      · have h := h.2 (vm_b2i_n.mp hb)
        refine ex_iload_n (pc := 143) 51 rfl rfl ?_
        refine ex_invS (pc := 144) (M' := mX8_isBag) (As := [.inl p3]) (st := []) 52 rfl calX8_isBag (Or.inl ww_833) rfl rfl ?_
        refine vm_call.mono h ?_
        rintro m23 _ ⟨r24, rfl, h⟩
        refine ex_if_eq (pc := 147) 164 53 rfl (by decide) (vm_b2i_R _) (fun hb => ?_) (fun hb => ?_)
        · have h := h.1 (vm_b2i_0.mp hb)
          refine ex_iconst (pc := 164) 60 rfl ?_
          exact ex_iret (pc := 165) 61 rfl (Or.inr ⟨rfl, by decide⟩) ⟨false, rfl, h⟩
        · have h := h.2 (vm_b2i_n.mp hb)
          refine ex_iload (pc := 150) 54 rfl rfl ?_
          obtain ⟨hs25, h⟩ := h
          refine ex_if_ne (pc := 152) 164 55 rfl (by decide) hs25 (fun hb => ?_) (fun hb => ?_)
          · have h := h.1 hb
            refine ex_iconst (pc := 164) 60 rfl ?_
            exact ex_iret (pc := 165) 61 rfl (Or.inr ⟨rfl, by decide⟩) ⟨false, rfl, h⟩
          · have h := h.2 hb
            refine ex_iload (pc := 155) 56 rfl rfl ?_
            obtain ⟨hs26, h⟩ := h
            refine ex_if_ne (pc := 157) 164 57 rfl (by decide) hs26 (fun hb => ?_) (fun hb => ?_)
            · have h := h.1 hb
              refine ex_iconst (pc := 164) 60 rfl ?_
              exact ex_iret (pc := 165) 61 rfl (Or.inr ⟨rfl, by decide⟩) ⟨false, rfl, h⟩
            · have h := h.2 hb
              refine ex_iconst (pc := 160) 58 rfl ?_
              refine ex_goto (pc := 161) 165 59 rfl (by decide) ?_
              exact ex_iret (pc := 165) 61 rfl (Or.inr ⟨rfl, by decide⟩) ⟨true, rfl, h⟩
  · have h := h3 hb
    refine ex_iload_n (pc := 129) 45 rfl rfl ?_
    refine ex_invS (pc := 130) (M' := mX8_isBag) (As := [.inl p1]) (st := []) 46 rfl calX8_isBag (Or.inl ww_833) rfl rfl ?_
    refine vm_call.mono h ?_
    rintro m27 _ ⟨r28, rfl, h⟩
    refine ex_if_eq (pc := 133) 164 47 rfl (by decide) (vm_b2i_R _) (fun hb => ?_) (fun hb => ?_)
    · have h := h.1 (vm_b2i_0.mp hb)
      refine ex_iconst (pc := 164) 60 rfl ?_
      exact ex_iret (pc := 165) 61 rfl (Or.inr ⟨rfl, by decide⟩) ⟨false, rfl, h⟩
    · have h := h.2 (vm_b2i_n.mp hb)
      refine ex_iload_n (pc := 136) 48 rfl rfl ?_
      refine ex_invS (pc := 137) (M' := mX8_isBag) (As := [.inl p2]) (st := []) 49 rfl calX8_isBag (Or.inl ww_833) rfl rfl ?_
      refine vm_call.mono h ?_
      rintro m29 _ ⟨r30, rfl, h⟩
      refine ex_if_eq (pc := 140) 164 50 rfl (by decide) (vm_b2i_R _) (fun hb => ?_) (fun hb => ?_)
      · have h := h.1 (vm_b2i_0.mp hb)
        refine ex_iconst (pc := 164) 60 rfl ?_
        exact ex_iret (pc := 165) 61 rfl (Or.inr ⟨rfl, by decide⟩) ⟨false, rfl, h⟩
      · have h := h.2 (vm_b2i_n.mp hb)
        refine ex_iload_n (pc := 143) 51 rfl rfl ?_
        refine ex_invS (pc := 144) (M' := mX8_isBag) (As := [.inl p3]) (st := []) 52 rfl calX8_isBag (Or.inl ww_833) rfl rfl ?_
        refine vm_call.mono h ?_
        rintro m31 _ ⟨r32, rfl, h⟩
        refine ex_if_eq (pc := 147) 164 53 rfl (by decide) (vm_b2i_R _) (fun hb => ?_) (fun hb => ?_)
        · have h := h.1 (vm_b2i_0.mp hb)
          refine ex_iconst (pc := 164) 60 rfl ?_
          exact ex_iret (pc := 165) 61 rfl (Or.inr ⟨rfl, by decide⟩) ⟨false, rfl, h⟩
        · have h := h.2 (vm_b2i_n.mp hb)
          refine ex_iload (pc := 150) 54 rfl rfl ?_
          obtain ⟨hs33, h⟩ := h
          refine ex_if_ne (pc := 152) 164 55 rfl (by decide) hs33 (fun hb => ?_) (fun hb => ?_)
          · have h := h.1 hb
            refine ex_iconst (pc := 164) 60 rfl ?_
            exact ex_iret (pc := 165) 61 rfl (Or.inr ⟨rfl, by decide⟩) ⟨false, rfl, h⟩
          · have h := h.2 hb
            refine ex_iload (pc := 155) 56 rfl rfl ?_
            obtain ⟨hs34, h⟩ := h
            refine ex_if_ne (pc := 157) 164 57 rfl (by decide) hs34 (fun hb => ?_) (fun hb => ?_)
            · have h := h.1 hb
              refine ex_iconst (pc := 164) 60 rfl ?_
              exact ex_iret (pc := 165) 61 rfl (Or.inr ⟨rfl, by decide⟩) ⟨false, rfl, h⟩
            · have h := h.2 hb
              refine ex_iconst (pc := 160) 58 rfl ?_
              refine ex_goto (pc := 161) 165 59 rfl (by decide) ?_
              exact ex_iret (pc := 165) 61 rfl (Or.inr ⟨rfl, by decide⟩) ⟨true, rfl, h⟩
  · have h := h4 hb
    refine ex_iload_n (pc := 129) 45 rfl rfl ?_
    refine ex_invS (pc := 130) (M' := mX8_isBag) (As := [.inl p1]) (st := []) 46 rfl calX8_isBag (Or.inl ww_833) rfl rfl ?_
    refine vm_call.mono h ?_
    rintro m35 _ ⟨r36, rfl, h⟩
    refine ex_if_eq (pc := 133) 164 47 rfl (by decide) (vm_b2i_R _) (fun hb => ?_) (fun hb => ?_)
    · have h := h.1 (vm_b2i_0.mp hb)
      refine ex_iconst (pc := 164) 60 rfl ?_
      exact ex_iret (pc := 165) 61 rfl (Or.inr ⟨rfl, by decide⟩) ⟨false, rfl, h⟩
    · have h := h.2 (vm_b2i_n.mp hb)
      refine ex_iload_n (pc := 136) 48 rfl rfl ?_
      refine ex_invS (pc := 137) (M' := mX8_isBag) (As := [.inl p2]) (st := []) 49 rfl calX8_isBag (Or.inl ww_833) rfl rfl ?_
      refine vm_call.mono h ?_
      rintro m37 _ ⟨r38, rfl, h⟩
      refine ex_if_eq (pc := 140) 164 50 rfl (by decide) (vm_b2i_R _) (fun hb => ?_) (fun hb => ?_)
      · have h := h.1 (vm_b2i_0.mp hb)
        refine ex_iconst (pc := 164) 60 rfl ?_
        exact ex_iret (pc := 165) 61 rfl (Or.inr ⟨rfl, by decide⟩) ⟨false, rfl, h⟩
      · have h := h.2 (vm_b2i_n.mp hb)
        refine ex_iload_n (pc := 143) 51 rfl rfl ?_
        refine ex_invS (pc := 144) (M' := mX8_isBag) (As := [.inl p3]) (st := []) 52 rfl calX8_isBag (Or.inl ww_833) rfl rfl ?_
        refine vm_call.mono h ?_
        rintro m39 _ ⟨r40, rfl, h⟩
        refine ex_if_eq (pc := 147) 164 53 rfl (by decide) (vm_b2i_R _) (fun hb => ?_) (fun hb => ?_)
        · have h := h.1 (vm_b2i_0.mp hb)
          refine ex_iconst (pc := 164) 60 rfl ?_
          exact ex_iret (pc := 165) 61 rfl (Or.inr ⟨rfl, by decide⟩) ⟨false, rfl, h⟩
        · have h := h.2 (vm_b2i_n.mp hb)
          refine ex_iload (pc := 150) 54 rfl rfl ?_
          obtain ⟨hs41, h⟩ := h
          refine ex_if_ne (pc := 152) 164 55 rfl (by decide) hs41 (fun hb => ?_) (fun hb => ?_)
          · have h := h.1 hb
            refine ex_iconst (pc := 164) 60 rfl ?_
            exact ex_iret (pc := 165) 61 rfl (Or.inr ⟨rfl, by decide⟩) ⟨false, rfl, h⟩
          · have h := h.2 hb
            refine ex_iload (pc := 155) 56 rfl rfl ?_
            obtain ⟨hs42, h⟩ := h
            refine ex_if_ne (pc := 157) 164 57 rfl (by decide) hs42 (fun hb => ?_) (fun hb => ?_)
            · have h := h.1 hb
              refine ex_iconst (pc := 164) 60 rfl ?_
              exact ex_iret (pc := 165) 61 rfl (Or.inr ⟨rfl, by decide⟩) ⟨false, rfl, h⟩
            · have h := h.2 hb
              refine ex_iconst (pc := 160) 58 rfl ?_
              refine ex_goto (pc := 161) 165 59 rfl (by decide) ?_
              exact ex_iret (pc := 165) 61 rfl (Or.inr ⟨rfl, by decide⟩) ⟨true, rfl, h⟩
  · have h := h5 hb
    refine ex_iload_n (pc := 166) 62 rfl rfl ?_
    refine ex_invS (pc := 167) (M' := mX8_isBag) (As := [.inl p1]) (st := []) 63 rfl calX8_isBag (Or.inl ww_833) rfl rfl ?_
    refine vm_call.mono h ?_
    rintro m43 _ ⟨r44, rfl, h⟩
    refine ex_if_eq (pc := 170) 198 64 rfl (by decide) (vm_b2i_R _) (fun hb => ?_) (fun hb => ?_)
    · have h := h.1 (vm_b2i_0.mp hb)
      refine ex_iconst (pc := 198) 76 rfl ?_
      exact ex_iret (pc := 199) 77 rfl (Or.inr ⟨rfl, by decide⟩) ⟨false, rfl, h⟩
    · have h := h.2 (vm_b2i_n.mp hb)
      refine ex_iload_n (pc := 173) 65 rfl rfl ?_
      refine ex_invS (pc := 174) (M' := mX8_isBag) (As := [.inl p2]) (st := []) 66 rfl calX8_isBag (Or.inl ww_833) rfl rfl ?_
      refine vm_call.mono h ?_
      rintro m45 _ ⟨r46, rfl, h⟩
      refine ex_if_eq (pc := 177) 198 67 rfl (by decide) (vm_b2i_R _) (fun hb => ?_) (fun hb => ?_)
      · have h := h.1 (vm_b2i_0.mp hb)
        refine ex_iconst (pc := 198) 76 rfl ?_
        exact ex_iret (pc := 199) 77 rfl (Or.inr ⟨rfl, by decide⟩) ⟨false, rfl, h⟩
      · have h := h.2 (vm_b2i_n.mp hb)
        refine ex_iload_n (pc := 180) 68 rfl rfl ?_
        obtain ⟨hs47, h⟩ := h
        refine ex_if_ne (pc := 181) 198 69 rfl (by decide) hs47 (fun hb => ?_) (fun hb => ?_)
        · have h := h.1 hb
          refine ex_iconst (pc := 198) 76 rfl ?_
          exact ex_iret (pc := 199) 77 rfl (Or.inr ⟨rfl, by decide⟩) ⟨false, rfl, h⟩
        · have h := h.2 hb
          refine ex_iload (pc := 184) 70 rfl rfl ?_
          obtain ⟨hs48, h⟩ := h
          refine ex_if_ne (pc := 186) 198 71 rfl (by decide) hs48 (fun hb => ?_) (fun hb => ?_)
          · have h := h.1 hb
            refine ex_iconst (pc := 198) 76 rfl ?_
            exact ex_iret (pc := 199) 77 rfl (Or.inr ⟨rfl, by decide⟩) ⟨false, rfl, h⟩
          · have h := h.2 hb
            refine ex_iload (pc := 189) 72 rfl rfl ?_
            obtain ⟨hs49, h⟩ := h
            refine ex_if_ne (pc := 191) 198 73 rfl (by decide) hs49 (fun hb => ?_) (fun hb => ?_)
            · have h := h.1 hb
              refine ex_iconst (pc := 198) 76 rfl ?_
              exact ex_iret (pc := 199) 77 rfl (Or.inr ⟨rfl, by decide⟩) ⟨false, rfl, h⟩
            · have h := h.2 hb
              refine ex_iconst (pc := 194) 74 rfl ?_
              refine ex_goto (pc := 195) 199 75 rfl (by decide) ?_
              exact ex_iret (pc := 199) 77 rfl (Or.inr ⟨rfl, by decide⟩) ⟨true, rfl, h⟩
  · have h := h6 hb
    refine ex_iload_n (pc := 200) 78 rfl rfl ?_
    refine ex_bipush (pc := 201) 79 rfl (by decide) ?_
    refine ex_icmp_ne (pc := 203) 251 80 rfl (by decide) hs1 ⟨by decide, by decide⟩ (fun hb => ?_) (fun hb => ?_)
    · have h := h.1 hb
      refine ex_iconst (pc := 251) 100 rfl ?_
      exact ex_iret (pc := 252) 101 rfl (Or.inr ⟨rfl, by decide⟩) ⟨false, rfl, h⟩
    · have h := h.2 hb
      refine ex_iload_n (pc := 206) 81 rfl rfl ?_
      refine ex_invS (pc := 207) (M' := mX8_isBag) (As := [.inl p1]) (st := []) 82 rfl calX8_isBag (Or.inl ww_833) rfl rfl ?_
      refine vm_call.mono h ?_
      rintro m50 _ ⟨r51, rfl, h⟩
      refine ex_if_eq (pc := 210) 251 83 rfl (by decide) (vm_b2i_R _) (fun hb => ?_) (fun hb => ?_)
      · have h := h.1 (vm_b2i_0.mp hb)
        refine ex_iconst (pc := 251) 100 rfl ?_
        exact ex_iret (pc := 252) 101 rfl (Or.inr ⟨rfl, by decide⟩) ⟨false, rfl, h⟩
      · have h := h.2 (vm_b2i_n.mp hb)
        refine ex_iload_n (pc := 213) 84 rfl rfl ?_
        refine ex_invS (pc := 214) (M' := mX8_isKind) (As := [.inl p2]) (st := []) 85 rfl calX8_isKind (Or.inl ww_836) rfl rfl ?_
        refine vm_call.mono h ?_
        rintro m52 _ ⟨r53, rfl, h⟩
        refine ex_if_eq (pc := 217) 251 86 rfl (by decide) (vm_b2i_R _) (fun hb => ?_) (fun hb => ?_)
        · have h := h.1 (vm_b2i_0.mp hb)
          refine ex_iconst (pc := 251) 100 rfl ?_
          exact ex_iret (pc := 252) 101 rfl (Or.inr ⟨rfl, by decide⟩) ⟨false, rfl, h⟩
        · have h := h.2 (vm_b2i_n.mp hb)
          refine ex_iload_n (pc := 220) 87 rfl rfl ?_
          refine ex_invS (pc := 221) (M' := mX8_isBag) (As := [.inl p3]) (st := []) 88 rfl calX8_isBag (Or.inl ww_833) rfl rfl ?_
          refine vm_call.mono h ?_
          rintro m54 _ ⟨r55, rfl, h⟩
          refine ex_if_eq (pc := 224) 251 89 rfl (by decide) (vm_b2i_R _) (fun hb => ?_) (fun hb => ?_)
          · have h := h.1 (vm_b2i_0.mp hb)
            refine ex_iconst (pc := 251) 100 rfl ?_
            exact ex_iret (pc := 252) 101 rfl (Or.inr ⟨rfl, by decide⟩) ⟨false, rfl, h⟩
          · have h := h.2 (vm_b2i_n.mp hb)
            refine ex_iload (pc := 227) 90 rfl rfl ?_
            refine ex_invS (pc := 229) (M' := mX8_isKind) (As := [.inl p4]) (st := []) 91 rfl calX8_isKind (Or.inl ww_836) rfl rfl ?_
            refine vm_call.mono h ?_
            rintro m56 _ ⟨r57, rfl, h⟩
            refine ex_if_eq (pc := 232) 251 92 rfl (by decide) (vm_b2i_R _) (fun hb => ?_) (fun hb => ?_)
            · have h := h.1 (vm_b2i_0.mp hb)
              refine ex_iconst (pc := 251) 100 rfl ?_
              exact ex_iret (pc := 252) 101 rfl (Or.inr ⟨rfl, by decide⟩) ⟨false, rfl, h⟩
            · have h := h.2 (vm_b2i_n.mp hb)
              refine ex_iload (pc := 235) 93 rfl rfl ?_
              refine ex_bipush (pc := 237) 94 rfl (by decide) ?_
              refine ex_bipush (pc := 239) 95 rfl (by decide) ?_
              refine ex_invS (pc := 241) (M' := mX8_in) (As := [.inl p5, .inl (-6), .inl 6]) (st := []) 96 rfl calX8_in (Or.inl ww_815) rfl rfl ?_
              refine vm_call.mono h ?_
              rintro m58 _ ⟨r59, rfl, h⟩
              refine ex_if_eq (pc := 244) 251 97 rfl (by decide) (vm_b2i_R _) (fun hb => ?_) (fun hb => ?_)
              · have h := h.1 (vm_b2i_0.mp hb)
                refine ex_iconst (pc := 251) 100 rfl ?_
                exact ex_iret (pc := 252) 101 rfl (Or.inr ⟨rfl, by decide⟩) ⟨false, rfl, h⟩
              · have h := h.2 (vm_b2i_n.mp hb)
                refine ex_iconst (pc := 247) 98 rfl ?_
                refine ex_goto (pc := 248) 252 99 rfl (by decide) ?_
                exact ex_iret (pc := 252) 101 rfl (Or.inr ⟨rfl, by decide⟩) ⟨true, rfl, h⟩
set_option maxRecDepth 20000 in
theorem qX8_most {G : vm_G} {d : Nat} {p1 : Int} {mem : vm_M} {Q : vm_M → Int → Prop} (h : vm_cb G d mX8_in [.inl p1, .inl 1, .inl 6] mem (fun m1 r2 => (r2 = true → vm_cn G d mX8_keep [.inr (.inr 24)] m1 (fun m3 => (∀ m5, m5 = vm_up m3 25 0 p1 → Q m5 (m3 25 0)))) ∧ (r2 = false → Q m1 (-2)))) : vm_ci G (d + 1) mX8_most [.inr (.inr 24), .inl p1] mem Q := by
  refine vm_enter (al := [some (.inr (.inr 24)), some (.inl p1), none]) 1 okX8_most (by decide +kernel) rfl rfl ?_
  refine ex_iload_n (pc := 0) 0 rfl rfl ?_
  refine ex_iconst (pc := 1) 1 rfl ?_
  refine ex_bipush (pc := 2) 2 rfl (by decide) ?_
  refine ex_invS (pc := 4) (M' := mX8_in) (As := [.inl p1, .inl 1, .inl 6]) (st := []) 3 rfl calX8_in (Or.inl ww_815) rfl rfl ?_
  refine vm_call.mono h ?_
  rintro m1 _ ⟨r2, rfl, h⟩
  refine ex_if_ne (pc := 7) 13 4 rfl (by decide) (vm_b2i_R _) (fun hb => ?_) (fun hb => ?_)
  · have h := h.1 (vm_b2i_n.mp hb)
    refine ex_aload_n (pc := 13) 7 rfl rfl ?_
    refine ex_invV (pc := 14) (M' := mX8_keep) (As := []) (st := []) 8 rfl clk8 rfl rfl calX8_keep (Or.inl ww_818) rfl rfl ?_
    refine vm_call.mono h ?_
    rintro m3 _ ⟨rfl, h⟩
    refine ex_aload_n (pc := 17) 9 rfl rfl ?_
    refine ex_geta (pc := 18) 0 10 rfl clk8 rfl rfl (Or.inl ww_740) rfl ?_
    refine ex_iconst (pc := 21) 11 rfl ?_
    refine ex_iaload (pc := 22) 12 rfl rfl rfl ⟨by decide, by decide⟩ ?_
    refine ex_istore_n (pc := 23) 13 rfl rfl rfl ?_
    refine ex_aload_n (pc := 24) 14 rfl rfl ?_
    refine ex_geta (pc := 25) 0 15 rfl clk8 rfl rfl (Or.inl ww_740) rfl ?_
    refine ex_iconst (pc := 28) 16 rfl ?_
    refine ex_iload_n (pc := 29) 17 rfl rfl ?_
    have h := h _ rfl
    refine ex_iastore (pc := 30) 18 rfl rfl rfl ⟨by decide, by decide⟩ ?_
    generalize vm_up m3 25 0 p1 = m5 at h ⊢
    refine ex_iload_n (pc := 31) 19 rfl rfl ?_
    exact ex_iret (pc := 32) 20 rfl (Or.inl rfl) ⟨_, rfl, h⟩
  · have h := h.2 (vm_b2i_0.mp hb)
    refine ex_bipush (pc := 10) 5 rfl (by decide) ?_
    exact ex_iret (pc := 12) 6 rfl (Or.inl rfl) ⟨_, rfl, h⟩
set_option maxRecDepth 20000 in
theorem qX8_tryFact {G : vm_G} {d : Nat} {p1 : Int} {p2 : Int} {p3 : Int} {p4 : Int} {p5 : Int} {p6 : Int} {p7 : Bool} {mem : vm_M} {Q : vm_M → Int → Prop} (h : vm_cb G d mX8_isFact [.inl p1, .inl p2, .inl p3, .inl p4, .inl p5, .inl p6] mem (fun m1 r2 => (r2 = true → (vm_R (m1 25 1)) ∧ ((¬ (m1 25 1) = 10 → vm_cn G d mX8_keepIf [.inr (.inr 24), .inl (vm_b2i p7)] m1 (fun m4 => (0 ≤ (2 + (6 * (m4 25 1))) ∧ (2 + (6 * (m4 25 1))) < 62) ∧ (∀ m7, m7 = vm_up m4 25 (2 + (6 * (m4 25 1))) p1 → (0 ≤ ((2 + (6 * (m4 25 1))) + 1) ∧ ((2 + (6 * (m4 25 1))) + 1) < 62) ∧ (∀ m9, m9 = vm_up m7 25 ((2 + (6 * (m4 25 1))) + 1) p2 → (0 ≤ ((2 + (6 * (m4 25 1))) + 2) ∧ ((2 + (6 * (m4 25 1))) + 2) < 62) ∧ (∀ m11, m11 = vm_up m9 25 ((2 + (6 * (m4 25 1))) + 2) p3 → (0 ≤ ((2 + (6 * (m4 25 1))) + 3) ∧ ((2 + (6 * (m4 25 1))) + 3) < 62) ∧ (∀ m13, m13 = vm_up m11 25 ((2 + (6 * (m4 25 1))) + 3) p4 → (0 ≤ ((2 + (6 * (m4 25 1))) + 4) ∧ ((2 + (6 * (m4 25 1))) + 4) < 62) ∧ (∀ m15, m15 = vm_up m13 25 ((2 + (6 * (m4 25 1))) + 4) p5 → (0 ≤ ((2 + (6 * (m4 25 1))) + 5) ∧ ((2 + (6 * (m4 25 1))) + 5) < 62) ∧ (∀ m17, m17 = vm_up m15 25 ((2 + (6 * (m4 25 1))) + 5) p6 → (∀ m18, m18 = vm_up m17 25 1 ((m17 25 1) + 1) → Q m18 ((m18 25 1) - 1)))))))))) ∧ ((m1 25 1) = 10 → Q m1 (-4)))) ∧ (r2 = false → Q m1 (-2)))) : vm_ci G (d + 1) mX8_tryFact [.inr (.inr 24), .inl p1, .inl p2, .inl p3, .inl p4, .inl p5, .inl p6, .inl (vm_b2i p7)] mem Q := by
  refine vm_enter (al := [some (.inr (.inr 24)), some (.inl p1), some (.inl p2), some (.inl p3), some (.inl p4), some (.inl p5), some (.inl p6), some (.inl (vm_b2i p7)), none]) 1 okX8_tryFact (by decide +kernel) rfl rfl ?_
  refine ex_iload_n (pc := 0) 0 rfl rfl ?_
  refine ex_iload_n (pc := 1) 1 rfl rfl ?_
  refine ex_iload_n (pc := 2) 2 rfl rfl ?_
  refine ex_iload (pc := 3) 3 rfl rfl ?_
  refine ex_iload (pc := 5) 4 rfl rfl ?_
  refine ex_iload (pc := 7) 5 rfl rfl ?_
  refine ex_invS (pc := 9) (M' := mX8_isFact) (As := [.inl p1, .inl p2, .inl p3, .inl p4, .inl p5, .inl p6]) (st := []) 6 rfl calX8_isFact (Or.inl ww_830) rfl rfl ?_
  refine vm_call.mono h ?_
  rintro m1 _ ⟨r2, rfl, h⟩
  refine ex_if_ne (pc := 12) 18 7 rfl (by decide) (vm_b2i_R _) (fun hb => ?_) (fun hb => ?_)
  · have h := h.1 (vm_b2i_n.mp hb)
    refine ex_aload_n (pc := 18) 10 rfl rfl ?_
    refine ex_geta (pc := 19) 0 11 rfl clk8 rfl rfl (Or.inl ww_740) rfl ?_
    refine ex_iconst (pc := 22) 12 rfl ?_
    refine ex_iaload (pc := 23) 13 rfl rfl rfl ⟨by decide, by decide⟩ ?_
    refine ex_bipush (pc := 24) 14 rfl (by decide) ?_
    obtain ⟨hs3, h⟩ := h
    refine ex_icmp_ne (pc := 26) 32 15 rfl (by decide) hs3 ⟨by decide, by decide⟩ (fun hb => ?_) (fun hb => ?_)
    · have h := h.1 hb
      refine ex_aload_n (pc := 32) 18 rfl rfl ?_
      refine ex_iload (pc := 33) 19 rfl rfl ?_
      refine ex_invV (pc := 35) (M' := mX8_keepIf) (As := [.inl (vm_b2i p7)]) (st := []) 20 rfl clk8 rfl rfl calX8_keepIf (Or.inl ww_839) rfl rfl ?_
      refine vm_call.mono h ?_
      rintro m4 _ ⟨rfl, h⟩
      refine ex_iconst (pc := 38) 21 rfl ?_
      refine ex_bipush (pc := 39) 22 rfl (by decide) ?_
      refine ex_aload_n (pc := 41) 23 rfl rfl ?_
      refine ex_geta (pc := 42) 0 24 rfl clk8 rfl rfl (Or.inl ww_740) rfl ?_
      refine ex_iconst (pc := 45) 25 rfl ?_
      refine ex_iaload (pc := 46) 26 rfl rfl rfl ⟨by decide, by decide⟩ ?_
      refine ex_imul (pc := 47) 27 rfl ?_
      refine ex_iadd (pc := 48) 28 rfl ?_
      refine ex_istore (pc := 49) 29 rfl rfl rfl ?_
      refine ex_aload_n (pc := 51) 30 rfl rfl ?_
      refine ex_geta (pc := 52) 0 31 rfl clk8 rfl rfl (Or.inl ww_740) rfl ?_
      refine ex_iload (pc := 55) 32 rfl rfl ?_
      refine ex_iload_n (pc := 57) 33 rfl rfl ?_
      obtain ⟨hs6, h⟩ := h
      have h := h _ rfl
      refine ex_iastore (pc := 58) 34 rfl rfl rfl hs6 ?_
      generalize vm_up m4 25 (2 + (6 * (m4 25 1))) p1 = m7 at h ⊢
      refine ex_aload_n (pc := 59) 35 rfl rfl ?_
      refine ex_geta (pc := 60) 0 36 rfl clk8 rfl rfl (Or.inl ww_740) rfl ?_
      refine ex_iload (pc := 63) 37 rfl rfl ?_
      refine ex_iconst (pc := 65) 38 rfl ?_
      refine ex_iadd (pc := 66) 39 rfl ?_
      refine ex_iload_n (pc := 67) 40 rfl rfl ?_
      obtain ⟨hs8, h⟩ := h
      have h := h _ rfl
      refine ex_iastore (pc := 68) 41 rfl rfl rfl hs8 ?_
      generalize vm_up m7 25 ((2 + (6 * (m4 25 1))) + 1) p2 = m9 at h ⊢
      refine ex_aload_n (pc := 69) 42 rfl rfl ?_
      refine ex_geta (pc := 70) 0 43 rfl clk8 rfl rfl (Or.inl ww_740) rfl ?_
      refine ex_iload (pc := 73) 44 rfl rfl ?_
      refine ex_iconst (pc := 75) 45 rfl ?_
      refine ex_iadd (pc := 76) 46 rfl ?_
      refine ex_iload_n (pc := 77) 47 rfl rfl ?_
      obtain ⟨hs10, h⟩ := h
      have h := h _ rfl
      refine ex_iastore (pc := 78) 48 rfl rfl rfl hs10 ?_
      generalize vm_up m9 25 ((2 + (6 * (m4 25 1))) + 2) p3 = m11 at h ⊢
      refine ex_aload_n (pc := 79) 49 rfl rfl ?_
      refine ex_geta (pc := 80) 0 50 rfl clk8 rfl rfl (Or.inl ww_740) rfl ?_
      refine ex_iload (pc := 83) 51 rfl rfl ?_
      refine ex_iconst (pc := 85) 52 rfl ?_
      refine ex_iadd (pc := 86) 53 rfl ?_
      refine ex_iload (pc := 87) 54 rfl rfl ?_
      obtain ⟨hs12, h⟩ := h
      have h := h _ rfl
      refine ex_iastore (pc := 89) 55 rfl rfl rfl hs12 ?_
      generalize vm_up m11 25 ((2 + (6 * (m4 25 1))) + 3) p4 = m13 at h ⊢
      refine ex_aload_n (pc := 90) 56 rfl rfl ?_
      refine ex_geta (pc := 91) 0 57 rfl clk8 rfl rfl (Or.inl ww_740) rfl ?_
      refine ex_iload (pc := 94) 58 rfl rfl ?_
      refine ex_iconst (pc := 96) 59 rfl ?_
      refine ex_iadd (pc := 97) 60 rfl ?_
      refine ex_iload (pc := 98) 61 rfl rfl ?_
      obtain ⟨hs14, h⟩ := h
      have h := h _ rfl
      refine ex_iastore (pc := 100) 62 rfl rfl rfl hs14 ?_
      generalize vm_up m13 25 ((2 + (6 * (m4 25 1))) + 4) p5 = m15 at h ⊢
      refine ex_aload_n (pc := 101) 63 rfl rfl ?_
      refine ex_geta (pc := 102) 0 64 rfl clk8 rfl rfl (Or.inl ww_740) rfl ?_
      refine ex_iload (pc := 105) 65 rfl rfl ?_
      refine ex_iconst (pc := 107) 66 rfl ?_
      refine ex_iadd (pc := 108) 67 rfl ?_
      refine ex_iload (pc := 109) 68 rfl rfl ?_
      obtain ⟨hs16, h⟩ := h
      have h := h _ rfl
      refine ex_iastore (pc := 111) 69 rfl rfl rfl hs16 ?_
      generalize vm_up m15 25 ((2 + (6 * (m4 25 1))) + 5) p6 = m17 at h ⊢
      refine ex_aload_n (pc := 112) 70 rfl rfl ?_
      refine ex_geta (pc := 113) 0 71 rfl clk8 rfl rfl (Or.inl ww_740) rfl ?_
      refine ex_iconst (pc := 116) 72 rfl ?_
      refine ex_dup2 (pc := 117) 73 rfl ?_
      refine ex_iaload (pc := 118) 74 rfl rfl rfl ⟨by decide, by decide⟩ ?_
      refine ex_iconst (pc := 119) 75 rfl ?_
      refine ex_iadd (pc := 120) 76 rfl ?_
      have h := h _ rfl
      refine ex_iastore (pc := 121) 77 rfl rfl rfl ⟨by decide, by decide⟩ ?_
      generalize vm_up m17 25 1 ((m17 25 1) + 1) = m18 at h ⊢
      refine ex_aload_n (pc := 122) 78 rfl rfl ?_
      refine ex_geta (pc := 123) 0 79 rfl clk8 rfl rfl (Or.inl ww_740) rfl ?_
      refine ex_iconst (pc := 126) 80 rfl ?_
      refine ex_iaload (pc := 127) 81 rfl rfl rfl ⟨by decide, by decide⟩ ?_
      refine ex_iconst (pc := 128) 82 rfl ?_
      refine ex_isub (pc := 129) 83 rfl ?_
      exact ex_iret (pc := 130) 84 rfl (Or.inl rfl) ⟨_, rfl, h⟩
    · have h := h.2 hb
      refine ex_bipush (pc := 29) 16 rfl (by decide) ?_
      exact ex_iret (pc := 31) 17 rfl (Or.inl rfl) ⟨_, rfl, h⟩
  · have h := h.2 (vm_b2i_0.mp hb)
    refine ex_bipush (pc := 15) 8 rfl (by decide) ?_
    exact ex_iret (pc := 17) 9 rfl (Or.inl rfl) ⟨_, rfl, h⟩
set_option maxRecDepth 20000 in
theorem qX8_fact {G : vm_G} {d : Nat} {p1 : Int} {p2 : Int} {p3 : Int} {p4 : Int} {p5 : Int} {p6 : Int} {mem : vm_M} {Q : vm_M → Int → Prop} (h : vm_ci G d mX8_tryFact [.inr (.inr 24), .inl p1, .inl p2, .inl p3, .inl p4, .inl p5, .inl p6, .inl 1] mem (fun m1 r2 => Q m1 r2)) : vm_ci G (d + 1) mX8_fact [.inr (.inr 24), .inl p1, .inl p2, .inl p3, .inl p4, .inl p5, .inl p6] mem Q := by
  refine vm_enter (al := [some (.inr (.inr 24)), some (.inl p1), some (.inl p2), some (.inl p3), some (.inl p4), some (.inl p5), some (.inl p6)]) 0 okX8_fact (by decide +kernel) rfl rfl ?_
  refine ex_aload_n (pc := 0) 0 rfl rfl ?_
  refine ex_iload_n (pc := 1) 1 rfl rfl ?_
  refine ex_iload_n (pc := 2) 2 rfl rfl ?_
  refine ex_iload_n (pc := 3) 3 rfl rfl ?_
  refine ex_iload (pc := 4) 4 rfl rfl ?_
  refine ex_iload (pc := 6) 5 rfl rfl ?_
  refine ex_iload (pc := 8) 6 rfl rfl ?_
  refine ex_iconst (pc := 10) 7 rfl ?_
  refine ex_invV (pc := 11) (M' := mX8_tryFact) (As := [.inl p1, .inl p2, .inl p3, .inl p4, .inl p5, .inl p6, .inl 1]) (st := []) 8 rfl clk8 rfl rfl calX8_tryFact (Or.inl ww_826) rfl rfl ?_
  refine vm_call.mono h ?_
  rintro m1 _ ⟨r2, rfl, h⟩
  exact ex_iret (pc := 14) 9 rfl (Or.inl rfl) ⟨_, rfl, h⟩
set_option maxRecDepth 20000 in
theorem qX8_isToldFact {G : vm_G} {d : Nat} {p1 : Int} {mem : vm_M} {Q : vm_M → Bool → Prop} (h : vm_cb G d mX8_in [.inl p1, .inl 0, .inl ((mem 25 1) - 1)] mem (fun m1 r2 => Q m1 r2)) : vm_cb G (d + 1) mX8_isToldFact [.inr (.inr 24), .inl p1] mem Q := by
  refine vm_enter (al := [some (.inr (.inr 24)), some (.inl p1)]) 0 okX8_isToldFact (by decide +kernel) rfl rfl ?_
  refine ex_iload_n (pc := 0) 0 rfl rfl ?_
  refine ex_iconst (pc := 1) 1 rfl ?_
  refine ex_aload_n (pc := 2) 2 rfl rfl ?_
  refine ex_geta (pc := 3) 0 3 rfl clk8 rfl rfl (Or.inl ww_740) rfl ?_
  refine ex_iconst (pc := 6) 4 rfl ?_
  refine ex_iaload (pc := 7) 5 rfl rfl rfl ⟨by decide, by decide⟩ ?_
  refine ex_iconst (pc := 8) 6 rfl ?_
  refine ex_isub (pc := 9) 7 rfl ?_
  refine ex_invS (pc := 10) (M' := mX8_in) (As := [.inl p1, .inl 0, .inl ((mem 25 1) - 1)]) (st := []) 8 rfl calX8_in (Or.inl ww_815) rfl rfl ?_
  refine vm_call.mono h ?_
  rintro m1 _ ⟨r2, rfl, h⟩
  exact ex_iret (pc := 13) 9 rfl (Or.inr ⟨rfl, vm_b2i_01 _⟩) ⟨_, rfl, h⟩
set_option maxRecDepth 20000 in
theorem qX8_drop {G : vm_G} {d : Nat} {p1 : Int} {mem : vm_M} {Q : vm_M → Int → Prop} (h : vm_cb G d mX8_isToldFact [.inr (.inr 24), .inl p1] mem (fun m1 r2 => (r2 = true → vm_cn G d mX8_keep [.inr (.inr 24)] m1 (fun m3 => (∀ m5, m5 = vm_up m3 25 1 ((m3 25 1) - 1) → vm_ex G (d + 1) mX8_drop 31 [some (.inr (.inr 24)), some (.inl p1), some (.inl (2 + (6 * p1)))] [] m5 (vm_qi Q)))) ∧ (r2 = false → Q m1 (-1)))) : vm_ci G (d + 1) mX8_drop [.inr (.inr 24), .inl p1] mem Q := by
  refine vm_enter (al := [some (.inr (.inr 24)), some (.inl p1), none]) 1 okX8_drop (by decide +kernel) rfl rfl ?_
  refine ex_aload_n (pc := 0) 0 rfl rfl ?_
  refine ex_iload_n (pc := 1) 1 rfl rfl ?_
  refine ex_invV (pc := 2) (M' := mX8_isToldFact) (As := [.inl p1]) (st := []) 2 rfl clk8 rfl rfl calX8_isToldFact (Or.inl ww_847) rfl rfl ?_
  refine vm_call.mono h ?_
  rintro m1 _ ⟨r2, rfl, h⟩
  refine ex_if_ne (pc := 5) 10 3 rfl (by decide) (vm_b2i_R _) (fun hb => ?_) (fun hb => ?_)
  · have h := h.1 (vm_b2i_n.mp hb)
    refine ex_aload_n (pc := 10) 6 rfl rfl ?_
    refine ex_invV (pc := 11) (M' := mX8_keep) (As := []) (st := []) 7 rfl clk8 rfl rfl calX8_keep (Or.inl ww_818) rfl rfl ?_
    refine vm_call.mono h ?_
    rintro m3 _ ⟨rfl, h⟩
    refine ex_aload_n (pc := 14) 8 rfl rfl ?_
    refine ex_geta (pc := 15) 0 9 rfl clk8 rfl rfl (Or.inl ww_740) rfl ?_
    refine ex_iconst (pc := 18) 10 rfl ?_
    refine ex_dup2 (pc := 19) 11 rfl ?_
    refine ex_iaload (pc := 20) 12 rfl rfl rfl ⟨by decide, by decide⟩ ?_
    refine ex_iconst (pc := 21) 13 rfl ?_
    refine ex_isub (pc := 22) 14 rfl ?_
    have h := h _ rfl
    refine ex_iastore (pc := 23) 15 rfl rfl rfl ⟨by decide, by decide⟩ ?_
    generalize vm_up m3 25 1 ((m3 25 1) - 1) = m5 at h ⊢
    refine ex_iconst (pc := 24) 16 rfl ?_
    refine ex_bipush (pc := 25) 17 rfl (by decide) ?_
    refine ex_iload_n (pc := 27) 18 rfl rfl ?_
    refine ex_imul (pc := 28) 19 rfl ?_
    refine ex_iadd (pc := 29) 20 rfl ?_
    refine ex_istore_n (pc := 30) 21 rfl rfl rfl ?_
    exact h
  · have h := h.2 (vm_b2i_0.mp hb)
    refine ex_iconst (pc := 8) 4 rfl ?_
    exact ex_iret (pc := 9) 5 rfl (Or.inl rfl) ⟨_, rfl, h⟩
set_option maxRecDepth 20000 in
theorem qX8_drop_31 {G : vm_G} {d : Nat} {v1 : Int} {v2 : Int} {mem : vm_M} {Q : vm_M → Int → Prop} (h : (vm_R v2) ∧ (vm_R (2 + (6 * (mem 25 1)))) ∧ (((2 + (6 * (mem 25 1))) ≤ v2 → Q mem (mem 25 1)) ∧ (¬ (2 + (6 * (mem 25 1))) ≤ v2 → (0 ≤ (v2 + 6) ∧ (v2 + 6) < 62) ∧ (0 ≤ v2 ∧ v2 < 62) ∧ (∀ m5, m5 = vm_up mem 25 v2 (mem 25 (v2 + 6)) → vm_ex G (d + 1) mX8_drop 31 [some (.inr (.inr 24)), some (.inl v1), some (.inl (v2 + 1))] [] m5 (vm_qi Q))))) : vm_ex G (d + 1) mX8_drop 31 [some (.inr (.inr 24)), some (.inl v1), some (.inl v2)] [] mem (vm_qi Q) := by
  refine ex_iload_n (pc := 31) 22 rfl rfl ?_
  refine ex_iconst (pc := 32) 23 rfl ?_
  refine ex_bipush (pc := 33) 24 rfl (by decide) ?_
  refine ex_aload_n (pc := 35) 25 rfl rfl ?_
  refine ex_geta (pc := 36) 0 26 rfl clk8 rfl rfl (Or.inl ww_740) rfl ?_
  refine ex_iconst (pc := 39) 27 rfl ?_
  refine ex_iaload (pc := 40) 28 rfl rfl rfl ⟨by decide, by decide⟩ ?_
  refine ex_imul (pc := 41) 29 rfl ?_
  refine ex_iadd (pc := 42) 30 rfl ?_
  obtain ⟨hs1, h⟩ := h
  obtain ⟨hs2, h⟩ := h
  refine ex_icmp_ge (pc := 43) 67 31 rfl (by decide) hs1 hs2 (fun hb => ?_) (fun hb => ?_)
  · have h := h.1 hb
    refine ex_aload_n (pc := 67) 44 rfl rfl ?_
    refine ex_geta (pc := 68) 0 45 rfl clk8 rfl rfl (Or.inl ww_740) rfl ?_
    refine ex_iconst (pc := 71) 46 rfl ?_
    refine ex_iaload (pc := 72) 47 rfl rfl rfl ⟨by decide, by decide⟩ ?_
    exact ex_iret (pc := 73) 48 rfl (Or.inl rfl) ⟨_, rfl, h⟩
  · have h := h.2 hb
    refine ex_aload_n (pc := 46) 32 rfl rfl ?_
    refine ex_geta (pc := 47) 0 33 rfl clk8 rfl rfl (Or.inl ww_740) rfl ?_
    refine ex_iload_n (pc := 50) 34 rfl rfl ?_
    refine ex_aload_n (pc := 51) 35 rfl rfl ?_
    refine ex_geta (pc := 52) 0 36 rfl clk8 rfl rfl (Or.inl ww_740) rfl ?_
    refine ex_iload_n (pc := 55) 37 rfl rfl ?_
    refine ex_bipush (pc := 56) 38 rfl (by decide) ?_
    refine ex_iadd (pc := 58) 39 rfl ?_
    obtain ⟨hs3, h⟩ := h
    refine ex_iaload (pc := 59) 40 rfl rfl rfl hs3 ?_
    obtain ⟨hs4, h⟩ := h
    have h := h _ rfl
    refine ex_iastore (pc := 60) 41 rfl rfl rfl hs4 ?_
    generalize vm_up mem 25 v2 (mem 25 (v2 + 6)) = m5 at h ⊢
    refine ex_iinc (pc := 61) 42 rfl rfl rfl rfl ?_
    refine ex_goto (pc := 64) 31 43 rfl (by decide) ?_
    exact h
set_option maxRecDepth 20000 in
theorem qX8_ofFact {G : vm_G} {d : Nat} {p1 : Int} {p2 : Int} {mem : vm_M} {Q : vm_M → Int → Prop} (h : vm_cb G d mX8_isToldFact [.inr (.inr 24), .inl p1] mem (fun m1 r2 => (r2 = true → (vm_R p2) ∧ ((¬ p2 = 5 → vm_cb G d mX8_in [.inl p2, .inl 0, .inl 4] m1 (fun m4 r5 => (r5 = false → Q m4 (-2)) ∧ (r5 = true → vm_ci G d mX8_of [.inr (.inr 24), .inl p1, .inl p2] m4 (fun m6 r7 => Q m6 r7)))) ∧ (p2 = 5 → vm_ci G d mX8_of [.inr (.inr 24), .inl p1, .inl 5] m1 (fun m8 r9 => Q m8 (100 + r9))))) ∧ (r2 = false → Q m1 (-1)))) : vm_ci G (d + 1) mX8_ofFact [.inr (.inr 24), .inl p1, .inl p2] mem Q := by
  refine vm_enter (al := [some (.inr (.inr 24)), some (.inl p1), some (.inl p2)]) 0 okX8_ofFact (by decide +kernel) rfl rfl ?_
  refine ex_aload_n (pc := 0) 0 rfl rfl ?_
  refine ex_iload_n (pc := 1) 1 rfl rfl ?_
  refine ex_invV (pc := 2) (M' := mX8_isToldFact) (As := [.inl p1]) (st := []) 2 rfl clk8 rfl rfl calX8_isToldFact (Or.inl ww_847) rfl rfl ?_
  refine vm_call.mono h ?_
  rintro m1 _ ⟨r2, rfl, h⟩
  refine ex_if_ne (pc := 5) 10 3 rfl (by decide) (vm_b2i_R _) (fun hb => ?_) (fun hb => ?_)
  · have h := h.1 (vm_b2i_n.mp hb)
    refine ex_iload_n (pc := 10) 6 rfl rfl ?_
    refine ex_iconst (pc := 11) 7 rfl ?_
    obtain ⟨hs3, h⟩ := h
    refine ex_icmp_ne (pc := 12) 27 8 rfl (by decide) hs3 ⟨by decide, by decide⟩ (fun hb => ?_) (fun hb => ?_)
    · have h := h.1 hb
      refine ex_iload_n (pc := 27) 16 rfl rfl ?_
      refine ex_iconst (pc := 28) 17 rfl ?_
      refine ex_iconst (pc := 29) 18 rfl ?_
      refine ex_invS (pc := 30) (M' := mX8_in) (As := [.inl p2, .inl 0, .inl 4]) (st := []) 19 rfl calX8_in (Or.inl ww_815) rfl rfl ?_
      refine vm_call.mono h ?_
      rintro m4 _ ⟨r5, rfl, h⟩
      refine ex_if_eq (pc := 33) 45 20 rfl (by decide) (vm_b2i_R _) (fun hb => ?_) (fun hb => ?_)
      · have h := h.1 (vm_b2i_0.mp hb)
        refine ex_bipush (pc := 45) 26 rfl (by decide) ?_
        exact ex_iret (pc := 47) 27 rfl (Or.inl rfl) ⟨_, rfl, h⟩
      · have h := h.2 (vm_b2i_n.mp hb)
        refine ex_aload_n (pc := 36) 21 rfl rfl ?_
        refine ex_iload_n (pc := 37) 22 rfl rfl ?_
        refine ex_iload_n (pc := 38) 23 rfl rfl ?_
        refine ex_invV (pc := 39) (M' := mX8_of) (As := [.inl p1, .inl p2]) (st := []) 24 rfl clk8 rfl rfl calX8_of (Or.inl ww_855) rfl rfl ?_
        refine vm_call.mono h ?_
        rintro m6 _ ⟨r7, rfl, h⟩
        refine ex_goto (pc := 42) 47 25 rfl (by decide) ?_
        exact ex_iret (pc := 47) 27 rfl (Or.inl rfl) ⟨_, rfl, h⟩
    · have h := h.2 hb
      refine ex_bipush (pc := 15) 9 rfl (by decide) ?_
      refine ex_aload_n (pc := 17) 10 rfl rfl ?_
      refine ex_iload_n (pc := 18) 11 rfl rfl ?_
      refine ex_iconst (pc := 19) 12 rfl ?_
      refine ex_invV (pc := 20) (M' := mX8_of) (As := [.inl p1, .inl 5]) (st := [.inl 100]) 13 rfl clk8 rfl rfl calX8_of (Or.inl ww_855) rfl rfl ?_
      refine vm_call.mono h ?_
      rintro m8 _ ⟨r9, rfl, h⟩
      refine ex_iadd (pc := 23) 14 rfl ?_
      refine ex_goto (pc := 24) 47 15 rfl (by decide) ?_
      exact ex_iret (pc := 47) 27 rfl (Or.inl rfl) ⟨_, rfl, h⟩
  · have h := h.2 (vm_b2i_0.mp hb)
    refine ex_iconst (pc := 8) 4 rfl ?_
    exact ex_iret (pc := 9) 5 rfl (Or.inl rfl) ⟨_, rfl, h⟩
set_option maxRecDepth 20000 in
theorem qX8_count {G : vm_G} {d : Nat} {p1 : Int} {mem : vm_M} {Q : vm_M → Int → Prop} (h : (vm_R p1) ∧ ((p1 = 0 → Q mem (mem 25 1)) ∧ (p1 = 1 → Q mem (mem 25 0)) ∧ (p1 = 2 → Q mem (mem 24 18)) ∧ (p1 = 3 → Q mem (mem 24 3)) ∧ (p1 < 0 ∨ 3 < p1 → Q mem (-2)))) : vm_ci G d mX8_count [.inr (.inr 24), .inl p1] mem Q := by
  refine vm_enter (al := [some (.inr (.inr 24)), some (.inl p1)]) 0 okX8_count (by decide +kernel) rfl rfl ?_
  refine ex_iload_n (pc := 0) 0 rfl rfl ?_
  obtain ⟨hs1, h⟩ := h
  obtain ⟨h0, h1, h2, h3, h4⟩ := h
  refine ex_tsw (pc := 1) 1 rfl hs1 rfl ⟨fun hb => ⟨?_, by decide⟩, fun hb => ⟨?_, by decide⟩, fun hb => ⟨?_, by decide⟩, fun hb => ⟨?_, by decide⟩, trivial⟩ (fun hb => ?_) (by decide)
  · have h := h0 hb
    refine ex_aload_n (pc := 32) 2 rfl rfl ?_
    refine ex_geta (pc := 33) 0 3 rfl clk8 rfl rfl (Or.inl ww_740) rfl ?_
    refine ex_iconst (pc := 36) 4 rfl ?_
    refine ex_iaload (pc := 37) 5 rfl rfl rfl ⟨by decide, by decide⟩ ?_
    exact ex_iret (pc := 38) 6 rfl (Or.inl rfl) ⟨_, rfl, h⟩
  · have h := h1 hb
    refine ex_aload_n (pc := 39) 7 rfl rfl ?_
    refine ex_geta (pc := 40) 0 8 rfl clk8 rfl rfl (Or.inl ww_740) rfl ?_
    refine ex_iconst (pc := 43) 9 rfl ?_
    refine ex_iaload (pc := 44) 10 rfl rfl rfl ⟨by decide, by decide⟩ ?_
    exact ex_iret (pc := 45) 11 rfl (Or.inl rfl) ⟨_, rfl, h⟩
  · have h := h2 hb
    refine ex_aload_n (pc := 46) 12 rfl rfl ?_
    refine ex_geti (pc := 47) 18 13 rfl clk8 rfl rfl (Or.inl ww_758) rfl ?_
    exact ex_iret (pc := 50) 14 rfl (Or.inl rfl) ⟨_, rfl, h⟩
  · have h := h3 hb
    refine ex_aload_n (pc := 51) 15 rfl rfl ?_
    refine ex_geti (pc := 52) 3 16 rfl clk8 rfl rfl (Or.inl ww_743) rfl ?_
    exact ex_iret (pc := 55) 17 rfl (Or.inl rfl) ⟨_, rfl, h⟩
  · have h := h4 hb
    refine ex_bipush (pc := 56) 18 rfl (by decide) ?_
    exact ex_iret (pc := 58) 19 rfl (Or.inl rfl) ⟨_, rfl, h⟩
set_option maxRecDepth 20000 in
theorem qX8_isPossible {G : vm_G} {d : Nat}  {mem : vm_M} {Q : vm_M → Int → Prop} (h : vm_cb G d mX8_isSolvedNow [.inr (.inr 24)] mem (fun m1 r2 => (r2 = false → Q m1 0) ∧ (r2 = true → Q m1 1))) : vm_ci G (d + 1) mX8_isPossible [.inr (.inr 24)] mem Q := by
  refine vm_enter (al := [some (.inr (.inr 24))]) 0 okX8_isPossible (by decide +kernel) rfl rfl ?_
  refine ex_aload_n (pc := 0) 0 rfl rfl ?_
  refine ex_invV (pc := 1) (M' := mX8_isSolvedNow) (As := []) (st := []) 1 rfl clk8 rfl rfl calX8_isSolvedNow (Or.inl ww_867) rfl rfl ?_
  refine vm_call.mono h ?_
  rintro m1 _ ⟨r2, rfl, h⟩
  refine ex_if_eq (pc := 4) 11 2 rfl (by decide) (vm_b2i_R _) (fun hb => ?_) (fun hb => ?_)
  · have h := h.1 (vm_b2i_0.mp hb)
    refine ex_iconst (pc := 11) 5 rfl ?_
    exact ex_iret (pc := 12) 6 rfl (Or.inl rfl) ⟨_, rfl, h⟩
  · have h := h.2 (vm_b2i_n.mp hb)
    refine ex_iconst (pc := 7) 3 rfl ?_
    refine ex_goto (pc := 8) 12 4 rfl (by decide) ?_
    exact ex_iret (pc := 12) 6 rfl (Or.inl rfl) ⟨_, rfl, h⟩
set_option maxRecDepth 20000 in
theorem qX8_boundBy {G : vm_G} {d : Nat} {p1 : Int} {p2 : Int} {p3 : Int} {p4 : Int} {mem : vm_M} {Q : vm_M → Int → Prop} (h : vm_ex G (d + 1) mX8_boundBy 3 [some (.inr (.inr 24)), some (.inl p1), some (.inl p2), some (.inl p3), some (.inl p4), some (.inl 0), none] [] mem (vm_qi Q)) : vm_ci G (d + 1) mX8_boundBy [.inr (.inr 24), .inl p1, .inl p2, .inl p3, .inl p4] mem Q := by
  refine vm_enter (al := [some (.inr (.inr 24)), some (.inl p1), some (.inl p2), some (.inl p3), some (.inl p4), none, none]) 2 okX8_boundBy (by decide +kernel) rfl rfl ?_
  refine ex_iconst (pc := 0) 0 rfl ?_
  refine ex_istore (pc := 1) 1 rfl rfl rfl ?_
  exact h
set_option maxRecDepth 20000 in
theorem qX8_boundBy_3 {G : vm_G} {d : Nat} {v1 : Int} {v2 : Int} {v3 : Int} {v4 : Int} {v5 : Int} {mem : vm_M} {Q : vm_M → Int → Prop} (h : (vm_R v5) ∧ (vm_R (mem 25 0)) ∧ (((mem 25 0) < v5 → Q mem (-6)) ∧ (¬ (mem 25 0) < v5 → (vm_R v4) ∧ ((¬ v4 = 0 → vm_cb G d mX8_isSolvedWith [.inr (.inr 24), .inl v1, .inl 0, .inl v2, .inl v3, .inl ((mem 25 0) - v5), .inl ((mem 25 0) - v5), .inl 0] mem (fun m4 r5 => (r5 = false → vm_ex G (d + 1) mX8_boundBy 3 [some (.inr (.inr 24)), some (.inl v1), some (.inl v2), some (.inl v3), some (.inl v4), some (.inl (v5 + 1)), none] [] m4 (vm_qi Q)) ∧ (r5 = true → Q m4 ((mem 25 0) - v5)))) ∧ (v4 = 0 → vm_cb G d mX8_isSolvedWith [.inr (.inr 24), .inl v1, .inl 0, .inl v2, .inl v3, .inl v5, .inl v5, .inl 0] mem (fun m6 r7 => (r7 = false → vm_ex G (d + 1) mX8_boundBy 3 [some (.inr (.inr 24)), some (.inl v1), some (.inl v2), some (.inl v3), some (.inl v4), some (.inl (v5 + 1)), none] [] m6 (vm_qi Q)) ∧ (r7 = true → Q m6 v5))))))) : vm_ex G (d + 1) mX8_boundBy 3 [some (.inr (.inr 24)), some (.inl v1), some (.inl v2), some (.inl v3), some (.inl v4), some (.inl v5), none] [] mem (vm_qi Q) := by
  refine ex_iload (pc := 3) 2 rfl rfl ?_
  refine ex_aload_n (pc := 5) 3 rfl rfl ?_
  refine ex_geta (pc := 6) 0 4 rfl clk8 rfl rfl (Or.inl ww_740) rfl ?_
  refine ex_iconst (pc := 9) 5 rfl ?_
  refine ex_iaload (pc := 10) 6 rfl rfl rfl ⟨by decide, by decide⟩ ?_
  obtain ⟨hs1, h⟩ := h
  obtain ⟨hs2, h⟩ := h
  refine ex_icmp_gt (pc := 11) 60 7 rfl (by decide) hs1 hs2 (fun hb => ?_) (fun hb => ?_)
  · have h := h.1 hb
    refine ex_bipush (pc := 60) 33 rfl (by decide) ?_
    exact ex_iret (pc := 62) 34 rfl (Or.inl rfl) ⟨_, rfl, h⟩
  · have h := h.2 hb
    refine ex_iload (pc := 14) 8 rfl rfl ?_
    obtain ⟨hs3, h⟩ := h
    refine ex_if_ne (pc := 16) 24 9 rfl (by decide) hs3 (fun hb => ?_) (fun hb => ?_)
    · have h := h.1 hb
      refine ex_aload_n (pc := 24) 12 rfl rfl ?_
      refine ex_geta (pc := 25) 0 13 rfl clk8 rfl rfl (Or.inl ww_740) rfl ?_
      refine ex_iconst (pc := 28) 14 rfl ?_
      refine ex_iaload (pc := 29) 15 rfl rfl rfl ⟨by decide, by decide⟩ ?_
      refine ex_iload (pc := 30) 16 rfl rfl ?_
      refine ex_isub (pc := 32) 17 rfl ?_
      refine ex_istore (pc := 33) 18 rfl rfl rfl ?_
      refine ex_aload_n (pc := 35) 19 rfl rfl ?_
      refine ex_iload_n (pc := 36) 20 rfl rfl ?_
      refine ex_iconst (pc := 37) 21 rfl ?_
      refine ex_iload_n (pc := 38) 22 rfl rfl ?_
      refine ex_iload_n (pc := 39) 23 rfl rfl ?_
      refine ex_iload (pc := 40) 24 rfl rfl ?_
      refine ex_iload (pc := 42) 25 rfl rfl ?_
      refine ex_iconst (pc := 44) 26 rfl ?_
      refine ex_invV (pc := 45) (M' := mX8_isSolvedWith) (As := [.inl v1, .inl 0, .inl v2, .inl v3, .inl ((mem 25 0) - v5), .inl ((mem 25 0) - v5), .inl 0]) (st := []) 27 rfl clk8 rfl rfl calX8_isSolvedWith (Or.inl ww_990) rfl rfl ?_
      refine vm_call.mono h ?_
      rintro m4 _ ⟨r5, rfl, h⟩
      refine ex_if_eq (pc := 48) 54 28 rfl (by decide) (vm_b2i_R _) (fun hb => ?_) (fun hb => ?_)
      · have h := h.1 (vm_b2i_0.mp hb)
        refine ex_iinc (pc := 54) 31 rfl rfl rfl rfl ?_
        refine ex_goto (pc := 57) 3 32 rfl (by decide) ?_
        exact ex_less [some (.inr (.inr 24)), some (.inl v1), some (.inl v2), some (.inl v3), some (.inl v4), some (.inl (v5 + 1)), none] (And.intro rfl (And.intro rfl (And.intro rfl (And.intro rfl (And.intro rfl (And.intro rfl (True.intro))))))) h
      · have h := h.2 (vm_b2i_n.mp hb)
        refine ex_iload (pc := 51) 29 rfl rfl ?_
        exact ex_iret (pc := 53) 30 rfl (Or.inl rfl) ⟨_, rfl, h⟩
    · have h := h.2 hb
      refine ex_iload (pc := 19) 10 rfl rfl ?_
      refine ex_goto (pc := 21) 33 11 rfl (by decide) ?_
      refine ex_istore (pc := 33) 18 rfl rfl rfl ?_
      refine ex_aload_n (pc := 35) 19 rfl rfl ?_
      refine ex_iload_n (pc := 36) 20 rfl rfl ?_
      refine ex_iconst (pc := 37) 21 rfl ?_
      refine ex_iload_n (pc := 38) 22 rfl rfl ?_
      refine ex_iload_n (pc := 39) 23 rfl rfl ?_
      refine ex_iload (pc := 40) 24 rfl rfl ?_
      refine ex_iload (pc := 42) 25 rfl rfl ?_
      refine ex_iconst (pc := 44) 26 rfl ?_
      refine ex_invV (pc := 45) (M' := mX8_isSolvedWith) (As := [.inl v1, .inl 0, .inl v2, .inl v3, .inl v5, .inl v5, .inl 0]) (st := []) 27 rfl clk8 rfl rfl calX8_isSolvedWith (Or.inl ww_990) rfl rfl ?_
      refine vm_call.mono h ?_
      rintro m6 _ ⟨r7, rfl, h⟩
      refine ex_if_eq (pc := 48) 54 28 rfl (by decide) (vm_b2i_R _) (fun hb => ?_) (fun hb => ?_)
      · have h := h.1 (vm_b2i_0.mp hb)
        refine ex_iinc (pc := 54) 31 rfl rfl rfl rfl ?_
        refine ex_goto (pc := 57) 3 32 rfl (by decide) ?_
        exact ex_less [some (.inr (.inr 24)), some (.inl v1), some (.inl v2), some (.inl v3), some (.inl v4), some (.inl (v5 + 1)), none] (And.intro rfl (And.intro rfl (And.intro rfl (And.intro rfl (And.intro rfl (And.intro rfl (True.intro))))))) h
      · have h := h.2 (vm_b2i_n.mp hb)
        refine ex_iload (pc := 51) 29 rfl rfl ?_
        exact ex_iret (pc := 53) 30 rfl (Or.inl rfl) ⟨_, rfl, h⟩
set_option maxRecDepth 20000 in
theorem qX8_whyNotBound {G : vm_G} {d : Nat} {p0 : Int} {p1 : Int} {p2 : Int} {mem : vm_M} {Q : vm_M → Int → Prop} (h : vm_cb G d mX8_isBag [.inl p0] mem (fun m1 r2 => (r2 = false → Q m1 (-1)) ∧ (r2 = true → vm_cb G d mX8_isKind [.inl p1] m1 (fun m3 r4 => (r4 = true → vm_cb G d mX8_in [.inl p2, .inl 0, .inl 1] m3 (fun m5 r6 => (r6 = false → Q m5 (-2)) ∧ (r6 = true → Q m5 0))) ∧ (r4 = false → Q m3 (-1)))))) : vm_ci G (d + 1) mX8_whyNotBound [.inl p0, .inl p1, .inl p2] mem Q := by
  refine vm_enter (al := [some (.inl p0), some (.inl p1), some (.inl p2)]) 0 okX8_whyNotBound (by decide +kernel) rfl rfl ?_
  refine ex_iload_n (pc := 0) 0 rfl rfl ?_
  refine ex_invS (pc := 1) (M' := mX8_isBag) (As := [.inl p0]) (st := []) 1 rfl calX8_isBag (Or.inl ww_833) rfl rfl ?_
  refine vm_call.mono h ?_
  rintro m1 _ ⟨r2, rfl, h⟩
  refine ex_if_eq (pc := 4) 14 2 rfl (by decide) (vm_b2i_R _) (fun hb => ?_) (fun hb => ?_)
  · have h := h.1 (vm_b2i_0.mp hb)
    refine ex_iconst (pc := 14) 6 rfl ?_
    refine ex_goto (pc := 15) 33 7 rfl (by decide) ?_
    exact ex_iret (pc := 33) 16 rfl (Or.inl rfl) ⟨_, rfl, h⟩
  · have h := h.2 (vm_b2i_n.mp hb)
    refine ex_iload_n (pc := 7) 3 rfl rfl ?_
    refine ex_invS (pc := 8) (M' := mX8_isKind) (As := [.inl p1]) (st := []) 4 rfl calX8_isKind (Or.inl ww_836) rfl rfl ?_
    refine vm_call.mono h ?_
    rintro m3 _ ⟨r4, rfl, h⟩
    refine ex_if_ne (pc := 11) 18 5 rfl (by decide) (vm_b2i_R _) (fun hb => ?_) (fun hb => ?_)
    · have h := h.1 (vm_b2i_n.mp hb)
      refine ex_iload_n (pc := 18) 8 rfl rfl ?_
      refine ex_iconst (pc := 19) 9 rfl ?_
      refine ex_iconst (pc := 20) 10 rfl ?_
      refine ex_invS (pc := 21) (M' := mX8_in) (As := [.inl p2, .inl 0, .inl 1]) (st := []) 11 rfl calX8_in (Or.inl ww_815) rfl rfl ?_
      refine vm_call.mono h ?_
      rintro m5 _ ⟨r6, rfl, h⟩
      refine ex_if_eq (pc := 24) 31 12 rfl (by decide) (vm_b2i_R _) (fun hb => ?_) (fun hb => ?_)
      · have h := h.1 (vm_b2i_0.mp hb)
        refine ex_bipush (pc := 31) 15 rfl (by decide) ?_
        exact ex_iret (pc := 33) 16 rfl (Or.inl rfl) ⟨_, rfl, h⟩
      · have h := h.2 (vm_b2i_n.mp hb)
        refine ex_iconst (pc := 27) 13 rfl ?_
        refine ex_goto (pc := 28) 33 14 rfl (by decide) ?_
        exact ex_iret (pc := 33) 16 rfl (Or.inl rfl) ⟨_, rfl, h⟩
    · have h := h.2 (vm_b2i_0.mp hb)
      refine ex_iconst (pc := 14) 6 rfl ?_
      refine ex_goto (pc := 15) 33 7 rfl (by decide) ?_
      exact ex_iret (pc := 33) 16 rfl (Or.inl rfl) ⟨_, rfl, h⟩
set_option maxRecDepth 20000 in
theorem qX8_bound {G : vm_G} {d : Nat} {p1 : Int} {p2 : Int} {p3 : Int} {mem : vm_M} {Q : vm_M → Int → Prop} (h : vm_ci G d mX8_whyNotBound [.inl p1, .inl p2, .inl p3] mem (fun m1 r2 => (vm_R r2) ∧ ((0 ≤ r2 → vm_ci G d mX8_allFacts [.inr (.inr 24)] m1 (fun m4 r5 => vm_ci G d mX8_boundBy [.inr (.inr 24), .inl r5, .inl p1, .inl p2, .inl p3] m4 (fun m6 r7 => Q m6 r7))) ∧ (¬ 0 ≤ r2 → Q m1 r2)))) : vm_ci G (d + 1) mX8_bound [.inr (.inr 24), .inl p1, .inl p2, .inl p3] mem Q := by
  refine vm_enter (al := [some (.inr (.inr 24)), some (.inl p1), some (.inl p2), some (.inl p3), none]) 1 okX8_bound (by decide +kernel) rfl rfl ?_
  refine ex_iload_n (pc := 0) 0 rfl rfl ?_
  refine ex_iload_n (pc := 1) 1 rfl rfl ?_
  refine ex_iload_n (pc := 2) 2 rfl rfl ?_
  refine ex_invS (pc := 3) (M' := mX8_whyNotBound) (As := [.inl p1, .inl p2, .inl p3]) (st := []) 3 rfl calX8_whyNotBound (Or.inl ww_983) rfl rfl ?_
  refine vm_call.mono h ?_
  rintro m1 _ ⟨r2, rfl, h⟩
  refine ex_istore (pc := 6) 4 rfl rfl rfl ?_
  refine ex_iload (pc := 8) 5 rfl rfl ?_
  obtain ⟨hs3, h⟩ := h
  refine ex_if_ge (pc := 10) 18 6 rfl (by decide) hs3 (fun hb => ?_) (fun hb => ?_)
  · have h := h.1 hb
    refine ex_aload_n (pc := 18) 9 rfl rfl ?_
    refine ex_aload_n (pc := 19) 10 rfl rfl ?_
    refine ex_invV (pc := 20) (M' := mX8_allFacts) (As := []) (st := [.inr (.inr 24)]) 11 rfl clk8 rfl rfl calX8_allFacts (Or.inl ww_871) rfl rfl ?_
    refine vm_call.mono h ?_
    rintro m4 _ ⟨r5, rfl, h⟩
    refine ex_iload_n (pc := 23) 12 rfl rfl ?_
    refine ex_iload_n (pc := 24) 13 rfl rfl ?_
    refine ex_iload_n (pc := 25) 14 rfl rfl ?_
    refine ex_invV (pc := 26) (M' := mX8_boundBy) (As := [.inl r5, .inl p1, .inl p2, .inl p3]) (st := []) 15 rfl clk8 rfl rfl calX8_boundBy (Or.inl ww_986) rfl rfl ?_
    refine vm_call.mono h ?_
    rintro m6 _ ⟨r7, rfl, h⟩
    exact ex_iret (pc := 29) 16 rfl (Or.inl rfl) ⟨_, rfl, h⟩
  · have h := h.2 hb
    refine ex_iload (pc := 13) 7 rfl rfl ?_
    refine ex_goto (pc := 15) 29 8 rfl (by decide) ?_
    exact ex_iret (pc := 29) 16 rfl (Or.inl rfl) ⟨_, rfl, h⟩
set_option maxRecDepth 20000 in
theorem qX8_sizeOf {G : vm_G} {d : Nat} {p1 : Int} {p2 : Int} {mem : vm_M} {Q : vm_M → Int → Prop} (h : vm_cb G d mX8_isBag [.inl p1] mem (fun m1 r2 => (r2 = true → vm_cb G d mX8_in [.inl p2, .inl 0, .inl 1] m1 (fun m3 r4 => (r4 = true → vm_ex G (d + 1) mX8_sizeOf 33 [some (.inr (.inr 24)), some (.inl p1), some (.inl p2), some (.inl (3 * (m3 25 0))), some (.inl 0), none] [] m3 (vm_qi Q)) ∧ (r4 = false → Q m3 (-2)))) ∧ (r2 = false → Q m1 (-1)))) : vm_ci G (d + 1) mX8_sizeOf [.inr (.inr 24), .inl p1, .inl p2] mem Q := by
  refine vm_enter (al := [some (.inr (.inr 24)), some (.inl p1), some (.inl p2), none, none, none]) 3 okX8_sizeOf (by decide +kernel) rfl rfl ?_
  refine ex_iload_n (pc := 0) 0 rfl rfl ?_
  refine ex_invS (pc := 1) (M' := mX8_isBag) (As := [.inl p1]) (st := []) 1 rfl calX8_isBag (Or.inl ww_833) rfl rfl ?_
  refine vm_call.mono h ?_
  rintro m1 _ ⟨r2, rfl, h⟩
  refine ex_if_ne (pc := 4) 9 2 rfl (by decide) (vm_b2i_R _) (fun hb => ?_) (fun hb => ?_)
  · have h := h.1 (vm_b2i_n.mp hb)
    refine ex_iload_n (pc := 9) 5 rfl rfl ?_
    refine ex_iconst (pc := 10) 6 rfl ?_
    refine ex_iconst (pc := 11) 7 rfl ?_
    refine ex_invS (pc := 12) (M' := mX8_in) (As := [.inl p2, .inl 0, .inl 1]) (st := []) 8 rfl calX8_in (Or.inl ww_815) rfl rfl ?_
    refine vm_call.mono h ?_
    rintro m3 _ ⟨r4, rfl, h⟩
    refine ex_if_ne (pc := 15) 21 9 rfl (by decide) (vm_b2i_R _) (fun hb => ?_) (fun hb => ?_)
    · have h := h.1 (vm_b2i_n.mp hb)
      refine ex_iconst (pc := 21) 12 rfl ?_
      refine ex_aload_n (pc := 22) 13 rfl rfl ?_
      refine ex_geta (pc := 23) 0 14 rfl clk8 rfl rfl (Or.inl ww_740) rfl ?_
      refine ex_iconst (pc := 26) 15 rfl ?_
      refine ex_iaload (pc := 27) 16 rfl rfl rfl ⟨by decide, by decide⟩ ?_
      refine ex_imul (pc := 28) 17 rfl ?_
      refine ex_istore_n (pc := 29) 18 rfl rfl rfl ?_
      refine ex_iconst (pc := 30) 19 rfl ?_
      refine ex_istore (pc := 31) 20 rfl rfl rfl ?_
      exact h
    · have h := h.2 (vm_b2i_0.mp hb)
      refine ex_bipush (pc := 18) 10 rfl (by decide) ?_
      exact ex_iret (pc := 20) 11 rfl (Or.inl rfl) ⟨_, rfl, h⟩
  · have h := h.2 (vm_b2i_0.mp hb)
    refine ex_iconst (pc := 7) 3 rfl ?_
    exact ex_iret (pc := 8) 4 rfl (Or.inl rfl) ⟨_, rfl, h⟩
set_option maxRecDepth 20000 in
theorem qX8_sizeOf_33 {G : vm_G} {d : Nat} {v1 : Int} {v2 : Int} {v3 : Int} {v4 : Int} {mem : vm_M} {Q : vm_M → Int → Prop} (h : (vm_R v4) ∧ (vm_R v3) ∧ ((v3 < v4 → Q mem (-6)) ∧ (¬ v3 < v4 → (vm_R v2) ∧ ((¬ v2 = 0 → vm_ci G d mX8_allFacts [.inr (.inr 24)] mem (fun m4 r5 => vm_cb G d mX8_isSolvedWith [.inr (.inr 24), .inl r5, .inl 1, .inl v1, .inl (v3 - v4), .inl (v3 - v4), .inl 0, .inl 0] m4 (fun m6 r7 => (r7 = false → vm_ex G (d + 1) mX8_sizeOf 33 [some (.inr (.inr 24)), some (.inl v1), some (.inl v2), some (.inl v3), some (.inl (v4 + 1)), none] [] m6 (vm_qi Q)) ∧ (r7 = true → Q m6 (v3 - v4))))) ∧ (v2 = 0 → vm_ci G d mX8_allFacts [.inr (.inr 24)] mem (fun m8 r9 => vm_cb G d mX8_isSolvedWith [.inr (.inr 24), .inl r9, .inl 1, .inl v1, .inl v4, .inl v4, .inl 0, .inl 0] m8 (fun m10 r11 => (r11 = false → vm_ex G (d + 1) mX8_sizeOf 33 [some (.inr (.inr 24)), some (.inl v1), some (.inl v2), some (.inl v3), some (.inl (v4 + 1)), none] [] m10 (vm_qi Q)) ∧ (r11 = true → Q m10 v4)))))))) : vm_ex G (d + 1) mX8_sizeOf 33 [some (.inr (.inr 24)), some (.inl v1), some (.inl v2), some (.inl v3), some (.inl v4), none] [] mem (vm_qi Q) := by
  refine ex_iload (pc := 33) 21 rfl rfl ?_
  refine ex_iload_n (pc := 35) 22 rfl rfl ?_
  obtain ⟨hs1, h⟩ := h
  obtain ⟨hs2, h⟩ := h
  refine ex_icmp_gt (pc := 36) 82 23 rfl (by decide) hs1 hs2 (fun hb => ?_) (fun hb => ?_)
  · have h := h.1 hb
    refine ex_bipush (pc := 82) 47 rfl (by decide) ?_
    exact ex_iret (pc := 84) 48 rfl (Or.inl rfl) ⟨_, rfl, h⟩
  · have h := h.2 hb
    refine ex_iload_n (pc := 39) 24 rfl rfl ?_
    obtain ⟨hs3, h⟩ := h
    refine ex_if_ne (pc := 40) 48 25 rfl (by decide) hs3 (fun hb => ?_) (fun hb => ?_)
    · have h := h.1 hb
      refine ex_iload_n (pc := 48) 28 rfl rfl ?_
      refine ex_iload (pc := 49) 29 rfl rfl ?_
      refine ex_isub (pc := 51) 30 rfl ?_
      refine ex_istore (pc := 52) 31 rfl rfl rfl ?_
      refine ex_aload_n (pc := 54) 32 rfl rfl ?_
      refine ex_aload_n (pc := 55) 33 rfl rfl ?_
      refine ex_invV (pc := 56) (M' := mX8_allFacts) (As := []) (st := [.inr (.inr 24)]) 34 rfl clk8 rfl rfl calX8_allFacts (Or.inl ww_871) rfl rfl ?_
      refine vm_call.mono h ?_
      rintro m4 _ ⟨r5, rfl, h⟩
      refine ex_iconst (pc := 59) 35 rfl ?_
      refine ex_iload_n (pc := 60) 36 rfl rfl ?_
      refine ex_iload (pc := 61) 37 rfl rfl ?_
      refine ex_iload (pc := 63) 38 rfl rfl ?_
      refine ex_iconst (pc := 65) 39 rfl ?_
      refine ex_iconst (pc := 66) 40 rfl ?_
      refine ex_invV (pc := 67) (M' := mX8_isSolvedWith) (As := [.inl r5, .inl 1, .inl v1, .inl (v3 - v4), .inl (v3 - v4), .inl 0, .inl 0]) (st := []) 41 rfl clk8 rfl rfl calX8_isSolvedWith (Or.inl ww_990) rfl rfl ?_
      refine vm_call.mono h ?_
      rintro m6 _ ⟨r7, rfl, h⟩
      refine ex_if_eq (pc := 70) 76 42 rfl (by decide) (vm_b2i_R _) (fun hb => ?_) (fun hb => ?_)
      · have h := h.1 (vm_b2i_0.mp hb)
        refine ex_iinc (pc := 76) 45 rfl rfl rfl rfl ?_
        refine ex_goto (pc := 79) 33 46 rfl (by decide) ?_
        exact ex_less [some (.inr (.inr 24)), some (.inl v1), some (.inl v2), some (.inl v3), some (.inl (v4 + 1)), none] (And.intro rfl (And.intro rfl (And.intro rfl (And.intro rfl (And.intro rfl (True.intro)))))) h
      · have h := h.2 (vm_b2i_n.mp hb)
        refine ex_iload (pc := 73) 43 rfl rfl ?_
        exact ex_iret (pc := 75) 44 rfl (Or.inl rfl) ⟨_, rfl, h⟩
    · have h := h.2 hb
      refine ex_iload (pc := 43) 26 rfl rfl ?_
      refine ex_goto (pc := 45) 52 27 rfl (by decide) ?_
      refine ex_istore (pc := 52) 31 rfl rfl rfl ?_
      refine ex_aload_n (pc := 54) 32 rfl rfl ?_
      refine ex_aload_n (pc := 55) 33 rfl rfl ?_
      refine ex_invV (pc := 56) (M' := mX8_allFacts) (As := []) (st := [.inr (.inr 24)]) 34 rfl clk8 rfl rfl calX8_allFacts (Or.inl ww_871) rfl rfl ?_
      refine vm_call.mono h ?_
      rintro m8 _ ⟨r9, rfl, h⟩
      refine ex_iconst (pc := 59) 35 rfl ?_
      refine ex_iload_n (pc := 60) 36 rfl rfl ?_
      refine ex_iload (pc := 61) 37 rfl rfl ?_
      refine ex_iload (pc := 63) 38 rfl rfl ?_
      refine ex_iconst (pc := 65) 39 rfl ?_
      refine ex_iconst (pc := 66) 40 rfl ?_
      refine ex_invV (pc := 67) (M' := mX8_isSolvedWith) (As := [.inl r9, .inl 1, .inl v1, .inl v4, .inl v4, .inl 0, .inl 0]) (st := []) 41 rfl clk8 rfl rfl calX8_isSolvedWith (Or.inl ww_990) rfl rfl ?_
      refine vm_call.mono h ?_
      rintro m10 _ ⟨r11, rfl, h⟩
      refine ex_if_eq (pc := 70) 76 42 rfl (by decide) (vm_b2i_R _) (fun hb => ?_) (fun hb => ?_)
      · have h := h.1 (vm_b2i_0.mp hb)
        refine ex_iinc (pc := 76) 45 rfl rfl rfl rfl ?_
        refine ex_goto (pc := 79) 33 46 rfl (by decide) ?_
        exact ex_less [some (.inr (.inr 24)), some (.inl v1), some (.inl v2), some (.inl v3), some (.inl (v4 + 1)), none] (And.intro rfl (And.intro rfl (And.intro rfl (And.intro rfl (And.intro rfl (True.intro)))))) h
      · have h := h.2 (vm_b2i_n.mp hb)
        refine ex_iload (pc := 73) 43 rfl rfl ?_
        exact ex_iret (pc := 75) 44 rfl (Or.inl rfl) ⟨_, rfl, h⟩
set_option maxRecDepth 20000 in
theorem qX8_isSolvedFrom {G : vm_G} {d : Nat} {p1 : Int} {mem : vm_M} {Q : vm_M → Bool → Prop} (h : vm_ci G d mX8_allFacts [.inr (.inr 24)] mem (fun m1 r2 => (∀ m3, m3 = vm_up m1 24 10 r2 → (∀ m4, m4 = vm_up m3 24 9 0 → vm_cn G d mX8_layAll [.inr (.inr 24)] m4 (fun m5 => vm_ex G (d + 1) mX8_isSolvedFrom 19 [some (.inr (.inr 24)), some (.inl p1), some (.inl 0)] [] m5 (vm_qb Q)))))) : vm_cb G (d + 1) mX8_isSolvedFrom [.inr (.inr 24), .inl p1] mem Q := by
  refine vm_enter (al := [some (.inr (.inr 24)), some (.inl p1), none]) 1 okX8_isSolvedFrom (by decide +kernel) rfl rfl ?_
  refine ex_aload_n (pc := 0) 0 rfl rfl ?_
  refine ex_aload_n (pc := 1) 1 rfl rfl ?_
  refine ex_invV (pc := 2) (M' := mX8_allFacts) (As := []) (st := [.inr (.inr 24)]) 2 rfl clk8 rfl rfl calX8_allFacts (Or.inl ww_871) rfl rfl ?_
  refine vm_call.mono h ?_
  rintro m1 _ ⟨r2, rfl, h⟩
  have h := h _ rfl
  refine ex_puti (pc := 5) 10 3 rfl clk8 rfl rfl (Or.inl ww_750) rfl rfl rfl ?_
  generalize vm_up m1 24 _ r2 = m3 at h ⊢
  refine ex_aload_n (pc := 8) 4 rfl rfl ?_
  refine ex_iconst (pc := 9) 5 rfl ?_
  have h := h _ rfl
  refine ex_puti (pc := 10) 9 6 rfl clk8 rfl rfl (Or.inl ww_749) rfl rfl rfl ?_
  generalize vm_up m3 24 _ 0 = m4 at h ⊢
  refine ex_aload_n (pc := 13) 7 rfl rfl ?_
  refine ex_invV (pc := 14) (M' := mX8_layAll) (As := []) (st := []) 8 rfl clk8 rfl rfl calX8_layAll (Or.inl ww_879) rfl rfl ?_
  refine vm_call.mono h ?_
  rintro m5 _ ⟨rfl, h⟩
  refine ex_iconst (pc := 17) 9 rfl ?_
  refine ex_istore_n (pc := 18) 10 rfl rfl rfl ?_
  exact h
set_option maxRecDepth 20000 in
theorem qX8_isSolvedFrom_19 {G : vm_G} {d : Nat} {v1 : Int} {v2 : Int} {mem : vm_M} {Q : vm_M → Bool → Prop} (h : (vm_R v2) ∧ (vm_R v1) ∧ ((v1 < v2 → vm_cb G d mX8_isSolvedByParts [.inr (.inr 24)] mem (fun m3 r4 => Q m3 r4)) ∧ (¬ v1 < v2 → (0 ≤ v2 ∧ v2 < 12) ∧ (∀ m6, m6 = vm_up mem 29 v2 (mem 35 v2) → (∀ m7, m7 = vm_up m6 30 v2 (m6 35 v2) → vm_ex G (d + 1) mX8_isSolvedFrom 19 [some (.inr (.inr 24)), some (.inl v1), some (.inl (v2 + 1))] [] m7 (vm_qb Q)))))) : vm_ex G (d + 1) mX8_isSolvedFrom 19 [some (.inr (.inr 24)), some (.inl v1), some (.inl v2)] [] mem (vm_qb Q) := by
  refine ex_iload_n (pc := 19) 11 rfl rfl ?_
  refine ex_iload_n (pc := 20) 12 rfl rfl ?_
  obtain ⟨hs1, h⟩ := h
  obtain ⟨hs2, h⟩ := h
  refine ex_icmp_gt (pc := 21) 54 13 rfl (by decide) hs1 hs2 (fun hb => ?_) (fun hb => ?_)
  · have h := h.1 hb
    refine ex_aload_n (pc := 54) 32 rfl rfl ?_
    refine ex_invV (pc := 55) (M' := mX8_isSolvedByParts) (As := []) (st := []) 33 rfl clk8 rfl rfl calX8_isSolvedByParts (Or.inl ww_883) rfl rfl ?_
    refine vm_call.mono h ?_
    rintro m3 _ ⟨r4, rfl, h⟩
    exact ex_iret (pc := 58) 34 rfl (Or.inr ⟨rfl, vm_b2i_01 _⟩) ⟨_, rfl, h⟩
  · have h := h.2 hb
    refine ex_aload_n (pc := 24) 14 rfl rfl ?_
    refine ex_geta (pc := 25) 6 15 rfl clk8 rfl rfl (Or.inl ww_746) rfl ?_
    refine ex_iload_n (pc := 28) 16 rfl rfl ?_
    refine ex_aload_n (pc := 29) 17 rfl rfl ?_
    refine ex_geta (pc := 30) 16 18 rfl clk8 rfl rfl (Or.inl ww_756) rfl ?_
    refine ex_iload_n (pc := 33) 19 rfl rfl ?_
    obtain ⟨hs5, h⟩ := h
    refine ex_iaload (pc := 34) 20 rfl rfl rfl hs5 ?_
    have h := h _ rfl
    refine ex_iastore (pc := 35) 21 rfl rfl rfl hs5 ?_
    generalize vm_up mem 29 v2 (mem 35 v2) = m6 at h ⊢
    refine ex_aload_n (pc := 36) 22 rfl rfl ?_
    refine ex_geta (pc := 37) 7 23 rfl clk8 rfl rfl (Or.inl ww_747) rfl ?_
    refine ex_iload_n (pc := 40) 24 rfl rfl ?_
    refine ex_aload_n (pc := 41) 25 rfl rfl ?_
    refine ex_geta (pc := 42) 16 26 rfl clk8 rfl rfl (Or.inl ww_756) rfl ?_
    refine ex_iload_n (pc := 45) 27 rfl rfl ?_
    refine ex_iaload (pc := 46) 28 rfl rfl rfl hs5 ?_
    have h := h _ rfl
    refine ex_iastore (pc := 47) 29 rfl rfl rfl hs5 ?_
    generalize vm_up m6 30 v2 (m6 35 v2) = m7 at h ⊢
    refine ex_iinc (pc := 48) 30 rfl rfl rfl rfl ?_
    refine ex_goto (pc := 51) 19 31 rfl (by decide) ?_
    exact h
set_option maxRecDepth 20000 in
theorem qX8_findFirst {G : vm_G} {d : Nat}  {mem : vm_M} {Q : vm_M → Prop} (h : vm_ex G (d + 1) mX8_findFirst 2 [some (.inr (.inr 24)), some (.inl 0)] [] mem (vm_qn Q)) : vm_cn G (d + 1) mX8_findFirst [.inr (.inr 24)] mem Q := by
  refine vm_enter (al := [some (.inr (.inr 24)), none]) 1 okX8_findFirst (by decide +kernel) rfl rfl ?_
  refine ex_iconst (pc := 0) 0 rfl ?_
  refine ex_istore_n (pc := 1) 1 rfl rfl rfl ?_
  exact h
set_option maxRecDepth 20000 in
theorem qX8_findFirst_2 {G : vm_G} {d : Nat} {v1 : Int} {mem : vm_M} {Q : vm_M → Prop} (h : (vm_R v1) ∧ ((12 ≤ v1 → Q mem) ∧ (¬ 12 ≤ v1 → (0 ≤ v1 ∧ v1 < 12) ∧ (∀ m3, m3 = vm_up mem 35 v1 0 → vm_ex G (d + 1) mX8_findFirst 15 [some (.inr (.inr 24)), some (.inl v1)] [] m3 (vm_qn Q))))) : vm_ex G (d + 1) mX8_findFirst 2 [some (.inr (.inr 24)), some (.inl v1)] [] mem (vm_qn Q) := by
  refine ex_iload_n (pc := 2) 2 rfl rfl ?_
  refine ex_bipush (pc := 3) 3 rfl (by decide) ?_
  obtain ⟨hs1, h⟩ := h
  refine ex_icmp_ge (pc := 5) 42 4 rfl (by decide) hs1 ⟨by decide, by decide⟩ (fun hb => ?_) (fun hb => ?_)
  · have h := h.1 hb
    exact ex_ret (pc := 42) 25 rfl rfl ⟨rfl, h⟩
  · have h := h.2 hb
    refine ex_aload_n (pc := 8) 5 rfl rfl ?_
    refine ex_geta (pc := 9) 16 6 rfl clk8 rfl rfl (Or.inl ww_756) rfl ?_
    refine ex_iload_n (pc := 12) 7 rfl rfl ?_
    refine ex_iconst (pc := 13) 8 rfl ?_
    obtain ⟨hs2, h⟩ := h
    have h := h _ rfl
    refine ex_iastore (pc := 14) 9 rfl rfl rfl hs2 ?_
    generalize vm_up mem 35 v1 0 = m3 at h ⊢
    exact h
set_option maxRecDepth 20000 in
theorem qX8_findFirst_15 {G : vm_G} {d : Nat} {v1 : Int} {mem : vm_M} {Q : vm_M → Prop} (h : vm_cb G d mX8_isSolvedFrom [.inr (.inr 24), .inl v1] mem (fun m1 r2 => (r2 = true → vm_ex G (d + 1) mX8_findFirst 2 [some (.inr (.inr 24)), some (.inl (v1 + 1))] [] m1 (vm_qn Q)) ∧ (r2 = false → (0 ≤ v1 ∧ v1 < 12) ∧ (∀ m4, m4 = vm_up m1 35 v1 ((m1 35 v1) + 1) → vm_ex G (d + 1) mX8_findFirst 15 [some (.inr (.inr 24)), some (.inl v1)] [] m4 (vm_qn Q))))) : vm_ex G (d + 1) mX8_findFirst 15 [some (.inr (.inr 24)), some (.inl v1)] [] mem (vm_qn Q) := by
  refine ex_aload_n (pc := 15) 10 rfl rfl ?_
  refine ex_iload_n (pc := 16) 11 rfl rfl ?_
  refine ex_invV (pc := 17) (M' := mX8_isSolvedFrom) (As := [.inl v1]) (st := []) 12 rfl clk8 rfl rfl calX8_isSolvedFrom (Or.inl ww_1010) rfl rfl ?_
  refine vm_call.mono h ?_
  rintro m1 _ ⟨r2, rfl, h⟩
  refine ex_if_ne (pc := 20) 36 13 rfl (by decide) (vm_b2i_R _) (fun hb => ?_) (fun hb => ?_)
  · have h := h.1 (vm_b2i_n.mp hb)
    refine ex_iinc (pc := 36) 23 rfl rfl rfl rfl ?_
    refine ex_goto (pc := 39) 2 24 rfl (by decide) ?_
    exact h
  · have h := h.2 (vm_b2i_0.mp hb)
    refine ex_aload_n (pc := 23) 14 rfl rfl ?_
    refine ex_geta (pc := 24) 16 15 rfl clk8 rfl rfl (Or.inl ww_756) rfl ?_
    refine ex_iload_n (pc := 27) 16 rfl rfl ?_
    refine ex_dup2 (pc := 28) 17 rfl ?_
    obtain ⟨hs3, h⟩ := h
    refine ex_iaload (pc := 29) 18 rfl rfl rfl hs3 ?_
    refine ex_iconst (pc := 30) 19 rfl ?_
    refine ex_iadd (pc := 31) 20 rfl ?_
    have h := h _ rfl
    refine ex_iastore (pc := 32) 21 rfl rfl rfl hs3 ?_
    generalize vm_up m1 35 v1 ((m1 35 v1) + 1) = m4 at h ⊢
    refine ex_goto (pc := 33) 15 22 rfl (by decide) ?_
    exact h
set_option maxRecDepth 20000 in
theorem qX8_least {G : vm_G} {d : Nat} {p1 : Int} {p2 : Int} {mem : vm_M} {Q : vm_M → Int → Prop} (h : vm_cb G d mX8_isBag [.inl p1] mem (fun m1 r2 => (r2 = false → Q m1 (-1)) ∧ (r2 = true → vm_cb G d mX8_isKind [.inl p2] m1 (fun m3 r4 => (r4 = true → vm_cb G d mX8_isSolvedNow [.inr (.inr 24)] m3 (fun m5 r6 => (r6 = true → vm_cn G d mX8_findFirst [.inr (.inr 24)] m5 (fun m7 => (0 ≤ ((3 * p1) + p2) ∧ ((3 * p1) + p2) < 12) ∧ Q m7 (m7 35 ((3 * p1) + p2)))) ∧ (r6 = false → Q m5 (-6)))) ∧ (r4 = false → Q m3 (-1)))))) : vm_ci G (d + 1) mX8_least [.inr (.inr 24), .inl p1, .inl p2] mem Q := by
  refine vm_enter (al := [some (.inr (.inr 24)), some (.inl p1), some (.inl p2)]) 0 okX8_least (by decide +kernel) rfl rfl ?_
  refine ex_iload_n (pc := 0) 0 rfl rfl ?_
  refine ex_invS (pc := 1) (M' := mX8_isBag) (As := [.inl p1]) (st := []) 1 rfl calX8_isBag (Or.inl ww_833) rfl rfl ?_
  refine vm_call.mono h ?_
  rintro m1 _ ⟨r2, rfl, h⟩
  refine ex_if_eq (pc := 4) 14 2 rfl (by decide) (vm_b2i_R _) (fun hb => ?_) (fun hb => ?_)
  · have h := h.1 (vm_b2i_0.mp hb)
    refine ex_iconst (pc := 14) 6 rfl ?_
    exact ex_iret (pc := 15) 7 rfl (Or.inl rfl) ⟨_, rfl, h⟩
  · have h := h.2 (vm_b2i_n.mp hb)
    refine ex_iload_n (pc := 7) 3 rfl rfl ?_
    refine ex_invS (pc := 8) (M' := mX8_isKind) (As := [.inl p2]) (st := []) 4 rfl calX8_isKind (Or.inl ww_836) rfl rfl ?_
    refine vm_call.mono h ?_
    rintro m3 _ ⟨r4, rfl, h⟩
    refine ex_if_ne (pc := 11) 16 5 rfl (by decide) (vm_b2i_R _) (fun hb => ?_) (fun hb => ?_)
    · have h := h.1 (vm_b2i_n.mp hb)
      refine ex_aload_n (pc := 16) 8 rfl rfl ?_
      refine ex_invV (pc := 17) (M' := mX8_isSolvedNow) (As := []) (st := []) 9 rfl clk8 rfl rfl calX8_isSolvedNow (Or.inl ww_867) rfl rfl ?_
      refine vm_call.mono h ?_
      rintro m5 _ ⟨r6, rfl, h⟩
      refine ex_if_ne (pc := 20) 26 10 rfl (by decide) (vm_b2i_R _) (fun hb => ?_) (fun hb => ?_)
      · have h := h.1 (vm_b2i_n.mp hb)
        refine ex_aload_n (pc := 26) 13 rfl rfl ?_
        refine ex_invV (pc := 27) (M' := mX8_findFirst) (As := []) (st := []) 14 rfl clk8 rfl rfl calX8_findFirst (Or.inl ww_1006) rfl rfl ?_
        refine vm_call.mono h ?_
        rintro m7 _ ⟨rfl, h⟩
        refine ex_aload_n (pc := 30) 15 rfl rfl ?_
        refine ex_geta (pc := 31) 16 16 rfl clk8 rfl rfl (Or.inl ww_756) rfl ?_
        refine ex_iconst (pc := 34) 17 rfl ?_
        refine ex_iload_n (pc := 35) 18 rfl rfl ?_
        refine ex_imul (pc := 36) 19 rfl ?_
        refine ex_iload_n (pc := 37) 20 rfl rfl ?_
        refine ex_iadd (pc := 38) 21 rfl ?_
        obtain ⟨hs9, h⟩ := h
        refine ex_iaload (pc := 39) 22 rfl rfl rfl hs9 ?_
        exact ex_iret (pc := 40) 23 rfl (Or.inl rfl) ⟨_, rfl, h⟩
      · have h := h.2 (vm_b2i_0.mp hb)
        refine ex_bipush (pc := 23) 11 rfl (by decide) ?_
        exact ex_iret (pc := 25) 12 rfl (Or.inl rfl) ⟨_, rfl, h⟩
    · have h := h.2 (vm_b2i_0.mp hb)
      refine ex_iconst (pc := 14) 6 rfl ?_
      exact ex_iret (pc := 15) 7 rfl (Or.inl rfl) ⟨_, rfl, h⟩
set_option maxRecDepth 20000 in
theorem qX8_solutions {G : vm_G} {d : Nat} {p1 : Int} {mem : vm_M} {Q : vm_M → Int → Prop} (h : vm_cb G d mX8_in [.inl p1, .inl 1, .inl 500] mem (fun m1 r2 => (r2 = true → vm_cb G d mX8_isSolvedNow [.inr (.inr 24)] m1 (fun m3 r4 => (r4 = true → vm_ci G d mX8_countAll [.inr (.inr 24), .inl p1] m3 (fun m5 r6 => Q m5 r6)) ∧ (r4 = false → Q m3 0))) ∧ (r2 = false → Q m1 (-2)))) : vm_ci G (d + 1) mX8_solutions [.inr (.inr 24), .inl p1] mem Q := by
  refine vm_enter (al := [some (.inr (.inr 24)), some (.inl p1)]) 0 okX8_solutions (by decide +kernel) rfl rfl ?_
  refine ex_iload_n (pc := 0) 0 rfl rfl ?_
  refine ex_iconst (pc := 1) 1 rfl ?_
  refine ex_sipush (pc := 2) 2 rfl (by decide) ?_
  refine ex_invS (pc := 5) (M' := mX8_in) (As := [.inl p1, .inl 1, .inl 500]) (st := []) 3 rfl calX8_in (Or.inl ww_815) rfl rfl ?_
  refine vm_call.mono h ?_
  rintro m1 _ ⟨r2, rfl, h⟩
  refine ex_if_ne (pc := 8) 14 4 rfl (by decide) (vm_b2i_R _) (fun hb => ?_) (fun hb => ?_)
  · have h := h.1 (vm_b2i_n.mp hb)
    refine ex_aload_n (pc := 14) 7 rfl rfl ?_
    refine ex_invV (pc := 15) (M' := mX8_isSolvedNow) (As := []) (st := []) 8 rfl clk8 rfl rfl calX8_isSolvedNow (Or.inl ww_867) rfl rfl ?_
    refine vm_call.mono h ?_
    rintro m3 _ ⟨r4, rfl, h⟩
    refine ex_if_ne (pc := 18) 23 9 rfl (by decide) (vm_b2i_R _) (fun hb => ?_) (fun hb => ?_)
    · have h := h.1 (vm_b2i_n.mp hb)
      refine ex_aload_n (pc := 23) 12 rfl rfl ?_
      refine ex_iload_n (pc := 24) 13 rfl rfl ?_
      refine ex_invV (pc := 25) (M' := mX8_countAll) (As := [.inl p1]) (st := []) 14 rfl clk8 rfl rfl calX8_countAll (Or.inl ww_1018) rfl rfl ?_
      refine vm_call.mono h ?_
      rintro m5 _ ⟨r6, rfl, h⟩
      exact ex_iret (pc := 28) 15 rfl (Or.inl rfl) ⟨_, rfl, h⟩
    · have h := h.2 (vm_b2i_0.mp hb)
      refine ex_iconst (pc := 21) 10 rfl ?_
      exact ex_iret (pc := 22) 11 rfl (Or.inl rfl) ⟨_, rfl, h⟩
  · have h := h.2 (vm_b2i_0.mp hb)
    refine ex_bipush (pc := 11) 5 rfl (by decide) ?_
    exact ex_iret (pc := 13) 6 rfl (Or.inl rfl) ⟨_, rfl, h⟩
set_option maxRecDepth 20000 in
theorem qX8_countAll {G : vm_G} {d : Nat} {p1 : Int} {mem : vm_M} {Q : vm_M → Int → Prop} (h : vm_ci G d mX8_allFacts [.inr (.inr 24)] mem (fun m1 r2 => (∀ m3, m3 = vm_up m1 24 10 r2 → vm_ex G (d + 1) mX8_countAll 15 [some (.inr (.inr 24)), some (.inl p1), some (.inl 0), some (.inl 1), some (.inl 0), none] [] m3 (vm_qi Q)))) : vm_ci G (d + 1) mX8_countAll [.inr (.inr 24), .inl p1] mem Q := by
  refine vm_enter (al := [some (.inr (.inr 24)), some (.inl p1), none, none, none, none]) 4 okX8_countAll (by decide +kernel) rfl rfl ?_
  refine ex_iconst (pc := 0) 0 rfl ?_
  refine ex_istore_n (pc := 1) 1 rfl rfl rfl ?_
  refine ex_iconst (pc := 2) 2 rfl ?_
  refine ex_istore_n (pc := 3) 3 rfl rfl rfl ?_
  refine ex_aload_n (pc := 4) 4 rfl rfl ?_
  refine ex_aload_n (pc := 5) 5 rfl rfl ?_
  refine ex_invV (pc := 6) (M' := mX8_allFacts) (As := []) (st := [.inr (.inr 24)]) 6 rfl clk8 rfl rfl calX8_allFacts (Or.inl ww_871) rfl rfl ?_
  refine vm_call.mono h ?_
  rintro m1 _ ⟨r2, rfl, h⟩
  have h := h _ rfl
  refine ex_puti (pc := 9) 10 7 rfl clk8 rfl rfl (Or.inl ww_750) rfl rfl rfl ?_
  generalize vm_up m1 24 _ r2 = m3 at h ⊢
  refine ex_iconst (pc := 12) 8 rfl ?_
  refine ex_istore (pc := 13) 9 rfl rfl rfl ?_
  exact h
set_option maxRecDepth 20000 in
theorem qX8_countAll_15 {G : vm_G} {d : Nat} {v1 : Int} {v2 : Int} {v3 : Int} {v4 : Int} {mem : vm_M} {Q : vm_M → Int → Prop} (h : (vm_R v4) ∧ ((12 ≤ v4 → Q mem v3) ∧ (¬ 12 ≤ v4 → (vm_R (vm_and (vm_shr v2 v4) 1)) ∧ ((¬ (vm_and (vm_shr v2 v4) 1) = 0 → vm_ex G (d + 1) mX8_countAll 15 [some (.inr (.inr 24)), some (.inl v1), some (.inl v2), some (.inl v3), some (.inl (v4 + 1)), none] [] mem (vm_qi Q)) ∧ ((vm_and (vm_shr v2 v4) 1) = 0 → vm_cn G d mX8_layAll [.inr (.inr 24)] mem (fun m3 => vm_cb G d mX8_narrow [.inr (.inr 24)] m3 (fun m5 r6 => vm_ci G d mX8_part [.inr (.inr 24), .inl v4] m5 (fun m7 r8 => vm_ci G d mX8_search [.inr (.inr 24), .inl r8, .inl v1] m7 (fun m9 r10 => (vm_R (v3 * r10)) ∧ (vm_R v1) ∧ (((v3 * r10) ≤ v1 → vm_ex G (d + 1) mX8_countAll 15 [some (.inr (.inr 24)), some (.inl v1), some (.inl (vm_or v2 r8)), some (.inl (v3 * r10)), some (.inl (v4 + 1)), none] [] m9 (vm_qi Q)) ∧ (¬ (v3 * r10) ≤ v1 → vm_ex G (d + 1) mX8_countAll 15 [some (.inr (.inr 24)), some (.inl v1), some (.inl (vm_or v2 r8)), some (.inl v1), some (.inl (v4 + 1)), none] [] m9 (vm_qi Q)))))))))))) : vm_ex G (d + 1) mX8_countAll 15 [some (.inr (.inr 24)), some (.inl v1), some (.inl v2), some (.inl v3), some (.inl v4), none] [] mem (vm_qi Q) := by
  refine ex_iload (pc := 15) 10 rfl rfl ?_
  refine ex_bipush (pc := 17) 11 rfl (by decide) ?_
  obtain ⟨hs1, h⟩ := h
  refine ex_icmp_ge (pc := 19) 80 12 rfl (by decide) hs1 ⟨by decide, by decide⟩ (fun hb => ?_) (fun hb => ?_)
  · have h := h.1 hb
    refine ex_iload_n (pc := 80) 48 rfl rfl ?_
    exact ex_iret (pc := 81) 49 rfl (Or.inl rfl) ⟨_, rfl, h⟩
  · have h := h.2 hb
    refine ex_iload_n (pc := 22) 13 rfl rfl ?_
    refine ex_iload (pc := 23) 14 rfl rfl ?_
    refine ex_ishr (pc := 25) 15 rfl ?_
    refine ex_iconst (pc := 26) 16 rfl ?_
    refine ex_iand (pc := 27) 17 rfl ?_
    obtain ⟨hs2, h⟩ := h
    refine ex_if_ne (pc := 28) 74 18 rfl (by decide) hs2 (fun hb => ?_) (fun hb => ?_)
    · have h := h.1 hb
      refine ex_iinc (pc := 74) 46 rfl rfl rfl rfl ?_
      refine ex_goto (pc := 77) 15 47 rfl (by decide) ?_
      exact h
    · have h := h.2 hb
      refine ex_aload_n (pc := 31) 19 rfl rfl ?_
      refine ex_invV (pc := 32) (M' := mX8_layAll) (As := []) (st := []) 20 rfl clk8 rfl rfl calX8_layAll (Or.inl ww_879) rfl rfl ?_
      refine vm_call.mono h ?_
      rintro m3 _ ⟨rfl, h⟩
      refine ex_aload_n (pc := 35) 21 rfl rfl ?_
      refine ex_invV (pc := 36) (M' := mX8_narrow) (As := []) (st := []) 22 rfl clk8 rfl rfl calX8_narrow (Or.inl ww_887) rfl rfl ?_
      refine vm_call.mono h ?_
      rintro m5 _ ⟨r6, rfl, h⟩
      refine ex_popi (pc := 39) 23 rfl ?_
      refine ex_aload_n (pc := 40) 24 rfl rfl ?_
      refine ex_iload (pc := 41) 25 rfl rfl ?_
      refine ex_invV (pc := 43) (M' := mX8_part) (As := [.inl v4]) (st := []) 26 rfl clk8 rfl rfl calX8_part (Or.inl ww_949) rfl rfl ?_
      refine vm_call.mono h ?_
      rintro m7 _ ⟨r8, rfl, h⟩
      refine ex_istore (pc := 46) 27 rfl rfl rfl ?_
      refine ex_iload_n (pc := 48) 28 rfl rfl ?_
      refine ex_iload (pc := 49) 29 rfl rfl ?_
      refine ex_ior (pc := 51) 30 rfl ?_
      refine ex_istore_n (pc := 52) 31 rfl rfl rfl ?_
      refine ex_iload_n (pc := 53) 32 rfl rfl ?_
      refine ex_aload_n (pc := 54) 33 rfl rfl ?_
      refine ex_iload (pc := 55) 34 rfl rfl ?_
      refine ex_iload_n (pc := 57) 35 rfl rfl ?_
      refine ex_invV (pc := 58) (M' := mX8_search) (As := [.inl r8, .inl v1]) (st := [.inl v3]) 36 rfl clk8 rfl rfl calX8_search (Or.inl ww_963) rfl rfl ?_
      refine vm_call.mono h ?_
      rintro m9 _ ⟨r10, rfl, h⟩
      refine ex_imul (pc := 61) 37 rfl ?_
      refine ex_istore_n (pc := 62) 38 rfl rfl rfl ?_
      refine ex_iload_n (pc := 63) 39 rfl rfl ?_
      refine ex_iload_n (pc := 64) 40 rfl rfl ?_
      obtain ⟨hs11, h⟩ := h
      obtain ⟨hs12, h⟩ := h
      refine ex_icmp_le (pc := 65) 72 41 rfl (by decide) hs11 hs12 (fun hb => ?_) (fun hb => ?_)
      · have h := h.1 hb
        refine ex_iload_n (pc := 72) 44 rfl rfl ?_
        refine ex_istore_n (pc := 73) 45 rfl rfl rfl ?_
        refine ex_iinc (pc := 74) 46 rfl rfl rfl rfl ?_
        refine ex_goto (pc := 77) 15 47 rfl (by decide) ?_
        exact ex_less [some (.inr (.inr 24)), some (.inl v1), some (.inl (vm_or v2 r8)), some (.inl (v3 * r10)), some (.inl (v4 + 1)), none] (And.intro rfl (And.intro rfl (And.intro rfl (And.intro rfl (And.intro rfl (True.intro)))))) h
      · have h := h.2 hb
        refine ex_iload_n (pc := 68) 42 rfl rfl ?_
        refine ex_goto (pc := 69) 73 43 rfl (by decide) ?_
        refine ex_istore_n (pc := 73) 45 rfl rfl rfl ?_
        refine ex_iinc (pc := 74) 46 rfl rfl rfl rfl ?_
        refine ex_goto (pc := 77) 15 47 rfl (by decide) ?_
        exact ex_less [some (.inr (.inr 24)), some (.inl v1), some (.inl (vm_or v2 r8)), some (.inl v1), some (.inl (v4 + 1)), none] (And.intro rfl (And.intro rfl (And.intro rfl (And.intro rfl (And.intro rfl (True.intro)))))) h
set_option maxRecDepth 20000 in
theorem qX8_follows {G : vm_G} {d : Nat} {p1 : Int} {p2 : Int} {p3 : Int} {p4 : Int} {p5 : Int} {p6 : Int} {mem : vm_M} {Q : vm_M → Int → Prop} (h : vm_cb G d mX8_isFact [.inl p1, .inl p2, .inl p3, .inl p4, .inl p5, .inl p6] mem (fun m1 r2 => (r2 = true → vm_cb G d mX8_isSolvedNow [.inr (.inr 24)] m1 (fun m3 r4 => (r4 = true → vm_ci G d mX8_allFacts [.inr (.inr 24)] m3 (fun m5 r6 => vm_cb G d mX8_isSolvedWith [.inr (.inr 24), .inl r6, .inl p1, .inl p2, .inl p3, .inl p4, .inl p5, .inl p6] m5 (fun m7 r8 => (r8 = true → vm_ci G d mX8_allFacts [.inr (.inr 24)] m7 (fun m9 r10 => vm_cb G d mX8_canFail [.inr (.inr 24), .inl r10, .inl p1, .inl p2, .inl p3, .inl p4, .inl p5, .inl p6] m9 (fun m11 r12 => (r12 = false → Q m11 1) ∧ (r12 = true → Q m11 2)))) ∧ (r8 = false → Q m7 0)))) ∧ (r4 = false → Q m3 (-6)))) ∧ (r2 = false → Q m1 (-2)))) : vm_ci G (d + 1) mX8_follows [.inr (.inr 24), .inl p1, .inl p2, .inl p3, .inl p4, .inl p5, .inl p6] mem Q := by
  refine vm_enter (al := [some (.inr (.inr 24)), some (.inl p1), some (.inl p2), some (.inl p3), some (.inl p4), some (.inl p5), some (.inl p6), none]) 1 okX8_follows (by decide +kernel) rfl rfl ?_
  refine ex_iload_n (pc := 0) 0 rfl rfl ?_
  refine ex_iload_n (pc := 1) 1 rfl rfl ?_
  refine ex_iload_n (pc := 2) 2 rfl rfl ?_
  refine ex_iload (pc := 3) 3 rfl rfl ?_
  refine ex_iload (pc := 5) 4 rfl rfl ?_
  refine ex_iload (pc := 7) 5 rfl rfl ?_
  refine ex_invS (pc := 9) (M' := mX8_isFact) (As := [.inl p1, .inl p2, .inl p3, .inl p4, .inl p5, .inl p6]) (st := []) 6 rfl calX8_isFact (Or.inl ww_830) rfl rfl ?_
  refine vm_call.mono h ?_
  rintro m1 _ ⟨r2, rfl, h⟩
  refine ex_if_ne (pc := 12) 18 7 rfl (by decide) (vm_b2i_R _) (fun hb => ?_) (fun hb => ?_)
  · have h := h.1 (vm_b2i_n.mp hb)
    refine ex_aload_n (pc := 18) 10 rfl rfl ?_
    refine ex_invV (pc := 19) (M' := mX8_isSolvedNow) (As := []) (st := []) 11 rfl clk8 rfl rfl calX8_isSolvedNow (Or.inl ww_867) rfl rfl ?_
    refine vm_call.mono h ?_
    rintro m3 _ ⟨r4, rfl, h⟩
    refine ex_if_ne (pc := 22) 28 12 rfl (by decide) (vm_b2i_R _) (fun hb => ?_) (fun hb => ?_)
    · have h := h.1 (vm_b2i_n.mp hb)
      refine ex_aload_n (pc := 28) 15 rfl rfl ?_
      refine ex_aload_n (pc := 29) 16 rfl rfl ?_
      refine ex_invV (pc := 30) (M' := mX8_allFacts) (As := []) (st := [.inr (.inr 24)]) 17 rfl clk8 rfl rfl calX8_allFacts (Or.inl ww_871) rfl rfl ?_
      refine vm_call.mono h ?_
      rintro m5 _ ⟨r6, rfl, h⟩
      refine ex_iload_n (pc := 33) 18 rfl rfl ?_
      refine ex_iload_n (pc := 34) 19 rfl rfl ?_
      refine ex_iload_n (pc := 35) 20 rfl rfl ?_
      refine ex_iload (pc := 36) 21 rfl rfl ?_
      refine ex_iload (pc := 38) 22 rfl rfl ?_
      refine ex_iload (pc := 40) 23 rfl rfl ?_
      refine ex_invV (pc := 42) (M' := mX8_isSolvedWith) (As := [.inl r6, .inl p1, .inl p2, .inl p3, .inl p4, .inl p5, .inl p6]) (st := []) 24 rfl clk8 rfl rfl calX8_isSolvedWith (Or.inl ww_990) rfl rfl ?_
      refine vm_call.mono h ?_
      rintro m7 _ ⟨r8, rfl, h⟩
      refine ex_istore (pc := 45) 25 rfl rfl rfl ?_
      refine ex_iload (pc := 47) 26 rfl rfl ?_
      refine ex_if_ne (pc := 49) 56 27 rfl (by decide) (vm_b2i_R _) (fun hb => ?_) (fun hb => ?_)
      · have h := h.1 (vm_b2i_n.mp hb)
        refine ex_aload_n (pc := 56) 30 rfl rfl ?_
        refine ex_aload_n (pc := 57) 31 rfl rfl ?_
        refine ex_invV (pc := 58) (M' := mX8_allFacts) (As := []) (st := [.inr (.inr 24)]) 32 rfl clk8 rfl rfl calX8_allFacts (Or.inl ww_871) rfl rfl ?_
        refine vm_call.mono h ?_
        rintro m9 _ ⟨r10, rfl, h⟩
        refine ex_iload_n (pc := 61) 33 rfl rfl ?_
        refine ex_iload_n (pc := 62) 34 rfl rfl ?_
        refine ex_iload_n (pc := 63) 35 rfl rfl ?_
        refine ex_iload (pc := 64) 36 rfl rfl ?_
        refine ex_iload (pc := 66) 37 rfl rfl ?_
        refine ex_iload (pc := 68) 38 rfl rfl ?_
        refine ex_invV (pc := 70) (M' := mX8_canFail) (As := [.inl r10, .inl p1, .inl p2, .inl p3, .inl p4, .inl p5, .inl p6]) (st := []) 39 rfl clk8 rfl rfl calX8_canFail (Or.inl ww_1026) rfl rfl ?_
        refine vm_call.mono h ?_
        rintro m11 _ ⟨r12, rfl, h⟩
        refine ex_if_eq (pc := 73) 80 40 rfl (by decide) (vm_b2i_R _) (fun hb => ?_) (fun hb => ?_)
        · have h := h.1 (vm_b2i_0.mp hb)
          refine ex_iconst (pc := 80) 43 rfl ?_
          exact ex_iret (pc := 81) 44 rfl (Or.inl rfl) ⟨_, rfl, h⟩
        · have h := h.2 (vm_b2i_n.mp hb)
          refine ex_iconst (pc := 76) 41 rfl ?_
          refine ex_goto (pc := 77) 81 42 rfl (by decide) ?_
          exact ex_iret (pc := 81) 44 rfl (Or.inl rfl) ⟨_, rfl, h⟩
      · have h := h.2 (vm_b2i_0.mp hb)
        refine ex_iconst (pc := 52) 28 rfl ?_
        refine ex_goto (pc := 53) 81 29 rfl (by decide) ?_
        exact ex_iret (pc := 81) 44 rfl (Or.inl rfl) ⟨_, rfl, h⟩
    · have h := h.2 (vm_b2i_0.mp hb)
      refine ex_bipush (pc := 25) 13 rfl (by decide) ?_
      exact ex_iret (pc := 27) 14 rfl (Or.inl rfl) ⟨_, rfl, h⟩
  · have h := h.2 (vm_b2i_0.mp hb)
    refine ex_bipush (pc := 15) 8 rfl (by decide) ?_
    exact ex_iret (pc := 17) 9 rfl (Or.inl rfl) ⟨_, rfl, h⟩
set_option maxRecDepth 20000 in
theorem qX8_contradiction {G : vm_G} {d : Nat}  {mem : vm_M} {Q : vm_M → Int → Prop} (h : vm_cb G d mX8_isSolvedNow [.inr (.inr 24)] mem (fun m1 r2 => (r2 = false → vm_ci G d mX8_allFacts [.inr (.inr 24)] m1 (fun m3 r4 => vm_ex G (d + 1) mX8_contradiction 17 [some (.inr (.inr 24)), some (.inl r4), some (.inl 0)] [] m3 (vm_qi Q))) ∧ (r2 = true → Q m1 (-6)))) : vm_ci G (d + 1) mX8_contradiction [.inr (.inr 24)] mem Q := by
  refine vm_enter (al := [some (.inr (.inr 24)), none, none]) 2 okX8_contradiction (by decide +kernel) rfl rfl ?_
  refine ex_aload_n (pc := 0) 0 rfl rfl ?_
  refine ex_invV (pc := 1) (M' := mX8_isSolvedNow) (As := []) (st := []) 1 rfl clk8 rfl rfl calX8_isSolvedNow (Or.inl ww_867) rfl rfl ?_
  refine vm_call.mono h ?_
  rintro m1 _ ⟨r2, rfl, h⟩
  refine ex_if_eq (pc := 4) 10 2 rfl (by decide) (vm_b2i_R _) (fun hb => ?_) (fun hb => ?_)
  · have h := h.1 (vm_b2i_0.mp hb)
    refine ex_aload_n (pc := 10) 5 rfl rfl ?_
    refine ex_invV (pc := 11) (M' := mX8_allFacts) (As := []) (st := []) 6 rfl clk8 rfl rfl calX8_allFacts (Or.inl ww_871) rfl rfl ?_
    refine vm_call.mono h ?_
    rintro m3 _ ⟨r4, rfl, h⟩
    refine ex_istore_n (pc := 14) 7 rfl rfl rfl ?_
    refine ex_iconst (pc := 15) 8 rfl ?_
    refine ex_istore_n (pc := 16) 9 rfl rfl rfl ?_
    exact h
  · have h := h.2 (vm_b2i_n.mp hb)
    refine ex_bipush (pc := 7) 3 rfl (by decide) ?_
    exact ex_iret (pc := 9) 4 rfl (Or.inl rfl) ⟨_, rfl, h⟩
set_option maxRecDepth 20000 in
theorem qX8_contradiction_17 {G : vm_G} {d : Nat} {v1 : Int} {v2 : Int} {mem : vm_M} {Q : vm_M → Int → Prop} (h : (vm_R v2) ∧ (vm_R (mem 25 1)) ∧ (((mem 25 1) ≤ v2 → Q mem v1) ∧ (¬ (mem 25 1) ≤ v2 → (∀ m3, m3 = vm_up mem 24 9 0 → vm_cb G d mX8_isSolved [.inr (.inr 24), .inl (vm_and v1 (vm_xor (vm_shl 1 v2) (-1)))] m3 (fun m4 r5 => (r5 = false → vm_ex G (d + 1) mX8_contradiction 17 [some (.inr (.inr 24)), some (.inl (vm_and v1 (vm_xor (vm_shl 1 v2) (-1)))), some (.inl (v2 + 1))] [] m4 (vm_qi Q)) ∧ (r5 = true → vm_ex G (d + 1) mX8_contradiction 17 [some (.inr (.inr 24)), some (.inl v1), some (.inl (v2 + 1))] [] m4 (vm_qi Q))))))) : vm_ex G (d + 1) mX8_contradiction 17 [some (.inr (.inr 24)), some (.inl v1), some (.inl v2)] [] mem (vm_qi Q) := by
  refine ex_iload_n (pc := 17) 10 rfl rfl ?_
  refine ex_aload_n (pc := 18) 11 rfl rfl ?_
  refine ex_geta (pc := 19) 0 12 rfl clk8 rfl rfl (Or.inl ww_740) rfl ?_
  refine ex_iconst (pc := 22) 13 rfl ?_
  refine ex_iaload (pc := 23) 14 rfl rfl rfl ⟨by decide, by decide⟩ ?_
  obtain ⟨hs1, h⟩ := h
  obtain ⟨hs2, h⟩ := h
  refine ex_icmp_ge (pc := 24) 64 15 rfl (by decide) hs1 hs2 (fun hb => ?_) (fun hb => ?_)
  · have h := h.1 hb
    refine ex_iload_n (pc := 64) 41 rfl rfl ?_
    exact ex_iret (pc := 65) 42 rfl (Or.inl rfl) ⟨_, rfl, h⟩
  · have h := h.2 hb
    refine ex_aload_n (pc := 27) 16 rfl rfl ?_
    refine ex_iconst (pc := 28) 17 rfl ?_
    have h := h _ rfl
    refine ex_puti (pc := 29) 9 18 rfl clk8 rfl rfl (Or.inl ww_749) rfl rfl rfl ?_
    generalize vm_up mem 24 _ 0 = m3 at h ⊢
    refine ex_aload_n (pc := 32) 19 rfl rfl ?_
    refine ex_iload_n (pc := 33) 20 rfl rfl ?_
    refine ex_iconst (pc := 34) 21 rfl ?_
    refine ex_iload_n (pc := 35) 22 rfl rfl ?_
    refine ex_ishl (pc := 36) 23 rfl ?_
    refine ex_iconst (pc := 37) 24 rfl ?_
    refine ex_ixor (pc := 38) 25 rfl ?_
    refine ex_iand (pc := 39) 26 rfl ?_
    refine ex_invV (pc := 40) (M' := mX8_isSolved) (As := [.inl (vm_and v1 (vm_xor (vm_shl 1 v2) (-1)))]) (st := []) 27 rfl clk8 rfl rfl calX8_isSolved (Or.inl ww_875) rfl rfl ?_
    refine vm_call.mono h ?_
    rintro m4 _ ⟨r5, rfl, h⟩
    refine ex_if_eq (pc := 43) 50 28 rfl (by decide) (vm_b2i_R _) (fun hb => ?_) (fun hb => ?_)
    · have h := h.1 (vm_b2i_0.mp hb)
      refine ex_iload_n (pc := 50) 31 rfl rfl ?_
      refine ex_iconst (pc := 51) 32 rfl ?_
      refine ex_iload_n (pc := 52) 33 rfl rfl ?_
      refine ex_ishl (pc := 53) 34 rfl ?_
      refine ex_iconst (pc := 54) 35 rfl ?_
      refine ex_ixor (pc := 55) 36 rfl ?_
      refine ex_iand (pc := 56) 37 rfl ?_
      refine ex_istore_n (pc := 57) 38 rfl rfl rfl ?_
      refine ex_iinc (pc := 58) 39 rfl rfl rfl rfl ?_
      refine ex_goto (pc := 61) 17 40 rfl (by decide) ?_
      exact h
    · have h := h.2 (vm_b2i_n.mp hb)
      refine ex_iload_n (pc := 46) 29 rfl rfl ?_
      refine ex_goto (pc := 47) 57 30 rfl (by decide) ?_
      refine ex_istore_n (pc := 57) 38 rfl rfl rfl ?_
      refine ex_iinc (pc := 58) 39 rfl rfl rfl rfl ?_
      refine ex_goto (pc := 61) 17 40 rfl (by decide) ?_
      exact h
set_option maxRecDepth 20000 in
theorem qX8_reason {G : vm_G} {d : Nat} {p1 : Int} {p2 : Int} {p3 : Int} {mem : vm_M} {Q : vm_M → Int → Prop} (h : vm_ci G d mX8_whyNotBound [.inl p1, .inl p2, .inl p3] mem (fun m1 r2 => (vm_R r2) ∧ ((0 ≤ r2 → vm_ci G d mX8_allFacts [.inr (.inr 24)] m1 (fun m4 r5 => vm_ci G d mX8_boundBy [.inr (.inr 24), .inl r5, .inl p1, .inl p2, .inl p3] m4 (fun m6 r7 => (vm_R r7) ∧ ((0 ≤ r7 → vm_ex G (d + 1) mX8_reason 44 [some (.inr (.inr 24)), some (.inl p1), some (.inl p2), some (.inl p3), some (.inl r2), some (.inl r5), some (.inl r7), some (.inl 0)] [] m6 (vm_qi Q)) ∧ (¬ 0 ≤ r7 → Q m6 (-6)))))) ∧ (¬ 0 ≤ r2 → Q m1 r2)))) : vm_ci G (d + 1) mX8_reason [.inr (.inr 24), .inl p1, .inl p2, .inl p3] mem Q := by
  refine vm_enter (al := [some (.inr (.inr 24)), some (.inl p1), some (.inl p2), some (.inl p3), none, none, none, none]) 4 okX8_reason (by decide +kernel) rfl rfl ?_
  refine ex_iload_n (pc := 0) 0 rfl rfl ?_
  refine ex_iload_n (pc := 1) 1 rfl rfl ?_
  refine ex_iload_n (pc := 2) 2 rfl rfl ?_
  refine ex_invS (pc := 3) (M' := mX8_whyNotBound) (As := [.inl p1, .inl p2, .inl p3]) (st := []) 3 rfl calX8_whyNotBound (Or.inl ww_983) rfl rfl ?_
  refine vm_call.mono h ?_
  rintro m1 _ ⟨r2, rfl, h⟩
  refine ex_istore (pc := 6) 4 rfl rfl rfl ?_
  refine ex_iload (pc := 8) 5 rfl rfl ?_
  obtain ⟨hs3, h⟩ := h
  refine ex_if_ge (pc := 10) 16 6 rfl (by decide) hs3 (fun hb => ?_) (fun hb => ?_)
  · have h := h.1 hb
    refine ex_aload_n (pc := 16) 9 rfl rfl ?_
    refine ex_invV (pc := 17) (M' := mX8_allFacts) (As := []) (st := []) 10 rfl clk8 rfl rfl calX8_allFacts (Or.inl ww_871) rfl rfl ?_
    refine vm_call.mono h ?_
    rintro m4 _ ⟨r5, rfl, h⟩
    refine ex_istore (pc := 20) 11 rfl rfl rfl ?_
    refine ex_aload_n (pc := 22) 12 rfl rfl ?_
    refine ex_iload (pc := 23) 13 rfl rfl ?_
    refine ex_iload_n (pc := 25) 14 rfl rfl ?_
    refine ex_iload_n (pc := 26) 15 rfl rfl ?_
    refine ex_iload_n (pc := 27) 16 rfl rfl ?_
    refine ex_invV (pc := 28) (M' := mX8_boundBy) (As := [.inl r5, .inl p1, .inl p2, .inl p3]) (st := []) 17 rfl clk8 rfl rfl calX8_boundBy (Or.inl ww_986) rfl rfl ?_
    refine vm_call.mono h ?_
    rintro m6 _ ⟨r7, rfl, h⟩
    refine ex_istore (pc := 31) 18 rfl rfl rfl ?_
    refine ex_iload (pc := 33) 19 rfl rfl ?_
    obtain ⟨hs8, h⟩ := h
    refine ex_if_ge (pc := 35) 41 20 rfl (by decide) hs8 (fun hb => ?_) (fun hb => ?_)
    · have h := h.1 hb
      refine ex_iconst (pc := 41) 23 rfl ?_
      refine ex_istore (pc := 42) 24 rfl rfl rfl ?_
      exact h
    · have h := h.2 hb
      refine ex_bipush (pc := 38) 21 rfl (by decide) ?_
      exact ex_iret (pc := 40) 22 rfl (Or.inl rfl) ⟨_, rfl, h⟩
  · have h := h.2 hb
    refine ex_iload (pc := 13) 7 rfl rfl ?_
    exact ex_iret (pc := 15) 8 rfl (Or.inl rfl) ⟨_, rfl, h⟩
set_option maxRecDepth 20000 in
theorem qX8_reason_44 {G : vm_G} {d : Nat} {v1 : Int} {v2 : Int} {v3 : Int} {v4 : Int} {v5 : Int} {v6 : Int} {v7 : Int} {mem : vm_M} {Q : vm_M → Int → Prop} (h : (vm_R v7) ∧ (vm_R (mem 25 1)) ∧ (((mem 25 1) ≤ v7 → Q mem v5) ∧ (¬ (mem 25 1) ≤ v7 → vm_ci G d mX8_boundBy [.inr (.inr 24), .inl (vm_and v5 (vm_xor (vm_shl 1 v7) (-1))), .inl v1, .inl v2, .inl v3] mem (fun m3 r4 => (vm_R r4) ∧ (vm_R v6) ∧ ((¬ r4 = v6 → vm_ex G (d + 1) mX8_reason 44 [some (.inr (.inr 24)), some (.inl v1), some (.inl v2), some (.inl v3), some (.inl v4), some (.inl v5), some (.inl v6), some (.inl (v7 + 1))] [] m3 (vm_qi Q)) ∧ (r4 = v6 → vm_ex G (d + 1) mX8_reason 44 [some (.inr (.inr 24)), some (.inl v1), some (.inl v2), some (.inl v3), some (.inl v4), some (.inl (vm_and v5 (vm_xor (vm_shl 1 v7) (-1)))), some (.inl v6), some (.inl (v7 + 1))] [] m3 (vm_qi Q))))))) : vm_ex G (d + 1) mX8_reason 44 [some (.inr (.inr 24)), some (.inl v1), some (.inl v2), some (.inl v3), some (.inl v4), some (.inl v5), some (.inl v6), some (.inl v7)] [] mem (vm_qi Q) := by
  refine ex_iload (pc := 44) 25 rfl rfl ?_
  refine ex_aload_n (pc := 46) 26 rfl rfl ?_
  refine ex_geta (pc := 47) 0 27 rfl clk8 rfl rfl (Or.inl ww_740) rfl ?_
  refine ex_iconst (pc := 50) 28 rfl ?_
  refine ex_iaload (pc := 51) 29 rfl rfl rfl ⟨by decide, by decide⟩ ?_
  obtain ⟨hs1, h⟩ := h
  obtain ⟨hs2, h⟩ := h
  refine ex_icmp_ge (pc := 52) 98 30 rfl (by decide) hs1 hs2 (fun hb => ?_) (fun hb => ?_)
  · have h := h.1 hb
    refine ex_iload (pc := 98) 57 rfl rfl ?_
    exact ex_iret (pc := 100) 58 rfl (Or.inl rfl) ⟨_, rfl, h⟩
  · have h := h.2 hb
    refine ex_aload_n (pc := 55) 31 rfl rfl ?_
    refine ex_iload (pc := 56) 32 rfl rfl ?_
    refine ex_iconst (pc := 58) 33 rfl ?_
    refine ex_iload (pc := 59) 34 rfl rfl ?_
    refine ex_ishl (pc := 61) 35 rfl ?_
    refine ex_iconst (pc := 62) 36 rfl ?_
    refine ex_ixor (pc := 63) 37 rfl ?_
    refine ex_iand (pc := 64) 38 rfl ?_
    refine ex_iload_n (pc := 65) 39 rfl rfl ?_
    refine ex_iload_n (pc := 66) 40 rfl rfl ?_
    refine ex_iload_n (pc := 67) 41 rfl rfl ?_
    refine ex_invV (pc := 68) (M' := mX8_boundBy) (As := [.inl (vm_and v5 (vm_xor (vm_shl 1 v7) (-1))), .inl v1, .inl v2, .inl v3]) (st := []) 42 rfl clk8 rfl rfl calX8_boundBy (Or.inl ww_986) rfl rfl ?_
    refine vm_call.mono h ?_
    rintro m3 _ ⟨r4, rfl, h⟩
    refine ex_iload (pc := 71) 43 rfl rfl ?_
    obtain ⟨hs5, h⟩ := h
    obtain ⟨hs6, h⟩ := h
    refine ex_icmp_ne (pc := 73) 88 44 rfl (by decide) hs5 hs6 (fun hb => ?_) (fun hb => ?_)
    · have h := h.1 hb
      refine ex_iload (pc := 88) 53 rfl rfl ?_
      refine ex_istore (pc := 90) 54 rfl rfl rfl ?_
      refine ex_iinc (pc := 92) 55 rfl rfl rfl rfl ?_
      refine ex_goto (pc := 95) 44 56 rfl (by decide) ?_
      exact h
    · have h := h.2 hb
      refine ex_iload (pc := 76) 45 rfl rfl ?_
      refine ex_iconst (pc := 78) 46 rfl ?_
      refine ex_iload (pc := 79) 47 rfl rfl ?_
      refine ex_ishl (pc := 81) 48 rfl ?_
      refine ex_iconst (pc := 82) 49 rfl ?_
      refine ex_ixor (pc := 83) 50 rfl ?_
      refine ex_iand (pc := 84) 51 rfl ?_
      refine ex_goto (pc := 85) 90 52 rfl (by decide) ?_
      refine ex_istore (pc := 90) 54 rfl rfl rfl ?_
      refine ex_iinc (pc := 92) 55 rfl rfl rfl rfl ?_
      refine ex_goto (pc := 95) 44 56 rfl (by decide) ?_
      exact h
set_option maxRecDepth 20000 in
theorem qX8_needless {G : vm_G} {d : Nat}  {mem : vm_M} {Q : vm_M → Int → Prop} (h : vm_cb G d mX8_isSolvedNow [.inr (.inr 24)] mem (fun m1 r2 => (r2 = true → vm_ex G (d + 1) mX8_needless 14 [some (.inr (.inr 24)), some (.inl 0), some (.inl 0), none] [] m1 (vm_qi Q)) ∧ (r2 = false → Q m1 (-6)))) : vm_ci G (d + 1) mX8_needless [.inr (.inr 24)] mem Q := by
  refine vm_enter (al := [some (.inr (.inr 24)), none, none, none]) 3 okX8_needless (by decide +kernel) rfl rfl ?_
  refine ex_aload_n (pc := 0) 0 rfl rfl ?_
  refine ex_invV (pc := 1) (M' := mX8_isSolvedNow) (As := []) (st := []) 1 rfl clk8 rfl rfl calX8_isSolvedNow (Or.inl ww_867) rfl rfl ?_
  refine vm_call.mono h ?_
  rintro m1 _ ⟨r2, rfl, h⟩
  refine ex_if_ne (pc := 4) 10 2 rfl (by decide) (vm_b2i_R _) (fun hb => ?_) (fun hb => ?_)
  · have h := h.1 (vm_b2i_n.mp hb)
    refine ex_iconst (pc := 10) 5 rfl ?_
    refine ex_istore_n (pc := 11) 6 rfl rfl rfl ?_
    refine ex_iconst (pc := 12) 7 rfl ?_
    refine ex_istore_n (pc := 13) 8 rfl rfl rfl ?_
    exact h
  · have h := h.2 (vm_b2i_0.mp hb)
    refine ex_bipush (pc := 7) 3 rfl (by decide) ?_
    exact ex_iret (pc := 9) 4 rfl (Or.inl rfl) ⟨_, rfl, h⟩
set_option maxRecDepth 20000 in
theorem qX8_needless_14 {G : vm_G} {d : Nat} {v1 : Int} {v2 : Int} {mem : vm_M} {Q : vm_M → Int → Prop} (h : (vm_R v2) ∧ (vm_R (mem 25 1)) ∧ (((mem 25 1) ≤ v2 → Q mem v1) ∧ (¬ (mem 25 1) ≤ v2 → vm_ci G d mX8_allFacts [.inr (.inr 24)] mem (fun m3 r4 => vm_ci G d mX8_of [.inr (.inr 24), .inl v2, .inl 0] m3 (fun m5 r6 => vm_ci G d mX8_of [.inr (.inr 24), .inl v2, .inl 1] m5 (fun m7 r8 => vm_ci G d mX8_of [.inr (.inr 24), .inl v2, .inl 2] m7 (fun m9 r10 => vm_ci G d mX8_of [.inr (.inr 24), .inl v2, .inl 3] m9 (fun m11 r12 => vm_ci G d mX8_of [.inr (.inr 24), .inl v2, .inl 4] m11 (fun m13 r14 => vm_ci G d mX8_of [.inr (.inr 24), .inl v2, .inl 5] m13 (fun m15 r16 => vm_cb G d mX8_canFail [.inr (.inr 24), .inl (vm_and r4 (vm_xor (vm_shl 1 v2) (-1))), .inl r6, .inl r8, .inl r10, .inl r12, .inl r14, .inl r16] m15 (fun m17 r18 => (r18 = false → vm_ex G (d + 1) mX8_needless 14 [some (.inr (.inr 24)), some (.inl (vm_or v1 (vm_shl 1 v2))), some (.inl (v2 + 1)), none] [] m17 (vm_qi Q)) ∧ (r18 = true → vm_ex G (d + 1) mX8_needless 14 [some (.inr (.inr 24)), some (.inl (vm_or v1 0)), some (.inl (v2 + 1)), none] [] m17 (vm_qi Q))))))))))))) : vm_ex G (d + 1) mX8_needless 14 [some (.inr (.inr 24)), some (.inl v1), some (.inl v2), none] [] mem (vm_qi Q) := by
  refine ex_iload_n (pc := 14) 9 rfl rfl ?_
  refine ex_aload_n (pc := 15) 10 rfl rfl ?_
  refine ex_geta (pc := 16) 0 11 rfl clk8 rfl rfl (Or.inl ww_740) rfl ?_
  refine ex_iconst (pc := 19) 12 rfl ?_
  refine ex_iaload (pc := 20) 13 rfl rfl rfl ⟨by decide, by decide⟩ ?_
  obtain ⟨hs1, h⟩ := h
  obtain ⟨hs2, h⟩ := h
  refine ex_icmp_ge (pc := 21) 95 14 rfl (by decide) hs1 hs2 (fun hb => ?_) (fun hb => ?_)
  · have h := h.1 hb
    refine ex_iload_n (pc := 95) 62 rfl rfl ?_
    exact ex_iret (pc := 96) 63 rfl (Or.inl rfl) ⟨_, rfl, h⟩
  · have h := h.2 hb
    refine ex_aload_n (pc := 24) 15 rfl rfl ?_
    refine ex_invV (pc := 25) (M' := mX8_allFacts) (As := []) (st := []) 16 rfl clk8 rfl rfl calX8_allFacts (Or.inl ww_871) rfl rfl ?_
    refine vm_call.mono h ?_
    rintro m3 _ ⟨r4, rfl, h⟩
    refine ex_iconst (pc := 28) 17 rfl ?_
    refine ex_iload_n (pc := 29) 18 rfl rfl ?_
    refine ex_ishl (pc := 30) 19 rfl ?_
    refine ex_iconst (pc := 31) 20 rfl ?_
    refine ex_ixor (pc := 32) 21 rfl ?_
    refine ex_iand (pc := 33) 22 rfl ?_
    refine ex_istore_n (pc := 34) 23 rfl rfl rfl ?_
    refine ex_iload_n (pc := 35) 24 rfl rfl ?_
    refine ex_aload_n (pc := 36) 25 rfl rfl ?_
    refine ex_iload_n (pc := 37) 26 rfl rfl ?_
    refine ex_aload_n (pc := 38) 27 rfl rfl ?_
    refine ex_iload_n (pc := 39) 28 rfl rfl ?_
    refine ex_iconst (pc := 40) 29 rfl ?_
    refine ex_invV (pc := 41) (M' := mX8_of) (As := [.inl v2, .inl 0]) (st := [.inl (vm_and r4 (vm_xor (vm_shl 1 v2) (-1))), .inr (.inr 24), .inl v1]) 30 rfl clk8 rfl rfl calX8_of (Or.inl ww_855) rfl rfl ?_
    refine vm_call.mono h ?_
    rintro m5 _ ⟨r6, rfl, h⟩
    refine ex_aload_n (pc := 44) 31 rfl rfl ?_
    refine ex_iload_n (pc := 45) 32 rfl rfl ?_
    refine ex_iconst (pc := 46) 33 rfl ?_
    refine ex_invV (pc := 47) (M' := mX8_of) (As := [.inl v2, .inl 1]) (st := [.inl r6, .inl (vm_and r4 (vm_xor (vm_shl 1 v2) (-1))), .inr (.inr 24), .inl v1]) 34 rfl clk8 rfl rfl calX8_of (Or.inl ww_855) rfl rfl ?_
    refine vm_call.mono h ?_
    rintro m7 _ ⟨r8, rfl, h⟩
    refine ex_aload_n (pc := 50) 35 rfl rfl ?_
    refine ex_iload_n (pc := 51) 36 rfl rfl ?_
    refine ex_iconst (pc := 52) 37 rfl ?_
    refine ex_invV (pc := 53) (M' := mX8_of) (As := [.inl v2, .inl 2]) (st := [.inl r8, .inl r6, .inl (vm_and r4 (vm_xor (vm_shl 1 v2) (-1))), .inr (.inr 24), .inl v1]) 38 rfl clk8 rfl rfl calX8_of (Or.inl ww_855) rfl rfl ?_
    refine vm_call.mono h ?_
    rintro m9 _ ⟨r10, rfl, h⟩
    refine ex_aload_n (pc := 56) 39 rfl rfl ?_
    refine ex_iload_n (pc := 57) 40 rfl rfl ?_
    refine ex_iconst (pc := 58) 41 rfl ?_
    refine ex_invV (pc := 59) (M' := mX8_of) (As := [.inl v2, .inl 3]) (st := [.inl r10, .inl r8, .inl r6, .inl (vm_and r4 (vm_xor (vm_shl 1 v2) (-1))), .inr (.inr 24), .inl v1]) 42 rfl clk8 rfl rfl calX8_of (Or.inl ww_855) rfl rfl ?_
    refine vm_call.mono h ?_
    rintro m11 _ ⟨r12, rfl, h⟩
    refine ex_aload_n (pc := 62) 43 rfl rfl ?_
    refine ex_iload_n (pc := 63) 44 rfl rfl ?_
    refine ex_iconst (pc := 64) 45 rfl ?_
    refine ex_invV (pc := 65) (M' := mX8_of) (As := [.inl v2, .inl 4]) (st := [.inl r12, .inl r10, .inl r8, .inl r6, .inl (vm_and r4 (vm_xor (vm_shl 1 v2) (-1))), .inr (.inr 24), .inl v1]) 46 rfl clk8 rfl rfl calX8_of (Or.inl ww_855) rfl rfl ?_
    refine vm_call.mono h ?_
    rintro m13 _ ⟨r14, rfl, h⟩
    refine ex_aload_n (pc := 68) 47 rfl rfl ?_
    refine ex_iload_n (pc := 69) 48 rfl rfl ?_
    refine ex_iconst (pc := 70) 49 rfl ?_
    refine ex_invV (pc := 71) (M' := mX8_of) (As := [.inl v2, .inl 5]) (st := [.inl r14, .inl r12, .inl r10, .inl r8, .inl r6, .inl (vm_and r4 (vm_xor (vm_shl 1 v2) (-1))), .inr (.inr 24), .inl v1]) 50 rfl clk8 rfl rfl calX8_of (Or.inl ww_855) rfl rfl ?_
    refine vm_call.mono h ?_
    rintro m15 _ ⟨r16, rfl, h⟩
    refine ex_invV (pc := 74) (M' := mX8_canFail) (As := [.inl (vm_and r4 (vm_xor (vm_shl 1 v2) (-1))), .inl r6, .inl r8, .inl r10, .inl r12, .inl r14, .inl r16]) (st := [.inl v1]) 51 rfl clk8 rfl rfl calX8_canFail (Or.inl ww_1026) rfl rfl ?_
    refine vm_call.mono h ?_
    rintro m17 _ ⟨r18, rfl, h⟩
    refine ex_if_eq (pc := 77) 84 52 rfl (by decide) (vm_b2i_R _) (fun hb => ?_) (fun hb => ?_)
    · have h := h.1 (vm_b2i_0.mp hb)
      refine ex_iconst (pc := 84) 55 rfl ?_
      refine ex_iload_n (pc := 85) 56 rfl rfl ?_
      refine ex_ishl (pc := 86) 57 rfl ?_
      refine ex_ior (pc := 87) 58 rfl ?_
      refine ex_istore_n (pc := 88) 59 rfl rfl rfl ?_
      refine ex_iinc (pc := 89) 60 rfl rfl rfl rfl ?_
      refine ex_goto (pc := 92) 14 61 rfl (by decide) ?_
      exact ex_less [some (.inr (.inr 24)), some (.inl (vm_or v1 (vm_shl 1 v2))), some (.inl (v2 + 1)), none] (And.intro rfl (And.intro rfl (And.intro rfl (True.intro)))) h
    · have h := h.2 (vm_b2i_n.mp hb)
      refine ex_iconst (pc := 80) 53 rfl ?_
      refine ex_goto (pc := 81) 87 54 rfl (by decide) ?_
      refine ex_ior (pc := 87) 58 rfl ?_
      refine ex_istore_n (pc := 88) 59 rfl rfl rfl ?_
      refine ex_iinc (pc := 89) 60 rfl rfl rfl rfl ?_
      refine ex_goto (pc := 92) 14 61 rfl (by decide) ?_
      exact ex_less [some (.inr (.inr 24)), some (.inl (vm_or v1 0)), some (.inl (v2 + 1)), none] (And.intro rfl (And.intro rfl (And.intro rfl (True.intro)))) h
set_option maxRecDepth 20000 in
theorem qX8_put {G : vm_G} {d : Nat} {p1 : Int} {mem : vm_M} {Q : vm_M → Int → Prop} (h : vm_ex G (d + 1) mX8_put 5 [some (.inr (.inr 24)), some (.inr (.inl p1)), none, some (.inl 0), some (.inr (.inl p1)), none, none] [] mem (vm_qi Q)) : vm_ci G (d + 1) mX8_put [.inr (.inr 24), .inr (.inl p1)] mem Q := by
  refine vm_enter (al := [some (.inr (.inr 24)), some (.inr (.inl p1)), none, none, none, none, none]) 4 okX8_put (by decide +kernel) rfl rfl ?_
  refine ex_iconst (pc := 0) 0 rfl ?_
  refine ex_istore_n (pc := 1) 1 rfl rfl rfl ?_
  refine ex_lload_n (pc := 2) 2 rfl rfl ?_
  refine ex_lstore (pc := 3) 3 rfl rfl rfl ?_
  exact h
set_option maxRecDepth 20000 in
theorem qX8_put_5 {G : vm_G} {d : Nat} {v1 : Int} {v3 : Int} {v4 : Int} {mem : vm_M} {Q : vm_M → Int → Prop} (h : (vm_R v3) ∧ ((8 ≤ v3 → ((v3 = 0 → Q mem (-2)) ∧ (¬ v3 = 0 → (vm_R (vm_lcmp v4 0)) ∧ (((vm_lcmp v4 0) = 0 → (vm_R ((mem 24 18) + v3)) ∧ ((((mem 24 18) + v3) ≤ 80 → vm_ex G (d + 1) mX8_put 86 [some (.inr (.inr 24)), some (.inr (.inl v1)), none, some (.inl v3), some (.inr (.inl v4)), none, some (.inl 0)] [] mem (vm_qi Q)) ∧ (¬ ((mem 24 18) + v3) ≤ 80 → Q mem (-4)))) ∧ (¬ (vm_lcmp v4 0) = 0 → Q mem (-2)))))) ∧ (¬ 8 ≤ v3 → (vm_R (vm_lcmp (vm_land v4 255) 0)) ∧ (((vm_lcmp (vm_land v4 255) 0) = 0 → ((v3 = 0 → Q mem (-2)) ∧ (¬ v3 = 0 → (vm_R (vm_lcmp v4 0)) ∧ (((vm_lcmp v4 0) = 0 → (vm_R ((mem 24 18) + v3)) ∧ ((((mem 24 18) + v3) ≤ 80 → vm_ex G (d + 1) mX8_put 86 [some (.inr (.inr 24)), some (.inr (.inl v1)), none, some (.inl v3), some (.inr (.inl v4)), none, some (.inl 0)] [] mem (vm_qi Q)) ∧ (¬ ((mem 24 18) + v3) ≤ 80 → Q mem (-4)))) ∧ (¬ (vm_lcmp v4 0) = 0 → Q mem (-2)))))) ∧ (¬ (vm_lcmp (vm_land v4 255) 0) = 0 → vm_cb G d mX8_in [.inl (vm_l2i (vm_land v4 255)), .inl 33, .inl 126] mem (fun m7 r8 => (r8 = true → vm_ex G (d + 1) mX8_put 5 [some (.inr (.inr 24)), some (.inr (.inl v1)), none, some (.inl (v3 + 1)), some (.inr (.inl (vm_lushr v4 8))), none, none] [] m7 (vm_qi Q)) ∧ (r8 = false → Q m7 (-2)))))))) : vm_ex G (d + 1) mX8_put 5 [some (.inr (.inr 24)), some (.inr (.inl v1)), none, some (.inl v3), some (.inr (.inl v4)), none, none] [] mem (vm_qi Q) := by
  refine ex_iload_n (pc := 5) 4 rfl rfl ?_
  refine ex_bipush (pc := 6) 5 rfl (by decide) ?_
  obtain ⟨hs1, h⟩ := h
  refine ex_icmp_ge (pc := 8) 55 6 rfl (by decide) hs1 ⟨by decide, by decide⟩ (fun hb => ?_) (fun hb => ?_)
  · have h := h.1 hb
    refine ex_iload_n (pc := 55) 29 rfl rfl ?_
    refine ex_if_eq (pc := 56) 66 30 rfl (by decide) hs1 (fun hb => ?_) (fun hb => ?_)
    · have h := h.1 hb
      refine ex_bipush (pc := 66) 35 rfl (by decide) ?_
      exact ex_iret (pc := 68) 36 rfl (Or.inl rfl) ⟨_, rfl, h⟩
    · have h := h.2 hb
      refine ex_lload (pc := 59) 31 rfl rfl ?_
      refine ex_lconst (n := 0) (pc := 61) 32 rfl (by decide) ?_
      refine ex_lcmp (pc := 62) 33 rfl ?_
      obtain ⟨hs2, h⟩ := h
      refine ex_if_eq (pc := 63) 69 34 rfl (by decide) hs2 (fun hb => ?_) (fun hb => ?_)
      · have h := h.1 hb
        refine ex_aload_n (pc := 69) 37 rfl rfl ?_
        refine ex_geti (pc := 70) 18 38 rfl clk8 rfl rfl (Or.inl ww_758) rfl ?_
        refine ex_iload_n (pc := 73) 39 rfl rfl ?_
        refine ex_iadd (pc := 74) 40 rfl ?_
        refine ex_bipush (pc := 75) 41 rfl (by decide) ?_
        obtain ⟨hs3, h⟩ := h
        refine ex_icmp_le (pc := 77) 83 42 rfl (by decide) hs3 ⟨by decide, by decide⟩ (fun hb => ?_) (fun hb => ?_)
        · have h := h.1 hb
          refine ex_iconst (pc := 83) 45 rfl ?_
          refine ex_istore (pc := 84) 46 rfl rfl rfl ?_
          exact h
        · have h := h.2 hb
          refine ex_bipush (pc := 80) 43 rfl (by decide) ?_
          exact ex_iret (pc := 82) 44 rfl (Or.inl rfl) ⟨_, rfl, h⟩
      · have h := h.2 hb
        refine ex_bipush (pc := 66) 35 rfl (by decide) ?_
        exact ex_iret (pc := 68) 36 rfl (Or.inl rfl) ⟨_, rfl, h⟩
  · have h := h.2 hb
    refine ex_lload (pc := 11) 7 rfl rfl ?_
    refine ex_ldc2 (n := 255) (pc := 13) 8 rfl ww_1054 (by decide) ?_
    refine ex_land (pc := 16) 9 rfl ?_
    refine ex_lconst (n := 0) (pc := 17) 10 rfl (by decide) ?_
    refine ex_lcmp (pc := 18) 11 rfl ?_
    obtain ⟨hs4, h⟩ := h
    refine ex_if_eq (pc := 19) 55 12 rfl (by decide) hs4 (fun hb => ?_) (fun hb => ?_)
    · have h := h.1 hb
      refine ex_iload_n (pc := 55) 29 rfl rfl ?_
      refine ex_if_eq (pc := 56) 66 30 rfl (by decide) hs1 (fun hb => ?_) (fun hb => ?_)
      · have h := h.1 hb
        refine ex_bipush (pc := 66) 35 rfl (by decide) ?_
        exact ex_iret (pc := 68) 36 rfl (Or.inl rfl) ⟨_, rfl, h⟩
      · have h := h.2 hb
        refine ex_lload (pc := 59) 31 rfl rfl ?_
        refine ex_lconst (n := 0) (pc := 61) 32 rfl (by decide) ?_
        refine ex_lcmp (pc := 62) 33 rfl ?_
        obtain ⟨hs5, h⟩ := h
        refine ex_if_eq (pc := 63) 69 34 rfl (by decide) hs5 (fun hb => ?_) (fun hb => ?_)
        · have h := h.1 hb
          refine ex_aload_n (pc := 69) 37 rfl rfl ?_
          refine ex_geti (pc := 70) 18 38 rfl clk8 rfl rfl (Or.inl ww_758) rfl ?_
          refine ex_iload_n (pc := 73) 39 rfl rfl ?_
          refine ex_iadd (pc := 74) 40 rfl ?_
          refine ex_bipush (pc := 75) 41 rfl (by decide) ?_
          obtain ⟨hs6, h⟩ := h
          refine ex_icmp_le (pc := 77) 83 42 rfl (by decide) hs6 ⟨by decide, by decide⟩ (fun hb => ?_) (fun hb => ?_)
          · have h := h.1 hb
            refine ex_iconst (pc := 83) 45 rfl ?_
            refine ex_istore (pc := 84) 46 rfl rfl rfl ?_
            exact h
          · have h := h.2 hb
            refine ex_bipush (pc := 80) 43 rfl (by decide) ?_
            exact ex_iret (pc := 82) 44 rfl (Or.inl rfl) ⟨_, rfl, h⟩
        · have h := h.2 hb
          refine ex_bipush (pc := 66) 35 rfl (by decide) ?_
          exact ex_iret (pc := 68) 36 rfl (Or.inl rfl) ⟨_, rfl, h⟩
    · have h := h.2 hb
      refine ex_lload (pc := 22) 13 rfl rfl ?_
      refine ex_ldc2 (n := 255) (pc := 24) 14 rfl ww_1054 (by decide) ?_
      refine ex_land (pc := 27) 15 rfl ?_
      refine ex_l2i (pc := 28) 16 rfl ?_
      refine ex_bipush (pc := 29) 17 rfl (by decide) ?_
      refine ex_bipush (pc := 31) 18 rfl (by decide) ?_
      refine ex_invS (pc := 33) (M' := mX8_in) (As := [.inl (vm_l2i (vm_land v4 255)), .inl 33, .inl 126]) (st := []) 19 rfl calX8_in (Or.inl ww_815) rfl rfl ?_
      refine vm_call.mono h ?_
      rintro m7 _ ⟨r8, rfl, h⟩
      refine ex_if_ne (pc := 36) 42 20 rfl (by decide) (vm_b2i_R _) (fun hb => ?_) (fun hb => ?_)
      · have h := h.1 (vm_b2i_n.mp hb)
        refine ex_iinc (pc := 42) 23 rfl rfl rfl rfl ?_
        refine ex_lload (pc := 45) 24 rfl rfl ?_
        refine ex_bipush (pc := 47) 25 rfl (by decide) ?_
        refine ex_lushr (pc := 49) 26 rfl ?_
        refine ex_lstore (pc := 50) 27 rfl rfl rfl ?_
        refine ex_goto (pc := 52) 5 28 rfl (by decide) ?_
        exact h
      · have h := h.2 (vm_b2i_0.mp hb)
        refine ex_bipush (pc := 39) 21 rfl (by decide) ?_
        exact ex_iret (pc := 41) 22 rfl (Or.inl rfl) ⟨_, rfl, h⟩
set_option maxRecDepth 20000 in
theorem qX8_put_86 {G : vm_G} {d : Nat} {v1 : Int} {v3 : Int} {v4 : Int} {v6 : Int} {mem : vm_M} {Q : vm_M → Int → Prop} (h : (vm_R v6) ∧ (vm_R v3) ∧ ((v3 ≤ v6 → (∀ m3, m3 = vm_up mem 24 18 ((mem 24 18) + v3) → Q m3 (m3 24 18))) ∧ (¬ v3 ≤ v6 → (0 ≤ ((mem 24 18) + v6) ∧ ((mem 24 18) + v6) < 80) ∧ (∀ m5, m5 = vm_up mem 36 ((mem 24 18) + v6) (vm_l2i (vm_land (vm_lshr v1 (8 * ((v3 - 1) - v6))) 255)) → vm_ex G (d + 1) mX8_put 86 [some (.inr (.inr 24)), some (.inr (.inl v1)), none, some (.inl v3), some (.inr (.inl v4)), none, some (.inl (v6 + 1))] [] m5 (vm_qi Q))))) : vm_ex G (d + 1) mX8_put 86 [some (.inr (.inr 24)), some (.inr (.inl v1)), none, some (.inl v3), some (.inr (.inl v4)), none, some (.inl v6)] [] mem (vm_qi Q) := by
  refine ex_iload (pc := 86) 47 rfl rfl ?_
  refine ex_iload_n (pc := 88) 48 rfl rfl ?_
  obtain ⟨hs1, h⟩ := h
  obtain ⟨hs2, h⟩ := h
  refine ex_icmp_ge (pc := 89) 126 49 rfl (by decide) hs1 hs2 (fun hb => ?_) (fun hb => ?_)
  · have h := h.1 hb
    refine ex_aload_n (pc := 126) 71 rfl rfl ?_
    refine ex_dupa (pc := 127) 72 rfl ?_
    refine ex_geti (pc := 128) 18 73 rfl clk8 rfl rfl (Or.inl ww_758) rfl ?_
    refine ex_iload_n (pc := 131) 74 rfl rfl ?_
    refine ex_iadd (pc := 132) 75 rfl ?_
    have h := h _ rfl
    refine ex_puti (pc := 133) 18 76 rfl clk8 rfl rfl (Or.inl ww_758) rfl rfl rfl ?_
    generalize vm_up mem 24 _ ((mem 24 18) + v3) = m3 at h ⊢
    refine ex_aload_n (pc := 136) 77 rfl rfl ?_
    refine ex_geti (pc := 137) 18 78 rfl clk8 rfl rfl (Or.inl ww_758) rfl ?_
    exact ex_iret (pc := 140) 79 rfl (Or.inl rfl) ⟨_, rfl, h⟩
  · have h := h.2 hb
    refine ex_aload_n (pc := 92) 50 rfl rfl ?_
    refine ex_geta (pc := 93) 17 51 rfl clk8 rfl rfl (Or.inl ww_757) rfl ?_
    refine ex_aload_n (pc := 96) 52 rfl rfl ?_
    refine ex_geti (pc := 97) 18 53 rfl clk8 rfl rfl (Or.inl ww_758) rfl ?_
    refine ex_iload (pc := 100) 54 rfl rfl ?_
    refine ex_iadd (pc := 102) 55 rfl ?_
    refine ex_lload_n (pc := 103) 56 rfl rfl ?_
    refine ex_bipush (pc := 104) 57 rfl (by decide) ?_
    refine ex_iload_n (pc := 106) 58 rfl rfl ?_
    refine ex_iconst (pc := 107) 59 rfl ?_
    refine ex_isub (pc := 108) 60 rfl ?_
    refine ex_iload (pc := 109) 61 rfl rfl ?_
    refine ex_isub (pc := 111) 62 rfl ?_
    refine ex_imul (pc := 112) 63 rfl ?_
    refine ex_lshr (pc := 113) 64 rfl ?_
    refine ex_ldc2 (n := 255) (pc := 114) 65 rfl ww_1054 (by decide) ?_
    refine ex_land (pc := 117) 66 rfl ?_
    refine ex_l2i (pc := 118) 67 rfl ?_
    obtain ⟨hs4, h⟩ := h
    have h := h _ rfl
    refine ex_iastore (pc := 119) 68 rfl rfl rfl hs4 ?_
    generalize vm_up mem 36 ((mem 24 18) + v6) (vm_l2i (vm_land (vm_lshr v1 (8 * ((v3 - 1) - v6))) 255)) = m5 at h ⊢
    refine ex_iinc (pc := 120) 69 rfl rfl rfl rfl ?_
    refine ex_goto (pc := 123) 86 70 rfl (by decide) ?_
    exact h
set_option maxRecDepth 20000 in
theorem qX8_wipe {G : vm_G} {d : Nat}  {mem : vm_M} {Q : vm_M → Int → Prop} (h : (∀ m1, m1 = vm_up mem 24 18 0 → Q m1 (mem 24 18))) : vm_ci G d mX8_wipe [.inr (.inr 24)] mem Q := by
  refine vm_enter (al := [some (.inr (.inr 24)), none]) 1 okX8_wipe (by decide +kernel) rfl rfl ?_
  refine ex_aload_n (pc := 0) 0 rfl rfl ?_
  refine ex_geti (pc := 1) 18 1 rfl clk8 rfl rfl (Or.inl ww_758) rfl ?_
  refine ex_istore_n (pc := 4) 2 rfl rfl rfl ?_
  refine ex_aload_n (pc := 5) 3 rfl rfl ?_
  refine ex_iconst (pc := 6) 4 rfl ?_
  have h := h _ rfl
  refine ex_puti (pc := 7) 18 5 rfl clk8 rfl rfl (Or.inl ww_758) rfl rfl rfl ?_
  generalize vm_up mem 24 _ 0 = m1 at h ⊢
  refine ex_iload_n (pc := 10) 6 rfl rfl ?_
  exact ex_iret (pc := 11) 7 rfl (Or.inl rfl) ⟨_, rfl, h⟩
set_option maxRecDepth 20000 in
theorem qX8_next {G : vm_G} {d : Nat}  {mem : vm_M} {Q : vm_M → Int → Prop} (h : (vm_R (mem 24 19)) ∧ (vm_R (mem 24 18)) ∧ (((mem 24 18) ≤ (mem 24 19) → Q mem 0) ∧ (¬ (mem 24 18) ≤ (mem 24 19) → (0 ≤ (mem 24 19) ∧ (mem 24 19) < 80) ∧ Q mem (mem 36 (mem 24 19))))) : vm_ci G d mX8_next [.inr (.inr 24)] mem Q := by
  refine vm_enter (al := [some (.inr (.inr 24))]) 0 okX8_next (by decide +kernel) rfl rfl ?_
  refine ex_aload_n (pc := 0) 0 rfl rfl ?_
  refine ex_geti (pc := 1) 19 1 rfl clk8 rfl rfl (Or.inl ww_759) rfl ?_
  refine ex_aload_n (pc := 4) 2 rfl rfl ?_
  refine ex_geti (pc := 5) 18 3 rfl clk8 rfl rfl (Or.inl ww_758) rfl ?_
  obtain ⟨hs1, h⟩ := h
  obtain ⟨hs2, h⟩ := h
  refine ex_icmp_ge (pc := 8) 23 4 rfl (by decide) hs1 hs2 (fun hb => ?_) (fun hb => ?_)
  · have h := h.1 hb
    refine ex_iconst (pc := 23) 11 rfl ?_
    exact ex_iret (pc := 24) 12 rfl (Or.inl rfl) ⟨_, rfl, h⟩
  · have h := h.2 hb
    refine ex_aload_n (pc := 11) 5 rfl rfl ?_
    refine ex_geta (pc := 12) 17 6 rfl clk8 rfl rfl (Or.inl ww_757) rfl ?_
    refine ex_aload_n (pc := 15) 7 rfl rfl ?_
    refine ex_geti (pc := 16) 19 8 rfl clk8 rfl rfl (Or.inl ww_759) rfl ?_
    obtain ⟨hs3, h⟩ := h
    refine ex_iaload (pc := 19) 9 rfl rfl rfl hs3 ?_
    refine ex_goto (pc := 20) 24 10 rfl (by decide) ?_
    exact ex_iret (pc := 24) 12 rfl (Or.inl rfl) ⟨_, rfl, h⟩
set_option maxRecDepth 20000 in
theorem qX8_enter {G : vm_G} {d : Nat} {p1 : Int} {p2 : Int} {mem : vm_M} {Q : vm_M → Prop} (h : (0 ≤ ((6 * (mem 24 21)) + p1) ∧ ((6 * (mem 24 21)) + p1) < 132) ∧ (∀ m2, m2 = vm_up mem 37 ((6 * (mem 24 21)) + p1) p2 → Q m2)) : vm_cn G d mX8_enter [.inr (.inr 24), .inl p1, .inl p2] mem Q := by
  refine vm_enter (al := [some (.inr (.inr 24)), some (.inl p1), some (.inl p2)]) 0 okX8_enter (by decide +kernel) rfl rfl ?_
  refine ex_aload_n (pc := 0) 0 rfl rfl ?_
  refine ex_geta (pc := 1) 22 1 rfl clk8 rfl rfl (Or.inl ww_762) rfl ?_
  refine ex_bipush (pc := 4) 2 rfl (by decide) ?_
  refine ex_aload_n (pc := 6) 3 rfl rfl ?_
  refine ex_geti (pc := 7) 21 4 rfl clk8 rfl rfl (Or.inl ww_761) rfl ?_
  refine ex_imul (pc := 10) 5 rfl ?_
  refine ex_iload_n (pc := 11) 6 rfl rfl ?_
  refine ex_iadd (pc := 12) 7 rfl ?_
  refine ex_iload_n (pc := 13) 8 rfl rfl ?_
  obtain ⟨hs1, h⟩ := h
  have h := h _ rfl
  refine ex_iastore (pc := 14) 9 rfl rfl rfl hs1 ?_
  generalize vm_up mem 37 ((6 * (mem 24 21)) + p1) p2 = m2 at h ⊢
  exact ex_ret (pc := 15) 10 rfl rfl ⟨rfl, h⟩
set_option maxRecDepth 20000 in
theorem qX8_takeSign {G : vm_G} {d : Nat} {p1 : Int} {mem : vm_M} {Q : vm_M → Prop} (h : (vm_R (mem 24 20)) ∧ ((¬ (mem 24 20) = 0 → (∀ m2, m2 = vm_up mem 24 20 1 → (vm_R (m2 24 20)) ∧ (((m2 24 20) = 0 → (∀ m4, m4 = vm_up m2 24 19 ((m2 24 19) + 1) → Q m4)) ∧ (¬ (m2 24 20) = 0 → (∀ m5, m5 = vm_up m2 24 19 ((m2 24 19) + 0) → Q m5))))) ∧ ((mem 24 20) = 0 → vm_ci G d mX8_next [.inr (.inr 24)] mem (fun m6 r7 => (vm_R r7) ∧ (vm_R p1) ∧ ((r7 = p1 → (∀ m10, m10 = vm_up m6 24 20 0 → (vm_R (m10 24 20)) ∧ (((m10 24 20) = 0 → (∀ m12, m12 = vm_up m10 24 19 ((m10 24 19) + 1) → Q m12)) ∧ (¬ (m10 24 20) = 0 → (∀ m13, m13 = vm_up m10 24 19 ((m10 24 19) + 0) → Q m13))))) ∧ (¬ r7 = p1 → (∀ m14, m14 = vm_up m6 24 20 1 → (vm_R (m14 24 20)) ∧ (((m14 24 20) = 0 → (∀ m16, m16 = vm_up m14 24 19 ((m14 24 19) + 1) → Q m16)) ∧ (¬ (m14 24 20) = 0 → (∀ m17, m17 = vm_up m14 24 19 ((m14 24 19) + 0) → Q m17)))))))))) : vm_cn G (d + 1) mX8_takeSign [.inr (.inr 24), .inl p1] mem Q := by
  refine vm_enter (al := [some (.inr (.inr 24)), some (.inl p1)]) 0 okX8_takeSign (by decide +kernel) rfl rfl ?_
  refine ex_aload_n (pc := 0) 0 rfl rfl ?_
  refine ex_aload_n (pc := 1) 1 rfl rfl ?_
  refine ex_geti (pc := 2) 20 2 rfl clk8 rfl rfl (Or.inl ww_760) rfl ?_
  obtain ⟨hs1, h⟩ := h
  refine ex_if_ne (pc := 5) 16 3 rfl (by decide) hs1 (fun hb => ?_) (fun hb => ?_)
  · have h := h.1 hb
    refine ex_iconst (pc := 16) 8 rfl ?_
    refine ex_goto (pc := 17) 21 9 rfl (by decide) ?_
    have h := h _ rfl
    refine ex_putz (pc := 21) 20 11 rfl clk8 rfl rfl (Or.inl ww_760) rfl rfl rfl (by decide) ?_
    generalize vm_up mem 24 _ 1 = m2 at h ⊢
    refine ex_aload_n (pc := 24) 12 rfl rfl ?_
    refine ex_dupa (pc := 25) 13 rfl ?_
    refine ex_geti (pc := 26) 19 14 rfl clk8 rfl rfl (Or.inl ww_759) rfl ?_
    refine ex_aload_n (pc := 29) 15 rfl rfl ?_
    refine ex_geti (pc := 30) 20 16 rfl clk8 rfl rfl (Or.inl ww_760) rfl ?_
    obtain ⟨hs3, h⟩ := h
    refine ex_if_eq (pc := 33) 40 17 rfl (by decide) hs3 (fun hb => ?_) (fun hb => ?_)
    · have h := h.1 hb
      refine ex_iconst (pc := 40) 20 rfl ?_
      refine ex_iadd (pc := 41) 21 rfl ?_
      have h := h _ rfl
      refine ex_puti (pc := 42) 19 22 rfl clk8 rfl rfl (Or.inl ww_759) rfl rfl rfl ?_
      generalize vm_up m2 24 _ ((m2 24 19) + 1) = m4 at h ⊢
      exact ex_ret (pc := 45) 23 rfl rfl ⟨rfl, h⟩
    · have h := h.2 hb
      refine ex_iconst (pc := 36) 18 rfl ?_
      refine ex_goto (pc := 37) 41 19 rfl (by decide) ?_
      refine ex_iadd (pc := 41) 21 rfl ?_
      have h := h _ rfl
      refine ex_puti (pc := 42) 19 22 rfl clk8 rfl rfl (Or.inl ww_759) rfl rfl rfl ?_
      generalize vm_up m2 24 _ ((m2 24 19) + 0) = m5 at h ⊢
      exact ex_ret (pc := 45) 23 rfl rfl ⟨rfl, h⟩
  · have h := h.2 hb
    refine ex_aload_n (pc := 8) 4 rfl rfl ?_
    refine ex_invV (pc := 9) (M' := mX8_next) (As := []) (st := [.inr (.inr 24)]) 5 rfl clk8 rfl rfl calX8_next (Or.inl ww_1071) rfl rfl ?_
    refine vm_call.mono h ?_
    rintro m6 _ ⟨r7, rfl, h⟩
    refine ex_iload_n (pc := 12) 6 rfl rfl ?_
    obtain ⟨hs8, h⟩ := h
    obtain ⟨hs9, h⟩ := h
    refine ex_icmp_eq (pc := 13) 20 7 rfl (by decide) hs8 hs9 (fun hb => ?_) (fun hb => ?_)
    · have h := h.1 hb
      refine ex_iconst (pc := 20) 10 rfl ?_
      have h := h _ rfl
      refine ex_putz (pc := 21) 20 11 rfl clk8 rfl rfl (Or.inl ww_760) rfl rfl rfl (by decide) ?_
      generalize vm_up m6 24 _ 0 = m10 at h ⊢
      refine ex_aload_n (pc := 24) 12 rfl rfl ?_
      refine ex_dupa (pc := 25) 13 rfl ?_
      refine ex_geti (pc := 26) 19 14 rfl clk8 rfl rfl (Or.inl ww_759) rfl ?_
      refine ex_aload_n (pc := 29) 15 rfl rfl ?_
      refine ex_geti (pc := 30) 20 16 rfl clk8 rfl rfl (Or.inl ww_760) rfl ?_
      obtain ⟨hs11, h⟩ := h
      refine ex_if_eq (pc := 33) 40 17 rfl (by decide) hs11 (fun hb => ?_) (fun hb => ?_)
      · have h := h.1 hb
        refine ex_iconst (pc := 40) 20 rfl ?_
        refine ex_iadd (pc := 41) 21 rfl ?_
        have h := h _ rfl
        refine ex_puti (pc := 42) 19 22 rfl clk8 rfl rfl (Or.inl ww_759) rfl rfl rfl ?_
        generalize vm_up m10 24 _ ((m10 24 19) + 1) = m12 at h ⊢
        exact ex_ret (pc := 45) 23 rfl rfl ⟨rfl, h⟩
      · have h := h.2 hb
        refine ex_iconst (pc := 36) 18 rfl ?_
        refine ex_goto (pc := 37) 41 19 rfl (by decide) ?_
        refine ex_iadd (pc := 41) 21 rfl ?_
        have h := h _ rfl
        refine ex_puti (pc := 42) 19 22 rfl clk8 rfl rfl (Or.inl ww_759) rfl rfl rfl ?_
        generalize vm_up m10 24 _ ((m10 24 19) + 0) = m13 at h ⊢
        exact ex_ret (pc := 45) 23 rfl rfl ⟨rfl, h⟩
    · have h := h.2 hb
      refine ex_iconst (pc := 16) 8 rfl ?_
      refine ex_goto (pc := 17) 21 9 rfl (by decide) ?_
      have h := h _ rfl
      refine ex_putz (pc := 21) 20 11 rfl clk8 rfl rfl (Or.inl ww_760) rfl rfl rfl (by decide) ?_
      generalize vm_up m6 24 _ 1 = m14 at h ⊢
      refine ex_aload_n (pc := 24) 12 rfl rfl ?_
      refine ex_dupa (pc := 25) 13 rfl ?_
      refine ex_geti (pc := 26) 19 14 rfl clk8 rfl rfl (Or.inl ww_759) rfl ?_
      refine ex_aload_n (pc := 29) 15 rfl rfl ?_
      refine ex_geti (pc := 30) 20 16 rfl clk8 rfl rfl (Or.inl ww_760) rfl ?_
      obtain ⟨hs15, h⟩ := h
      refine ex_if_eq (pc := 33) 40 17 rfl (by decide) hs15 (fun hb => ?_) (fun hb => ?_)
      · have h := h.1 hb
        refine ex_iconst (pc := 40) 20 rfl ?_
        refine ex_iadd (pc := 41) 21 rfl ?_
        have h := h _ rfl
        refine ex_puti (pc := 42) 19 22 rfl clk8 rfl rfl (Or.inl ww_759) rfl rfl rfl ?_
        generalize vm_up m14 24 _ ((m14 24 19) + 1) = m16 at h ⊢
        exact ex_ret (pc := 45) 23 rfl rfl ⟨rfl, h⟩
      · have h := h.2 hb
        refine ex_iconst (pc := 36) 18 rfl ?_
        refine ex_goto (pc := 37) 41 19 rfl (by decide) ?_
        refine ex_iadd (pc := 41) 21 rfl ?_
        have h := h _ rfl
        refine ex_puti (pc := 42) 19 22 rfl clk8 rfl rfl (Or.inl ww_759) rfl rfl rfl ?_
        generalize vm_up m14 24 _ ((m14 24 19) + 0) = m17 at h ⊢
        exact ex_ret (pc := 45) 23 rfl rfl ⟨rfl, h⟩
set_option maxRecDepth 20000 in
theorem qX8_takeOne {G : vm_G} {d : Nat} {p1 : Int} {p2 : Int} {p3 : Int} {mem : vm_M} {Q : vm_M → Prop} (h : (vm_R (mem 24 20)) ∧ ((¬ (mem 24 20) = 0 → (∀ m2, m2 = vm_up mem 24 20 1 → (vm_R (m2 24 20)) ∧ ((¬ (m2 24 20) = 0 → Q m2) ∧ ((m2 24 20) = 0 → vm_ci G d mX8_next [.inr (.inr 24)] m2 (fun m4 r5 => vm_cn G d mX8_enter [.inr (.inr 24), .inl p1, .inl (r5 - p2)] m4 (fun m6 => (∀ m8, m8 = vm_up m6 24 19 ((m6 24 19) + 1) → Q m8))))))) ∧ ((mem 24 20) = 0 → vm_ci G d mX8_next [.inr (.inr 24)] mem (fun m9 r10 => vm_cb G d mX8_in [.inl r10, .inl p2, .inl p3] m9 (fun m11 r12 => (r12 = true → (∀ m13, m13 = vm_up m11 24 20 0 → (vm_R (m13 24 20)) ∧ ((¬ (m13 24 20) = 0 → Q m13) ∧ ((m13 24 20) = 0 → vm_ci G d mX8_next [.inr (.inr 24)] m13 (fun m15 r16 => vm_cn G d mX8_enter [.inr (.inr 24), .inl p1, .inl (r16 - p2)] m15 (fun m17 => (∀ m19, m19 = vm_up m17 24 19 ((m17 24 19) + 1) → Q m19))))))) ∧ (r12 = false → (∀ m20, m20 = vm_up m11 24 20 1 → (vm_R (m20 24 20)) ∧ ((¬ (m20 24 20) = 0 → Q m20) ∧ ((m20 24 20) = 0 → vm_ci G d mX8_next [.inr (.inr 24)] m20 (fun m22 r23 => vm_cn G d mX8_enter [.inr (.inr 24), .inl p1, .inl (r23 - p2)] m22 (fun m24 => (∀ m26, m26 = vm_up m24 24 19 ((m24 24 19) + 1) → Q m26)))))))))))) : vm_cn G (d + 1) mX8_takeOne [.inr (.inr 24), .inl p1, .inl p2, .inl p3] mem Q := by
  refine vm_enter (al := [some (.inr (.inr 24)), some (.inl p1), some (.inl p2), some (.inl p3)]) 0 okX8_takeOne (by decide +kernel) rfl rfl ?_
  refine ex_aload_n (pc := 0) 0 rfl rfl ?_
  refine ex_aload_n (pc := 1) 1 rfl rfl ?_
  refine ex_geti (pc := 2) 20 2 rfl clk8 rfl rfl (Or.inl ww_760) rfl ?_
  obtain ⟨hs1, h⟩ := h
  refine ex_if_ne (pc := 5) 20 3 rfl (by decide) hs1 (fun hb => ?_) (fun hb => ?_)
  · have h := h.1 hb
    refine ex_iconst (pc := 20) 10 rfl ?_
    refine ex_goto (pc := 21) 25 11 rfl (by decide) ?_
    have h := h _ rfl
    refine ex_putz (pc := 25) 20 13 rfl clk8 rfl rfl (Or.inl ww_760) rfl rfl rfl (by decide) ?_
    generalize vm_up mem 24 _ 1 = m2 at h ⊢
    refine ex_aload_n (pc := 28) 14 rfl rfl ?_
    refine ex_geti (pc := 29) 20 15 rfl clk8 rfl rfl (Or.inl ww_760) rfl ?_
    obtain ⟨hs3, h⟩ := h
    refine ex_if_ne (pc := 32) 56 16 rfl (by decide) hs3 (fun hb => ?_) (fun hb => ?_)
    · have h := h.1 hb
      exact ex_ret (pc := 56) 30 rfl rfl ⟨rfl, h⟩
    · have h := h.2 hb
      refine ex_aload_n (pc := 35) 17 rfl rfl ?_
      refine ex_iload_n (pc := 36) 18 rfl rfl ?_
      refine ex_aload_n (pc := 37) 19 rfl rfl ?_
      refine ex_invV (pc := 38) (M' := mX8_next) (As := []) (st := [.inl p1, .inr (.inr 24)]) 20 rfl clk8 rfl rfl calX8_next (Or.inl ww_1071) rfl rfl ?_
      refine vm_call.mono h ?_
      rintro m4 _ ⟨r5, rfl, h⟩
      refine ex_iload_n (pc := 41) 21 rfl rfl ?_
      refine ex_isub (pc := 42) 22 rfl ?_
      refine ex_invV (pc := 43) (M' := mX8_enter) (As := [.inl p1, .inl (r5 - p2)]) (st := []) 23 rfl clk8 rfl rfl calX8_enter (Or.inl ww_1067) rfl rfl ?_
      refine vm_call.mono h ?_
      rintro m6 _ ⟨rfl, h⟩
      refine ex_aload_n (pc := 46) 24 rfl rfl ?_
      refine ex_dupa (pc := 47) 25 rfl ?_
      refine ex_geti (pc := 48) 19 26 rfl clk8 rfl rfl (Or.inl ww_759) rfl ?_
      refine ex_iconst (pc := 51) 27 rfl ?_
      refine ex_iadd (pc := 52) 28 rfl ?_
      have h := h _ rfl
      refine ex_puti (pc := 53) 19 29 rfl clk8 rfl rfl (Or.inl ww_759) rfl rfl rfl ?_
      generalize vm_up m6 24 _ ((m6 24 19) + 1) = m8 at h ⊢
      exact ex_ret (pc := 56) 30 rfl rfl ⟨rfl, h⟩
  · have h := h.2 hb
    refine ex_aload_n (pc := 8) 4 rfl rfl ?_
    refine ex_invV (pc := 9) (M' := mX8_next) (As := []) (st := [.inr (.inr 24)]) 5 rfl clk8 rfl rfl calX8_next (Or.inl ww_1071) rfl rfl ?_
    refine vm_call.mono h ?_
    rintro m9 _ ⟨r10, rfl, h⟩
    refine ex_iload_n (pc := 12) 6 rfl rfl ?_
    refine ex_iload_n (pc := 13) 7 rfl rfl ?_
    refine ex_invS (pc := 14) (M' := mX8_in) (As := [.inl r10, .inl p2, .inl p3]) (st := [.inr (.inr 24)]) 8 rfl calX8_in (Or.inl ww_815) rfl rfl ?_
    refine vm_call.mono h ?_
    rintro m11 _ ⟨r12, rfl, h⟩
    refine ex_if_ne (pc := 17) 24 9 rfl (by decide) (vm_b2i_R _) (fun hb => ?_) (fun hb => ?_)
    · have h := h.1 (vm_b2i_n.mp hb)
      refine ex_iconst (pc := 24) 12 rfl ?_
      have h := h _ rfl
      refine ex_putz (pc := 25) 20 13 rfl clk8 rfl rfl (Or.inl ww_760) rfl rfl rfl (by decide) ?_
      generalize vm_up m11 24 _ 0 = m13 at h ⊢
      refine ex_aload_n (pc := 28) 14 rfl rfl ?_
      refine ex_geti (pc := 29) 20 15 rfl clk8 rfl rfl (Or.inl ww_760) rfl ?_
      obtain ⟨hs14, h⟩ := h
      refine ex_if_ne (pc := 32) 56 16 rfl (by decide) hs14 (fun hb => ?_) (fun hb => ?_)
      · have h := h.1 hb
        exact ex_ret (pc := 56) 30 rfl rfl ⟨rfl, h⟩
      · have h := h.2 hb
        refine ex_aload_n (pc := 35) 17 rfl rfl ?_
        refine ex_iload_n (pc := 36) 18 rfl rfl ?_
        refine ex_aload_n (pc := 37) 19 rfl rfl ?_
        refine ex_invV (pc := 38) (M' := mX8_next) (As := []) (st := [.inl p1, .inr (.inr 24)]) 20 rfl clk8 rfl rfl calX8_next (Or.inl ww_1071) rfl rfl ?_
        refine vm_call.mono h ?_
        rintro m15 _ ⟨r16, rfl, h⟩
        refine ex_iload_n (pc := 41) 21 rfl rfl ?_
        refine ex_isub (pc := 42) 22 rfl ?_
        refine ex_invV (pc := 43) (M' := mX8_enter) (As := [.inl p1, .inl (r16 - p2)]) (st := []) 23 rfl clk8 rfl rfl calX8_enter (Or.inl ww_1067) rfl rfl ?_
        refine vm_call.mono h ?_
        rintro m17 _ ⟨rfl, h⟩
        refine ex_aload_n (pc := 46) 24 rfl rfl ?_
        refine ex_dupa (pc := 47) 25 rfl ?_
        refine ex_geti (pc := 48) 19 26 rfl clk8 rfl rfl (Or.inl ww_759) rfl ?_
        refine ex_iconst (pc := 51) 27 rfl ?_
        refine ex_iadd (pc := 52) 28 rfl ?_
        have h := h _ rfl
        refine ex_puti (pc := 53) 19 29 rfl clk8 rfl rfl (Or.inl ww_759) rfl rfl rfl ?_
        generalize vm_up m17 24 _ ((m17 24 19) + 1) = m19 at h ⊢
        exact ex_ret (pc := 56) 30 rfl rfl ⟨rfl, h⟩
    · have h := h.2 (vm_b2i_0.mp hb)
      refine ex_iconst (pc := 20) 10 rfl ?_
      refine ex_goto (pc := 21) 25 11 rfl (by decide) ?_
      have h := h _ rfl
      refine ex_putz (pc := 25) 20 13 rfl clk8 rfl rfl (Or.inl ww_760) rfl rfl rfl (by decide) ?_
      generalize vm_up m11 24 _ 1 = m20 at h ⊢
      refine ex_aload_n (pc := 28) 14 rfl rfl ?_
      refine ex_geti (pc := 29) 20 15 rfl clk8 rfl rfl (Or.inl ww_760) rfl ?_
      obtain ⟨hs21, h⟩ := h
      refine ex_if_ne (pc := 32) 56 16 rfl (by decide) hs21 (fun hb => ?_) (fun hb => ?_)
      · have h := h.1 hb
        exact ex_ret (pc := 56) 30 rfl rfl ⟨rfl, h⟩
      · have h := h.2 hb
        refine ex_aload_n (pc := 35) 17 rfl rfl ?_
        refine ex_iload_n (pc := 36) 18 rfl rfl ?_
        refine ex_aload_n (pc := 37) 19 rfl rfl ?_
        refine ex_invV (pc := 38) (M' := mX8_next) (As := []) (st := [.inl p1, .inr (.inr 24)]) 20 rfl clk8 rfl rfl calX8_next (Or.inl ww_1071) rfl rfl ?_
        refine vm_call.mono h ?_
        rintro m22 _ ⟨r23, rfl, h⟩
        refine ex_iload_n (pc := 41) 21 rfl rfl ?_
        refine ex_isub (pc := 42) 22 rfl ?_
        refine ex_invV (pc := 43) (M' := mX8_enter) (As := [.inl p1, .inl (r23 - p2)]) (st := []) 23 rfl clk8 rfl rfl calX8_enter (Or.inl ww_1067) rfl rfl ?_
        refine vm_call.mono h ?_
        rintro m24 _ ⟨rfl, h⟩
        refine ex_aload_n (pc := 46) 24 rfl rfl ?_
        refine ex_dupa (pc := 47) 25 rfl ?_
        refine ex_geti (pc := 48) 19 26 rfl clk8 rfl rfl (Or.inl ww_759) rfl ?_
        refine ex_iconst (pc := 51) 27 rfl ?_
        refine ex_iadd (pc := 52) 28 rfl ?_
        have h := h _ rfl
        refine ex_puti (pc := 53) 19 29 rfl clk8 rfl rfl (Or.inl ww_759) rfl rfl rfl ?_
        generalize vm_up m24 24 _ ((m24 24 19) + 1) = m26 at h ⊢
        exact ex_ret (pc := 56) 30 rfl rfl ⟨rfl, h⟩
set_option maxRecDepth 20000 in
theorem qX8_takeNumber {G : vm_G} {d : Nat} {p1 : Int} {mem : vm_M} {Q : vm_M → Prop} (h : vm_cn G d mX8_takeOne [.inr (.inr 24), .inl p1, .inl 48, .inl 57] mem (fun m1 => (vm_R (m1 24 20)) ∧ ((¬ (m1 24 20) = 0 → Q m1) ∧ ((m1 24 20) = 0 → (0 ≤ ((6 * (m1 24 21)) + p1) ∧ ((6 * (m1 24 21)) + p1) < 132) ∧ (vm_R (m1 37 ((6 * (m1 24 21)) + p1))) ∧ (((m1 37 ((6 * (m1 24 21)) + p1)) = 0 → Q m1) ∧ (¬ (m1 37 ((6 * (m1 24 21)) + p1)) = 0 → vm_ci G d mX8_next [.inr (.inr 24)] m1 (fun m6 r7 => vm_cb G d mX8_in [.inl r7, .inl 48, .inl 57] m6 (fun m8 r9 => (r9 = true → vm_ci G d mX8_next [.inr (.inr 24)] m8 (fun m10 r11 => (vm_R (((10 * (m8 37 ((6 * (m1 24 21)) + p1))) + r11) - 48)) ∧ (((((10 * (m8 37 ((6 * (m1 24 21)) + p1))) + r11) - 48) ≤ 18 → (∀ m13, m13 = vm_up m10 24 20 0 → (vm_R (m13 24 20)) ∧ (((m13 24 20) = 0 → (∀ m15, m15 = vm_up m13 24 19 ((m13 24 19) + 1) → (∀ m16, m16 = vm_up m15 37 ((6 * (m1 24 21)) + p1) (((10 * (m8 37 ((6 * (m1 24 21)) + p1))) + r11) - 48) → Q m16))) ∧ (¬ (m13 24 20) = 0 → (∀ m17, m17 = vm_up m13 24 19 ((m13 24 19) + 0) → (∀ m18, m18 = vm_up m17 37 ((6 * (m1 24 21)) + p1) (((10 * (m8 37 ((6 * (m1 24 21)) + p1))) + r11) - 48) → Q m18)))))) ∧ (¬ (((10 * (m8 37 ((6 * (m1 24 21)) + p1))) + r11) - 48) ≤ 18 → (∀ m19, m19 = vm_up m10 24 20 1 → (vm_R (m19 24 20)) ∧ (((m19 24 20) = 0 → (∀ m21, m21 = vm_up m19 24 19 ((m19 24 19) + 1) → (∀ m22, m22 = vm_up m21 37 ((6 * (m1 24 21)) + p1) (((10 * (m8 37 ((6 * (m1 24 21)) + p1))) + r11) - 48) → Q m22))) ∧ (¬ (m19 24 20) = 0 → (∀ m23, m23 = vm_up m19 24 19 ((m19 24 19) + 0) → (∀ m24, m24 = vm_up m23 37 ((6 * (m1 24 21)) + p1) (((10 * (m8 37 ((6 * (m1 24 21)) + p1))) + r11) - 48) → Q m24))))))))) ∧ (r9 = false → Q m8))))))))) : vm_cn G (d + 1) mX8_takeNumber [.inr (.inr 24), .inl p1] mem Q := by
  refine vm_enter (al := [some (.inr (.inr 24)), some (.inl p1), none, none]) 2 okX8_takeNumber (by decide +kernel) rfl rfl ?_
  refine ex_aload_n (pc := 0) 0 rfl rfl ?_
  refine ex_iload_n (pc := 1) 1 rfl rfl ?_
  refine ex_bipush (pc := 2) 2 rfl (by decide) ?_
  refine ex_bipush (pc := 4) 3 rfl (by decide) ?_
  refine ex_invV (pc := 6) (M' := mX8_takeOne) (As := [.inl p1, .inl 48, .inl 57]) (st := []) 4 rfl clk8 rfl rfl calX8_takeOne (Or.inl ww_1075) rfl rfl ?_
  refine vm_call.mono h ?_
  rintro m1 _ ⟨rfl, h⟩
  refine ex_bipush (pc := 9) 5 rfl (by decide) ?_
  refine ex_aload_n (pc := 11) 6 rfl rfl ?_
  refine ex_geti (pc := 12) 21 7 rfl clk8 rfl rfl (Or.inl ww_761) rfl ?_
  refine ex_imul (pc := 15) 8 rfl ?_
  refine ex_iload_n (pc := 16) 9 rfl rfl ?_
  refine ex_iadd (pc := 17) 10 rfl ?_
  refine ex_istore_n (pc := 18) 11 rfl rfl rfl ?_
  refine ex_aload_n (pc := 19) 12 rfl rfl ?_
  refine ex_geti (pc := 20) 20 13 rfl clk8 rfl rfl (Or.inl ww_760) rfl ?_
  obtain ⟨hs3, h⟩ := h
  refine ex_if_ne (pc := 23) 49 14 rfl (by decide) hs3 (fun hb => ?_) (fun hb => ?_)
  · have h := h.1 hb
    exact ex_ret (pc := 49) 26 rfl rfl ⟨rfl, h⟩
  · have h := h.2 hb
    refine ex_aload_n (pc := 26) 15 rfl rfl ?_
    refine ex_geta (pc := 27) 22 16 rfl clk8 rfl rfl (Or.inl ww_762) rfl ?_
    refine ex_iload_n (pc := 30) 17 rfl rfl ?_
    obtain ⟨hs4, h⟩ := h
    refine ex_iaload (pc := 31) 18 rfl rfl rfl hs4 ?_
    obtain ⟨hs5, h⟩ := h
    refine ex_if_eq (pc := 32) 49 19 rfl (by decide) hs5 (fun hb => ?_) (fun hb => ?_)
    · have h := h.1 hb
      exact ex_ret (pc := 49) 26 rfl rfl ⟨rfl, h⟩
    · have h := h.2 hb
      refine ex_aload_n (pc := 35) 20 rfl rfl ?_
      refine ex_invV (pc := 36) (M' := mX8_next) (As := []) (st := []) 21 rfl clk8 rfl rfl calX8_next (Or.inl ww_1071) rfl rfl ?_
      refine vm_call.mono h ?_
      rintro m6 _ ⟨r7, rfl, h⟩
      refine ex_bipush (pc := 39) 22 rfl (by decide) ?_
      refine ex_bipush (pc := 41) 23 rfl (by decide) ?_
      refine ex_invS (pc := 43) (M' := mX8_in) (As := [.inl r7, .inl 48, .inl 57]) (st := []) 24 rfl calX8_in (Or.inl ww_815) rfl rfl ?_
      refine vm_call.mono h ?_
      rintro m8 _ ⟨r9, rfl, h⟩
      refine ex_if_ne (pc := 46) 50 25 rfl (by decide) (vm_b2i_R _) (fun hb => ?_) (fun hb => ?_)
      · have h := h.1 (vm_b2i_n.mp hb)
        refine ex_bipush (pc := 50) 27 rfl (by decide) ?_
        refine ex_aload_n (pc := 52) 28 rfl rfl ?_
        refine ex_geta (pc := 53) 22 29 rfl clk8 rfl rfl (Or.inl ww_762) rfl ?_
        refine ex_iload_n (pc := 56) 30 rfl rfl ?_
        refine ex_iaload (pc := 57) 31 rfl rfl rfl hs4 ?_
        refine ex_imul (pc := 58) 32 rfl ?_
        refine ex_aload_n (pc := 59) 33 rfl rfl ?_
        refine ex_invV (pc := 60) (M' := mX8_next) (As := []) (st := [.inl (10 * (m8 37 ((6 * (m1 24 21)) + p1)))]) 34 rfl clk8 rfl rfl calX8_next (Or.inl ww_1071) rfl rfl ?_
        refine vm_call.mono h ?_
        rintro m10 _ ⟨r11, rfl, h⟩
        refine ex_iadd (pc := 63) 35 rfl ?_
        refine ex_bipush (pc := 64) 36 rfl (by decide) ?_
        refine ex_isub (pc := 66) 37 rfl ?_
        refine ex_istore_n (pc := 67) 38 rfl rfl rfl ?_
        refine ex_aload_n (pc := 68) 39 rfl rfl ?_
        refine ex_iload_n (pc := 69) 40 rfl rfl ?_
        refine ex_bipush (pc := 70) 41 rfl (by decide) ?_
        obtain ⟨hs12, h⟩ := h
        refine ex_icmp_le (pc := 72) 79 42 rfl (by decide) hs12 ⟨by decide, by decide⟩ (fun hb => ?_) (fun hb => ?_)
        · have h := h.1 hb
          refine ex_iconst (pc := 79) 45 rfl ?_
          have h := h _ rfl
          refine ex_putz (pc := 80) 20 46 rfl clk8 rfl rfl (Or.inl ww_760) rfl rfl rfl (by decide) ?_
          generalize vm_up m10 24 _ 0 = m13 at h ⊢
          refine ex_aload_n (pc := 83) 47 rfl rfl ?_
          refine ex_dupa (pc := 84) 48 rfl ?_
          refine ex_geti (pc := 85) 19 49 rfl clk8 rfl rfl (Or.inl ww_759) rfl ?_
          refine ex_aload_n (pc := 88) 50 rfl rfl ?_
          refine ex_geti (pc := 89) 20 51 rfl clk8 rfl rfl (Or.inl ww_760) rfl ?_
          obtain ⟨hs14, h⟩ := h
          refine ex_if_eq (pc := 92) 99 52 rfl (by decide) hs14 (fun hb => ?_) (fun hb => ?_)
          · have h := h.1 hb
            refine ex_iconst (pc := 99) 55 rfl ?_
            refine ex_iadd (pc := 100) 56 rfl ?_
            have h := h _ rfl
            refine ex_puti (pc := 101) 19 57 rfl clk8 rfl rfl (Or.inl ww_759) rfl rfl rfl ?_
            generalize vm_up m13 24 _ ((m13 24 19) + 1) = m15 at h ⊢
            refine ex_aload_n (pc := 104) 58 rfl rfl ?_
            refine ex_geta (pc := 105) 22 59 rfl clk8 rfl rfl (Or.inl ww_762) rfl ?_
            refine ex_iload_n (pc := 108) 60 rfl rfl ?_
            refine ex_iload_n (pc := 109) 61 rfl rfl ?_
            have h := h _ rfl
            refine ex_iastore (pc := 110) 62 rfl rfl rfl hs4 ?_
            generalize vm_up m15 37 ((6 * (m1 24 21)) + p1) (((10 * (m8 37 ((6 * (m1 24 21)) + p1))) + r11) - 48) = m16 at h ⊢
            exact ex_ret (pc := 111) 63 rfl rfl ⟨rfl, h⟩
          · have h := h.2 hb
            refine ex_iconst (pc := 95) 53 rfl ?_
            refine ex_goto (pc := 96) 100 54 rfl (by decide) ?_
            refine ex_iadd (pc := 100) 56 rfl ?_
            have h := h _ rfl
            refine ex_puti (pc := 101) 19 57 rfl clk8 rfl rfl (Or.inl ww_759) rfl rfl rfl ?_
            generalize vm_up m13 24 _ ((m13 24 19) + 0) = m17 at h ⊢
            refine ex_aload_n (pc := 104) 58 rfl rfl ?_
            refine ex_geta (pc := 105) 22 59 rfl clk8 rfl rfl (Or.inl ww_762) rfl ?_
            refine ex_iload_n (pc := 108) 60 rfl rfl ?_
            refine ex_iload_n (pc := 109) 61 rfl rfl ?_
            have h := h _ rfl
            refine ex_iastore (pc := 110) 62 rfl rfl rfl hs4 ?_
            generalize vm_up m17 37 ((6 * (m1 24 21)) + p1) (((10 * (m8 37 ((6 * (m1 24 21)) + p1))) + r11) - 48) = m18 at h ⊢
            exact ex_ret (pc := 111) 63 rfl rfl ⟨rfl, h⟩
        · have h := h.2 hb
          refine ex_iconst (pc := 75) 43 rfl ?_
          refine ex_goto (pc := 76) 80 44 rfl (by decide) ?_
          have h := h _ rfl
          refine ex_putz (pc := 80) 20 46 rfl clk8 rfl rfl (Or.inl ww_760) rfl rfl rfl (by decide) ?_
          generalize vm_up m10 24 _ 1 = m19 at h ⊢
          refine ex_aload_n (pc := 83) 47 rfl rfl ?_
          refine ex_dupa (pc := 84) 48 rfl ?_
          refine ex_geti (pc := 85) 19 49 rfl clk8 rfl rfl (Or.inl ww_759) rfl ?_
          refine ex_aload_n (pc := 88) 50 rfl rfl ?_
          refine ex_geti (pc := 89) 20 51 rfl clk8 rfl rfl (Or.inl ww_760) rfl ?_
          obtain ⟨hs20, h⟩ := h
          refine ex_if_eq (pc := 92) 99 52 rfl (by decide) hs20 (fun hb => ?_) (fun hb => ?_)
          · have h := h.1 hb
            refine ex_iconst (pc := 99) 55 rfl ?_
            refine ex_iadd (pc := 100) 56 rfl ?_
            have h := h _ rfl
            refine ex_puti (pc := 101) 19 57 rfl clk8 rfl rfl (Or.inl ww_759) rfl rfl rfl ?_
            generalize vm_up m19 24 _ ((m19 24 19) + 1) = m21 at h ⊢
            refine ex_aload_n (pc := 104) 58 rfl rfl ?_
            refine ex_geta (pc := 105) 22 59 rfl clk8 rfl rfl (Or.inl ww_762) rfl ?_
            refine ex_iload_n (pc := 108) 60 rfl rfl ?_
            refine ex_iload_n (pc := 109) 61 rfl rfl ?_
            have h := h _ rfl
            refine ex_iastore (pc := 110) 62 rfl rfl rfl hs4 ?_
            generalize vm_up m21 37 ((6 * (m1 24 21)) + p1) (((10 * (m8 37 ((6 * (m1 24 21)) + p1))) + r11) - 48) = m22 at h ⊢
            exact ex_ret (pc := 111) 63 rfl rfl ⟨rfl, h⟩
          · have h := h.2 hb
            refine ex_iconst (pc := 95) 53 rfl ?_
            refine ex_goto (pc := 96) 100 54 rfl (by decide) ?_
            refine ex_iadd (pc := 100) 56 rfl ?_
            have h := h _ rfl
            refine ex_puti (pc := 101) 19 57 rfl clk8 rfl rfl (Or.inl ww_759) rfl rfl rfl ?_
            generalize vm_up m19 24 _ ((m19 24 19) + 0) = m23 at h ⊢
            refine ex_aload_n (pc := 104) 58 rfl rfl ?_
            refine ex_geta (pc := 105) 22 59 rfl clk8 rfl rfl (Or.inl ww_762) rfl ?_
            refine ex_iload_n (pc := 108) 60 rfl rfl ?_
            refine ex_iload_n (pc := 109) 61 rfl rfl ?_
            have h := h _ rfl
            refine ex_iastore (pc := 110) 62 rfl rfl rfl hs4 ?_
            generalize vm_up m23 37 ((6 * (m1 24 21)) + p1) (((10 * (m8 37 ((6 * (m1 24 21)) + p1))) + r11) - 48) = m24 at h ⊢
            exact ex_ret (pc := 111) 63 rfl rfl ⟨rfl, h⟩
      · have h := h.2 (vm_b2i_0.mp hb)
        exact ex_ret (pc := 49) 26 rfl rfl ⟨rfl, h⟩
set_option maxRecDepth 20000 in
theorem qX8_takeRange {G : vm_G} {d : Nat} {p1 : Int} {mem : vm_M} {Q : vm_M → Prop} (h : vm_cn G d mX8_takeNumber [.inr (.inr 24), .inl p1] mem (fun m1 => (0 ≤ ((6 * (m1 24 21)) + p1) ∧ ((6 * (m1 24 21)) + p1) < 132) ∧ vm_cn G d mX8_enter [.inr (.inr 24), .inl (p1 + 1), .inl (m1 37 ((6 * (m1 24 21)) + p1))] m1 (fun m4 => (vm_R (m4 24 20)) ∧ ((¬ (m4 24 20) = 0 → Q m4) ∧ ((m4 24 20) = 0 → vm_ci G d mX8_next [.inr (.inr 24)] m4 (fun m7 r8 => (vm_R r8) ∧ ((¬ r8 = 45 → Q m7) ∧ (r8 = 45 → (∀ m10, m10 = vm_up m7 24 19 ((m7 24 19) + 1) → vm_cn G d mX8_takeNumber [.inr (.inr 24), .inl (p1 + 1)] m10 (fun m11 => Q m11)))))))))) : vm_cn G (d + 1) mX8_takeRange [.inr (.inr 24), .inl p1] mem Q := by
  refine vm_enter (al := [some (.inr (.inr 24)), some (.inl p1)]) 0 okX8_takeRange (by decide +kernel) rfl rfl ?_
  refine ex_aload_n (pc := 0) 0 rfl rfl ?_
  refine ex_iload_n (pc := 1) 1 rfl rfl ?_
  refine ex_invV (pc := 2) (M' := mX8_takeNumber) (As := [.inl p1]) (st := []) 2 rfl clk8 rfl rfl calX8_takeNumber (Or.inl ww_1087) rfl rfl ?_
  refine vm_call.mono h ?_
  rintro m1 _ ⟨rfl, h⟩
  refine ex_aload_n (pc := 5) 3 rfl rfl ?_
  refine ex_iload_n (pc := 6) 4 rfl rfl ?_
  refine ex_iconst (pc := 7) 5 rfl ?_
  refine ex_iadd (pc := 8) 6 rfl ?_
  refine ex_aload_n (pc := 9) 7 rfl rfl ?_
  refine ex_geta (pc := 10) 22 8 rfl clk8 rfl rfl (Or.inl ww_762) rfl ?_
  refine ex_bipush (pc := 13) 9 rfl (by decide) ?_
  refine ex_aload_n (pc := 15) 10 rfl rfl ?_
  refine ex_geti (pc := 16) 21 11 rfl clk8 rfl rfl (Or.inl ww_761) rfl ?_
  refine ex_imul (pc := 19) 12 rfl ?_
  refine ex_iload_n (pc := 20) 13 rfl rfl ?_
  refine ex_iadd (pc := 21) 14 rfl ?_
  obtain ⟨hs3, h⟩ := h
  refine ex_iaload (pc := 22) 15 rfl rfl rfl hs3 ?_
  refine ex_invV (pc := 23) (M' := mX8_enter) (As := [.inl (p1 + 1), .inl (m1 37 ((6 * (m1 24 21)) + p1))]) (st := []) 16 rfl clk8 rfl rfl calX8_enter (Or.inl ww_1067) rfl rfl ?_
  refine vm_call.mono h ?_
  rintro m4 _ ⟨rfl, h⟩
  refine ex_aload_n (pc := 26) 17 rfl rfl ?_
  refine ex_geti (pc := 27) 20 18 rfl clk8 rfl rfl (Or.inl ww_760) rfl ?_
  obtain ⟨hs6, h⟩ := h
  refine ex_if_ne (pc := 30) 59 19 rfl (by decide) hs6 (fun hb => ?_) (fun hb => ?_)
  · have h := h.1 hb
    exact ex_ret (pc := 59) 35 rfl rfl ⟨rfl, h⟩
  · have h := h.2 hb
    refine ex_aload_n (pc := 33) 20 rfl rfl ?_
    refine ex_invV (pc := 34) (M' := mX8_next) (As := []) (st := []) 21 rfl clk8 rfl rfl calX8_next (Or.inl ww_1071) rfl rfl ?_
    refine vm_call.mono h ?_
    rintro m7 _ ⟨r8, rfl, h⟩
    refine ex_bipush (pc := 37) 22 rfl (by decide) ?_
    obtain ⟨hs9, h⟩ := h
    refine ex_icmp_ne (pc := 39) 59 23 rfl (by decide) hs9 ⟨by decide, by decide⟩ (fun hb => ?_) (fun hb => ?_)
    · have h := h.1 hb
      exact ex_ret (pc := 59) 35 rfl rfl ⟨rfl, h⟩
    · have h := h.2 hb
      refine ex_aload_n (pc := 42) 24 rfl rfl ?_
      refine ex_dupa (pc := 43) 25 rfl ?_
      refine ex_geti (pc := 44) 19 26 rfl clk8 rfl rfl (Or.inl ww_759) rfl ?_
      refine ex_iconst (pc := 47) 27 rfl ?_
      refine ex_iadd (pc := 48) 28 rfl ?_
      have h := h _ rfl
      refine ex_puti (pc := 49) 19 29 rfl clk8 rfl rfl (Or.inl ww_759) rfl rfl rfl ?_
      generalize vm_up m7 24 _ ((m7 24 19) + 1) = m10 at h ⊢
      refine ex_aload_n (pc := 52) 30 rfl rfl ?_
      refine ex_iload_n (pc := 53) 31 rfl rfl ?_
      refine ex_iconst (pc := 54) 32 rfl ?_
      refine ex_iadd (pc := 55) 33 rfl ?_
      refine ex_invV (pc := 56) (M' := mX8_takeNumber) (As := [.inl (p1 + 1)]) (st := []) 34 rfl clk8 rfl rfl calX8_takeNumber (Or.inl ww_1087) rfl rfl ?_
      refine vm_call.mono h ?_
      rintro m11 _ ⟨rfl, h⟩
      exact ex_ret (pc := 59) 35 rfl rfl ⟨rfl, h⟩
set_option maxRecDepth 20000 in
theorem qX8_takeMore {G : vm_G} {d : Nat}  {mem : vm_M} {Q : vm_M → Prop} (h : vm_cn G d mX8_enter [.inr (.inr 24), .inl 0, .inl 6] mem (fun m1 => (∀ m3, m3 = vm_up m1 24 19 ((m1 24 19) + 1) → vm_cn G d mX8_takeOne [.inr (.inr 24), .inl 3, .inl 65, .inl 68] m3 (fun m4 => vm_cn G d mX8_takeOne [.inr (.inr 24), .inl 4, .inl 120, .inl 122] m4 (fun m6 => (vm_R (m6 24 20)) ∧ ((¬ (m6 24 20) = 0 → Q m6) ∧ ((m6 24 20) = 0 → vm_ci G d mX8_next [.inr (.inr 24)] m6 (fun m9 r10 => (vm_R r10) ∧ ((r10 = 43 → vm_ci G d mX8_next [.inr (.inr 24)] m9 (fun m12 r13 => (vm_R r13) ∧ ((¬ r13 = 45 → (∀ m15, m15 = vm_up m12 24 19 ((m12 24 19) + 1) → vm_cn G d mX8_takeOne [.inr (.inr 24), .inl 5, .inl 48, .inl 54] m15 (fun m16 => (0 ≤ ((6 * (m16 24 21)) + 5) ∧ ((6 * (m16 24 21)) + 5) < 132) ∧ vm_cn G d mX8_enter [.inr (.inr 24), .inl 5, .inl (m16 37 ((6 * (m16 24 21)) + 5))] m16 (fun m19 => Q m19)))) ∧ (r13 = 45 → (∀ m21, m21 = vm_up m12 24 19 ((m12 24 19) + 1) → vm_cn G d mX8_takeOne [.inr (.inr 24), .inl 5, .inl 48, .inl 54] m21 (fun m22 => (0 ≤ ((6 * (m22 24 21)) + 5) ∧ ((6 * (m22 24 21)) + 5) < 132) ∧ vm_cn G d mX8_enter [.inr (.inr 24), .inl 5, .inl (-(m22 37 ((6 * (m22 24 21)) + 5)))] m22 (fun m25 => Q m25))))))) ∧ (¬ r10 = 43 → vm_ci G d mX8_next [.inr (.inr 24)] m9 (fun m27 r28 => (vm_R r28) ∧ ((¬ r28 = 45 → Q m27) ∧ (r28 = 45 → vm_ci G d mX8_next [.inr (.inr 24)] m27 (fun m30 r31 => (vm_R r31) ∧ ((¬ r31 = 45 → (∀ m33, m33 = vm_up m30 24 19 ((m30 24 19) + 1) → vm_cn G d mX8_takeOne [.inr (.inr 24), .inl 5, .inl 48, .inl 54] m33 (fun m34 => (0 ≤ ((6 * (m34 24 21)) + 5) ∧ ((6 * (m34 24 21)) + 5) < 132) ∧ vm_cn G d mX8_enter [.inr (.inr 24), .inl 5, .inl (m34 37 ((6 * (m34 24 21)) + 5))] m34 (fun m37 => Q m37)))) ∧ (r31 = 45 → (∀ m39, m39 = vm_up m30 24 19 ((m30 24 19) + 1) → vm_cn G d mX8_takeOne [.inr (.inr 24), .inl 5, .inl 48, .inl 54] m39 (fun m40 => (0 ≤ ((6 * (m40 24 21)) + 5) ∧ ((6 * (m40 24 21)) + 5) < 132) ∧ vm_cn G d mX8_enter [.inr (.inr 24), .inl 5, .inl (-(m40 37 ((6 * (m40 24 21)) + 5)))] m40 (fun m43 => Q m43))))))))))))))))))) : vm_cn G (d + 1) mX8_takeMore [.inr (.inr 24)] mem Q := by
  refine vm_enter (al := [some (.inr (.inr 24)), none]) 1 okX8_takeMore (by decide +kernel) rfl rfl ?_
  refine ex_aload_n (pc := 0) 0 rfl rfl ?_
  refine ex_iconst (pc := 1) 1 rfl ?_
  refine ex_bipush (pc := 2) 2 rfl (by decide) ?_
  refine ex_invV (pc := 4) (M' := mX8_enter) (As := [.inl 0, .inl 6]) (st := []) 3 rfl clk8 rfl rfl calX8_enter (Or.inl ww_1067) rfl rfl ?_
  refine vm_call.mono h ?_
  rintro m1 _ ⟨rfl, h⟩
  refine ex_aload_n (pc := 7) 4 rfl rfl ?_
  refine ex_dupa (pc := 8) 5 rfl ?_
  refine ex_geti (pc := 9) 19 6 rfl clk8 rfl rfl (Or.inl ww_759) rfl ?_
  refine ex_iconst (pc := 12) 7 rfl ?_
  refine ex_iadd (pc := 13) 8 rfl ?_
  have h := h _ rfl
  refine ex_puti (pc := 14) 19 9 rfl clk8 rfl rfl (Or.inl ww_759) rfl rfl rfl ?_
  generalize vm_up m1 24 _ ((m1 24 19) + 1) = m3 at h ⊢
  refine ex_aload_n (pc := 17) 10 rfl rfl ?_
  refine ex_iconst (pc := 18) 11 rfl ?_
  refine ex_bipush (pc := 19) 12 rfl (by decide) ?_
  refine ex_bipush (pc := 21) 13 rfl (by decide) ?_
  refine ex_invV (pc := 23) (M' := mX8_takeOne) (As := [.inl 3, .inl 65, .inl 68]) (st := []) 14 rfl clk8 rfl rfl calX8_takeOne (Or.inl ww_1075) rfl rfl ?_
  refine vm_call.mono h ?_
  rintro m4 _ ⟨rfl, h⟩
  refine ex_aload_n (pc := 26) 15 rfl rfl ?_
  refine ex_iconst (pc := 27) 16 rfl ?_
  refine ex_bipush (pc := 28) 17 rfl (by decide) ?_
  refine ex_bipush (pc := 30) 18 rfl (by decide) ?_
  refine ex_invV (pc := 32) (M' := mX8_takeOne) (As := [.inl 4, .inl 120, .inl 122]) (st := []) 19 rfl clk8 rfl rfl calX8_takeOne (Or.inl ww_1075) rfl rfl ?_
  refine vm_call.mono h ?_
  rintro m6 _ ⟨rfl, h⟩
  refine ex_aload_n (pc := 35) 20 rfl rfl ?_
  refine ex_geti (pc := 36) 20 21 rfl clk8 rfl rfl (Or.inl ww_760) rfl ?_
  obtain ⟨hs8, h⟩ := h
  refine ex_if_ne (pc := 39) 135 22 rfl (by decide) hs8 (fun hb => ?_) (fun hb => ?_)
  · have h := h.1 hb
    exact ex_ret (pc := 135) 75 rfl rfl ⟨rfl, h⟩
  · have h := h.2 hb
    refine ex_aload_n (pc := 42) 23 rfl rfl ?_
    refine ex_invV (pc := 43) (M' := mX8_next) (As := []) (st := []) 24 rfl clk8 rfl rfl calX8_next (Or.inl ww_1071) rfl rfl ?_
    refine vm_call.mono h ?_
    rintro m9 _ ⟨r10, rfl, h⟩
    refine ex_bipush (pc := 46) 25 rfl (by decide) ?_
    obtain ⟨hs11, h⟩ := h
    refine ex_icmp_eq (pc := 48) 60 26 rfl (by decide) hs11 ⟨by decide, by decide⟩ (fun hb => ?_) (fun hb => ?_)
    · have h := h.1 hb
      refine ex_aload_n (pc := 60) 31 rfl rfl ?_
      refine ex_invV (pc := 61) (M' := mX8_next) (As := []) (st := []) 32 rfl clk8 rfl rfl calX8_next (Or.inl ww_1071) rfl rfl ?_
      refine vm_call.mono h ?_
      rintro m12 _ ⟨r13, rfl, h⟩
      refine ex_bipush (pc := 64) 33 rfl (by decide) ?_
      obtain ⟨hs14, h⟩ := h
      refine ex_icmp_ne (pc := 66) 73 34 rfl (by decide) hs14 ⟨by decide, by decide⟩ (fun hb => ?_) (fun hb => ?_)
      · have h := h.1 hb
        refine ex_iconst (pc := 73) 37 rfl ?_
        refine ex_istore_n (pc := 74) 38 rfl rfl rfl ?_
        refine ex_aload_n (pc := 75) 39 rfl rfl ?_
        refine ex_dupa (pc := 76) 40 rfl ?_
        refine ex_geti (pc := 77) 19 41 rfl clk8 rfl rfl (Or.inl ww_759) rfl ?_
        refine ex_iconst (pc := 80) 42 rfl ?_
        refine ex_iadd (pc := 81) 43 rfl ?_
        have h := h _ rfl
        refine ex_puti (pc := 82) 19 44 rfl clk8 rfl rfl (Or.inl ww_759) rfl rfl rfl ?_
        generalize vm_up m12 24 _ ((m12 24 19) + 1) = m15 at h ⊢
        refine ex_aload_n (pc := 85) 45 rfl rfl ?_
        refine ex_iconst (pc := 86) 46 rfl ?_
        refine ex_bipush (pc := 87) 47 rfl (by decide) ?_
        refine ex_bipush (pc := 89) 48 rfl (by decide) ?_
        refine ex_invV (pc := 91) (M' := mX8_takeOne) (As := [.inl 5, .inl 48, .inl 54]) (st := []) 49 rfl clk8 rfl rfl calX8_takeOne (Or.inl ww_1075) rfl rfl ?_
        refine vm_call.mono h ?_
        rintro m16 _ ⟨rfl, h⟩
        refine ex_aload_n (pc := 94) 50 rfl rfl ?_
        refine ex_iconst (pc := 95) 51 rfl ?_
        refine ex_iload_n (pc := 96) 52 rfl rfl ?_
        refine ex_if_eq (pc := 97) 118 53 rfl (by decide) ⟨by decide, by decide⟩ (fun hb => ?_) (fun hb => ?_)
        · skip
          refine ex_aload_n (pc := 118) 65 rfl rfl ?_
          refine ex_geta (pc := 119) 22 66 rfl clk8 rfl rfl (Or.inl ww_762) rfl ?_
          refine ex_bipush (pc := 122) 67 rfl (by decide) ?_
          refine ex_aload_n (pc := 124) 68 rfl rfl ?_
          refine ex_geti (pc := 125) 21 69 rfl clk8 rfl rfl (Or.inl ww_761) rfl ?_
          refine ex_imul (pc := 128) 70 rfl ?_
          refine ex_iconst (pc := 129) 71 rfl ?_
          refine ex_iadd (pc := 130) 72 rfl ?_
          obtain ⟨hs18, h⟩ := h
          refine ex_iaload (pc := 131) 73 rfl rfl rfl hs18 ?_
          refine ex_invV (pc := 132) (M' := mX8_enter) (As := [.inl 5, .inl (m16 37 ((6 * (m16 24 21)) + 5))]) (st := []) 74 rfl clk8 rfl rfl calX8_enter (Or.inl ww_1067) rfl rfl ?_
          refine vm_call.mono h ?_
          rintro m19 _ ⟨rfl, h⟩
          exact ex_ret (pc := 135) 75 rfl rfl ⟨rfl, h⟩
        · exact absurd hb (by decide)
      · have h := h.2 hb
        refine ex_iconst (pc := 69) 35 rfl ?_
        refine ex_goto (pc := 70) 74 36 rfl (by decide) ?_
        refine ex_istore_n (pc := 74) 38 rfl rfl rfl ?_
        refine ex_aload_n (pc := 75) 39 rfl rfl ?_
        refine ex_dupa (pc := 76) 40 rfl ?_
        refine ex_geti (pc := 77) 19 41 rfl clk8 rfl rfl (Or.inl ww_759) rfl ?_
        refine ex_iconst (pc := 80) 42 rfl ?_
        refine ex_iadd (pc := 81) 43 rfl ?_
        have h := h _ rfl
        refine ex_puti (pc := 82) 19 44 rfl clk8 rfl rfl (Or.inl ww_759) rfl rfl rfl ?_
        generalize vm_up m12 24 _ ((m12 24 19) + 1) = m21 at h ⊢
        refine ex_aload_n (pc := 85) 45 rfl rfl ?_
        refine ex_iconst (pc := 86) 46 rfl ?_
        refine ex_bipush (pc := 87) 47 rfl (by decide) ?_
        refine ex_bipush (pc := 89) 48 rfl (by decide) ?_
        refine ex_invV (pc := 91) (M' := mX8_takeOne) (As := [.inl 5, .inl 48, .inl 54]) (st := []) 49 rfl clk8 rfl rfl calX8_takeOne (Or.inl ww_1075) rfl rfl ?_
        refine vm_call.mono h ?_
        rintro m22 _ ⟨rfl, h⟩
        refine ex_aload_n (pc := 94) 50 rfl rfl ?_
        refine ex_iconst (pc := 95) 51 rfl ?_
        refine ex_iload_n (pc := 96) 52 rfl rfl ?_
        refine ex_if_eq (pc := 97) 118 53 rfl (by decide) ⟨by decide, by decide⟩ (fun hb => ?_) (fun hb => ?_)
        · exact absurd hb (by decide)
        · skip
          refine ex_aload_n (pc := 100) 54 rfl rfl ?_
          refine ex_geta (pc := 101) 22 55 rfl clk8 rfl rfl (Or.inl ww_762) rfl ?_
          refine ex_bipush (pc := 104) 56 rfl (by decide) ?_
          refine ex_aload_n (pc := 106) 57 rfl rfl ?_
          refine ex_geti (pc := 107) 21 58 rfl clk8 rfl rfl (Or.inl ww_761) rfl ?_
          refine ex_imul (pc := 110) 59 rfl ?_
          refine ex_iconst (pc := 111) 60 rfl ?_
          refine ex_iadd (pc := 112) 61 rfl ?_
          obtain ⟨hs24, h⟩ := h
          refine ex_iaload (pc := 113) 62 rfl rfl rfl hs24 ?_
          refine ex_ineg (pc := 114) 63 rfl ?_
          refine ex_goto (pc := 115) 132 64 rfl (by decide) ?_
          refine ex_invV (pc := 132) (M' := mX8_enter) (As := [.inl 5, .inl (-(m22 37 ((6 * (m22 24 21)) + 5)))]) (st := []) 74 rfl clk8 rfl rfl calX8_enter (Or.inl ww_1067) rfl rfl ?_
          refine vm_call.mono h ?_
          rintro m25 _ ⟨rfl, h⟩
          exact ex_ret (pc := 135) 75 rfl rfl ⟨rfl, h⟩
    · have h := h.2 hb
      refine ex_aload_n (pc := 51) 27 rfl rfl ?_
      refine ex_invV (pc := 52) (M' := mX8_next) (As := []) (st := []) 28 rfl clk8 rfl rfl calX8_next (Or.inl ww_1071) rfl rfl ?_
      refine vm_call.mono h ?_
      rintro m27 _ ⟨r28, rfl, h⟩
      refine ex_bipush (pc := 55) 29 rfl (by decide) ?_
      obtain ⟨hs29, h⟩ := h
      refine ex_icmp_ne (pc := 57) 135 30 rfl (by decide) hs29 ⟨by decide, by decide⟩ (fun hb => ?_) (fun hb => ?_)
      · have h := h.1 hb
        exact ex_ret (pc := 135) 75 rfl rfl ⟨rfl, h⟩
      · have h := h.2 hb
        refine ex_aload_n (pc := 60) 31 rfl rfl ?_
        refine ex_invV (pc := 61) (M' := mX8_next) (As := []) (st := []) 32 rfl clk8 rfl rfl calX8_next (Or.inl ww_1071) rfl rfl ?_
        refine vm_call.mono h ?_
        rintro m30 _ ⟨r31, rfl, h⟩
        refine ex_bipush (pc := 64) 33 rfl (by decide) ?_
        obtain ⟨hs32, h⟩ := h
        refine ex_icmp_ne (pc := 66) 73 34 rfl (by decide) hs32 ⟨by decide, by decide⟩ (fun hb => ?_) (fun hb => ?_)
        · have h := h.1 hb
          refine ex_iconst (pc := 73) 37 rfl ?_
          refine ex_istore_n (pc := 74) 38 rfl rfl rfl ?_
          refine ex_aload_n (pc := 75) 39 rfl rfl ?_
          refine ex_dupa (pc := 76) 40 rfl ?_
          refine ex_geti (pc := 77) 19 41 rfl clk8 rfl rfl (Or.inl ww_759) rfl ?_
          refine ex_iconst (pc := 80) 42 rfl ?_
          refine ex_iadd (pc := 81) 43 rfl ?_
          have h := h _ rfl
          refine ex_puti (pc := 82) 19 44 rfl clk8 rfl rfl (Or.inl ww_759) rfl rfl rfl ?_
          generalize vm_up m30 24 _ ((m30 24 19) + 1) = m33 at h ⊢
          refine ex_aload_n (pc := 85) 45 rfl rfl ?_
          refine ex_iconst (pc := 86) 46 rfl ?_
          refine ex_bipush (pc := 87) 47 rfl (by decide) ?_
          refine ex_bipush (pc := 89) 48 rfl (by decide) ?_
          refine ex_invV (pc := 91) (M' := mX8_takeOne) (As := [.inl 5, .inl 48, .inl 54]) (st := []) 49 rfl clk8 rfl rfl calX8_takeOne (Or.inl ww_1075) rfl rfl ?_
          refine vm_call.mono h ?_
          rintro m34 _ ⟨rfl, h⟩
          refine ex_aload_n (pc := 94) 50 rfl rfl ?_
          refine ex_iconst (pc := 95) 51 rfl ?_
          refine ex_iload_n (pc := 96) 52 rfl rfl ?_
          refine ex_if_eq (pc := 97) 118 53 rfl (by decide) ⟨by decide, by decide⟩ (fun hb => ?_) (fun hb => ?_)
          · skip
            refine ex_aload_n (pc := 118) 65 rfl rfl ?_
            refine ex_geta (pc := 119) 22 66 rfl clk8 rfl rfl (Or.inl ww_762) rfl ?_
            refine ex_bipush (pc := 122) 67 rfl (by decide) ?_
            refine ex_aload_n (pc := 124) 68 rfl rfl ?_
            refine ex_geti (pc := 125) 21 69 rfl clk8 rfl rfl (Or.inl ww_761) rfl ?_
            refine ex_imul (pc := 128) 70 rfl ?_
            refine ex_iconst (pc := 129) 71 rfl ?_
            refine ex_iadd (pc := 130) 72 rfl ?_
            obtain ⟨hs36, h⟩ := h
            refine ex_iaload (pc := 131) 73 rfl rfl rfl hs36 ?_
            refine ex_invV (pc := 132) (M' := mX8_enter) (As := [.inl 5, .inl (m34 37 ((6 * (m34 24 21)) + 5))]) (st := []) 74 rfl clk8 rfl rfl calX8_enter (Or.inl ww_1067) rfl rfl ?_
            refine vm_call.mono h ?_
            rintro m37 _ ⟨rfl, h⟩
            exact ex_ret (pc := 135) 75 rfl rfl ⟨rfl, h⟩
          · exact absurd hb (by decide)
        · have h := h.2 hb
          refine ex_iconst (pc := 69) 35 rfl ?_
          refine ex_goto (pc := 70) 74 36 rfl (by decide) ?_
          refine ex_istore_n (pc := 74) 38 rfl rfl rfl ?_
          refine ex_aload_n (pc := 75) 39 rfl rfl ?_
          refine ex_dupa (pc := 76) 40 rfl ?_
          refine ex_geti (pc := 77) 19 41 rfl clk8 rfl rfl (Or.inl ww_759) rfl ?_
          refine ex_iconst (pc := 80) 42 rfl ?_
          refine ex_iadd (pc := 81) 43 rfl ?_
          have h := h _ rfl
          refine ex_puti (pc := 82) 19 44 rfl clk8 rfl rfl (Or.inl ww_759) rfl rfl rfl ?_
          generalize vm_up m30 24 _ ((m30 24 19) + 1) = m39 at h ⊢
          refine ex_aload_n (pc := 85) 45 rfl rfl ?_
          refine ex_iconst (pc := 86) 46 rfl ?_
          refine ex_bipush (pc := 87) 47 rfl (by decide) ?_
          refine ex_bipush (pc := 89) 48 rfl (by decide) ?_
          refine ex_invV (pc := 91) (M' := mX8_takeOne) (As := [.inl 5, .inl 48, .inl 54]) (st := []) 49 rfl clk8 rfl rfl calX8_takeOne (Or.inl ww_1075) rfl rfl ?_
          refine vm_call.mono h ?_
          rintro m40 _ ⟨rfl, h⟩
          refine ex_aload_n (pc := 94) 50 rfl rfl ?_
          refine ex_iconst (pc := 95) 51 rfl ?_
          refine ex_iload_n (pc := 96) 52 rfl rfl ?_
          refine ex_if_eq (pc := 97) 118 53 rfl (by decide) ⟨by decide, by decide⟩ (fun hb => ?_) (fun hb => ?_)
          · exact absurd hb (by decide)
          · skip
            refine ex_aload_n (pc := 100) 54 rfl rfl ?_
            refine ex_geta (pc := 101) 22 55 rfl clk8 rfl rfl (Or.inl ww_762) rfl ?_
            refine ex_bipush (pc := 104) 56 rfl (by decide) ?_
            refine ex_aload_n (pc := 106) 57 rfl rfl ?_
            refine ex_geti (pc := 107) 21 58 rfl clk8 rfl rfl (Or.inl ww_761) rfl ?_
            refine ex_imul (pc := 110) 59 rfl ?_
            refine ex_iconst (pc := 111) 60 rfl ?_
            refine ex_iadd (pc := 112) 61 rfl ?_
            obtain ⟨hs42, h⟩ := h
            refine ex_iaload (pc := 113) 62 rfl rfl rfl hs42 ?_
            refine ex_ineg (pc := 114) 63 rfl ?_
            refine ex_goto (pc := 115) 132 64 rfl (by decide) ?_
            refine ex_invV (pc := 132) (M' := mX8_enter) (As := [.inl 5, .inl (-(m40 37 ((6 * (m40 24 21)) + 5)))]) (st := []) 74 rfl clk8 rfl rfl calX8_enter (Or.inl ww_1067) rfl rfl ?_
            refine vm_call.mono h ?_
            rintro m43 _ ⟨rfl, h⟩
            exact ex_ret (pc := 135) 75 rfl rfl ⟨rfl, h⟩
set_option maxRecDepth 20000 in
theorem qX8_takeKind {G : vm_G} {d : Nat}  {mem : vm_M} {Q : vm_M → Prop} (h : vm_cn G d mX8_takeOne [.inr (.inr 24), .inl 2, .inl 120, .inl 122] mem (fun m1 => (vm_R (m1 24 20)) ∧ ((¬ (m1 24 20) = 0 → vm_cn G d mX8_enter [.inr (.inr 24), .inl 0, .inl 0] m1 (fun m4 => vm_cn G d mX8_takeSign [.inr (.inr 24), .inl 61] m4 (fun m6 => vm_cn G d mX8_takeRange [.inr (.inr 24), .inl 3] m6 (fun m8 => Q m8)))) ∧ ((m1 24 20) = 0 → vm_ci G d mX8_next [.inr (.inr 24)] m1 (fun m10 r11 => (vm_R r11) ∧ ((¬ r11 = 62 → vm_cn G d mX8_enter [.inr (.inr 24), .inl 0, .inl 0] m10 (fun m13 => vm_cn G d mX8_takeSign [.inr (.inr 24), .inl 61] m13 (fun m15 => vm_cn G d mX8_takeRange [.inr (.inr 24), .inl 3] m15 (fun m17 => Q m17)))) ∧ (r11 = 62 → vm_cn G d mX8_takeMore [.inr (.inr 24)] m10 (fun m19 => Q m19)))))))) : vm_cn G (d + 1) mX8_takeKind [.inr (.inr 24)] mem Q := by
  refine vm_enter (al := [some (.inr (.inr 24))]) 0 okX8_takeKind (by decide +kernel) rfl rfl ?_
  refine ex_aload_n (pc := 0) 0 rfl rfl ?_
  refine ex_iconst (pc := 1) 1 rfl ?_
  refine ex_bipush (pc := 2) 2 rfl (by decide) ?_
  refine ex_bipush (pc := 4) 3 rfl (by decide) ?_
  refine ex_invV (pc := 6) (M' := mX8_takeOne) (As := [.inl 2, .inl 120, .inl 122]) (st := []) 4 rfl clk8 rfl rfl calX8_takeOne (Or.inl ww_1075) rfl rfl ?_
  refine vm_call.mono h ?_
  rintro m1 _ ⟨rfl, h⟩
  refine ex_aload_n (pc := 9) 5 rfl rfl ?_
  refine ex_geti (pc := 10) 20 6 rfl clk8 rfl rfl (Or.inl ww_760) rfl ?_
  obtain ⟨hs3, h⟩ := h
  refine ex_if_ne (pc := 13) 32 7 rfl (by decide) hs3 (fun hb => ?_) (fun hb => ?_)
  · have h := h.1 hb
    refine ex_aload_n (pc := 32) 15 rfl rfl ?_
    refine ex_iconst (pc := 33) 16 rfl ?_
    refine ex_iconst (pc := 34) 17 rfl ?_
    refine ex_invV (pc := 35) (M' := mX8_enter) (As := [.inl 0, .inl 0]) (st := []) 18 rfl clk8 rfl rfl calX8_enter (Or.inl ww_1067) rfl rfl ?_
    refine vm_call.mono h ?_
    rintro m4 _ ⟨rfl, h⟩
    refine ex_aload_n (pc := 38) 19 rfl rfl ?_
    refine ex_bipush (pc := 39) 20 rfl (by decide) ?_
    refine ex_invV (pc := 41) (M' := mX8_takeSign) (As := [.inl 61]) (st := []) 21 rfl clk8 rfl rfl calX8_takeSign (Or.inl ww_1079) rfl rfl ?_
    refine vm_call.mono h ?_
    rintro m6 _ ⟨rfl, h⟩
    refine ex_aload_n (pc := 44) 22 rfl rfl ?_
    refine ex_iconst (pc := 45) 23 rfl ?_
    refine ex_invV (pc := 46) (M' := mX8_takeRange) (As := [.inl 3]) (st := []) 24 rfl clk8 rfl rfl calX8_takeRange (Or.inl ww_1083) rfl rfl ?_
    refine vm_call.mono h ?_
    rintro m8 _ ⟨rfl, h⟩
    exact ex_ret (pc := 49) 25 rfl rfl ⟨rfl, h⟩
  · have h := h.2 hb
    refine ex_aload_n (pc := 16) 8 rfl rfl ?_
    refine ex_invV (pc := 17) (M' := mX8_next) (As := []) (st := []) 9 rfl clk8 rfl rfl calX8_next (Or.inl ww_1071) rfl rfl ?_
    refine vm_call.mono h ?_
    rintro m10 _ ⟨r11, rfl, h⟩
    refine ex_bipush (pc := 20) 10 rfl (by decide) ?_
    obtain ⟨hs12, h⟩ := h
    refine ex_icmp_ne (pc := 22) 32 11 rfl (by decide) hs12 ⟨by decide, by decide⟩ (fun hb => ?_) (fun hb => ?_)
    · have h := h.1 hb
      refine ex_aload_n (pc := 32) 15 rfl rfl ?_
      refine ex_iconst (pc := 33) 16 rfl ?_
      refine ex_iconst (pc := 34) 17 rfl ?_
      refine ex_invV (pc := 35) (M' := mX8_enter) (As := [.inl 0, .inl 0]) (st := []) 18 rfl clk8 rfl rfl calX8_enter (Or.inl ww_1067) rfl rfl ?_
      refine vm_call.mono h ?_
      rintro m13 _ ⟨rfl, h⟩
      refine ex_aload_n (pc := 38) 19 rfl rfl ?_
      refine ex_bipush (pc := 39) 20 rfl (by decide) ?_
      refine ex_invV (pc := 41) (M' := mX8_takeSign) (As := [.inl 61]) (st := []) 21 rfl clk8 rfl rfl calX8_takeSign (Or.inl ww_1079) rfl rfl ?_
      refine vm_call.mono h ?_
      rintro m15 _ ⟨rfl, h⟩
      refine ex_aload_n (pc := 44) 22 rfl rfl ?_
      refine ex_iconst (pc := 45) 23 rfl ?_
      refine ex_invV (pc := 46) (M' := mX8_takeRange) (As := [.inl 3]) (st := []) 24 rfl clk8 rfl rfl calX8_takeRange (Or.inl ww_1083) rfl rfl ?_
      refine vm_call.mono h ?_
      rintro m17 _ ⟨rfl, h⟩
      exact ex_ret (pc := 49) 25 rfl rfl ⟨rfl, h⟩
    · have h := h.2 hb
      refine ex_aload_n (pc := 25) 12 rfl rfl ?_
      refine ex_invV (pc := 26) (M' := mX8_takeMore) (As := []) (st := []) 13 rfl clk8 rfl rfl calX8_takeMore (Or.inl ww_1103) rfl rfl ?_
      refine vm_call.mono h ?_
      rintro m19 _ ⟨rfl, h⟩
      refine ex_goto (pc := 29) 49 14 rfl (by decide) ?_
      exact ex_ret (pc := 49) 25 rfl rfl ⟨rfl, h⟩
set_option maxRecDepth 20000 in
theorem qX8_takeBags {G : vm_G} {d : Nat} {p1 : Int} {mem : vm_M} {Q : vm_M → Prop} (h : (0 ≤ ((6 * (mem 24 21)) + 1) ∧ ((6 * (mem 24 21)) + 1) < 132) ∧ vm_cn G d mX8_enter [.inr (.inr 24), .inl 0, .inl p1] mem (fun m2 => vm_cn G d mX8_enter [.inr (.inr 24), .inl 2, .inl (mem 37 ((6 * (mem 24 21)) + 1))] m2 (fun m4 => (∀ m6, m6 = vm_up m4 24 19 ((m4 24 19) + 1) → vm_cn G d mX8_takeOne [.inr (.inr 24), .inl 3, .inl 65, .inl 68] m6 (fun m7 => vm_cn G d mX8_takeSign [.inr (.inr 24), .inl 61] m7 (fun m9 => vm_cn G d mX8_takeOne [.inr (.inr 24), .inl 1, .inl 65, .inl 68] m9 (fun m11 => Q m11))))))) : vm_cn G (d + 1) mX8_takeBags [.inr (.inr 24), .inl p1] mem Q := by
  refine vm_enter (al := [some (.inr (.inr 24)), some (.inl p1), none]) 1 okX8_takeBags (by decide +kernel) rfl rfl ?_
  refine ex_aload_n (pc := 0) 0 rfl rfl ?_
  refine ex_geta (pc := 1) 22 1 rfl clk8 rfl rfl (Or.inl ww_762) rfl ?_
  refine ex_bipush (pc := 4) 2 rfl (by decide) ?_
  refine ex_aload_n (pc := 6) 3 rfl rfl ?_
  refine ex_geti (pc := 7) 21 4 rfl clk8 rfl rfl (Or.inl ww_761) rfl ?_
  refine ex_imul (pc := 10) 5 rfl ?_
  refine ex_iconst (pc := 11) 6 rfl ?_
  refine ex_iadd (pc := 12) 7 rfl ?_
  obtain ⟨hs1, h⟩ := h
  refine ex_iaload (pc := 13) 8 rfl rfl rfl hs1 ?_
  refine ex_istore_n (pc := 14) 9 rfl rfl rfl ?_
  refine ex_aload_n (pc := 15) 10 rfl rfl ?_
  refine ex_iconst (pc := 16) 11 rfl ?_
  refine ex_iload_n (pc := 17) 12 rfl rfl ?_
  refine ex_invV (pc := 18) (M' := mX8_enter) (As := [.inl 0, .inl p1]) (st := []) 13 rfl clk8 rfl rfl calX8_enter (Or.inl ww_1067) rfl rfl ?_
  refine vm_call.mono h ?_
  rintro m2 _ ⟨rfl, h⟩
  refine ex_aload_n (pc := 21) 14 rfl rfl ?_
  refine ex_iconst (pc := 22) 15 rfl ?_
  refine ex_iload_n (pc := 23) 16 rfl rfl ?_
  refine ex_invV (pc := 24) (M' := mX8_enter) (As := [.inl 2, .inl (mem 37 ((6 * (mem 24 21)) + 1))]) (st := []) 17 rfl clk8 rfl rfl calX8_enter (Or.inl ww_1067) rfl rfl ?_
  refine vm_call.mono h ?_
  rintro m4 _ ⟨rfl, h⟩
  refine ex_aload_n (pc := 27) 18 rfl rfl ?_
  refine ex_dupa (pc := 28) 19 rfl ?_
  refine ex_geti (pc := 29) 19 20 rfl clk8 rfl rfl (Or.inl ww_759) rfl ?_
  refine ex_iconst (pc := 32) 21 rfl ?_
  refine ex_iadd (pc := 33) 22 rfl ?_
  have h := h _ rfl
  refine ex_puti (pc := 34) 19 23 rfl clk8 rfl rfl (Or.inl ww_759) rfl rfl rfl ?_
  generalize vm_up m4 24 _ ((m4 24 19) + 1) = m6 at h ⊢
  refine ex_aload_n (pc := 37) 24 rfl rfl ?_
  refine ex_iconst (pc := 38) 25 rfl ?_
  refine ex_bipush (pc := 39) 26 rfl (by decide) ?_
  refine ex_bipush (pc := 41) 27 rfl (by decide) ?_
  refine ex_invV (pc := 43) (M' := mX8_takeOne) (As := [.inl 3, .inl 65, .inl 68]) (st := []) 28 rfl clk8 rfl rfl calX8_takeOne (Or.inl ww_1075) rfl rfl ?_
  refine vm_call.mono h ?_
  rintro m7 _ ⟨rfl, h⟩
  refine ex_aload_n (pc := 46) 29 rfl rfl ?_
  refine ex_bipush (pc := 47) 30 rfl (by decide) ?_
  refine ex_invV (pc := 49) (M' := mX8_takeSign) (As := [.inl 61]) (st := []) 31 rfl clk8 rfl rfl calX8_takeSign (Or.inl ww_1079) rfl rfl ?_
  refine vm_call.mono h ?_
  rintro m9 _ ⟨rfl, h⟩
  refine ex_aload_n (pc := 52) 32 rfl rfl ?_
  refine ex_iconst (pc := 53) 33 rfl ?_
  refine ex_bipush (pc := 54) 34 rfl (by decide) ?_
  refine ex_bipush (pc := 56) 35 rfl (by decide) ?_
  refine ex_invV (pc := 58) (M' := mX8_takeOne) (As := [.inl 1, .inl 65, .inl 68]) (st := []) 36 rfl clk8 rfl rfl calX8_takeOne (Or.inl ww_1075) rfl rfl ?_
  refine vm_call.mono h ?_
  rintro m11 _ ⟨rfl, h⟩
  exact ex_ret (pc := 61) 37 rfl rfl ⟨rfl, h⟩
set_option maxRecDepth 20000 in
theorem qX8_takeBag {G : vm_G} {d : Nat}  {mem : vm_M} {Q : vm_M → Prop} (h : vm_cn G d mX8_takeOne [.inr (.inr 24), .inl 1, .inl 65, .inl 68] mem (fun m1 => (vm_R (m1 24 20)) ∧ (((m1 24 20) = 0 → vm_ci G d mX8_next [.inr (.inr 24)] m1 (fun m4 r5 => (vm_R r5) ∧ ((r5 = 38 → vm_cn G d mX8_takeBags [.inr (.inr 24), .inl 4] m4 (fun m7 => Q m7)) ∧ (r5 = 43 → vm_cn G d mX8_takeBags [.inr (.inr 24), .inl 2] m4 (fun m9 => Q m9)) ∧ (r5 = 60 → vm_cn G d mX8_enter [.inr (.inr 24), .inl 0, .inl 5] m4 (fun m11 => (∀ m13, m13 = vm_up m11 24 19 ((m11 24 19) + 1) → vm_cn G d mX8_takeOne [.inr (.inr 24), .inl 2, .inl 65, .inl 68] m13 (fun m14 => Q m14)))) ∧ (r5 = 124 → vm_cn G d mX8_takeBags [.inr (.inr 24), .inl 3] m4 (fun m16 => Q m16)) ∧ (¬ r5 = 38 → ¬ r5 = 43 → ¬ r5 = 60 → ¬ r5 = 124 → vm_cn G d mX8_takeKind [.inr (.inr 24)] m4 (fun m18 => Q m18))))) ∧ (¬ (m1 24 20) = 0 → Q m1)))) : vm_cn G (d + 1) mX8_takeBag [.inr (.inr 24)] mem Q := by
  refine vm_enter (al := [some (.inr (.inr 24))]) 0 okX8_takeBag (by decide +kernel) rfl rfl ?_
  refine ex_aload_n (pc := 0) 0 rfl rfl ?_
  refine ex_iconst (pc := 1) 1 rfl ?_
  refine ex_bipush (pc := 2) 2 rfl (by decide) ?_
  refine ex_bipush (pc := 4) 3 rfl (by decide) ?_
  refine ex_invV (pc := 6) (M' := mX8_takeOne) (As := [.inl 1, .inl 65, .inl 68]) (st := []) 4 rfl clk8 rfl rfl calX8_takeOne (Or.inl ww_1075) rfl rfl ?_
  refine vm_call.mono h ?_
  rintro m1 _ ⟨rfl, h⟩
  refine ex_aload_n (pc := 9) 5 rfl rfl ?_
  refine ex_geti (pc := 10) 20 6 rfl clk8 rfl rfl (Or.inl ww_760) rfl ?_
  obtain ⟨hs3, h⟩ := h
  refine ex_if_eq (pc := 13) 17 7 rfl (by decide) hs3 (fun hb => ?_) (fun hb => ?_)
  · have h := h.1 hb
    refine ex_aload_n (pc := 17) 9 rfl rfl ?_
    refine ex_invV (pc := 18) (M' := mX8_next) (As := []) (st := []) 10 rfl clk8 rfl rfl calX8_next (Or.inl ww_1071) rfl rfl ?_
    refine vm_call.mono h ?_
    rintro m4 _ ⟨r5, rfl, h⟩
    obtain ⟨hs6, h⟩ := h
    obtain ⟨h0, h1, h2, h3, h4⟩ := h
    by_cases e0 : r5 = 38
    · have h := h0 e0
      refine ex_lsw (pc := 21) (off := 59) 80 11 rfl hs6 (by decide) (by simp [Op.lookupswitch.offset, e0]) (by decide) ?_
      refine ex_aload_n (pc := 80) 20 rfl rfl ?_
      refine ex_iconst (pc := 81) 21 rfl ?_
      refine ex_invV (pc := 82) (M' := mX8_takeBags) (As := [.inl 4]) (st := []) 22 rfl clk8 rfl rfl calX8_takeBags (Or.inl ww_1095) rfl rfl ?_
      refine vm_call.mono h ?_
      rintro m7 _ ⟨rfl, h⟩
      refine ex_goto (pc := 85) 120 23 rfl (by decide) ?_
      exact ex_ret (pc := 120) 42 rfl rfl ⟨rfl, h⟩
    by_cases e1 : r5 = 43
    · have h := h1 e1
      refine ex_lsw (pc := 21) (off := 43) 64 11 rfl hs6 (by decide) (by simp [Op.lookupswitch.offset, e1]) (by decide) ?_
      refine ex_aload_n (pc := 64) 12 rfl rfl ?_
      refine ex_iconst (pc := 65) 13 rfl ?_
      refine ex_invV (pc := 66) (M' := mX8_takeBags) (As := [.inl 2]) (st := []) 14 rfl clk8 rfl rfl calX8_takeBags (Or.inl ww_1095) rfl rfl ?_
      refine vm_call.mono h ?_
      rintro m9 _ ⟨rfl, h⟩
      refine ex_goto (pc := 69) 120 15 rfl (by decide) ?_
      exact ex_ret (pc := 120) 42 rfl rfl ⟨rfl, h⟩
    by_cases e2 : r5 = 60
    · have h := h2 e2
      refine ex_lsw (pc := 21) (off := 67) 88 11 rfl hs6 (by decide) (by simp [Op.lookupswitch.offset, e2]) (by decide) ?_
      refine ex_aload_n (pc := 88) 24 rfl rfl ?_
      refine ex_iconst (pc := 89) 25 rfl ?_
      refine ex_iconst (pc := 90) 26 rfl ?_
      refine ex_invV (pc := 91) (M' := mX8_enter) (As := [.inl 0, .inl 5]) (st := []) 27 rfl clk8 rfl rfl calX8_enter (Or.inl ww_1067) rfl rfl ?_
      refine vm_call.mono h ?_
      rintro m11 _ ⟨rfl, h⟩
      refine ex_aload_n (pc := 94) 28 rfl rfl ?_
      refine ex_dupa (pc := 95) 29 rfl ?_
      refine ex_geti (pc := 96) 19 30 rfl clk8 rfl rfl (Or.inl ww_759) rfl ?_
      refine ex_iconst (pc := 99) 31 rfl ?_
      refine ex_iadd (pc := 100) 32 rfl ?_
      have h := h _ rfl
      refine ex_puti (pc := 101) 19 33 rfl clk8 rfl rfl (Or.inl ww_759) rfl rfl rfl ?_
      generalize vm_up m11 24 _ ((m11 24 19) + 1) = m13 at h ⊢
      refine ex_aload_n (pc := 104) 34 rfl rfl ?_
      refine ex_iconst (pc := 105) 35 rfl ?_
      refine ex_bipush (pc := 106) 36 rfl (by decide) ?_
      refine ex_bipush (pc := 108) 37 rfl (by decide) ?_
      refine ex_invV (pc := 110) (M' := mX8_takeOne) (As := [.inl 2, .inl 65, .inl 68]) (st := []) 38 rfl clk8 rfl rfl calX8_takeOne (Or.inl ww_1075) rfl rfl ?_
      refine vm_call.mono h ?_
      rintro m14 _ ⟨rfl, h⟩
      refine ex_goto (pc := 113) 120 39 rfl (by decide) ?_
      exact ex_ret (pc := 120) 42 rfl rfl ⟨rfl, h⟩
    by_cases e3 : r5 = 124
    · have h := h3 e3
      refine ex_lsw (pc := 21) (off := 51) 72 11 rfl hs6 (by decide) (by simp [Op.lookupswitch.offset, e3]) (by decide) ?_
      refine ex_aload_n (pc := 72) 16 rfl rfl ?_
      refine ex_iconst (pc := 73) 17 rfl ?_
      refine ex_invV (pc := 74) (M' := mX8_takeBags) (As := [.inl 3]) (st := []) 18 rfl clk8 rfl rfl calX8_takeBags (Or.inl ww_1095) rfl rfl ?_
      refine vm_call.mono h ?_
      rintro m16 _ ⟨rfl, h⟩
      refine ex_goto (pc := 77) 120 19 rfl (by decide) ?_
      exact ex_ret (pc := 120) 42 rfl rfl ⟨rfl, h⟩
    have h := h4 e0 e1 e2 e3
    refine ex_lsw (pc := 21) (off := 95) 116 11 rfl hs6 (by decide) (by simp only [Op.lookupswitch.offset]; rw [if_neg (fun z => e0 (Eq.symm z)), if_neg (fun z => e1 (Eq.symm z)), if_neg (fun z => e2 (Eq.symm z)), if_neg (fun z => e3 (Eq.symm z))]) (by decide) ?_
    refine ex_aload_n (pc := 116) 40 rfl rfl ?_
    refine ex_invV (pc := 117) (M' := mX8_takeKind) (As := []) (st := []) 41 rfl clk8 rfl rfl calX8_takeKind (Or.inl ww_1099) rfl rfl ?_
    refine vm_call.mono h ?_
    rintro m18 _ ⟨rfl, h⟩
    exact ex_ret (pc := 120) 42 rfl rfl ⟨rfl, h⟩
  · have h := h.2 hb
    exact ex_ret (pc := 16) 8 rfl rfl ⟨rfl, h⟩
set_option maxRecDepth 20000 in
theorem qX8_takeFact {G : vm_G} {d : Nat}  {mem : vm_M} {Q : vm_M → Prop} (h : vm_ex G (d + 1) mX8_takeFact 2 [some (.inr (.inr 24)), some (.inl 0)] [] mem (vm_qn Q)) : vm_cn G (d + 1) mX8_takeFact [.inr (.inr 24)] mem Q := by
  refine vm_enter (al := [some (.inr (.inr 24)), none]) 1 okX8_takeFact (by decide +kernel) rfl rfl ?_
  refine ex_iconst (pc := 0) 0 rfl ?_
  refine ex_istore_n (pc := 1) 1 rfl rfl rfl ?_
  exact h
set_option maxRecDepth 20000 in
theorem qX8_takeFact_2 {G : vm_G} {d : Nat} {v1 : Int} {mem : vm_M} {Q : vm_M → Prop} (h : (vm_R v1) ∧ ((6 ≤ v1 → vm_ci G d mX8_next [.inr (.inr 24)] mem (fun m2 r3 => (vm_R r3) ∧ ((¬ r3 = 35 → vm_cn G d mX8_takeBag [.inr (.inr 24)] m2 (fun m5 => (vm_R (m5 24 20)) ∧ (((m5 24 20) = 0 → (∀ m8, m8 = vm_up m5 24 21 ((m5 24 21) + 1) → Q m8)) ∧ (¬ (m5 24 20) = 0 → (∀ m9, m9 = vm_up m5 24 21 ((m5 24 21) + 0) → Q m9))))) ∧ (r3 = 35 → (∀ m10, m10 = vm_up m2 24 19 ((m2 24 19) + 1) → vm_cn G d mX8_enter [.inr (.inr 24), .inl 0, .inl 1] m10 (fun m11 => vm_cn G d mX8_takeOne [.inr (.inr 24), .inl 1, .inl 65, .inl 68] m11 (fun m13 => vm_cn G d mX8_takeSign [.inr (.inr 24), .inl 61] m13 (fun m15 => vm_cn G d mX8_takeRange [.inr (.inr 24), .inl 2] m15 (fun m17 => (vm_R (m17 24 20)) ∧ (((m17 24 20) = 0 → (∀ m20, m20 = vm_up m17 24 21 ((m17 24 21) + 1) → Q m20)) ∧ (¬ (m17 24 20) = 0 → (∀ m21, m21 = vm_up m17 24 21 ((m17 24 21) + 0) → Q m21)))))))))))) ∧ (¬ 6 ≤ v1 → vm_cn G d mX8_enter [.inr (.inr 24), .inl v1, .inl 0] mem (fun m22 => vm_ex G (d + 1) mX8_takeFact 2 [some (.inr (.inr 24)), some (.inl (v1 + 1))] [] m22 (vm_qn Q))))) : vm_ex G (d + 1) mX8_takeFact 2 [some (.inr (.inr 24)), some (.inl v1)] [] mem (vm_qn Q) := by
  refine ex_iload_n (pc := 2) 2 rfl rfl ?_
  refine ex_bipush (pc := 3) 3 rfl (by decide) ?_
  obtain ⟨hs1, h⟩ := h
  refine ex_icmp_ge (pc := 5) 20 4 rfl (by decide) hs1 ⟨by decide, by decide⟩ (fun hb => ?_) (fun hb => ?_)
  · have h := h.1 hb
    refine ex_aload_n (pc := 20) 11 rfl rfl ?_
    refine ex_invV (pc := 21) (M' := mX8_next) (As := []) (st := []) 12 rfl clk8 rfl rfl calX8_next (Or.inl ww_1071) rfl rfl ?_
    refine vm_call.mono h ?_
    rintro m2 _ ⟨r3, rfl, h⟩
    refine ex_bipush (pc := 24) 13 rfl (by decide) ?_
    obtain ⟨hs4, h⟩ := h
    refine ex_icmp_ne (pc := 26) 68 14 rfl (by decide) hs4 ⟨by decide, by decide⟩ (fun hb => ?_) (fun hb => ?_)
    · have h := h.1 hb
      refine ex_aload_n (pc := 68) 37 rfl rfl ?_
      refine ex_invV (pc := 69) (M' := mX8_takeBag) (As := []) (st := []) 38 rfl clk8 rfl rfl calX8_takeBag (Or.inl ww_1091) rfl rfl ?_
      refine vm_call.mono h ?_
      rintro m5 _ ⟨rfl, h⟩
      refine ex_aload_n (pc := 72) 39 rfl rfl ?_
      refine ex_dupa (pc := 73) 40 rfl ?_
      refine ex_geti (pc := 74) 21 41 rfl clk8 rfl rfl (Or.inl ww_761) rfl ?_
      refine ex_aload_n (pc := 77) 42 rfl rfl ?_
      refine ex_geti (pc := 78) 20 43 rfl clk8 rfl rfl (Or.inl ww_760) rfl ?_
      obtain ⟨hs7, h⟩ := h
      refine ex_if_eq (pc := 81) 88 44 rfl (by decide) hs7 (fun hb => ?_) (fun hb => ?_)
      · have h := h.1 hb
        refine ex_iconst (pc := 88) 47 rfl ?_
        refine ex_iadd (pc := 89) 48 rfl ?_
        have h := h _ rfl
        refine ex_puti (pc := 90) 21 49 rfl clk8 rfl rfl (Or.inl ww_761) rfl rfl rfl ?_
        generalize vm_up m5 24 _ ((m5 24 21) + 1) = m8 at h ⊢
        exact ex_ret (pc := 93) 50 rfl rfl ⟨rfl, h⟩
      · have h := h.2 hb
        refine ex_iconst (pc := 84) 45 rfl ?_
        refine ex_goto (pc := 85) 89 46 rfl (by decide) ?_
        refine ex_iadd (pc := 89) 48 rfl ?_
        have h := h _ rfl
        refine ex_puti (pc := 90) 21 49 rfl clk8 rfl rfl (Or.inl ww_761) rfl rfl rfl ?_
        generalize vm_up m5 24 _ ((m5 24 21) + 0) = m9 at h ⊢
        exact ex_ret (pc := 93) 50 rfl rfl ⟨rfl, h⟩
    · have h := h.2 hb
      refine ex_aload_n (pc := 29) 15 rfl rfl ?_
      refine ex_dupa (pc := 30) 16 rfl ?_
      refine ex_geti (pc := 31) 19 17 rfl clk8 rfl rfl (Or.inl ww_759) rfl ?_
      refine ex_iconst (pc := 34) 18 rfl ?_
      refine ex_iadd (pc := 35) 19 rfl ?_
      have h := h _ rfl
      refine ex_puti (pc := 36) 19 20 rfl clk8 rfl rfl (Or.inl ww_759) rfl rfl rfl ?_
      generalize vm_up m2 24 _ ((m2 24 19) + 1) = m10 at h ⊢
      refine ex_aload_n (pc := 39) 21 rfl rfl ?_
      refine ex_iconst (pc := 40) 22 rfl ?_
      refine ex_iconst (pc := 41) 23 rfl ?_
      refine ex_invV (pc := 42) (M' := mX8_enter) (As := [.inl 0, .inl 1]) (st := []) 24 rfl clk8 rfl rfl calX8_enter (Or.inl ww_1067) rfl rfl ?_
      refine vm_call.mono h ?_
      rintro m11 _ ⟨rfl, h⟩
      refine ex_aload_n (pc := 45) 25 rfl rfl ?_
      refine ex_iconst (pc := 46) 26 rfl ?_
      refine ex_bipush (pc := 47) 27 rfl (by decide) ?_
      refine ex_bipush (pc := 49) 28 rfl (by decide) ?_
      refine ex_invV (pc := 51) (M' := mX8_takeOne) (As := [.inl 1, .inl 65, .inl 68]) (st := []) 29 rfl clk8 rfl rfl calX8_takeOne (Or.inl ww_1075) rfl rfl ?_
      refine vm_call.mono h ?_
      rintro m13 _ ⟨rfl, h⟩
      refine ex_aload_n (pc := 54) 30 rfl rfl ?_
      refine ex_bipush (pc := 55) 31 rfl (by decide) ?_
      refine ex_invV (pc := 57) (M' := mX8_takeSign) (As := [.inl 61]) (st := []) 32 rfl clk8 rfl rfl calX8_takeSign (Or.inl ww_1079) rfl rfl ?_
      refine vm_call.mono h ?_
      rintro m15 _ ⟨rfl, h⟩
      refine ex_aload_n (pc := 60) 33 rfl rfl ?_
      refine ex_iconst (pc := 61) 34 rfl ?_
      refine ex_invV (pc := 62) (M' := mX8_takeRange) (As := [.inl 2]) (st := []) 35 rfl clk8 rfl rfl calX8_takeRange (Or.inl ww_1083) rfl rfl ?_
      refine vm_call.mono h ?_
      rintro m17 _ ⟨rfl, h⟩
      refine ex_goto (pc := 65) 72 36 rfl (by decide) ?_
      refine ex_aload_n (pc := 72) 39 rfl rfl ?_
      refine ex_dupa (pc := 73) 40 rfl ?_
      refine ex_geti (pc := 74) 21 41 rfl clk8 rfl rfl (Or.inl ww_761) rfl ?_
      refine ex_aload_n (pc := 77) 42 rfl rfl ?_
      refine ex_geti (pc := 78) 20 43 rfl clk8 rfl rfl (Or.inl ww_760) rfl ?_
      obtain ⟨hs19, h⟩ := h
      refine ex_if_eq (pc := 81) 88 44 rfl (by decide) hs19 (fun hb => ?_) (fun hb => ?_)
      · have h := h.1 hb
        refine ex_iconst (pc := 88) 47 rfl ?_
        refine ex_iadd (pc := 89) 48 rfl ?_
        have h := h _ rfl
        refine ex_puti (pc := 90) 21 49 rfl clk8 rfl rfl (Or.inl ww_761) rfl rfl rfl ?_
        generalize vm_up m17 24 _ ((m17 24 21) + 1) = m20 at h ⊢
        exact ex_ret (pc := 93) 50 rfl rfl ⟨rfl, h⟩
      · have h := h.2 hb
        refine ex_iconst (pc := 84) 45 rfl ?_
        refine ex_goto (pc := 85) 89 46 rfl (by decide) ?_
        refine ex_iadd (pc := 89) 48 rfl ?_
        have h := h _ rfl
        refine ex_puti (pc := 90) 21 49 rfl clk8 rfl rfl (Or.inl ww_761) rfl rfl rfl ?_
        generalize vm_up m17 24 _ ((m17 24 21) + 0) = m21 at h ⊢
        exact ex_ret (pc := 93) 50 rfl rfl ⟨rfl, h⟩
  · have h := h.2 hb
    refine ex_aload_n (pc := 8) 5 rfl rfl ?_
    refine ex_iload_n (pc := 9) 6 rfl rfl ?_
    refine ex_iconst (pc := 10) 7 rfl ?_
    refine ex_invV (pc := 11) (M' := mX8_enter) (As := [.inl v1, .inl 0]) (st := []) 8 rfl clk8 rfl rfl calX8_enter (Or.inl ww_1067) rfl rfl ?_
    refine vm_call.mono h ?_
    rintro m22 _ ⟨rfl, h⟩
    refine ex_iinc (pc := 14) 9 rfl rfl rfl rfl ?_
    refine ex_goto (pc := 17) 2 10 rfl (by decide) ?_
    exact h
set_option maxRecDepth 20000 in
theorem qX8_fault {G : vm_G} {d : Nat}  {mem : vm_M} {Q : vm_M → Int → Prop} (h : (∀ m1, m1 = vm_up mem 24 19 0 → (∀ m2, m2 = vm_up m1 24 20 0 → (∀ m3, m3 = vm_up m2 24 21 0 → vm_cn G d mX8_takeFact [.inr (.inr 24)] m3 (fun m4 => vm_ex G (d + 1) mX8_fault 19 [some (.inr (.inr 24))] [] m4 (vm_qi Q)))))) : vm_ci G (d + 1) mX8_fault [.inr (.inr 24)] mem Q := by
  refine vm_enter (al := [some (.inr (.inr 24))]) 0 okX8_fault (by decide +kernel) rfl rfl ?_
  refine ex_aload_n (pc := 0) 0 rfl rfl ?_
  refine ex_iconst (pc := 1) 1 rfl ?_
  have h := h _ rfl
  refine ex_puti (pc := 2) 19 2 rfl clk8 rfl rfl (Or.inl ww_759) rfl rfl rfl ?_
  generalize vm_up mem 24 _ 0 = m1 at h ⊢
  refine ex_aload_n (pc := 5) 3 rfl rfl ?_
  refine ex_iconst (pc := 6) 4 rfl ?_
  have h := h _ rfl
  refine ex_putz (pc := 7) 20 5 rfl clk8 rfl rfl (Or.inl ww_760) rfl rfl rfl (by decide) ?_
  generalize vm_up m1 24 _ 0 = m2 at h ⊢
  refine ex_aload_n (pc := 10) 6 rfl rfl ?_
  refine ex_iconst (pc := 11) 7 rfl ?_
  have h := h _ rfl
  refine ex_puti (pc := 12) 21 8 rfl clk8 rfl rfl (Or.inl ww_761) rfl rfl rfl ?_
  generalize vm_up m2 24 _ 0 = m3 at h ⊢
  refine ex_aload_n (pc := 15) 9 rfl rfl ?_
  refine ex_invV (pc := 16) (M' := mX8_takeFact) (As := []) (st := []) 10 rfl clk8 rfl rfl calX8_takeFact (Or.inl ww_1063) rfl rfl ?_
  refine vm_call.mono h ?_
  rintro m4 _ ⟨rfl, h⟩
  exact h
set_option maxRecDepth 20000 in
theorem qX8_fault_19 {G : vm_G} {d : Nat}  {mem : vm_M} {Q : vm_M → Int → Prop} (h : (vm_R (mem 24 20)) ∧ ((¬ (mem 24 20) = 0 → (((mem 24 20) = 0 → Q mem (-6)) ∧ (¬ (mem 24 20) = 0 → Q mem (mem 24 19)))) ∧ ((mem 24 20) = 0 → (vm_R (mem 24 19)) ∧ (vm_R (mem 24 18)) ∧ (((mem 24 18) ≤ (mem 24 19) → (((mem 24 20) = 0 → Q mem (-6)) ∧ (¬ (mem 24 20) = 0 → Q mem (mem 24 19)))) ∧ (¬ (mem 24 18) ≤ (mem 24 19) → vm_cn G d mX8_takeSign [.inr (.inr 24), .inl 59] mem (fun m4 => (vm_R (m4 24 20)) ∧ ((¬ (m4 24 20) = 0 → vm_ex G (d + 1) mX8_fault 19 [some (.inr (.inr 24))] [] m4 (vm_qi Q)) ∧ ((m4 24 20) = 0 → vm_cn G d mX8_takeFact [.inr (.inr 24)] m4 (fun m7 => vm_ex G (d + 1) mX8_fault 19 [some (.inr (.inr 24))] [] m7 (vm_qi Q)))))))))) : vm_ex G (d + 1) mX8_fault 19 [some (.inr (.inr 24))] [] mem (vm_qi Q) := by
  refine ex_aload_n (pc := 19) 11 rfl rfl ?_
  refine ex_geti (pc := 20) 20 12 rfl clk8 rfl rfl (Or.inl ww_760) rfl ?_
  obtain ⟨hs1, h⟩ := h
  refine ex_if_ne (pc := 23) 57 13 rfl (by decide) hs1 (fun hb => ?_) (fun hb => ?_)
  · have h := h.1 hb
    refine ex_aload_n (pc := 57) 28 rfl rfl ?_
    refine ex_geti (pc := 58) 20 29 rfl clk8 rfl rfl (Or.inl ww_760) rfl ?_
    refine ex_if_eq (pc := 61) 71 30 rfl (by decide) hs1 (fun hb => ?_) (fun hb => ?_)
    · have h := h.1 hb
      refine ex_bipush (pc := 71) 34 rfl (by decide) ?_
      exact ex_iret (pc := 73) 35 rfl (Or.inl rfl) ⟨_, rfl, h⟩
    · have h := h.2 hb
      refine ex_aload_n (pc := 64) 31 rfl rfl ?_
      refine ex_geti (pc := 65) 19 32 rfl clk8 rfl rfl (Or.inl ww_759) rfl ?_
      refine ex_goto (pc := 68) 73 33 rfl (by decide) ?_
      exact ex_iret (pc := 73) 35 rfl (Or.inl rfl) ⟨_, rfl, h⟩
  · have h := h.2 hb
    refine ex_aload_n (pc := 26) 14 rfl rfl ?_
    refine ex_geti (pc := 27) 19 15 rfl clk8 rfl rfl (Or.inl ww_759) rfl ?_
    refine ex_aload_n (pc := 30) 16 rfl rfl ?_
    refine ex_geti (pc := 31) 18 17 rfl clk8 rfl rfl (Or.inl ww_758) rfl ?_
    obtain ⟨hs2, h⟩ := h
    obtain ⟨hs3, h⟩ := h
    refine ex_icmp_ge (pc := 34) 57 18 rfl (by decide) hs2 hs3 (fun hb => ?_) (fun hb => ?_)
    · have h := h.1 hb
      refine ex_aload_n (pc := 57) 28 rfl rfl ?_
      refine ex_geti (pc := 58) 20 29 rfl clk8 rfl rfl (Or.inl ww_760) rfl ?_
      refine ex_if_eq (pc := 61) 71 30 rfl (by decide) hs1 (fun hb => ?_) (fun hb => ?_)
      · have h := h.1 hb
        refine ex_bipush (pc := 71) 34 rfl (by decide) ?_
        exact ex_iret (pc := 73) 35 rfl (Or.inl rfl) ⟨_, rfl, h⟩
      · have h := h.2 hb
        refine ex_aload_n (pc := 64) 31 rfl rfl ?_
        refine ex_geti (pc := 65) 19 32 rfl clk8 rfl rfl (Or.inl ww_759) rfl ?_
        refine ex_goto (pc := 68) 73 33 rfl (by decide) ?_
        exact ex_iret (pc := 73) 35 rfl (Or.inl rfl) ⟨_, rfl, h⟩
    · have h := h.2 hb
      refine ex_aload_n (pc := 37) 19 rfl rfl ?_
      refine ex_bipush (pc := 38) 20 rfl (by decide) ?_
      refine ex_invV (pc := 40) (M' := mX8_takeSign) (As := [.inl 59]) (st := []) 21 rfl clk8 rfl rfl calX8_takeSign (Or.inl ww_1079) rfl rfl ?_
      refine vm_call.mono h ?_
      rintro m4 _ ⟨rfl, h⟩
      refine ex_aload_n (pc := 43) 22 rfl rfl ?_
      refine ex_geti (pc := 44) 20 23 rfl clk8 rfl rfl (Or.inl ww_760) rfl ?_
      obtain ⟨hs6, h⟩ := h
      refine ex_if_ne (pc := 47) 19 24 rfl (by decide) hs6 (fun hb => ?_) (fun hb => ?_)
      · have h := h.1 hb
        exact h
      · have h := h.2 hb
        refine ex_aload_n (pc := 50) 25 rfl rfl ?_
        refine ex_invV (pc := 51) (M' := mX8_takeFact) (As := []) (st := []) 26 rfl clk8 rfl rfl calX8_takeFact (Or.inl ww_1063) rfl rfl ?_
        refine vm_call.mono h ?_
        rintro m7 _ ⟨rfl, h⟩
        refine ex_goto (pc := 54) 19 27 rfl (by decide) ?_
        exact h
set_option maxRecDepth 20000 in
theorem qX8_tellOne {G : vm_G} {d : Nat} {p1 : Int} {mem : vm_M} {Q : vm_M → Int → Prop} (h : (0 ≤ (6 * p1) ∧ (6 * p1) < 132) ∧ (0 ≤ ((6 * p1) + 1) ∧ ((6 * p1) + 1) < 132) ∧ (0 ≤ ((6 * p1) + 2) ∧ ((6 * p1) + 2) < 132) ∧ (0 ≤ ((6 * p1) + 3) ∧ ((6 * p1) + 3) < 132) ∧ (0 ≤ ((6 * p1) + 4) ∧ ((6 * p1) + 4) < 132) ∧ (0 ≤ ((6 * p1) + 5) ∧ ((6 * p1) + 5) < 132) ∧ vm_ci G d mX8_tryFact [.inr (.inr 24), .inl (mem 37 (6 * p1)), .inl (mem 37 ((6 * p1) + 1)), .inl (mem 37 ((6 * p1) + 2)), .inl (mem 37 ((6 * p1) + 3)), .inl (mem 37 ((6 * p1) + 4)), .inl (mem 37 ((6 * p1) + 5)), .inl 0] mem (fun m7 r8 => Q m7 r8)) : vm_ci G (d + 1) mX8_tellOne [.inr (.inr 24), .inl p1] mem Q := by
  refine vm_enter (al := [some (.inr (.inr 24)), some (.inl p1), none]) 1 okX8_tellOne (by decide +kernel) rfl rfl ?_
  refine ex_bipush (pc := 0) 0 rfl (by decide) ?_
  refine ex_iload_n (pc := 2) 1 rfl rfl ?_
  refine ex_imul (pc := 3) 2 rfl ?_
  refine ex_istore_n (pc := 4) 3 rfl rfl rfl ?_
  refine ex_aload_n (pc := 5) 4 rfl rfl ?_
  refine ex_aload_n (pc := 6) 5 rfl rfl ?_
  refine ex_geta (pc := 7) 22 6 rfl clk8 rfl rfl (Or.inl ww_762) rfl ?_
  refine ex_iload_n (pc := 10) 7 rfl rfl ?_
  obtain ⟨hs1, h⟩ := h
  refine ex_iaload (pc := 11) 8 rfl rfl rfl hs1 ?_
  refine ex_aload_n (pc := 12) 9 rfl rfl ?_
  refine ex_geta (pc := 13) 22 10 rfl clk8 rfl rfl (Or.inl ww_762) rfl ?_
  refine ex_iload_n (pc := 16) 11 rfl rfl ?_
  refine ex_iconst (pc := 17) 12 rfl ?_
  refine ex_iadd (pc := 18) 13 rfl ?_
  obtain ⟨hs2, h⟩ := h
  refine ex_iaload (pc := 19) 14 rfl rfl rfl hs2 ?_
  refine ex_aload_n (pc := 20) 15 rfl rfl ?_
  refine ex_geta (pc := 21) 22 16 rfl clk8 rfl rfl (Or.inl ww_762) rfl ?_
  refine ex_iload_n (pc := 24) 17 rfl rfl ?_
  refine ex_iconst (pc := 25) 18 rfl ?_
  refine ex_iadd (pc := 26) 19 rfl ?_
  obtain ⟨hs3, h⟩ := h
  refine ex_iaload (pc := 27) 20 rfl rfl rfl hs3 ?_
  refine ex_aload_n (pc := 28) 21 rfl rfl ?_
  refine ex_geta (pc := 29) 22 22 rfl clk8 rfl rfl (Or.inl ww_762) rfl ?_
  refine ex_iload_n (pc := 32) 23 rfl rfl ?_
  refine ex_iconst (pc := 33) 24 rfl ?_
  refine ex_iadd (pc := 34) 25 rfl ?_
  obtain ⟨hs4, h⟩ := h
  refine ex_iaload (pc := 35) 26 rfl rfl rfl hs4 ?_
  refine ex_aload_n (pc := 36) 27 rfl rfl ?_
  refine ex_geta (pc := 37) 22 28 rfl clk8 rfl rfl (Or.inl ww_762) rfl ?_
  refine ex_iload_n (pc := 40) 29 rfl rfl ?_
  refine ex_iconst (pc := 41) 30 rfl ?_
  refine ex_iadd (pc := 42) 31 rfl ?_
  obtain ⟨hs5, h⟩ := h
  refine ex_iaload (pc := 43) 32 rfl rfl rfl hs5 ?_
  refine ex_aload_n (pc := 44) 33 rfl rfl ?_
  refine ex_geta (pc := 45) 22 34 rfl clk8 rfl rfl (Or.inl ww_762) rfl ?_
  refine ex_iload_n (pc := 48) 35 rfl rfl ?_
  refine ex_iconst (pc := 49) 36 rfl ?_
  refine ex_iadd (pc := 50) 37 rfl ?_
  obtain ⟨hs6, h⟩ := h
  refine ex_iaload (pc := 51) 38 rfl rfl rfl hs6 ?_
  refine ex_iconst (pc := 52) 39 rfl ?_
  refine ex_invV (pc := 53) (M' := mX8_tryFact) (As := [.inl (mem 37 (6 * p1)), .inl (mem 37 ((6 * p1) + 1)), .inl (mem 37 ((6 * p1) + 2)), .inl (mem 37 ((6 * p1) + 3)), .inl (mem 37 ((6 * p1) + 4)), .inl (mem 37 ((6 * p1) + 5)), .inl 0]) (st := []) 40 rfl clk8 rfl rfl calX8_tryFact (Or.inl ww_826) rfl rfl ?_
  refine vm_call.mono h ?_
  rintro m7 _ ⟨r8, rfl, h⟩
  exact ex_iret (pc := 56) 41 rfl (Or.inl rfl) ⟨_, rfl, h⟩
set_option maxRecDepth 20000 in
theorem qX8_tell {G : vm_G} {d : Nat}  {mem : vm_M} {Q : vm_M → Int → Prop} (h : vm_ci G d mX8_fault [.inr (.inr 24)] mem (fun m1 r2 => (vm_R r2) ∧ ((r2 < 0 → vm_cn G d mX8_keep [.inr (.inr 24)] m1 (fun m4 => vm_ex G (d + 1) mX8_tell 16 [some (.inr (.inr 24)), some (.inl 0)] [] m4 (vm_qi Q))) ∧ (¬ r2 < 0 → Q m1 (-3))))) : vm_ci G (d + 1) mX8_tell [.inr (.inr 24)] mem Q := by
  refine vm_enter (al := [some (.inr (.inr 24)), none]) 1 okX8_tell (by decide +kernel) rfl rfl ?_
  refine ex_aload_n (pc := 0) 0 rfl rfl ?_
  refine ex_invV (pc := 1) (M' := mX8_fault) (As := []) (st := []) 1 rfl clk8 rfl rfl calX8_fault (Or.inl ww_1111) rfl rfl ?_
  refine vm_call.mono h ?_
  rintro m1 _ ⟨r2, rfl, h⟩
  obtain ⟨hs3, h⟩ := h
  refine ex_if_lt (pc := 4) 10 2 rfl (by decide) hs3 (fun hb => ?_) (fun hb => ?_)
  · have h := h.1 hb
    refine ex_aload_n (pc := 10) 5 rfl rfl ?_
    refine ex_invV (pc := 11) (M' := mX8_keep) (As := []) (st := []) 6 rfl clk8 rfl rfl calX8_keep (Or.inl ww_818) rfl rfl ?_
    refine vm_call.mono h ?_
    rintro m4 _ ⟨rfl, h⟩
    refine ex_iconst (pc := 14) 7 rfl ?_
    refine ex_istore_n (pc := 15) 8 rfl rfl rfl ?_
    exact h
  · have h := h.2 hb
    refine ex_bipush (pc := 7) 3 rfl (by decide) ?_
    exact ex_iret (pc := 9) 4 rfl (Or.inl rfl) ⟨_, rfl, h⟩
set_option maxRecDepth 20000 in
theorem qX8_tell_16 {G : vm_G} {d : Nat} {v1 : Int} {mem : vm_M} {Q : vm_M → Int → Prop} (h : (vm_R v1) ∧ (vm_R (mem 24 21)) ∧ (((mem 24 21) ≤ v1 → (∀ m3, m3 = vm_up mem 24 18 0 → Q m3 v1)) ∧ (¬ (mem 24 21) ≤ v1 → vm_ci G d mX8_tellOne [.inr (.inr 24), .inl v1] mem (fun m4 r5 => (vm_R r5) ∧ ((r5 < 0 → (∀ m7, m7 = vm_up m4 24 18 0 → Q m7 v1)) ∧ (¬ r5 < 0 → vm_ex G (d + 1) mX8_tell 16 [some (.inr (.inr 24)), some (.inl (v1 + 1))] [] m4 (vm_qi Q))))))) : vm_ex G (d + 1) mX8_tell 16 [some (.inr (.inr 24)), some (.inl v1)] [] mem (vm_qi Q) := by
  refine ex_iload_n (pc := 16) 9 rfl rfl ?_
  refine ex_aload_n (pc := 17) 10 rfl rfl ?_
  refine ex_geti (pc := 18) 21 11 rfl clk8 rfl rfl (Or.inl ww_761) rfl ?_
  obtain ⟨hs1, h⟩ := h
  obtain ⟨hs2, h⟩ := h
  refine ex_icmp_ge (pc := 21) 38 12 rfl (by decide) hs1 hs2 (fun hb => ?_) (fun hb => ?_)
  · have h := h.1 hb
    refine ex_aload_n (pc := 38) 19 rfl rfl ?_
    refine ex_iconst (pc := 39) 20 rfl ?_
    have h := h _ rfl
    refine ex_puti (pc := 40) 18 21 rfl clk8 rfl rfl (Or.inl ww_758) rfl rfl rfl ?_
    generalize vm_up mem 24 _ 0 = m3 at h ⊢
    refine ex_iload_n (pc := 43) 22 rfl rfl ?_
    exact ex_iret (pc := 44) 23 rfl (Or.inl rfl) ⟨_, rfl, h⟩
  · have h := h.2 hb
    refine ex_aload_n (pc := 24) 13 rfl rfl ?_
    refine ex_iload_n (pc := 25) 14 rfl rfl ?_
    refine ex_invV (pc := 26) (M' := mX8_tellOne) (As := [.inl v1]) (st := []) 15 rfl clk8 rfl rfl calX8_tellOne (Or.inl ww_1112) rfl rfl ?_
    refine vm_call.mono h ?_
    rintro m4 _ ⟨r5, rfl, h⟩
    obtain ⟨hs6, h⟩ := h
    refine ex_if_lt (pc := 29) 38 16 rfl (by decide) hs6 (fun hb => ?_) (fun hb => ?_)
    · have h := h.1 hb
      refine ex_aload_n (pc := 38) 19 rfl rfl ?_
      refine ex_iconst (pc := 39) 20 rfl ?_
      have h := h _ rfl
      refine ex_puti (pc := 40) 18 21 rfl clk8 rfl rfl (Or.inl ww_758) rfl rfl rfl ?_
      generalize vm_up m4 24 _ 0 = m7 at h ⊢
      refine ex_iload_n (pc := 43) 22 rfl rfl ?_
      exact ex_iret (pc := 44) 23 rfl (Or.inl rfl) ⟨_, rfl, h⟩
    · have h := h.2 hb
      refine ex_iinc (pc := 32) 17 rfl rfl rfl rfl ?_
      refine ex_goto (pc := 35) 16 18 rfl (by decide) ?_
      exact h
set_option maxRecDepth 20000 in
theorem qX8_undo {G : vm_G} {d : Nat}  {mem : vm_M} {Q : vm_M → Int → Prop} (h : (vm_R (mem 24 3)) ∧ ((¬ (mem 24 3) = 0 → (∀ m2, m2 = vm_up mem 24 3 ((mem 24 3) - 1) → vm_ex G d mX8_undo 35 [some (.inr (.inr 24)), some (.inl (vm_rem ((m2 24 2) + (m2 24 3)) 6)), some (.inl 0)] [] m2 (vm_qi Q))) ∧ ((mem 24 3) = 0 → Q mem (-5)))) : vm_ci G d mX8_undo [.inr (.inr 24)] mem Q := by
  refine vm_enter (al := [some (.inr (.inr 24)), none, none]) 2 okX8_undo (by decide +kernel) rfl rfl ?_
  refine ex_aload_n (pc := 0) 0 rfl rfl ?_
  refine ex_geti (pc := 1) 3 1 rfl clk8 rfl rfl (Or.inl ww_743) rfl ?_
  obtain ⟨hs1, h⟩ := h
  refine ex_if_ne (pc := 4) 10 2 rfl (by decide) hs1 (fun hb => ?_) (fun hb => ?_)
  · have h := h.1 hb
    refine ex_aload_n (pc := 10) 5 rfl rfl ?_
    refine ex_dupa (pc := 11) 6 rfl ?_
    refine ex_geti (pc := 12) 3 7 rfl clk8 rfl rfl (Or.inl ww_743) rfl ?_
    refine ex_iconst (pc := 15) 8 rfl ?_
    refine ex_isub (pc := 16) 9 rfl ?_
    have h := h _ rfl
    refine ex_puti (pc := 17) 3 10 rfl clk8 rfl rfl (Or.inl ww_743) rfl rfl rfl ?_
    generalize vm_up mem 24 _ ((mem 24 3) - 1) = m2 at h ⊢
    refine ex_aload_n (pc := 20) 11 rfl rfl ?_
    refine ex_geti (pc := 21) 2 12 rfl clk8 rfl rfl (Or.inl ww_742) rfl ?_
    refine ex_aload_n (pc := 24) 13 rfl rfl ?_
    refine ex_geti (pc := 25) 3 14 rfl clk8 rfl rfl (Or.inl ww_743) rfl ?_
    refine ex_iadd (pc := 28) 15 rfl ?_
    refine ex_bipush (pc := 29) 16 rfl (by decide) ?_
    refine ex_irem (pc := 31) 17 rfl ⟨⟨by decide, by decide⟩, by decide⟩ ?_
    refine ex_istore_n (pc := 32) 18 rfl rfl rfl ?_
    refine ex_iconst (pc := 33) 19 rfl ?_
    refine ex_istore_n (pc := 34) 20 rfl rfl rfl ?_
    exact h
  · have h := h.2 hb
    refine ex_bipush (pc := 7) 3 rfl (by decide) ?_
    exact ex_iret (pc := 9) 4 rfl (Or.inl rfl) ⟨_, rfl, h⟩
set_option maxRecDepth 20000 in
theorem qX8_undo_35 {G : vm_G} {d : Nat} {v1 : Int} {v2 : Int} {mem : vm_M} {Q : vm_M → Int → Prop} (h : (vm_R v2) ∧ ((62 ≤ v2 → Q mem (mem 24 3)) ∧ (¬ 62 ≤ v2 → (0 ≤ ((62 * v1) + v2) ∧ ((62 * v1) + v2) < 372) ∧ (0 ≤ v2 ∧ v2 < 62) ∧ (∀ m4, m4 = vm_up mem 25 v2 (mem 26 ((62 * v1) + v2)) → vm_ex G d mX8_undo 35 [some (.inr (.inr 24)), some (.inl v1), some (.inl (v2 + 1))] [] m4 (vm_qi Q))))) : vm_ex G d mX8_undo 35 [some (.inr (.inr 24)), some (.inl v1), some (.inl v2)] [] mem (vm_qi Q) := by
  refine ex_iload_n (pc := 35) 21 rfl rfl ?_
  refine ex_bipush (pc := 36) 22 rfl (by decide) ?_
  obtain ⟨hs1, h⟩ := h
  refine ex_icmp_ge (pc := 38) 64 23 rfl (by decide) hs1 ⟨by decide, by decide⟩ (fun hb => ?_) (fun hb => ?_)
  · have h := h.1 hb
    refine ex_aload_n (pc := 64) 38 rfl rfl ?_
    refine ex_geti (pc := 65) 3 39 rfl clk8 rfl rfl (Or.inl ww_743) rfl ?_
    exact ex_iret (pc := 68) 40 rfl (Or.inl rfl) ⟨_, rfl, h⟩
  · have h := h.2 hb
    refine ex_aload_n (pc := 41) 24 rfl rfl ?_
    refine ex_geta (pc := 42) 0 25 rfl clk8 rfl rfl (Or.inl ww_740) rfl ?_
    refine ex_iload_n (pc := 45) 26 rfl rfl ?_
    refine ex_aload_n (pc := 46) 27 rfl rfl ?_
    refine ex_geta (pc := 47) 1 28 rfl clk8 rfl rfl (Or.inl ww_741) rfl ?_
    refine ex_bipush (pc := 50) 29 rfl (by decide) ?_
    refine ex_iload_n (pc := 52) 30 rfl rfl ?_
    refine ex_imul (pc := 53) 31 rfl ?_
    refine ex_iload_n (pc := 54) 32 rfl rfl ?_
    refine ex_iadd (pc := 55) 33 rfl ?_
    obtain ⟨hs2, h⟩ := h
    refine ex_iaload (pc := 56) 34 rfl rfl rfl hs2 ?_
    obtain ⟨hs3, h⟩ := h
    have h := h _ rfl
    refine ex_iastore (pc := 57) 35 rfl rfl rfl hs3 ?_
    generalize vm_up mem 25 v2 (mem 26 ((62 * v1) + v2)) = m4 at h ⊢
    refine ex_iinc (pc := 58) 36 rfl rfl rfl rfl ?_
    refine ex_goto (pc := 61) 35 37 rfl (by decide) ?_
    exact h
set_option maxRecDepth 20000 in
theorem qX8_save {G : vm_G} {d : Nat} {p1 : Int} {mem : vm_M} {Q : vm_M → Int → Prop} (h : vm_cb G d mX8_in [.inl p1, .inl 0, .inl 1] mem (fun m1 r2 => (r2 = true → vm_ex G (d + 1) mX8_save 14 [some (.inr (.inr 24)), some (.inl p1), some (.inl 0)] [] m1 (vm_qi Q)) ∧ (r2 = false → Q m1 (-2)))) : vm_ci G (d + 1) mX8_save [.inr (.inr 24), .inl p1] mem Q := by
  refine vm_enter (al := [some (.inr (.inr 24)), some (.inl p1), none]) 1 okX8_save (by decide +kernel) rfl rfl ?_
  refine ex_iload_n (pc := 0) 0 rfl rfl ?_
  refine ex_iconst (pc := 1) 1 rfl ?_
  refine ex_iconst (pc := 2) 2 rfl ?_
  refine ex_invS (pc := 3) (M' := mX8_in) (As := [.inl p1, .inl 0, .inl 1]) (st := []) 3 rfl calX8_in (Or.inl ww_815) rfl rfl ?_
  refine vm_call.mono h ?_
  rintro m1 _ ⟨r2, rfl, h⟩
  refine ex_if_ne (pc := 6) 12 4 rfl (by decide) (vm_b2i_R _) (fun hb => ?_) (fun hb => ?_)
  · have h := h.1 (vm_b2i_n.mp hb)
    refine ex_iconst (pc := 12) 7 rfl ?_
    refine ex_istore_n (pc := 13) 8 rfl rfl rfl ?_
    exact h
  · have h := h.2 (vm_b2i_0.mp hb)
    refine ex_bipush (pc := 9) 5 rfl (by decide) ?_
    exact ex_iret (pc := 11) 6 rfl (Or.inl rfl) ⟨_, rfl, h⟩
set_option maxRecDepth 20000 in
theorem qX8_save_14 {G : vm_G} {d : Nat} {v1 : Int} {v2 : Int} {mem : vm_M} {Q : vm_M → Int → Prop} (h : (vm_R v2) ∧ ((62 ≤ v2 → (0 ≤ v1 ∧ v1 < 2) ∧ (∀ m3, m3 = vm_up mem 28 v1 (vm_bool 1) → Q m3 (m3 25 1))) ∧ (¬ 62 ≤ v2 → (0 ≤ v2 ∧ v2 < 62) ∧ (0 ≤ ((62 * v1) + v2) ∧ ((62 * v1) + v2) < 124) ∧ (∀ m6, m6 = vm_up mem 27 ((62 * v1) + v2) (mem 25 v2) → vm_ex G (d + 1) mX8_save 14 [some (.inr (.inr 24)), some (.inl v1), some (.inl (v2 + 1))] [] m6 (vm_qi Q))))) : vm_ex G (d + 1) mX8_save 14 [some (.inr (.inr 24)), some (.inl v1), some (.inl v2)] [] mem (vm_qi Q) := by
  refine ex_iload_n (pc := 14) 9 rfl rfl ?_
  refine ex_bipush (pc := 15) 10 rfl (by decide) ?_
  obtain ⟨hs1, h⟩ := h
  refine ex_icmp_ge (pc := 17) 43 11 rfl (by decide) hs1 ⟨by decide, by decide⟩ (fun hb => ?_) (fun hb => ?_)
  · have h := h.1 hb
    refine ex_aload_n (pc := 43) 26 rfl rfl ?_
    refine ex_geta (pc := 44) 5 27 rfl clk8 rfl rfl (Or.inl ww_745) rfl ?_
    refine ex_iload_n (pc := 47) 28 rfl rfl ?_
    refine ex_iconst (pc := 48) 29 rfl ?_
    obtain ⟨hs2, h⟩ := h
    have h := h _ rfl
    refine ex_bastore (pc := 49) 30 rfl rfl rfl hs2 ?_
    generalize vm_up mem 28 v1 (vm_bool 1) = m3 at h ⊢
    refine ex_aload_n (pc := 50) 31 rfl rfl ?_
    refine ex_geta (pc := 51) 0 32 rfl clk8 rfl rfl (Or.inl ww_740) rfl ?_
    refine ex_iconst (pc := 54) 33 rfl ?_
    refine ex_iaload (pc := 55) 34 rfl rfl rfl ⟨by decide, by decide⟩ ?_
    exact ex_iret (pc := 56) 35 rfl (Or.inl rfl) ⟨_, rfl, h⟩
  · have h := h.2 hb
    refine ex_aload_n (pc := 20) 12 rfl rfl ?_
    refine ex_geta (pc := 21) 4 13 rfl clk8 rfl rfl (Or.inl ww_744) rfl ?_
    refine ex_bipush (pc := 24) 14 rfl (by decide) ?_
    refine ex_iload_n (pc := 26) 15 rfl rfl ?_
    refine ex_imul (pc := 27) 16 rfl ?_
    refine ex_iload_n (pc := 28) 17 rfl rfl ?_
    refine ex_iadd (pc := 29) 18 rfl ?_
    refine ex_aload_n (pc := 30) 19 rfl rfl ?_
    refine ex_geta (pc := 31) 0 20 rfl clk8 rfl rfl (Or.inl ww_740) rfl ?_
    refine ex_iload_n (pc := 34) 21 rfl rfl ?_
    obtain ⟨hs4, h⟩ := h
    refine ex_iaload (pc := 35) 22 rfl rfl rfl hs4 ?_
    obtain ⟨hs5, h⟩ := h
    have h := h _ rfl
    refine ex_iastore (pc := 36) 23 rfl rfl rfl hs5 ?_
    generalize vm_up mem 27 ((62 * v1) + v2) (mem 25 v2) = m6 at h ⊢
    refine ex_iinc (pc := 37) 24 rfl rfl rfl rfl ?_
    refine ex_goto (pc := 40) 14 25 rfl (by decide) ?_
    exact h
set_option maxRecDepth 20000 in
theorem qX8_restore {G : vm_G} {d : Nat} {p1 : Int} {mem : vm_M} {Q : vm_M → Int → Prop} (h : vm_cb G d mX8_in [.inl p1, .inl 0, .inl 1] mem (fun m1 r2 => (r2 = true → (0 ≤ p1 ∧ p1 < 2) ∧ (vm_R (m1 28 p1)) ∧ ((¬ (m1 28 p1) = 0 → vm_cn G d mX8_keep [.inr (.inr 24)] m1 (fun m5 => vm_ex G (d + 1) mX8_restore 30 [some (.inr (.inr 24)), some (.inl p1), some (.inl 0)] [] m5 (vm_qi Q))) ∧ ((m1 28 p1) = 0 → Q m1 (-5)))) ∧ (r2 = false → Q m1 (-2)))) : vm_ci G (d + 1) mX8_restore [.inr (.inr 24), .inl p1] mem Q := by
  refine vm_enter (al := [some (.inr (.inr 24)), some (.inl p1), none]) 1 okX8_restore (by decide +kernel) rfl rfl ?_
  refine ex_iload_n (pc := 0) 0 rfl rfl ?_
  refine ex_iconst (pc := 1) 1 rfl ?_
  refine ex_iconst (pc := 2) 2 rfl ?_
  refine ex_invS (pc := 3) (M' := mX8_in) (As := [.inl p1, .inl 0, .inl 1]) (st := []) 3 rfl calX8_in (Or.inl ww_815) rfl rfl ?_
  refine vm_call.mono h ?_
  rintro m1 _ ⟨r2, rfl, h⟩
  refine ex_if_ne (pc := 6) 12 4 rfl (by decide) (vm_b2i_R _) (fun hb => ?_) (fun hb => ?_)
  · have h := h.1 (vm_b2i_n.mp hb)
    refine ex_aload_n (pc := 12) 7 rfl rfl ?_
    refine ex_geta (pc := 13) 5 8 rfl clk8 rfl rfl (Or.inl ww_745) rfl ?_
    refine ex_iload_n (pc := 16) 9 rfl rfl ?_
    obtain ⟨hs3, h⟩ := h
    refine ex_baload (pc := 17) 10 rfl rfl rfl hs3 ?_
    obtain ⟨hs4, h⟩ := h
    refine ex_if_ne (pc := 18) 24 11 rfl (by decide) hs4 (fun hb => ?_) (fun hb => ?_)
    · have h := h.1 hb
      refine ex_aload_n (pc := 24) 14 rfl rfl ?_
      refine ex_invV (pc := 25) (M' := mX8_keep) (As := []) (st := []) 15 rfl clk8 rfl rfl calX8_keep (Or.inl ww_818) rfl rfl ?_
      refine vm_call.mono h ?_
      rintro m5 _ ⟨rfl, h⟩
      refine ex_iconst (pc := 28) 16 rfl ?_
      refine ex_istore_n (pc := 29) 17 rfl rfl rfl ?_
      exact h
    · have h := h.2 hb
      refine ex_bipush (pc := 21) 12 rfl (by decide) ?_
      exact ex_iret (pc := 23) 13 rfl (Or.inl rfl) ⟨_, rfl, h⟩
  · have h := h.2 (vm_b2i_0.mp hb)
    refine ex_bipush (pc := 9) 5 rfl (by decide) ?_
    exact ex_iret (pc := 11) 6 rfl (Or.inl rfl) ⟨_, rfl, h⟩
set_option maxRecDepth 20000 in
theorem qX8_restore_30 {G : vm_G} {d : Nat} {v1 : Int} {v2 : Int} {mem : vm_M} {Q : vm_M → Int → Prop} (h : (vm_R v2) ∧ ((62 ≤ v2 → Q mem (mem 25 1)) ∧ (¬ 62 ≤ v2 → (0 ≤ ((62 * v1) + v2) ∧ ((62 * v1) + v2) < 124) ∧ (0 ≤ v2 ∧ v2 < 62) ∧ (∀ m4, m4 = vm_up mem 25 v2 (mem 27 ((62 * v1) + v2)) → vm_ex G (d + 1) mX8_restore 30 [some (.inr (.inr 24)), some (.inl v1), some (.inl (v2 + 1))] [] m4 (vm_qi Q))))) : vm_ex G (d + 1) mX8_restore 30 [some (.inr (.inr 24)), some (.inl v1), some (.inl v2)] [] mem (vm_qi Q) := by
  refine ex_iload_n (pc := 30) 18 rfl rfl ?_
  refine ex_bipush (pc := 31) 19 rfl (by decide) ?_
  obtain ⟨hs1, h⟩ := h
  refine ex_icmp_ge (pc := 33) 59 20 rfl (by decide) hs1 ⟨by decide, by decide⟩ (fun hb => ?_) (fun hb => ?_)
  · have h := h.1 hb
    refine ex_aload_n (pc := 59) 35 rfl rfl ?_
    refine ex_geta (pc := 60) 0 36 rfl clk8 rfl rfl (Or.inl ww_740) rfl ?_
    refine ex_iconst (pc := 63) 37 rfl ?_
    refine ex_iaload (pc := 64) 38 rfl rfl rfl ⟨by decide, by decide⟩ ?_
    exact ex_iret (pc := 65) 39 rfl (Or.inl rfl) ⟨_, rfl, h⟩
  · have h := h.2 hb
    refine ex_aload_n (pc := 36) 21 rfl rfl ?_
    refine ex_geta (pc := 37) 0 22 rfl clk8 rfl rfl (Or.inl ww_740) rfl ?_
    refine ex_iload_n (pc := 40) 23 rfl rfl ?_
    refine ex_aload_n (pc := 41) 24 rfl rfl ?_
    refine ex_geta (pc := 42) 4 25 rfl clk8 rfl rfl (Or.inl ww_744) rfl ?_
    refine ex_bipush (pc := 45) 26 rfl (by decide) ?_
    refine ex_iload_n (pc := 47) 27 rfl rfl ?_
    refine ex_imul (pc := 48) 28 rfl ?_
    refine ex_iload_n (pc := 49) 29 rfl rfl ?_
    refine ex_iadd (pc := 50) 30 rfl ?_
    obtain ⟨hs2, h⟩ := h
    refine ex_iaload (pc := 51) 31 rfl rfl rfl hs2 ?_
    obtain ⟨hs3, h⟩ := h
    have h := h _ rfl
    refine ex_iastore (pc := 52) 32 rfl rfl rfl hs3 ?_
    generalize vm_up mem 25 v2 (mem 27 ((62 * v1) + v2)) = m4 at h ⊢
    refine ex_iinc (pc := 53) 33 rfl rfl rfl rfl ?_
    refine ex_goto (pc := 56) 30 34 rfl (by decide) ?_
    exact h
