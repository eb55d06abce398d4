set_option maxRecDepth 20000 in
theorem qX1_close {G : vm_G} {d : Nat} {p2 : Int} {mem : vm_M} {Q : vm_M → Prop} (h : (∀ m1, m1 = vm_up mem 7 1 (mem 1 2) → vm_ex G (d + 1) mX1_close 10 [some (.inr (.inr 7)), some (.inr (.inr 1)), some (.inl p2), some (.inl 0), none] [] m1 (vm_qn Q))) : vm_cn G (d + 1) mX1_close [.inr (.inr 7), .inr (.inr 1), .inl p2] mem Q := by
  refine vm_enter (al := [some (.inr (.inr 7)), some (.inr (.inr 1)), some (.inl p2), none, none]) 2 okX1_close (by decide +kernel) rfl rfl ?_
  refine ex_aload_n (pc := 0) 0 rfl rfl ?_
  refine ex_aload_n (pc := 1) 1 rfl rfl ?_
  refine ex_geti (pc := 2) 2 2 rfl clk0 rfl rfl (Or.inr ⟨_, ww_118⟩) rfl ?_
  have h := h _ rfl
  refine ex_puti (pc := 5) 1 3 rfl clk1 rfl rfl (Or.inl ww_210) rfl rfl rfl ?_
  generalize vm_up mem 7 _ (mem 1 2) = m1 at h ⊢
  refine ex_iconst (pc := 8) 4 rfl ?_
  refine ex_istore_n (pc := 9) 5 rfl rfl rfl ?_
  exact h
set_option maxRecDepth 20000 in
theorem qX1_close_10 {G : vm_G} {d : Nat} {v2 : Int} {v3 : Int} {mem : vm_M} {Q : vm_M → Prop} (h : (vm_R v3) ∧ ((48 ≤ v3 → (∀ m2, m2 = vm_up mem 7 2 1 → vm_ex G (d + 1) mX1_close 57 [some (.inr (.inr 7)), some (.inr (.inr 1)), some (.inl v2), some (.inl 0), none] [] m2 (vm_qn Q))) ∧ (¬ 48 ≤ v3 → (vm_R (vm_rem (vm_div v3 4) 4)) ∧ (vm_R (vm_rem v3 4)) ∧ ((¬ (vm_rem (vm_div v3 4) 4) = (vm_rem v3 4) → (0 ≤ v3 ∧ v3 < 48) ∧ (∀ m6, m6 = vm_up mem 23 v3 (mem 7 1) → vm_ex G (d + 1) mX1_close 10 [some (.inr (.inr 7)), some (.inr (.inr 1)), some (.inl v2), some (.inl (v3 + 1)), none] [] m6 (vm_qn Q))) ∧ ((vm_rem (vm_div v3 4) 4) = (vm_rem v3 4) → (0 ≤ v3 ∧ v3 < 48) ∧ (∀ m8, m8 = vm_up mem 23 v3 0 → vm_ex G (d + 1) mX1_close 10 [some (.inr (.inr 7)), some (.inr (.inr 1)), some (.inl v2), some (.inl (v3 + 1)), none] [] m8 (vm_qn Q))))))) : vm_ex G (d + 1) mX1_close 10 [some (.inr (.inr 7)), some (.inr (.inr 1)), some (.inl v2), some (.inl v3), none] [] mem (vm_qn Q) := by
  refine ex_iload_n (pc := 10) 6 rfl rfl ?_
  refine ex_aload_n (pc := 11) 7 rfl rfl ?_
  refine ex_geta (pc := 12) 0 8 rfl clk1 rfl rfl (Or.inl ww_209) rfl ?_
  refine ex_alen (v := 48) (pc := 15) 9 rfl rfl rfl rfl ?_
  obtain ⟨hs1, h⟩ := h
  refine ex_icmp_ge (pc := 16) 50 10 rfl (by decide) hs1 ⟨by decide, by decide⟩ (fun hb => ?_) (fun hb => ?_)
  · have h := h.1 hb
    refine ex_aload_n (pc := 50) 30 rfl rfl ?_
    refine ex_iconst (pc := 51) 31 rfl ?_
    have h := h _ rfl
    refine ex_putz (pc := 52) 2 32 rfl clk1 rfl rfl (Or.inl ww_211) rfl rfl rfl (by decide) ?_
    generalize vm_up mem 7 _ 1 = m2 at h ⊢
    refine ex_iconst (pc := 55) 33 rfl ?_
    refine ex_istore_n (pc := 56) 34 rfl rfl rfl ?_
    exact h
  · have h := h.2 hb
    refine ex_aload_n (pc := 19) 11 rfl rfl ?_
    refine ex_geta (pc := 20) 0 12 rfl clk1 rfl rfl (Or.inl ww_209) rfl ?_
    refine ex_iload_n (pc := 23) 13 rfl rfl ?_
    refine ex_iload_n (pc := 24) 14 rfl rfl ?_
    refine ex_iconst (pc := 25) 15 rfl ?_
    refine ex_idiv (pc := 26) 16 rfl ⟨⟨by decide, by decide⟩, by decide⟩ ?_
    refine ex_iconst (pc := 27) 17 rfl ?_
    refine ex_irem (pc := 28) 18 rfl ⟨⟨by decide, by decide⟩, by decide⟩ ?_
    refine ex_iload_n (pc := 29) 19 rfl rfl ?_
    refine ex_iconst (pc := 30) 20 rfl ?_
    refine ex_irem (pc := 31) 21 rfl ⟨⟨by decide, by decide⟩, by decide⟩ ?_
    obtain ⟨hs3, h⟩ := h
    obtain ⟨hs4, h⟩ := h
    refine ex_icmp_ne (pc := 32) 39 22 rfl (by decide) hs3 hs4 (fun hb => ?_) (fun hb => ?_)
    · have h := h.1 hb
      refine ex_aload_n (pc := 39) 25 rfl rfl ?_
      refine ex_geti (pc := 40) 1 26 rfl clk1 rfl rfl (Or.inl ww_210) rfl ?_
      obtain ⟨hs5, h⟩ := h
      have h := h _ rfl
      refine ex_iastore (pc := 43) 27 rfl rfl rfl hs5 ?_
      generalize vm_up mem 23 v3 (mem 7 1) = m6 at h ⊢
      refine ex_iinc (pc := 44) 28 rfl rfl rfl rfl ?_
      refine ex_goto (pc := 47) 10 29 rfl (by decide) ?_
      exact h
    · have h := h.2 hb
      refine ex_iconst (pc := 35) 23 rfl ?_
      refine ex_goto (pc := 36) 43 24 rfl (by decide) ?_
      obtain ⟨hs7, h⟩ := h
      have h := h _ rfl
      refine ex_iastore (pc := 43) 27 rfl rfl rfl hs7 ?_
      generalize vm_up mem 23 v3 0 = m8 at h ⊢
      refine ex_iinc (pc := 44) 28 rfl rfl rfl rfl ?_
      refine ex_goto (pc := 47) 10 29 rfl (by decide) ?_
      exact h
set_option maxRecDepth 20000 in
theorem qX1_close_57 {G : vm_G} {d : Nat} {v2 : Int} {v3 : Int} {mem : vm_M} {Q : vm_M → Prop} (h : (vm_R v3) ∧ ((1000 ≤ v3 → Q mem) ∧ (¬ 1000 ≤ v3 → (vm_R (mem 7 2)) ∧ (((mem 7 2) = 0 → Q mem) ∧ (¬ (mem 7 2) = 0 → (∀ m3, m3 = vm_up mem 7 2 0 → vm_ex G (d + 1) mX1_close 79 [some (.inr (.inr 7)), some (.inr (.inr 1)), some (.inl v2), some (.inl v3), some (.inl 0)] [] m3 (vm_qn Q))))))) : vm_ex G (d + 1) mX1_close 57 [some (.inr (.inr 7)), some (.inr (.inr 1)), some (.inl v2), some (.inl v3), none] [] mem (vm_qn Q) := by
  refine ex_iload_n (pc := 57) 35 rfl rfl ?_
  refine ex_sipush (pc := 58) 36 rfl (by decide) ?_
  obtain ⟨hs1, h⟩ := h
  refine ex_icmp_ge (pc := 61) 142 37 rfl (by decide) hs1 ⟨by decide, by decide⟩ (fun hb => ?_) (fun hb => ?_)
  · have h := h.1 hb
    exact ex_ret (pc := 142) 76 rfl rfl ⟨rfl, h⟩
  · have h := h.2 hb
    refine ex_aload_n (pc := 64) 38 rfl rfl ?_
    refine ex_geti (pc := 65) 2 39 rfl clk1 rfl rfl (Or.inl ww_211) rfl ?_
    obtain ⟨hs2, h⟩ := h
    refine ex_if_eq (pc := 68) 142 40 rfl (by decide) hs2 (fun hb => ?_) (fun hb => ?_)
    · have h := h.1 hb
      exact ex_ret (pc := 142) 76 rfl rfl ⟨rfl, h⟩
    · have h := h.2 hb
      refine ex_aload_n (pc := 71) 41 rfl rfl ?_
      refine ex_iconst (pc := 72) 42 rfl ?_
      have h := h _ rfl
      refine ex_putz (pc := 73) 2 43 rfl clk1 rfl rfl (Or.inl ww_211) rfl rfl rfl (by decide) ?_
      generalize vm_up mem 7 _ 0 = m3 at h ⊢
      refine ex_iconst (pc := 76) 44 rfl ?_
      refine ex_istore (pc := 77) 45 rfl rfl rfl ?_
      exact h
set_option maxRecDepth 20000 in
theorem qX1_close_79 {G : vm_G} {d : Nat} {v2 : Int} {v3 : Int} {v4 : Int} {mem : vm_M} {Q : vm_M → Prop} (h : (vm_R v4) ∧ ((10 < v4 → vm_ex G (d + 1) mX1_close 111 [some (.inr (.inr 7)), some (.inr (.inr 1)), some (.inl v2), some (.inl v3), some (.inl 0)] [] mem (vm_qn Q)) ∧ (¬ 10 < v4 → (vm_R (vm_and v2 (vm_shl 1 v4))) ∧ (((vm_and v2 (vm_shl 1 v4)) = 0 → vm_ex G (d + 1) mX1_close 79 [some (.inr (.inr 7)), some (.inr (.inr 1)), some (.inl v2), some (.inl v3), some (.inl (v4 + 1))] [] mem (vm_qn Q)) ∧ (¬ (vm_and v2 (vm_shl 1 v4)) = 0 → vm_cn G d mX1_apply [.inr (.inr 7), .inr (.inr 1), .inl v4] mem (fun m3 => vm_ex G (d + 1) mX1_close 79 [some (.inr (.inr 7)), some (.inr (.inr 1)), some (.inl v2), some (.inl v3), some (.inl (v4 + 1))] [] m3 (vm_qn Q))))))) : vm_ex G (d + 1) mX1_close 79 [some (.inr (.inr 7)), some (.inr (.inr 1)), some (.inl v2), some (.inl v3), some (.inl v4)] [] mem (vm_qn Q) := by
  refine ex_iload (pc := 79) 46 rfl rfl ?_
  refine ex_bipush (pc := 81) 47 rfl (by decide) ?_
  obtain ⟨hs1, h⟩ := h
  refine ex_icmp_gt (pc := 83) 108 48 rfl (by decide) hs1 ⟨by decide, by decide⟩ (fun hb => ?_) (fun hb => ?_)
  · have h := h.1 hb
    refine ex_iconst (pc := 108) 61 rfl ?_
    refine ex_istore (pc := 109) 62 rfl rfl rfl ?_
    exact h
  · have h := h.2 hb
    refine ex_iload_n (pc := 86) 49 rfl rfl ?_
    refine ex_iconst (pc := 87) 50 rfl ?_
    refine ex_iload (pc := 88) 51 rfl rfl ?_
    refine ex_ishl (pc := 90) 52 rfl ?_
    refine ex_iand (pc := 91) 53 rfl ?_
    obtain ⟨hs2, h⟩ := h
    refine ex_if_eq (pc := 92) 102 54 rfl (by decide) hs2 (fun hb => ?_) (fun hb => ?_)
    · have h := h.1 hb
      refine ex_iinc (pc := 102) 59 rfl rfl rfl rfl ?_
      refine ex_goto (pc := 105) 79 60 rfl (by decide) ?_
      exact h
    · have h := h.2 hb
      refine ex_aload_n (pc := 95) 55 rfl rfl ?_
      refine ex_aload_n (pc := 96) 56 rfl rfl ?_
      refine ex_iload (pc := 97) 57 rfl rfl ?_
      refine ex_invV (pc := 99) (M' := mX1_apply) (As := [.inr (.inr 1), .inl v4]) (st := []) 58 rfl clk1 rfl rfl calX1_apply (Or.inl ww_432) rfl rfl ?_
      refine vm_call.mono h ?_
      rintro m3 _ ⟨rfl, h⟩
      refine ex_iinc (pc := 102) 59 rfl rfl rfl rfl ?_
      refine ex_goto (pc := 105) 79 60 rfl (by decide) ?_
      exact h
set_option maxRecDepth 20000 in
theorem qX1_close_111 {G : vm_G} {d : Nat} {v2 : Int} {v3 : Int} {v4 : Int} {mem : vm_M} {Q : vm_M → Prop} (h : (vm_R v4) ∧ ((3 ≤ v4 → vm_ex G (d + 1) mX1_close 57 [some (.inr (.inr 7)), some (.inr (.inr 1)), some (.inl v2), some (.inl (v3 + 1)), none] [] mem (vm_qn Q)) ∧ (¬ 3 ≤ v4 → (vm_R (mem 7 2)) ∧ (((mem 7 2) = 0 → vm_ex G (d + 1) mX1_close 57 [some (.inr (.inr 7)), some (.inr (.inr 1)), some (.inl v2), some (.inl (v3 + 1)), none] [] mem (vm_qn Q)) ∧ (¬ (mem 7 2) = 0 → vm_cn G d mX1_chain [.inr (.inr 7), .inl v4] mem (fun m3 => vm_ex G (d + 1) mX1_close 111 [some (.inr (.inr 7)), some (.inr (.inr 1)), some (.inl v2), some (.inl v3), some (.inl (v4 + 1))] [] m3 (vm_qn Q))))))) : vm_ex G (d + 1) mX1_close 111 [some (.inr (.inr 7)), some (.inr (.inr 1)), some (.inl v2), some (.inl v3), some (.inl v4)] [] mem (vm_qn Q) := by
  refine ex_iload (pc := 111) 63 rfl rfl ?_
  refine ex_iconst (pc := 113) 64 rfl ?_
  obtain ⟨hs1, h⟩ := h
  refine ex_icmp_ge (pc := 114) 136 65 rfl (by decide) hs1 ⟨by decide, by decide⟩ (fun hb => ?_) (fun hb => ?_)
  · have h := h.1 hb
    refine ex_iinc (pc := 136) 74 rfl rfl rfl rfl ?_
    refine ex_goto (pc := 139) 57 75 rfl (by decide) ?_
    exact ex_less [some (.inr (.inr 7)), some (.inr (.inr 1)), some (.inl v2), some (.inl (v3 + 1)), none] (And.intro rfl (And.intro rfl (And.intro rfl (And.intro rfl (True.intro))))) h
  · have h := h.2 hb
    refine ex_aload_n (pc := 117) 66 rfl rfl ?_
    refine ex_geti (pc := 118) 2 67 rfl clk1 rfl rfl (Or.inl ww_211) rfl ?_
    obtain ⟨hs2, h⟩ := h
    refine ex_if_eq (pc := 121) 136 68 rfl (by decide) hs2 (fun hb => ?_) (fun hb => ?_)
    · have h := h.1 hb
      refine ex_iinc (pc := 136) 74 rfl rfl rfl rfl ?_
      refine ex_goto (pc := 139) 57 75 rfl (by decide) ?_
      exact ex_less [some (.inr (.inr 7)), some (.inr (.inr 1)), some (.inl v2), some (.inl (v3 + 1)), none] (And.intro rfl (And.intro rfl (And.intro rfl (And.intro rfl (True.intro))))) h
    · have h := h.2 hb
      refine ex_aload_n (pc := 124) 69 rfl rfl ?_
      refine ex_iload (pc := 125) 70 rfl rfl ?_
      refine ex_invV (pc := 127) (M' := mX1_chain) (As := [.inl v4]) (st := []) 71 rfl clk1 rfl rfl calX1_chain (Or.inl ww_448) rfl rfl ?_
      refine vm_call.mono h ?_
      rintro m3 _ ⟨rfl, h⟩
      refine ex_iinc (pc := 130) 72 rfl rfl rfl rfl ?_
      refine ex_goto (pc := 133) 111 73 rfl (by decide) ?_
      exact h
set_option maxRecDepth 20000 in
theorem qX1_addTo {G : vm_G} {d : Nat} {p2 : Bool} {mem : vm_M} {Q : vm_M → Prop} (h : vm_ex G (d + 1) mX1_addTo 2 [some (.inr (.inr 7)), some (.inr (.inr 8)), some (.inl (vm_b2i p2)), some (.inl 0), none, none, none, none] [] mem (vm_qn Q)) : vm_cn G (d + 1) mX1_addTo [.inr (.inr 7), .inr (.inr 8), .inl (vm_b2i p2)] mem Q := by
  refine vm_enter (al := [some (.inr (.inr 7)), some (.inr (.inr 8)), some (.inl (vm_b2i p2)), none, none, none, none, none]) 5 okX1_addTo (by decide +kernel) rfl rfl ?_
  refine ex_iconst (pc := 0) 0 rfl ?_
  refine ex_istore_n (pc := 1) 1 rfl rfl rfl ?_
  exact h
set_option maxRecDepth 20000 in
theorem qX1_addTo_2 {G : vm_G} {d : Nat} {v2 : Bool} {v3 : Int} {mem : vm_M} {Q : vm_M → Prop} (h : (vm_R v3) ∧ ((4 ≤ v3 → Q mem) ∧ (¬ 4 ≤ v3 → vm_ex G (d + 1) mX1_addTo 10 [some (.inr (.inr 7)), some (.inr (.inr 8)), some (.inl (vm_b2i v2)), some (.inl v3), some (.inl 0), none, none, none] [] mem (vm_qn Q)))) : vm_ex G (d + 1) mX1_addTo 2 [some (.inr (.inr 7)), some (.inr (.inr 8)), some (.inl (vm_b2i v2)), some (.inl v3), none, none, none, none] [] mem (vm_qn Q) := by
  refine ex_iload_n (pc := 2) 2 rfl rfl ?_
  refine ex_iconst (pc := 3) 3 rfl ?_
  obtain ⟨hs1, h⟩ := h
  refine ex_icmp_ge (pc := 4) 142 4 rfl (by decide) hs1 ⟨by decide, by decide⟩ (fun hb => ?_) (fun hb => ?_)
  · have h := h.1 hb
    exact ex_ret (pc := 142) 73 rfl rfl ⟨rfl, h⟩
  · have h := h.2 hb
    refine ex_iconst (pc := 7) 5 rfl ?_
    refine ex_istore (pc := 8) 6 rfl rfl rfl ?_
    exact h
set_option maxRecDepth 20000 in
theorem qX1_addTo_10 {G : vm_G} {d : Nat} {v2 : Bool} {v3 : Int} {v4 : Int} {mem : vm_M} {Q : vm_M → Prop} (h : (vm_R v4) ∧ ((4 ≤ v4 → vm_ex G (d + 1) mX1_addTo 2 [some (.inr (.inr 7)), some (.inr (.inr 8)), some (.inl (vm_b2i v2)), some (.inl (v3 + 1)), none, none, none, none] [] mem (vm_qn Q)) ∧ (¬ 4 ≤ v4 → vm_ex G (d + 1) mX1_addTo 22 [some (.inr (.inr 7)), some (.inr (.inr 8)), some (.inl (vm_b2i v2)), some (.inl v3), some (.inl v4), some (.inl 0), some (.inl 0), none] [] mem (vm_qn Q)))) : vm_ex G (d + 1) mX1_addTo 10 [some (.inr (.inr 7)), some (.inr (.inr 8)), some (.inl (vm_b2i v2)), some (.inl v3), some (.inl v4), none, none, none] [] mem (vm_qn Q) := by
  refine ex_iload (pc := 10) 7 rfl rfl ?_
  refine ex_iconst (pc := 12) 8 rfl ?_
  obtain ⟨hs1, h⟩ := h
  refine ex_icmp_ge (pc := 13) 136 9 rfl (by decide) hs1 ⟨by decide, by decide⟩ (fun hb => ?_) (fun hb => ?_)
  · have h := h.1 hb
    refine ex_iinc (pc := 136) 71 rfl rfl rfl rfl ?_
    refine ex_goto (pc := 139) 2 72 rfl (by decide) ?_
    exact ex_less [some (.inr (.inr 7)), some (.inr (.inr 8)), some (.inl (vm_b2i v2)), some (.inl (v3 + 1)), none, none, none, none] (And.intro rfl (And.intro rfl (And.intro rfl (And.intro rfl (True.intro))))) h
  · have h := h.2 hb
    refine ex_iconst (pc := 16) 10 rfl ?_
    refine ex_istore (pc := 17) 11 rfl rfl rfl ?_
    refine ex_iconst (pc := 19) 12 rfl ?_
    refine ex_istore (pc := 20) 13 rfl rfl rfl ?_
    exact h
set_option maxRecDepth 20000 in
theorem qX1_addTo_22 {G : vm_G} {d : Nat} {v2 : Bool} {v3 : Int} {v4 : Int} {v5 : Int} {v6 : Int} {mem : vm_M} {Q : vm_M → Prop} (h : (vm_R v6) ∧ ((3 ≤ v6 → (v2 = false → vm_ex G (d + 1) mX1_addTo 10 [some (.inr (.inr 7)), some (.inr (.inr 8)), some (.inl (vm_b2i v2)), some (.inl v3), some (.inl (v4 + 1)), none, none, none] [] mem (vm_qn Q)) ∧ (v2 = true → (vm_R v3) ∧ (vm_R v4) ∧ ((v3 = v4 → vm_ex G (d + 1) mX1_addTo 10 [some (.inr (.inr 7)), some (.inr (.inr 8)), some (.inl (vm_b2i v2)), some (.inl v3), some (.inl (v4 + 1)), none, none, none] [] mem (vm_qn Q)) ∧ (¬ v3 = v4 → (vm_R v5) ∧ (vm_R (3 * (mem 7 1))) ∧ (((3 * (mem 7 1)) ≤ v5 → vm_ex G (d + 1) mX1_addTo 10 [some (.inr (.inr 7)), some (.inr (.inr 8)), some (.inl (vm_b2i v2)), some (.inl v3), some (.inl (v4 + 1)), none, none, none] [] mem (vm_qn Q)) ∧ (¬ (3 * (mem 7 1)) ≤ v5 → vm_ci G d mX5_variable [.inl v4, .inl 3] mem (fun m6 r7 => vm_ci G d mX5_variable [.inl v3, .inl 3] m6 (fun m8 r9 => vm_cn G d mX4_difference [.inr (.inr 8), .inl r7, .inl r9, .inl (-v5)] m8 (fun m10 => vm_ex G (d + 1) mX1_addTo 10 [some (.inr (.inr 7)), some (.inr (.inr 8)), some (.inl (vm_b2i v2)), some (.inl v3), some (.inl (v4 + 1)), none, none, none] [] m10 (vm_qn Q)))))))))) ∧ (¬ 3 ≤ v6 → vm_ci G d mX1_of [.inr (.inr 7), .inl v6, .inl v3, .inl v4] mem (fun m12 r13 => (vm_R v3) ∧ (vm_R v4) ∧ ((¬ v3 = v4 → (vm_R r13) ∧ (vm_R (m12 7 1)) ∧ (((m12 7 1) ≤ r13 → vm_ex G (d + 1) mX1_addTo 22 [some (.inr (.inr 7)), some (.inr (.inr 8)), some (.inl (vm_b2i v2)), some (.inl v3), some (.inl v4), some (.inl (v5 + r13)), some (.inl (v6 + 1)), none] [] m12 (vm_qn Q)) ∧ (¬ (m12 7 1) ≤ r13 → vm_ci G d mX5_variable [.inl v4, .inl v6] m12 (fun m18 r19 => vm_ci G d mX5_variable [.inl v3, .inl v6] m18 (fun m20 r21 => vm_cn G d mX4_difference [.inr (.inr 8), .inl r19, .inl r21, .inl (-r13)] m20 (fun m22 => vm_ex G (d + 1) mX1_addTo 22 [some (.inr (.inr 7)), some (.inr (.inr 8)), some (.inl (vm_b2i v2)), some (.inl v3), some (.inl v4), some (.inl (v5 + r13)), some (.inl (v6 + 1)), none] [] m22 (vm_qn Q))))))) ∧ (v3 = v4 → (vm_R r13) ∧ ((0 ≤ r13 → vm_ex G (d + 1) mX1_addTo 22 [some (.inr (.inr 7)), some (.inr (.inr 8)), some (.inl (vm_b2i v2)), some (.inl v3), some (.inl v4), some (.inl (v5 + r13)), some (.inl (v6 + 1)), none] [] m12 (vm_qn Q)) ∧ (¬ 0 ≤ r13 → vm_ci G d mX5_variable [.inl v4, .inl v6] m12 (fun m25 r26 => vm_ci G d mX5_variable [.inl v3, .inl v6] m25 (fun m27 r28 => vm_cn G d mX4_difference [.inr (.inr 8), .inl r26, .inl r28, .inl (-r13)] m27 (fun m29 => vm_ex G (d + 1) mX1_addTo 22 [some (.inr (.inr 7)), some (.inr (.inr 8)), some (.inl (vm_b2i v2)), some (.inl v3), some (.inl v4), some (.inl (v5 + r13)), some (.inl (v6 + 1)), none] [] m29 (vm_qn Q)))))))))))) : vm_ex G (d + 1) mX1_addTo 22 [some (.inr (.inr 7)), some (.inr (.inr 8)), some (.inl (vm_b2i v2)), some (.inl v3), some (.inl v4), some (.inl v5), some (.inl v6), none] [] mem (vm_qn Q) := by
  refine ex_iload (pc := 22) 14 rfl rfl ?_
  refine ex_iconst (pc := 24) 15 rfl ?_
  obtain ⟨hs1, h⟩ := h
  refine ex_icmp_ge (pc := 25) 91 16 rfl (by decide) hs1 ⟨by decide, by decide⟩ (fun hb => ?_) (fun hb => ?_)
  · have h := h.1 hb
    refine ex_iload_n (pc := 91) 48 rfl rfl ?_
    refine ex_if_eq (pc := 92) 130 49 rfl (by decide) (vm_b2i_R _) (fun hb => ?_) (fun hb => ?_)
    · have h := h.1 (vm_b2i_0.mp hb)
      refine ex_iinc (pc := 130) 69 rfl rfl rfl rfl ?_
      refine ex_goto (pc := 133) 10 70 rfl (by decide) ?_
      exact ex_less [some (.inr (.inr 7)), some (.inr (.inr 8)), some (.inl (vm_b2i v2)), some (.inl v3), some (.inl (v4 + 1)), none, none, none] (And.intro rfl (And.intro rfl (And.intro rfl (And.intro rfl (And.intro rfl (True.intro)))))) h
    · have h := h.2 (vm_b2i_n.mp hb)
      refine ex_iload_n (pc := 95) 50 rfl rfl ?_
      refine ex_iload (pc := 96) 51 rfl rfl ?_
      obtain ⟨hs2, h⟩ := h
      obtain ⟨hs3, h⟩ := h
      refine ex_icmp_eq (pc := 98) 130 52 rfl (by decide) hs2 hs3 (fun hb => ?_) (fun hb => ?_)
      · have h := h.1 hb
        refine ex_iinc (pc := 130) 69 rfl rfl rfl rfl ?_
        refine ex_goto (pc := 133) 10 70 rfl (by decide) ?_
        exact ex_less [some (.inr (.inr 7)), some (.inr (.inr 8)), some (.inl (vm_b2i v2)), some (.inl v3), some (.inl (v4 + 1)), none, none, none] (And.intro rfl (And.intro rfl (And.intro rfl (And.intro rfl (And.intro rfl (True.intro)))))) h
      · have h := h.2 hb
        refine ex_iload (pc := 101) 53 rfl rfl ?_
        refine ex_iconst (pc := 103) 54 rfl ?_
        refine ex_aload_n (pc := 104) 55 rfl rfl ?_
        refine ex_geti (pc := 105) 1 56 rfl clk1 rfl rfl (Or.inl ww_210) rfl ?_
        refine ex_imul (pc := 108) 57 rfl ?_
        obtain ⟨hs4, h⟩ := h
        obtain ⟨hs5, h⟩ := h
        refine ex_icmp_ge (pc := 109) 130 58 rfl (by decide) hs4 hs5 (fun hb => ?_) (fun hb => ?_)
        · have h := h.1 hb
          refine ex_iinc (pc := 130) 69 rfl rfl rfl rfl ?_
          refine ex_goto (pc := 133) 10 70 rfl (by decide) ?_
          exact ex_less [some (.inr (.inr 7)), some (.inr (.inr 8)), some (.inl (vm_b2i v2)), some (.inl v3), some (.inl (v4 + 1)), none, none, none] (And.intro rfl (And.intro rfl (And.intro rfl (And.intro rfl (And.intro rfl (True.intro)))))) h
        · have h := h.2 hb
          refine ex_aload_n (pc := 112) 59 rfl rfl ?_
          refine ex_iload (pc := 113) 60 rfl rfl ?_
          refine ex_iconst (pc := 115) 61 rfl ?_
          refine ex_invS (pc := 116) (M' := mX5_variable) (As := [.inl v4, .inl 3]) (st := [.inr (.inr 8)]) 62 rfl calX5_variable (Or.inl ww_456) rfl rfl ?_
          refine vm_call.mono h ?_
          rintro m6 _ ⟨r7, rfl, h⟩
          refine ex_iload_n (pc := 119) 63 rfl rfl ?_
          refine ex_iconst (pc := 120) 64 rfl ?_
          refine ex_invS (pc := 121) (M' := mX5_variable) (As := [.inl v3, .inl 3]) (st := [.inl r7, .inr (.inr 8)]) 65 rfl calX5_variable (Or.inl ww_456) rfl rfl ?_
          refine vm_call.mono h ?_
          rintro m8 _ ⟨r9, rfl, h⟩
          refine ex_iload (pc := 124) 66 rfl rfl ?_
          refine ex_ineg (pc := 126) 67 rfl ?_
          refine ex_invV (pc := 127) (M' := mX4_difference) (As := [.inl r7, .inl r9, .inl (-v5)]) (st := []) 68 rfl clk4 rfl rfl calX4_difference (Or.inl ww_457) rfl rfl ?_
          refine vm_call.mono h ?_
          rintro m10 _ ⟨rfl, h⟩
          refine ex_iinc (pc := 130) 69 rfl rfl rfl rfl ?_
          refine ex_goto (pc := 133) 10 70 rfl (by decide) ?_
          exact ex_less [some (.inr (.inr 7)), some (.inr (.inr 8)), some (.inl (vm_b2i v2)), some (.inl v3), some (.inl (v4 + 1)), none, none, none] (And.intro rfl (And.intro rfl (And.intro rfl (And.intro rfl (And.intro rfl (True.intro)))))) h
  · have h := h.2 hb
    refine ex_aload_n (pc := 28) 17 rfl rfl ?_
    refine ex_iload (pc := 29) 18 rfl rfl ?_
    refine ex_iload_n (pc := 31) 19 rfl rfl ?_
    refine ex_iload (pc := 32) 20 rfl rfl ?_
    refine ex_invV (pc := 34) (M' := mX1_of) (As := [.inl v6, .inl v3, .inl v4]) (st := []) 21 rfl clk1 rfl rfl calX1_of (Or.inl ww_441) rfl rfl ?_
    refine vm_call.mono h ?_
    rintro m12 _ ⟨r13, rfl, h⟩
    refine ex_istore (pc := 37) 22 rfl rfl rfl ?_
    refine ex_iload (pc := 39) 23 rfl rfl ?_
    refine ex_iload (pc := 41) 24 rfl rfl ?_
    refine ex_iadd (pc := 43) 25 rfl ?_
    refine ex_istore (pc := 44) 26 rfl rfl rfl ?_
    refine ex_iload (pc := 46) 27 rfl rfl ?_
    refine ex_iload_n (pc := 48) 28 rfl rfl ?_
    refine ex_iload (pc := 49) 29 rfl rfl ?_
    obtain ⟨hs14, h⟩ := h
    obtain ⟨hs15, h⟩ := h
    refine ex_icmp_ne (pc := 51) 58 30 rfl (by decide) hs14 hs15 (fun hb => ?_) (fun hb => ?_)
    · have h := h.1 hb
      refine ex_aload_n (pc := 58) 33 rfl rfl ?_
      refine ex_geti (pc := 59) 1 34 rfl clk1 rfl rfl (Or.inl ww_210) rfl ?_
      obtain ⟨hs16, h⟩ := h
      obtain ⟨hs17, h⟩ := h
      refine ex_icmp_ge (pc := 62) 85 35 rfl (by decide) hs16 hs17 (fun hb => ?_) (fun hb => ?_)
      · have h := h.1 hb
        refine ex_iinc (pc := 85) 46 rfl rfl rfl rfl ?_
        refine ex_goto (pc := 88) 22 47 rfl (by decide) ?_
        exact ex_less [some (.inr (.inr 7)), some (.inr (.inr 8)), some (.inl (vm_b2i v2)), some (.inl v3), some (.inl v4), some (.inl (v5 + r13)), some (.inl (v6 + 1)), none] (And.intro rfl (And.intro rfl (And.intro rfl (And.intro rfl (And.intro rfl (And.intro rfl (And.intro rfl (True.intro)))))))) h
      · have h := h.2 hb
        refine ex_aload_n (pc := 65) 36 rfl rfl ?_
        refine ex_iload (pc := 66) 37 rfl rfl ?_
        refine ex_iload (pc := 68) 38 rfl rfl ?_
        refine ex_invS (pc := 70) (M' := mX5_variable) (As := [.inl v4, .inl v6]) (st := [.inr (.inr 8)]) 39 rfl calX5_variable (Or.inl ww_456) rfl rfl ?_
        refine vm_call.mono h ?_
        rintro m18 _ ⟨r19, rfl, h⟩
        refine ex_iload_n (pc := 73) 40 rfl rfl ?_
        refine ex_iload (pc := 74) 41 rfl rfl ?_
        refine ex_invS (pc := 76) (M' := mX5_variable) (As := [.inl v3, .inl v6]) (st := [.inl r19, .inr (.inr 8)]) 42 rfl calX5_variable (Or.inl ww_456) rfl rfl ?_
        refine vm_call.mono h ?_
        rintro m20 _ ⟨r21, rfl, h⟩
        refine ex_iload (pc := 79) 43 rfl rfl ?_
        refine ex_ineg (pc := 81) 44 rfl ?_
        refine ex_invV (pc := 82) (M' := mX4_difference) (As := [.inl r19, .inl r21, .inl (-r13)]) (st := []) 45 rfl clk4 rfl rfl calX4_difference (Or.inl ww_457) rfl rfl ?_
        refine vm_call.mono h ?_
        rintro m22 _ ⟨rfl, h⟩
        refine ex_iinc (pc := 85) 46 rfl rfl rfl rfl ?_
        refine ex_goto (pc := 88) 22 47 rfl (by decide) ?_
        exact ex_less [some (.inr (.inr 7)), some (.inr (.inr 8)), some (.inl (vm_b2i v2)), some (.inl v3), some (.inl v4), some (.inl (v5 + r13)), some (.inl (v6 + 1)), none] (And.intro rfl (And.intro rfl (And.intro rfl (And.intro rfl (And.intro rfl (And.intro rfl (And.intro rfl (True.intro)))))))) h
    · have h := h.2 hb
      refine ex_iconst (pc := 54) 31 rfl ?_
      refine ex_goto (pc := 55) 62 32 rfl (by decide) ?_
      obtain ⟨hs24, h⟩ := h
      refine ex_icmp_ge (pc := 62) 85 35 rfl (by decide) hs24 ⟨by decide, by decide⟩ (fun hb => ?_) (fun hb => ?_)
      · have h := h.1 hb
        refine ex_iinc (pc := 85) 46 rfl rfl rfl rfl ?_
        refine ex_goto (pc := 88) 22 47 rfl (by decide) ?_
        exact ex_less [some (.inr (.inr 7)), some (.inr (.inr 8)), some (.inl (vm_b2i v2)), some (.inl v3), some (.inl v4), some (.inl (v5 + r13)), some (.inl (v6 + 1)), none] (And.intro rfl (And.intro rfl (And.intro rfl (And.intro rfl (And.intro rfl (And.intro rfl (And.intro rfl (True.intro)))))))) h
      · have h := h.2 hb
        refine ex_aload_n (pc := 65) 36 rfl rfl ?_
        refine ex_iload (pc := 66) 37 rfl rfl ?_
        refine ex_iload (pc := 68) 38 rfl rfl ?_
        refine ex_invS (pc := 70) (M' := mX5_variable) (As := [.inl v4, .inl v6]) (st := [.inr (.inr 8)]) 39 rfl calX5_variable (Or.inl ww_456) rfl rfl ?_
        refine vm_call.mono h ?_
        rintro m25 _ ⟨r26, rfl, h⟩
        refine ex_iload_n (pc := 73) 40 rfl rfl ?_
        refine ex_iload (pc := 74) 41 rfl rfl ?_
        refine ex_invS (pc := 76) (M' := mX5_variable) (As := [.inl v3, .inl v6]) (st := [.inl r26, .inr (.inr 8)]) 42 rfl calX5_variable (Or.inl ww_456) rfl rfl ?_
        refine vm_call.mono h ?_
        rintro m27 _ ⟨r28, rfl, h⟩
        refine ex_iload (pc := 79) 43 rfl rfl ?_
        refine ex_ineg (pc := 81) 44 rfl ?_
        refine ex_invV (pc := 82) (M' := mX4_difference) (As := [.inl r26, .inl r28, .inl (-r13)]) (st := []) 45 rfl clk4 rfl rfl calX4_difference (Or.inl ww_457) rfl rfl ?_
        refine vm_call.mono h ?_
        rintro m29 _ ⟨rfl, h⟩
        refine ex_iinc (pc := 85) 46 rfl rfl rfl rfl ?_
        refine ex_goto (pc := 88) 22 47 rfl (by decide) ?_
        exact ex_less [some (.inr (.inr 7)), some (.inr (.inr 8)), some (.inl (vm_b2i v2)), some (.inl v3), some (.inl v4), some (.inl (v5 + r13)), some (.inl (v6 + 1)), none] (And.intro rfl (And.intro rfl (And.intro rfl (And.intro rfl (And.intro rfl (And.intro rfl (And.intro rfl (True.intro)))))))) h
set_option maxRecDepth 20000 in
theorem qX1_of {G : vm_G} {d : Nat} {p1 : Int} {p2 : Int} {p3 : Int} {mem : vm_M} {Q : vm_M → Int → Prop} (h : (0 ≤ ((((p1 * 4) + p2) * 4) + p3) ∧ ((((p1 * 4) + p2) * 4) + p3) < 48) ∧ Q mem (mem 23 ((((p1 * 4) + p2) * 4) + p3))) : vm_ci G d mX1_of [.inr (.inr 7), .inl p1, .inl p2, .inl p3] mem Q := by
  refine vm_enter (al := [some (.inr (.inr 7)), some (.inl p1), some (.inl p2), some (.inl p3)]) 0 okX1_of (by decide +kernel) rfl rfl ?_
  refine ex_aload_n (pc := 0) 0 rfl rfl ?_
  refine ex_geta (pc := 1) 0 1 rfl clk1 rfl rfl (Or.inl ww_209) rfl ?_
  refine ex_iload_n (pc := 4) 2 rfl rfl ?_
  refine ex_iconst (pc := 5) 3 rfl ?_
  refine ex_imul (pc := 6) 4 rfl ?_
  refine ex_iload_n (pc := 7) 5 rfl rfl ?_
  refine ex_iadd (pc := 8) 6 rfl ?_
  refine ex_iconst (pc := 9) 7 rfl ?_
  refine ex_imul (pc := 10) 8 rfl ?_
  refine ex_iload_n (pc := 11) 9 rfl rfl ?_
  refine ex_iadd (pc := 12) 10 rfl ?_
  obtain ⟨hs1, h⟩ := h
  refine ex_iaload (pc := 13) 11 rfl rfl rfl hs1 ?_
  exact ex_iret (pc := 14) 12 rfl (Or.inl rfl) ⟨_, rfl, h⟩
set_option maxRecDepth 20000 in
theorem qX1_narrow {G : vm_G} {d : Nat} {p1 : Int} {p2 : Int} {p3 : Int} {p4 : Int} {mem : vm_M} {Q : vm_M → Prop} (h : (0 ≤ ((((p1 * 4) + p2) * 4) + p3) ∧ ((((p1 * 4) + p2) * 4) + p3) < 48) ∧ (vm_R p4) ∧ (vm_R (mem 23 ((((p1 * 4) + p2) * 4) + p3))) ∧ (((mem 23 ((((p1 * 4) + p2) * 4) + p3)) ≤ p4 → Q mem) ∧ (¬ (mem 23 ((((p1 * 4) + p2) * 4) + p3)) ≤ p4 → (vm_R (-(mem 7 1))) ∧ (((mem 23 ((((p1 * 4) + p2) * 4) + p3)) < (-(mem 7 1)) → Q mem) ∧ (¬ (mem 23 ((((p1 * 4) + p2) * 4) + p3)) < (-(mem 7 1)) → (∀ m5, m5 = vm_up mem 23 ((((p1 * 4) + p2) * 4) + p3) p4 → (∀ m6, m6 = vm_up m5 7 2 1 → Q m6))))))) : vm_cn G d mX1_narrow [.inr (.inr 7), .inl p1, .inl p2, .inl p3, .inl p4] mem Q := by
  refine vm_enter (al := [some (.inr (.inr 7)), some (.inl p1), some (.inl p2), some (.inl p3), some (.inl p4), none]) 1 okX1_narrow (by decide +kernel) rfl rfl ?_
  refine ex_iload_n (pc := 0) 0 rfl rfl ?_
  refine ex_iconst (pc := 1) 1 rfl ?_
  refine ex_imul (pc := 2) 2 rfl ?_
  refine ex_iload_n (pc := 3) 3 rfl rfl ?_
  refine ex_iadd (pc := 4) 4 rfl ?_
  refine ex_iconst (pc := 5) 5 rfl ?_
  refine ex_imul (pc := 6) 6 rfl ?_
  refine ex_iload_n (pc := 7) 7 rfl rfl ?_
  refine ex_iadd (pc := 8) 8 rfl ?_
  refine ex_istore (pc := 9) 9 rfl rfl rfl ?_
  refine ex_iload (pc := 11) 10 rfl rfl ?_
  refine ex_aload_n (pc := 13) 11 rfl rfl ?_
  refine ex_geta (pc := 14) 0 12 rfl clk1 rfl rfl (Or.inl ww_209) rfl ?_
  refine ex_iload (pc := 17) 13 rfl rfl ?_
  obtain ⟨hs1, h⟩ := h
  refine ex_iaload (pc := 19) 14 rfl rfl rfl hs1 ?_
  obtain ⟨hs2, h⟩ := h
  obtain ⟨hs3, h⟩ := h
  refine ex_icmp_ge (pc := 20) 52 15 rfl (by decide) hs2 hs3 (fun hb => ?_) (fun hb => ?_)
  · have h := h.1 hb
    exact ex_ret (pc := 52) 32 rfl rfl ⟨rfl, h⟩
  · have h := h.2 hb
    refine ex_aload_n (pc := 23) 16 rfl rfl ?_
    refine ex_geta (pc := 24) 0 17 rfl clk1 rfl rfl (Or.inl ww_209) rfl ?_
    refine ex_iload (pc := 27) 18 rfl rfl ?_
    refine ex_iaload (pc := 29) 19 rfl rfl rfl hs1 ?_
    refine ex_aload_n (pc := 30) 20 rfl rfl ?_
    refine ex_geti (pc := 31) 1 21 rfl clk1 rfl rfl (Or.inl ww_210) rfl ?_
    refine ex_ineg (pc := 34) 22 rfl ?_
    obtain ⟨hs4, h⟩ := h
    refine ex_icmp_lt (pc := 35) 52 23 rfl (by decide) hs3 hs4 (fun hb => ?_) (fun hb => ?_)
    · have h := h.1 hb
      exact ex_ret (pc := 52) 32 rfl rfl ⟨rfl, h⟩
    · have h := h.2 hb
      refine ex_aload_n (pc := 38) 24 rfl rfl ?_
      refine ex_geta (pc := 39) 0 25 rfl clk1 rfl rfl (Or.inl ww_209) rfl ?_
      refine ex_iload (pc := 42) 26 rfl rfl ?_
      refine ex_iload (pc := 44) 27 rfl rfl ?_
      have h := h _ rfl
      refine ex_iastore (pc := 46) 28 rfl rfl rfl hs1 ?_
      generalize vm_up mem 23 ((((p1 * 4) + p2) * 4) + p3) p4 = m5 at h ⊢
      refine ex_aload_n (pc := 47) 29 rfl rfl ?_
      refine ex_iconst (pc := 48) 30 rfl ?_
      have h := h _ rfl
      refine ex_putz (pc := 49) 2 31 rfl clk1 rfl rfl (Or.inl ww_211) rfl rfl rfl (by decide) ?_
      generalize vm_up m5 7 _ 1 = m6 at h ⊢
      exact ex_ret (pc := 52) 32 rfl rfl ⟨rfl, h⟩
set_option maxRecDepth 20000 in
theorem qX1_chain {G : vm_G} {d : Nat} {p1 : Int} {mem : vm_M} {Q : vm_M → Prop} (h : vm_ex G (d + 1) mX1_chain 2 [some (.inr (.inr 7)), some (.inl p1), some (.inl 0), none, none] [] mem (vm_qn Q)) : vm_cn G (d + 1) mX1_chain [.inr (.inr 7), .inl p1] mem Q := by
  refine vm_enter (al := [some (.inr (.inr 7)), some (.inl p1), none, none, none]) 3 okX1_chain (by decide +kernel) rfl rfl ?_
  refine ex_iconst (pc := 0) 0 rfl ?_
  refine ex_istore_n (pc := 1) 1 rfl rfl rfl ?_
  exact h
set_option maxRecDepth 20000 in
theorem qX1_chain_2 {G : vm_G} {d : Nat} {v1 : Int} {v2 : Int} {mem : vm_M} {Q : vm_M → Prop} (h : (vm_R v2) ∧ ((4 ≤ v2 → Q mem) ∧ (¬ 4 ≤ v2 → vm_ex G (d + 1) mX1_chain 9 [some (.inr (.inr 7)), some (.inl v1), some (.inl v2), some (.inl 0), none] [] mem (vm_qn Q)))) : vm_ex G (d + 1) mX1_chain 2 [some (.inr (.inr 7)), some (.inl v1), some (.inl v2), none, none] [] mem (vm_qn Q) := by
  refine ex_iload_n (pc := 2) 2 rfl rfl ?_
  refine ex_iconst (pc := 3) 3 rfl ?_
  obtain ⟨hs1, h⟩ := h
  refine ex_icmp_ge (pc := 4) 65 4 rfl (by decide) hs1 ⟨by decide, by decide⟩ (fun hb => ?_) (fun hb => ?_)
  · have h := h.1 hb
    exact ex_ret (pc := 65) 37 rfl rfl ⟨rfl, h⟩
  · have h := h.2 hb
    refine ex_iconst (pc := 7) 5 rfl ?_
    refine ex_istore_n (pc := 8) 6 rfl rfl rfl ?_
    exact h
set_option maxRecDepth 20000 in
theorem qX1_chain_9 {G : vm_G} {d : Nat} {v1 : Int} {v2 : Int} {v3 : Int} {mem : vm_M} {Q : vm_M → Prop} (h : (vm_R v3) ∧ ((4 ≤ v3 → vm_ex G (d + 1) mX1_chain 2 [some (.inr (.inr 7)), some (.inl v1), some (.inl (v2 + 1)), none, none] [] mem (vm_qn Q)) ∧ (¬ 4 ≤ v3 → vm_ex G (d + 1) mX1_chain 17 [some (.inr (.inr 7)), some (.inl v1), some (.inl v2), some (.inl v3), some (.inl 0)] [] mem (vm_qn Q)))) : vm_ex G (d + 1) mX1_chain 9 [some (.inr (.inr 7)), some (.inl v1), some (.inl v2), some (.inl v3), none] [] mem (vm_qn Q) := by
  refine ex_iload_n (pc := 9) 7 rfl rfl ?_
  refine ex_iconst (pc := 10) 8 rfl ?_
  obtain ⟨hs1, h⟩ := h
  refine ex_icmp_ge (pc := 11) 59 9 rfl (by decide) hs1 ⟨by decide, by decide⟩ (fun hb => ?_) (fun hb => ?_)
  · have h := h.1 hb
    refine ex_iinc (pc := 59) 35 rfl rfl rfl rfl ?_
    refine ex_goto (pc := 62) 2 36 rfl (by decide) ?_
    exact ex_less [some (.inr (.inr 7)), some (.inl v1), some (.inl (v2 + 1)), none, none] (And.intro rfl (And.intro rfl (And.intro rfl (True.intro)))) h
  · have h := h.2 hb
    refine ex_iconst (pc := 14) 10 rfl ?_
    refine ex_istore (pc := 15) 11 rfl rfl rfl ?_
    exact h
set_option maxRecDepth 20000 in
theorem qX1_chain_17 {G : vm_G} {d : Nat} {v1 : Int} {v2 : Int} {v3 : Int} {v4 : Int} {mem : vm_M} {Q : vm_M → Prop} (h : (vm_R v4) ∧ ((4 ≤ v4 → vm_ex G (d + 1) mX1_chain 9 [some (.inr (.inr 7)), some (.inl v1), some (.inl v2), some (.inl (v3 + 1)), none] [] mem (vm_qn Q)) ∧ (¬ 4 ≤ v4 → vm_ci G d mX1_of [.inr (.inr 7), .inl v1, .inl v3, .inl v2] mem (fun m2 r3 => vm_ci G d mX1_of [.inr (.inr 7), .inl v1, .inl v2, .inl v4] m2 (fun m4 r5 => vm_cn G d mX1_narrow [.inr (.inr 7), .inl v1, .inl v3, .inl v4, .inl (r3 + r5)] m4 (fun m6 => vm_ex G (d + 1) mX1_chain 17 [some (.inr (.inr 7)), some (.inl v1), some (.inl v2), some (.inl v3), some (.inl (v4 + 1))] [] m6 (vm_qn Q))))))) : vm_ex G (d + 1) mX1_chain 17 [some (.inr (.inr 7)), some (.inl v1), some (.inl v2), some (.inl v3), some (.inl v4)] [] mem (vm_qn Q) := by
  refine ex_iload (pc := 17) 12 rfl rfl ?_
  refine ex_iconst (pc := 19) 13 rfl ?_
  obtain ⟨hs1, h⟩ := h
  refine ex_icmp_ge (pc := 20) 53 14 rfl (by decide) hs1 ⟨by decide, by decide⟩ (fun hb => ?_) (fun hb => ?_)
  · have h := h.1 hb
    refine ex_iinc (pc := 53) 33 rfl rfl rfl rfl ?_
    refine ex_goto (pc := 56) 9 34 rfl (by decide) ?_
    exact ex_less [some (.inr (.inr 7)), some (.inl v1), some (.inl v2), some (.inl (v3 + 1)), none] (And.intro rfl (And.intro rfl (And.intro rfl (And.intro rfl (True.intro))))) h
  · have h := h.2 hb
    refine ex_aload_n (pc := 23) 15 rfl rfl ?_
    refine ex_iload_n (pc := 24) 16 rfl rfl ?_
    refine ex_iload_n (pc := 25) 17 rfl rfl ?_
    refine ex_iload (pc := 26) 18 rfl rfl ?_
    refine ex_aload_n (pc := 28) 19 rfl rfl ?_
    refine ex_iload_n (pc := 29) 20 rfl rfl ?_
    refine ex_iload_n (pc := 30) 21 rfl rfl ?_
    refine ex_iload_n (pc := 31) 22 rfl rfl ?_
    refine ex_invV (pc := 32) (M' := mX1_of) (As := [.inl v1, .inl v3, .inl v2]) (st := [.inl v4, .inl v3, .inl v1, .inr (.inr 7)]) 23 rfl clk1 rfl rfl calX1_of (Or.inl ww_441) rfl rfl ?_
    refine vm_call.mono h ?_
    rintro m2 _ ⟨r3, rfl, h⟩
    refine ex_aload_n (pc := 35) 24 rfl rfl ?_
    refine ex_iload_n (pc := 36) 25 rfl rfl ?_
    refine ex_iload_n (pc := 37) 26 rfl rfl ?_
    refine ex_iload (pc := 38) 27 rfl rfl ?_
    refine ex_invV (pc := 40) (M' := mX1_of) (As := [.inl v1, .inl v2, .inl v4]) (st := [.inl r3, .inl v4, .inl v3, .inl v1, .inr (.inr 7)]) 28 rfl clk1 rfl rfl calX1_of (Or.inl ww_441) rfl rfl ?_
    refine vm_call.mono h ?_
    rintro m4 _ ⟨r5, rfl, h⟩
    refine ex_iadd (pc := 43) 29 rfl ?_
    refine ex_invV (pc := 44) (M' := mX1_narrow) (As := [.inl v1, .inl v3, .inl v4, .inl (r3 + r5)]) (st := []) 30 rfl clk1 rfl rfl calX1_narrow (Or.inl ww_437) rfl rfl ?_
    refine vm_call.mono h ?_
    rintro m6 _ ⟨rfl, h⟩
    refine ex_iinc (pc := 47) 31 rfl rfl rfl rfl ?_
    refine ex_goto (pc := 50) 17 32 rfl (by decide) ?_
    exact h
set_option maxRecDepth 20000 in
theorem qX1_apply {G : vm_G} {d : Nat} {p2 : Int} {mem : vm_M} {Q : vm_M → Prop} (h : vm_ci G d mX0_number [.inr (.inr 1), .inl p2, .inl 0] mem (fun m1 r2 => vm_ci G d mX0_number [.inr (.inr 1), .inl p2, .inl 1] m1 (fun m3 r4 => vm_ci G d mX0_number [.inr (.inr 1), .inl p2, .inl 2] m3 (fun m5 r6 => vm_ci G d mX0_number [.inr (.inr 1), .inl p2, .inl 3] m5 (fun m7 r8 => (vm_R r2) ∧ ((¬ r2 = 6 → vm_ex G (d + 1) mX1_apply 68 [some (.inr (.inr 7)), some (.inr (.inr 1)), some (.inl p2), some (.inl r2), some (.inl r4), some (.inl r6), some (.inl r8), some (.inl 0), none] [] m7 (vm_qn Q)) ∧ (r2 = 6 → vm_ci G d mX0_number [.inr (.inr 1), .inl p2, .inl 4] m7 (fun m10 r11 => (vm_R r6) ∧ (vm_R r11) ∧ ((¬ r6 = r11 → vm_ex G (d + 1) mX1_apply 68 [some (.inr (.inr 7)), some (.inr (.inr 1)), some (.inl p2), some (.inl r2), some (.inl r4), some (.inl r6), some (.inl r8), some (.inl 0), none] [] m10 (vm_qn Q)) ∧ (r6 = r11 → vm_ci G d mX0_number [.inr (.inr 1), .inl p2, .inl 5] m10 (fun m14 r15 => vm_cn G d mX1_narrow [.inr (.inr 7), .inl r6, .inl r8, .inl r4, .inl (-r15)] m14 (fun m16 => vm_ex G (d + 1) mX1_apply 68 [some (.inr (.inr 7)), some (.inr (.inr 1)), some (.inl p2), some (.inl r2), some (.inl r4), some (.inl r6), some (.inl r8), some (.inl 0), none] [] m16 (vm_qn Q))))))))))))) : vm_cn G (d + 1) mX1_apply [.inr (.inr 7), .inr (.inr 1), .inl p2] mem Q := by
  refine vm_enter (al := [some (.inr (.inr 7)), some (.inr (.inr 1)), some (.inl p2), none, none, none, none, none, none]) 6 okX1_apply (by decide +kernel) rfl rfl ?_
  refine ex_aload_n (pc := 0) 0 rfl rfl ?_
  refine ex_iload_n (pc := 1) 1 rfl rfl ?_
  refine ex_iconst (pc := 2) 2 rfl ?_
  refine ex_invV (pc := 3) (M' := mX0_number) (As := [.inl p2, .inl 0]) (st := []) 3 rfl clk0 rfl rfl calX0_number (Or.inl ww_436) rfl rfl ?_
  refine vm_call.mono h ?_
  rintro m1 _ ⟨r2, rfl, h⟩
  refine ex_istore_n (pc := 6) 4 rfl rfl rfl ?_
  refine ex_aload_n (pc := 7) 5 rfl rfl ?_
  refine ex_iload_n (pc := 8) 6 rfl rfl ?_
  refine ex_iconst (pc := 9) 7 rfl ?_
  refine ex_invV (pc := 10) (M' := mX0_number) (As := [.inl p2, .inl 1]) (st := []) 8 rfl clk0 rfl rfl calX0_number (Or.inl ww_436) rfl rfl ?_
  refine vm_call.mono h ?_
  rintro m3 _ ⟨r4, rfl, h⟩
  refine ex_istore (pc := 13) 9 rfl rfl rfl ?_
  refine ex_aload_n (pc := 15) 10 rfl rfl ?_
  refine ex_iload_n (pc := 16) 11 rfl rfl ?_
  refine ex_iconst (pc := 17) 12 rfl ?_
  refine ex_invV (pc := 18) (M' := mX0_number) (As := [.inl p2, .inl 2]) (st := []) 13 rfl clk0 rfl rfl calX0_number (Or.inl ww_436) rfl rfl ?_
  refine vm_call.mono h ?_
  rintro m5 _ ⟨r6, rfl, h⟩
  refine ex_istore (pc := 21) 14 rfl rfl rfl ?_
  refine ex_aload_n (pc := 23) 15 rfl rfl ?_
  refine ex_iload_n (pc := 24) 16 rfl rfl ?_
  refine ex_iconst (pc := 25) 17 rfl ?_
  refine ex_invV (pc := 26) (M' := mX0_number) (As := [.inl p2, .inl 3]) (st := []) 18 rfl clk0 rfl rfl calX0_number (Or.inl ww_436) rfl rfl ?_
  refine vm_call.mono h ?_
  rintro m7 _ ⟨r8, rfl, h⟩
  refine ex_istore (pc := 29) 19 rfl rfl rfl ?_
  refine ex_iload_n (pc := 31) 20 rfl rfl ?_
  refine ex_bipush (pc := 32) 21 rfl (by decide) ?_
  obtain ⟨hs9, h⟩ := h
  refine ex_icmp_ne (pc := 34) 65 22 rfl (by decide) hs9 ⟨by decide, by decide⟩ (fun hb => ?_) (fun hb => ?_)
  · have h := h.1 hb
    refine ex_iconst (pc := 65) 39 rfl ?_
    refine ex_istore (pc := 66) 40 rfl rfl rfl ?_
    exact h
  · have h := h.2 hb
    refine ex_iload (pc := 37) 23 rfl rfl ?_
    refine ex_aload_n (pc := 39) 24 rfl rfl ?_
    refine ex_iload_n (pc := 40) 25 rfl rfl ?_
    refine ex_iconst (pc := 41) 26 rfl ?_
    refine ex_invV (pc := 42) (M' := mX0_number) (As := [.inl p2, .inl 4]) (st := [.inl r6]) 27 rfl clk0 rfl rfl calX0_number (Or.inl ww_436) rfl rfl ?_
    refine vm_call.mono h ?_
    rintro m10 _ ⟨r11, rfl, h⟩
    obtain ⟨hs12, h⟩ := h
    obtain ⟨hs13, h⟩ := h
    refine ex_icmp_ne (pc := 45) 65 28 rfl (by decide) hs12 hs13 (fun hb => ?_) (fun hb => ?_)
    · have h := h.1 hb
      refine ex_iconst (pc := 65) 39 rfl ?_
      refine ex_istore (pc := 66) 40 rfl rfl rfl ?_
      exact h
    · have h := h.2 hb
      refine ex_aload_n (pc := 48) 29 rfl rfl ?_
      refine ex_iload (pc := 49) 30 rfl rfl ?_
      refine ex_iload (pc := 51) 31 rfl rfl ?_
      refine ex_iload (pc := 53) 32 rfl rfl ?_
      refine ex_aload_n (pc := 55) 33 rfl rfl ?_
      refine ex_iload_n (pc := 56) 34 rfl rfl ?_
      refine ex_iconst (pc := 57) 35 rfl ?_
      refine ex_invV (pc := 58) (M' := mX0_number) (As := [.inl p2, .inl 5]) (st := [.inl r4, .inl r8, .inl r6, .inr (.inr 7)]) 36 rfl clk0 rfl rfl calX0_number (Or.inl ww_436) rfl rfl ?_
      refine vm_call.mono h ?_
      rintro m14 _ ⟨r15, rfl, h⟩
      refine ex_ineg (pc := 61) 37 rfl ?_
      refine ex_invV (pc := 62) (M' := mX1_narrow) (As := [.inl r6, .inl r8, .inl r4, .inl (-r15)]) (st := []) 38 rfl clk1 rfl rfl calX1_narrow (Or.inl ww_437) rfl rfl ?_
      refine vm_call.mono h ?_
      rintro m16 _ ⟨rfl, h⟩
      refine ex_iconst (pc := 65) 39 rfl ?_
      refine ex_istore (pc := 66) 40 rfl rfl rfl ?_
      exact h
set_option maxRecDepth 20000 in
theorem qX1_apply_68 {G : vm_G} {d : Nat} {v2 : Int} {v3 : Int} {v4 : Int} {v5 : Int} {v6 : Int} {v7 : Int} {mem : vm_M} {Q : vm_M → Prop} (h : (vm_R v7) ∧ ((3 ≤ v7 → Q mem) ∧ (¬ 3 ≤ v7 → (vm_R v3) ∧ ((v3 = 5 → vm_cn G d mX1_narrow [.inr (.inr 7), .inl v7, .inl v4, .inl v5, .inl 0] mem (fun m3 => ((¬ v3 = 4 → ((v3 = 2 → vm_cn G d mX1_narrow [.inr (.inr 7), .inl v7, .inl v5, .inl v4, .inl 0] m3 (fun m5 => vm_cn G d mX1_narrow [.inr (.inr 7), .inl v7, .inl v6, .inl v4, .inl 0] m5 (fun m7 => vm_ex G (d + 1) mX1_apply 146 [some (.inr (.inr 7)), some (.inr (.inr 1)), some (.inl v2), some (.inl v3), some (.inl v4), some (.inl v5), some (.inl v6), some (.inl v7), some (.inl 0)] [] m7 (vm_qn Q)))) ∧ (¬ v3 = 2 → ((¬ v3 = 3 → vm_ex G (d + 1) mX1_apply 146 [some (.inr (.inr 7)), some (.inr (.inr 1)), some (.inl v2), some (.inl v3), some (.inl v4), some (.inl v5), some (.inl v6), some (.inl v7), some (.inl 0)] [] m3 (vm_qn Q)) ∧ (v3 = 3 → vm_cn G d mX1_narrow [.inr (.inr 7), .inl v7, .inl v5, .inl v4, .inl 0] m3 (fun m9 => vm_cn G d mX1_narrow [.inr (.inr 7), .inl v7, .inl v6, .inl v4, .inl 0] m9 (fun m11 => vm_ex G (d + 1) mX1_apply 146 [some (.inr (.inr 7)), some (.inr (.inr 1)), some (.inl v2), some (.inl v3), some (.inl v4), some (.inl v5), some (.inl v6), some (.inl v7), some (.inl 0)] [] m11 (vm_qn Q)))))))) ∧ (v3 = 4 → vm_cn G d mX1_narrow [.inr (.inr 7), .inl v7, .inl v4, .inl v6, .inl 0] m3 (fun m13 => ((v3 = 2 → vm_cn G d mX1_narrow [.inr (.inr 7), .inl v7, .inl v5, .inl v4, .inl 0] m13 (fun m15 => vm_cn G d mX1_narrow [.inr (.inr 7), .inl v7, .inl v6, .inl v4, .inl 0] m15 (fun m17 => vm_ex G (d + 1) mX1_apply 146 [some (.inr (.inr 7)), some (.inr (.inr 1)), some (.inl v2), some (.inl v3), some (.inl v4), some (.inl v5), some (.inl v6), some (.inl v7), some (.inl 0)] [] m17 (vm_qn Q)))) ∧ (¬ v3 = 2 → ((¬ v3 = 3 → vm_ex G (d + 1) mX1_apply 146 [some (.inr (.inr 7)), some (.inr (.inr 1)), some (.inl v2), some (.inl v3), some (.inl v4), some (.inl v5), some (.inl v6), some (.inl v7), some (.inl 0)] [] m13 (vm_qn Q)) ∧ (v3 = 3 → vm_cn G d mX1_narrow [.inr (.inr 7), .inl v7, .inl v5, .inl v4, .inl 0] m13 (fun m19 => vm_cn G d mX1_narrow [.inr (.inr 7), .inl v7, .inl v6, .inl v4, .inl 0] m19 (fun m21 => vm_ex G (d + 1) mX1_apply 146 [some (.inr (.inr 7)), some (.inr (.inr 1)), some (.inl v2), some (.inl v3), some (.inl v4), some (.inl v5), some (.inl v6), some (.inl v7), some (.inl 0)] [] m21 (vm_qn Q)))))))))))) ∧ (¬ v3 = 5 → ((¬ v3 = 4 → ((¬ v3 = 4 → ((v3 = 2 → vm_cn G d mX1_narrow [.inr (.inr 7), .inl v7, .inl v5, .inl v4, .inl 0] mem (fun m23 => vm_cn G d mX1_narrow [.inr (.inr 7), .inl v7, .inl v6, .inl v4, .inl 0] m23 (fun m25 => vm_ex G (d + 1) mX1_apply 146 [some (.inr (.inr 7)), some (.inr (.inr 1)), some (.inl v2), some (.inl v3), some (.inl v4), some (.inl v5), some (.inl v6), some (.inl v7), some (.inl 0)] [] m25 (vm_qn Q)))) ∧ (¬ v3 = 2 → ((¬ v3 = 3 → vm_ex G (d + 1) mX1_apply 146 [some (.inr (.inr 7)), some (.inr (.inr 1)), some (.inl v2), some (.inl v3), some (.inl v4), some (.inl v5), some (.inl v6), some (.inl v7), some (.inl 0)] [] mem (vm_qn Q)) ∧ (v3 = 3 → vm_cn G d mX1_narrow [.inr (.inr 7), .inl v7, .inl v5, .inl v4, .inl 0] mem (fun m27 => vm_cn G d mX1_narrow [.inr (.inr 7), .inl v7, .inl v6, .inl v4, .inl 0] m27 (fun m29 => vm_ex G (d + 1) mX1_apply 146 [some (.inr (.inr 7)), some (.inr (.inr 1)), some (.inl v2), some (.inl v3), some (.inl v4), some (.inl v5), some (.inl v6), some (.inl v7), some (.inl 0)] [] m29 (vm_qn Q)))))))) ∧ (v3 = 4 → vm_cn G d mX1_narrow [.inr (.inr 7), .inl v7, .inl v4, .inl v6, .inl 0] mem (fun m31 => ((v3 = 2 → vm_cn G d mX1_narrow [.inr (.inr 7), .inl v7, .inl v5, .inl v4, .inl 0] m31 (fun m33 => vm_cn G d mX1_narrow [.inr (.inr 7), .inl v7, .inl v6, .inl v4, .inl 0] m33 (fun m35 => vm_ex G (d + 1) mX1_apply 146 [some (.inr (.inr 7)), some (.inr (.inr 1)), some (.inl v2), some (.inl v3), some (.inl v4), some (.inl v5), some (.inl v6), some (.inl v7), some (.inl 0)] [] m35 (vm_qn Q)))) ∧ (¬ v3 = 2 → ((¬ v3 = 3 → vm_ex G (d + 1) mX1_apply 146 [some (.inr (.inr 7)), some (.inr (.inr 1)), some (.inl v2), some (.inl v3), some (.inl v4), some (.inl v5), some (.inl v6), some (.inl v7), some (.inl 0)] [] m31 (vm_qn Q)) ∧ (v3 = 3 → vm_cn G d mX1_narrow [.inr (.inr 7), .inl v7, .inl v5, .inl v4, .inl 0] m31 (fun m37 => vm_cn G d mX1_narrow [.inr (.inr 7), .inl v7, .inl v6, .inl v4, .inl 0] m37 (fun m39 => vm_ex G (d + 1) mX1_apply 146 [some (.inr (.inr 7)), some (.inr (.inr 1)), some (.inl v2), some (.inl v3), some (.inl v4), some (.inl v5), some (.inl v6), some (.inl v7), some (.inl 0)] [] m39 (vm_qn Q))))))))))) ∧ (v3 = 4 → vm_cn G d mX1_narrow [.inr (.inr 7), .inl v7, .inl v4, .inl v5, .inl 0] mem (fun m41 => ((¬ v3 = 4 → ((v3 = 2 → vm_cn G d mX1_narrow [.inr (.inr 7), .inl v7, .inl v5, .inl v4, .inl 0] m41 (fun m43 => vm_cn G d mX1_narrow [.inr (.inr 7), .inl v7, .inl v6, .inl v4, .inl 0] m43 (fun m45 => vm_ex G (d + 1) mX1_apply 146 [some (.inr (.inr 7)), some (.inr (.inr 1)), some (.inl v2), some (.inl v3), some (.inl v4), some (.inl v5), some (.inl v6), some (.inl v7), some (.inl 0)] [] m45 (vm_qn Q)))) ∧ (¬ v3 = 2 → ((¬ v3 = 3 → vm_ex G (d + 1) mX1_apply 146 [some (.inr (.inr 7)), some (.inr (.inr 1)), some (.inl v2), some (.inl v3), some (.inl v4), some (.inl v5), some (.inl v6), some (.inl v7), some (.inl 0)] [] m41 (vm_qn Q)) ∧ (v3 = 3 → vm_cn G d mX1_narrow [.inr (.inr 7), .inl v7, .inl v5, .inl v4, .inl 0] m41 (fun m47 => vm_cn G d mX1_narrow [.inr (.inr 7), .inl v7, .inl v6, .inl v4, .inl 0] m47 (fun m49 => vm_ex G (d + 1) mX1_apply 146 [some (.inr (.inr 7)), some (.inr (.inr 1)), some (.inl v2), some (.inl v3), some (.inl v4), some (.inl v5), some (.inl v6), some (.inl v7), some (.inl 0)] [] m49 (vm_qn Q)))))))) ∧ (v3 = 4 → vm_cn G d mX1_narrow [.inr (.inr 7), .inl v7, .inl v4, .inl v6, .inl 0] m41 (fun m51 => ((v3 = 2 → vm_cn G d mX1_narrow [.inr (.inr 7), .inl v7, .inl v5, .inl v4, .inl 0] m51 (fun m53 => vm_cn G d mX1_narrow [.inr (.inr 7), .inl v7, .inl v6, .inl v4, .inl 0] m53 (fun m55 => vm_ex G (d + 1) mX1_apply 146 [some (.inr (.inr 7)), some (.inr (.inr 1)), some (.inl v2), some (.inl v3), some (.inl v4), some (.inl v5), some (.inl v6), some (.inl v7), some (.inl 0)] [] m55 (vm_qn Q)))) ∧ (¬ v3 = 2 → ((¬ v3 = 3 → vm_ex G (d + 1) mX1_apply 146 [some (.inr (.inr 7)), some (.inr (.inr 1)), some (.inl v2), some (.inl v3), some (.inl v4), some (.inl v5), some (.inl v6), some (.inl v7), some (.inl 0)] [] m51 (vm_qn Q)) ∧ (v3 = 3 → vm_cn G d mX1_narrow [.inr (.inr 7), .inl v7, .inl v5, .inl v4, .inl 0] m51 (fun m57 => vm_cn G d mX1_narrow [.inr (.inr 7), .inl v7, .inl v6, .inl v4, .inl 0] m57 (fun m59 => vm_ex G (d + 1) mX1_apply 146 [some (.inr (.inr 7)), some (.inr (.inr 1)), some (.inl v2), some (.inl v3), some (.inl v4), some (.inl v5), some (.inl v6), some (.inl v7), some (.inl 0)] [] m59 (vm_qn Q)))))))))))))))))) : vm_ex G (d + 1) mX1_apply 68 [some (.inr (.inr 7)), some (.inr (.inr 1)), some (.inl v2), some (.inl v3), some (.inl v4), some (.inl v5), some (.inl v6), some (.inl v7), none] [] mem (vm_qn Q) := by
  refine ex_iload (pc := 68) 41 rfl rfl ?_
  refine ex_iconst (pc := 70) 42 rfl ?_
  obtain ⟨hs1, h⟩ := h
  refine ex_icmp_ge (pc := 71) 243 43 rfl (by decide) hs1 ⟨by decide, by decide⟩ (fun hb => ?_) (fun hb => ?_)
  · have h := h.1 hb
    exact ex_ret (pc := 243) 131 rfl rfl ⟨rfl, h⟩
  · have h := h.2 hb
    refine ex_iload_n (pc := 74) 44 rfl rfl ?_
    refine ex_iconst (pc := 75) 45 rfl ?_
    obtain ⟨hs2, h⟩ := h
    refine ex_icmp_eq (pc := 76) 84 46 rfl (by decide) hs2 ⟨by decide, by decide⟩ (fun hb => ?_) (fun hb => ?_)
    · have h := h.1 hb
      refine ex_aload_n (pc := 84) 50 rfl rfl ?_
      refine ex_iload (pc := 85) 51 rfl rfl ?_
      refine ex_iload (pc := 87) 52 rfl rfl ?_
      refine ex_iload (pc := 89) 53 rfl rfl ?_
      refine ex_iconst (pc := 91) 54 rfl ?_
      refine ex_invV (pc := 92) (M' := mX1_narrow) (As := [.inl v7, .inl v4, .inl v5, .inl 0]) (st := []) 55 rfl clk1 rfl rfl calX1_narrow (Or.inl ww_437) rfl rfl ?_
      refine vm_call.mono h ?_
      rintro m3 _ ⟨rfl, h⟩
      refine ex_iload_n (pc := 95) 56 rfl rfl ?_
      refine ex_iconst (pc := 96) 57 rfl ?_
      refine ex_icmp_ne (pc := 97) 111 58 rfl (by decide) hs2 ⟨by decide, by decide⟩ (fun hb => ?_) (fun hb => ?_)
      · have h := h.1 hb
        refine ex_iload_n (pc := 111) 65 rfl rfl ?_
        refine ex_iconst (pc := 112) 66 rfl ?_
        refine ex_icmp_eq (pc := 113) 121 67 rfl (by decide) hs2 ⟨by decide, by decide⟩ (fun hb => ?_) (fun hb => ?_)
        · have h := h.1 hb
          refine ex_aload_n (pc := 121) 71 rfl rfl ?_
          refine ex_iload (pc := 122) 72 rfl rfl ?_
          refine ex_iload (pc := 124) 73 rfl rfl ?_
          refine ex_iload (pc := 126) 74 rfl rfl ?_
          refine ex_iconst (pc := 128) 75 rfl ?_
          refine ex_invV (pc := 129) (M' := mX1_narrow) (As := [.inl v7, .inl v5, .inl v4, .inl 0]) (st := []) 76 rfl clk1 rfl rfl calX1_narrow (Or.inl ww_437) rfl rfl ?_
          refine vm_call.mono h ?_
          rintro m5 _ ⟨rfl, h⟩
          refine ex_aload_n (pc := 132) 77 rfl rfl ?_
          refine ex_iload (pc := 133) 78 rfl rfl ?_
          refine ex_iload (pc := 135) 79 rfl rfl ?_
          refine ex_iload (pc := 137) 80 rfl rfl ?_
          refine ex_iconst (pc := 139) 81 rfl ?_
          refine ex_invV (pc := 140) (M' := mX1_narrow) (As := [.inl v7, .inl v6, .inl v4, .inl 0]) (st := []) 82 rfl clk1 rfl rfl calX1_narrow (Or.inl ww_437) rfl rfl ?_
          refine vm_call.mono h ?_
          rintro m7 _ ⟨rfl, h⟩
          refine ex_iconst (pc := 143) 83 rfl ?_
          refine ex_istore (pc := 144) 84 rfl rfl rfl ?_
          exact h
        · have h := h.2 hb
          refine ex_iload_n (pc := 116) 68 rfl rfl ?_
          refine ex_iconst (pc := 117) 69 rfl ?_
          refine ex_icmp_ne (pc := 118) 143 70 rfl (by decide) hs2 ⟨by decide, by decide⟩ (fun hb => ?_) (fun hb => ?_)
          · have h := h.1 hb
            refine ex_iconst (pc := 143) 83 rfl ?_
            refine ex_istore (pc := 144) 84 rfl rfl rfl ?_
            exact h
          · have h := h.2 hb
            refine ex_aload_n (pc := 121) 71 rfl rfl ?_
            refine ex_iload (pc := 122) 72 rfl rfl ?_
            refine ex_iload (pc := 124) 73 rfl rfl ?_
            refine ex_iload (pc := 126) 74 rfl rfl ?_
            refine ex_iconst (pc := 128) 75 rfl ?_
            refine ex_invV (pc := 129) (M' := mX1_narrow) (As := [.inl v7, .inl v5, .inl v4, .inl 0]) (st := []) 76 rfl clk1 rfl rfl calX1_narrow (Or.inl ww_437) rfl rfl ?_
            refine vm_call.mono h ?_
            rintro m9 _ ⟨rfl, h⟩
            refine ex_aload_n (pc := 132) 77 rfl rfl ?_
            refine ex_iload (pc := 133) 78 rfl rfl ?_
            refine ex_iload (pc := 135) 79 rfl rfl ?_
            refine ex_iload (pc := 137) 80 rfl rfl ?_
            refine ex_iconst (pc := 139) 81 rfl ?_
            refine ex_invV (pc := 140) (M' := mX1_narrow) (As := [.inl v7, .inl v6, .inl v4, .inl 0]) (st := []) 82 rfl clk1 rfl rfl calX1_narrow (Or.inl ww_437) rfl rfl ?_
            refine vm_call.mono h ?_
            rintro m11 _ ⟨rfl, h⟩
            refine ex_iconst (pc := 143) 83 rfl ?_
            refine ex_istore (pc := 144) 84 rfl rfl rfl ?_
            exact h
      · have h := h.2 hb
        refine ex_aload_n (pc := 100) 59 rfl rfl ?_
        refine ex_iload (pc := 101) 60 rfl rfl ?_
        refine ex_iload (pc := 103) 61 rfl rfl ?_
        refine ex_iload (pc := 105) 62 rfl rfl ?_
        refine ex_iconst (pc := 107) 63 rfl ?_
        refine ex_invV (pc := 108) (M' := mX1_narrow) (As := [.inl v7, .inl v4, .inl v6, .inl 0]) (st := []) 64 rfl clk1 rfl rfl calX1_narrow (Or.inl ww_437) rfl rfl ?_
        refine vm_call.mono h ?_
        rintro m13 _ ⟨rfl, h⟩
        refine ex_iload_n (pc := 111) 65 rfl rfl ?_
        refine ex_iconst (pc := 112) 66 rfl ?_
        refine ex_icmp_eq (pc := 113) 121 67 rfl (by decide) hs2 ⟨by decide, by decide⟩ (fun hb => ?_) (fun hb => ?_)
        · have h := h.1 hb
          refine ex_aload_n (pc := 121) 71 rfl rfl ?_
          refine ex_iload (pc := 122) 72 rfl rfl ?_
          refine ex_iload (pc := 124) 73 rfl rfl ?_
          refine ex_iload (pc := 126) 74 rfl rfl ?_
          refine ex_iconst (pc := 128) 75 rfl ?_
          refine ex_invV (pc := 129) (M' := mX1_narrow) (As := [.inl v7, .inl v5, .inl v4, .inl 0]) (st := []) 76 rfl clk1 rfl rfl calX1_narrow (Or.inl ww_437) rfl rfl ?_
          refine vm_call.mono h ?_
          rintro m15 _ ⟨rfl, h⟩
          refine ex_aload_n (pc := 132) 77 rfl rfl ?_
          refine ex_iload (pc := 133) 78 rfl rfl ?_
          refine ex_iload (pc := 135) 79 rfl rfl ?_
          refine ex_iload (pc := 137) 80 rfl rfl ?_
          refine ex_iconst (pc := 139) 81 rfl ?_
          refine ex_invV (pc := 140) (M' := mX1_narrow) (As := [.inl v7, .inl v6, .inl v4, .inl 0]) (st := []) 82 rfl clk1 rfl rfl calX1_narrow (Or.inl ww_437) rfl rfl ?_
          refine vm_call.mono h ?_
          rintro m17 _ ⟨rfl, h⟩
          refine ex_iconst (pc := 143) 83 rfl ?_
          refine ex_istore (pc := 144) 84 rfl rfl rfl ?_
          exact h
        · have h := h.2 hb
          refine ex_iload_n (pc := 116) 68 rfl rfl ?_
          refine ex_iconst (pc := 117) 69 rfl ?_
          refine ex_icmp_ne (pc := 118) 143 70 rfl (by decide) hs2 ⟨by decide, by decide⟩ (fun hb => ?_) (fun hb => ?_)
          · have h := h.1 hb
            refine ex_iconst (pc := 143) 83 rfl ?_
            refine ex_istore (pc := 144) 84 rfl rfl rfl ?_
            exact h
          · have h := h.2 hb
            refine ex_aload_n (pc := 121) 71 rfl rfl ?_
            refine ex_iload (pc := 122) 72 rfl rfl ?_
            refine ex_iload (pc := 124) 73 rfl rfl ?_
            refine ex_iload (pc := 126) 74 rfl rfl ?_
            refine ex_iconst (pc := 128) 75 rfl ?_
            refine ex_invV (pc := 129) (M' := mX1_narrow) (As := [.inl v7, .inl v5, .inl v4, .inl 0]) (st := []) 76 rfl clk1 rfl rfl calX1_narrow (Or.inl ww_437) rfl rfl ?_
            refine vm_call.mono h ?_
            rintro m19 _ ⟨rfl, h⟩
            refine ex_aload_n (pc := 132) 77 rfl rfl ?_
            refine ex_iload (pc := 133) 78 rfl rfl ?_
            refine ex_iload (pc := 135) 79 rfl rfl ?_
            refine ex_iload (pc := 137) 80 rfl rfl ?_
            refine ex_iconst (pc := 139) 81 rfl ?_
            refine ex_invV (pc := 140) (M' := mX1_narrow) (As := [.inl v7, .inl v6, .inl v4, .inl 0]) (st := []) 82 rfl clk1 rfl rfl calX1_narrow (Or.inl ww_437) rfl rfl ?_
            refine vm_call.mono h ?_
            rintro m21 _ ⟨rfl, h⟩
            refine ex_iconst (pc := 143) 83 rfl ?_
            refine ex_istore (pc := 144) 84 rfl rfl rfl ?_
            exact h
    · have h := h.2 hb
      refine ex_iload_n (pc := 79) 47 rfl rfl ?_
      refine ex_iconst (pc := 80) 48 rfl ?_
      refine ex_icmp_ne (pc := 81) 95 49 rfl (by decide) hs2 ⟨by decide, by decide⟩ (fun hb => ?_) (fun hb => ?_)
      · have h := h.1 hb
        refine ex_iload_n (pc := 95) 56 rfl rfl ?_
        refine ex_iconst (pc := 96) 57 rfl ?_
        refine ex_icmp_ne (pc := 97) 111 58 rfl (by decide) hs2 ⟨by decide, by decide⟩ (fun hb => ?_) (fun hb => ?_)
        · have h := h.1 hb
          refine ex_iload_n (pc := 111) 65 rfl rfl ?_
          refine ex_iconst (pc := 112) 66 rfl ?_
          refine ex_icmp_eq (pc := 113) 121 67 rfl (by decide) hs2 ⟨by decide, by decide⟩ (fun hb => ?_) (fun hb => ?_)
          · have h := h.1 hb
            refine ex_aload_n (pc := 121) 71 rfl rfl ?_
            refine ex_iload (pc := 122) 72 rfl rfl ?_
            refine ex_iload (pc := 124) 73 rfl rfl ?_
            refine ex_iload (pc := 126) 74 rfl rfl ?_
            refine ex_iconst (pc := 128) 75 rfl ?_
            refine ex_invV (pc := 129) (M' := mX1_narrow) (As := [.inl v7, .inl v5, .inl v4, .inl 0]) (st := []) 76 rfl clk1 rfl rfl calX1_narrow (Or.inl ww_437) rfl rfl ?_
            refine vm_call.mono h ?_
            rintro m23 _ ⟨rfl, h⟩
            refine ex_aload_n (pc := 132) 77 rfl rfl ?_
            refine ex_iload (pc := 133) 78 rfl rfl ?_
            refine ex_iload (pc := 135) 79 rfl rfl ?_
            refine ex_iload (pc := 137) 80 rfl rfl ?_
            refine ex_iconst (pc := 139) 81 rfl ?_
            refine ex_invV (pc := 140) (M' := mX1_narrow) (As := [.inl v7, .inl v6, .inl v4, .inl 0]) (st := []) 82 rfl clk1 rfl rfl calX1_narrow (Or.inl ww_437) rfl rfl ?_
            refine vm_call.mono h ?_
            rintro m25 _ ⟨rfl, h⟩
            refine ex_iconst (pc := 143) 83 rfl ?_
            refine ex_istore (pc := 144) 84 rfl rfl rfl ?_
            exact h
          · have h := h.2 hb
            refine ex_iload_n (pc := 116) 68 rfl rfl ?_
            refine ex_iconst (pc := 117) 69 rfl ?_
            refine ex_icmp_ne (pc := 118) 143 70 rfl (by decide) hs2 ⟨by decide, by decide⟩ (fun hb => ?_) (fun hb => ?_)
            · have h := h.1 hb
              refine ex_iconst (pc := 143) 83 rfl ?_
              refine ex_istore (pc := 144) 84 rfl rfl rfl ?_
              exact h
            · have h := h.2 hb
              refine ex_aload_n (pc := 121) 71 rfl rfl ?_
              refine ex_iload (pc := 122) 72 rfl rfl ?_
              refine ex_iload (pc := 124) 73 rfl rfl ?_
              refine ex_iload (pc := 126) 74 rfl rfl ?_
              refine ex_iconst (pc := 128) 75 rfl ?_
              refine ex_invV (pc := 129) (M' := mX1_narrow) (As := [.inl v7, .inl v5, .inl v4, .inl 0]) (st := []) 76 rfl clk1 rfl rfl calX1_narrow (Or.inl ww_437) rfl rfl ?_
              refine vm_call.mono h ?_
              rintro m27 _ ⟨rfl, h⟩
              refine ex_aload_n (pc := 132) 77 rfl rfl ?_
              refine ex_iload (pc := 133) 78 rfl rfl ?_
              refine ex_iload (pc := 135) 79 rfl rfl ?_
              refine ex_iload (pc := 137) 80 rfl rfl ?_
              refine ex_iconst (pc := 139) 81 rfl ?_
              refine ex_invV (pc := 140) (M' := mX1_narrow) (As := [.inl v7, .inl v6, .inl v4, .inl 0]) (st := []) 82 rfl clk1 rfl rfl calX1_narrow (Or.inl ww_437) rfl rfl ?_
              refine vm_call.mono h ?_
              rintro m29 _ ⟨rfl, h⟩
              refine ex_iconst (pc := 143) 83 rfl ?_
              refine ex_istore (pc := 144) 84 rfl rfl rfl ?_
              exact h
        · have h := h.2 hb
          refine ex_aload_n (pc := 100) 59 rfl rfl ?_
          refine ex_iload (pc := 101) 60 rfl rfl ?_
          refine ex_iload (pc := 103) 61 rfl rfl ?_
          refine ex_iload (pc := 105) 62 rfl rfl ?_
          refine ex_iconst (pc := 107) 63 rfl ?_
          refine ex_invV (pc := 108) (M' := mX1_narrow) (As := [.inl v7, .inl v4, .inl v6, .inl 0]) (st := []) 64 rfl clk1 rfl rfl calX1_narrow (Or.inl ww_437) rfl rfl ?_
          refine vm_call.mono h ?_
          rintro m31 _ ⟨rfl, h⟩
          refine ex_iload_n (pc := 111) 65 rfl rfl ?_
          refine ex_iconst (pc := 112) 66 rfl ?_
          refine ex_icmp_eq (pc := 113) 121 67 rfl (by decide) hs2 ⟨by decide, by decide⟩ (fun hb => ?_) (fun hb => ?_)
          · have h := h.1 hb
            refine ex_aload_n (pc := 121) 71 rfl rfl ?_
            refine ex_iload (pc := 122) 72 rfl rfl ?_
            refine ex_iload (pc := 124) 73 rfl rfl ?_
            refine ex_iload (pc := 126) 74 rfl rfl ?_
            refine ex_iconst (pc := 128) 75 rfl ?_
            refine ex_invV (pc := 129) (M' := mX1_narrow) (As := [.inl v7, .inl v5, .inl v4, .inl 0]) (st := []) 76 rfl clk1 rfl rfl calX1_narrow (Or.inl ww_437) rfl rfl ?_
            refine vm_call.mono h ?_
            rintro m33 _ ⟨rfl, h⟩
            refine ex_aload_n (pc := 132) 77 rfl rfl ?_
            refine ex_iload (pc := 133) 78 rfl rfl ?_
            refine ex_iload (pc := 135) 79 rfl rfl ?_
            refine ex_iload (pc := 137) 80 rfl rfl ?_
            refine ex_iconst (pc := 139) 81 rfl ?_
            refine ex_invV (pc := 140) (M' := mX1_narrow) (As := [.inl v7, .inl v6, .inl v4, .inl 0]) (st := []) 82 rfl clk1 rfl rfl calX1_narrow (Or.inl ww_437) rfl rfl ?_
            refine vm_call.mono h ?_
            rintro m35 _ ⟨rfl, h⟩
            refine ex_iconst (pc := 143) 83 rfl ?_
            refine ex_istore (pc := 144) 84 rfl rfl rfl ?_
            exact h
          · have h := h.2 hb
            refine ex_iload_n (pc := 116) 68 rfl rfl ?_
            refine ex_iconst (pc := 117) 69 rfl ?_
            refine ex_icmp_ne (pc := 118) 143 70 rfl (by decide) hs2 ⟨by decide, by decide⟩ (fun hb => ?_) (fun hb => ?_)
            · have h := h.1 hb
              refine ex_iconst (pc := 143) 83 rfl ?_
              refine ex_istore (pc := 144) 84 rfl rfl rfl ?_
              exact h
            · have h := h.2 hb
              refine ex_aload_n (pc := 121) 71 rfl rfl ?_
              refine ex_iload (pc := 122) 72 rfl rfl ?_
              refine ex_iload (pc := 124) 73 rfl rfl ?_
              refine ex_iload (pc := 126) 74 rfl rfl ?_
              refine ex_iconst (pc := 128) 75 rfl ?_
              refine ex_invV (pc := 129) (M' := mX1_narrow) (As := [.inl v7, .inl v5, .inl v4, .inl 0]) (st := []) 76 rfl clk1 rfl rfl calX1_narrow (Or.inl ww_437) rfl rfl ?_
              refine vm_call.mono h ?_
              rintro m37 _ ⟨rfl, h⟩
              refine ex_aload_n (pc := 132) 77 rfl rfl ?_
              refine ex_iload (pc := 133) 78 rfl rfl ?_
              refine ex_iload (pc := 135) 79 rfl rfl ?_
              refine ex_iload (pc := 137) 80 rfl rfl ?_
              refine ex_iconst (pc := 139) 81 rfl ?_
              refine ex_invV (pc := 140) (M' := mX1_narrow) (As := [.inl v7, .inl v6, .inl v4, .inl 0]) (st := []) 82 rfl clk1 rfl rfl calX1_narrow (Or.inl ww_437) rfl rfl ?_
              refine vm_call.mono h ?_
              rintro m39 _ ⟨rfl, h⟩
              refine ex_iconst (pc := 143) 83 rfl ?_
              refine ex_istore (pc := 144) 84 rfl rfl rfl ?_
              exact h
      · have h := h.2 hb
        refine ex_aload_n (pc := 84) 50 rfl rfl ?_
        refine ex_iload (pc := 85) 51 rfl rfl ?_
        refine ex_iload (pc := 87) 52 rfl rfl ?_
        refine ex_iload (pc := 89) 53 rfl rfl ?_
        refine ex_iconst (pc := 91) 54 rfl ?_
        refine ex_invV (pc := 92) (M' := mX1_narrow) (As := [.inl v7, .inl v4, .inl v5, .inl 0]) (st := []) 55 rfl clk1 rfl rfl calX1_narrow (Or.inl ww_437) rfl rfl ?_
        refine vm_call.mono h ?_
        rintro m41 _ ⟨rfl, h⟩
        refine ex_iload_n (pc := 95) 56 rfl rfl ?_
        refine ex_iconst (pc := 96) 57 rfl ?_
        refine ex_icmp_ne (pc := 97) 111 58 rfl (by decide) hs2 ⟨by decide, by decide⟩ (fun hb => ?_) (fun hb => ?_)
        · have h := h.1 hb
          refine ex_iload_n (pc := 111) 65 rfl rfl ?_
          refine ex_iconst (pc := 112) 66 rfl ?_
          refine ex_icmp_eq (pc := 113) 121 67 rfl (by decide) hs2 ⟨by decide, by decide⟩ (fun hb => ?_) (fun hb => ?_)
          · have h := h.1 hb
            refine ex_aload_n (pc := 121) 71 rfl rfl ?_
            refine ex_iload (pc := 122) 72 rfl rfl ?_
            refine ex_iload (pc := 124) 73 rfl rfl ?_
            refine ex_iload (pc := 126) 74 rfl rfl ?_
            refine ex_iconst (pc := 128) 75 rfl ?_
            refine ex_invV (pc := 129) (M' := mX1_narrow) (As := [.inl v7, .inl v5, .inl v4, .inl 0]) (st := []) 76 rfl clk1 rfl rfl calX1_narrow (Or.inl ww_437) rfl rfl ?_
            refine vm_call.mono h ?_
            rintro m43 _ ⟨rfl, h⟩
            refine ex_aload_n (pc := 132) 77 rfl rfl ?_
            refine ex_iload (pc := 133) 78 rfl rfl ?_
            refine ex_iload (pc := 135) 79 rfl rfl ?_
            refine ex_iload (pc := 137) 80 rfl rfl ?_
            refine ex_iconst (pc := 139) 81 rfl ?_
            refine ex_invV (pc := 140) (M' := mX1_narrow) (As := [.inl v7, .inl v6, .inl v4, .inl 0]) (st := []) 82 rfl clk1 rfl rfl calX1_narrow (Or.inl ww_437) rfl rfl ?_
            refine vm_call.mono h ?_
            rintro m45 _ ⟨rfl, h⟩
            refine ex_iconst (pc := 143) 83 rfl ?_
            refine ex_istore (pc := 144) 84 rfl rfl rfl ?_
            exact h
          · have h := h.2 hb
            refine ex_iload_n (pc := 116) 68 rfl rfl ?_
            refine ex_iconst (pc := 117) 69 rfl ?_
            refine ex_icmp_ne (pc := 118) 143 70 rfl (by decide) hs2 ⟨by decide, by decide⟩ (fun hb => ?_) (fun hb => ?_)
            · have h := h.1 hb
              refine ex_iconst (pc := 143) 83 rfl ?_
              refine ex_istore (pc := 144) 84 rfl rfl rfl ?_
              exact h
            · have h := h.2 hb
              refine ex_aload_n (pc := 121) 71 rfl rfl ?_
              refine ex_iload (pc := 122) 72 rfl rfl ?_
              refine ex_iload (pc := 124) 73 rfl rfl ?_
              refine ex_iload (pc := 126) 74 rfl rfl ?_
              refine ex_iconst (pc := 128) 75 rfl ?_
              refine ex_invV (pc := 129) (M' := mX1_narrow) (As := [.inl v7, .inl v5, .inl v4, .inl 0]) (st := []) 76 rfl clk1 rfl rfl calX1_narrow (Or.inl ww_437) rfl rfl ?_
              refine vm_call.mono h ?_
              rintro m47 _ ⟨rfl, h⟩
              refine ex_aload_n (pc := 132) 77 rfl rfl ?_
              refine ex_iload (pc := 133) 78 rfl rfl ?_
              refine ex_iload (pc := 135) 79 rfl rfl ?_
              refine ex_iload (pc := 137) 80 rfl rfl ?_
              refine ex_iconst (pc := 139) 81 rfl ?_
              refine ex_invV (pc := 140) (M' := mX1_narrow) (As := [.inl v7, .inl v6, .inl v4, .inl 0]) (st := []) 82 rfl clk1 rfl rfl calX1_narrow (Or.inl ww_437) rfl rfl ?_
              refine vm_call.mono h ?_
              rintro m49 _ ⟨rfl, h⟩
              refine ex_iconst (pc := 143) 83 rfl ?_
              refine ex_istore (pc := 144) 84 rfl rfl rfl ?_
              exact h
        · have h := h.2 hb
          refine ex_aload_n (pc := 100) 59 rfl rfl ?_
          refine ex_iload (pc := 101) 60 rfl rfl ?_
          refine ex_iload (pc := 103) 61 rfl rfl ?_
          refine ex_iload (pc := 105) 62 rfl rfl ?_
          refine ex_iconst (pc := 107) 63 rfl ?_
          refine ex_invV (pc := 108) (M' := mX1_narrow) (As := [.inl v7, .inl v4, .inl v6, .inl 0]) (st := []) 64 rfl clk1 rfl rfl calX1_narrow (Or.inl ww_437) rfl rfl ?_
          refine vm_call.mono h ?_
          rintro m51 _ ⟨rfl, h⟩
          refine ex_iload_n (pc := 111) 65 rfl rfl ?_
          refine ex_iconst (pc := 112) 66 rfl ?_
          refine ex_icmp_eq (pc := 113) 121 67 rfl (by decide) hs2 ⟨by decide, by decide⟩ (fun hb => ?_) (fun hb => ?_)
          · have h := h.1 hb
            refine ex_aload_n (pc := 121) 71 rfl rfl ?_
            refine ex_iload (pc := 122) 72 rfl rfl ?_
            refine ex_iload (pc := 124) 73 rfl rfl ?_
            refine ex_iload (pc := 126) 74 rfl rfl ?_
            refine ex_iconst (pc := 128) 75 rfl ?_
            refine ex_invV (pc := 129) (M' := mX1_narrow) (As := [.inl v7, .inl v5, .inl v4, .inl 0]) (st := []) 76 rfl clk1 rfl rfl calX1_narrow (Or.inl ww_437) rfl rfl ?_
            refine vm_call.mono h ?_
            rintro m53 _ ⟨rfl, h⟩
            refine ex_aload_n (pc := 132) 77 rfl rfl ?_
            refine ex_iload (pc := 133) 78 rfl rfl ?_
            refine ex_iload (pc := 135) 79 rfl rfl ?_
            refine ex_iload (pc := 137) 80 rfl rfl ?_
            refine ex_iconst (pc := 139) 81 rfl ?_
            refine ex_invV (pc := 140) (M' := mX1_narrow) (As := [.inl v7, .inl v6, .inl v4, .inl 0]) (st := []) 82 rfl clk1 rfl rfl calX1_narrow (Or.inl ww_437) rfl rfl ?_
            refine vm_call.mono h ?_
            rintro m55 _ ⟨rfl, h⟩
            refine ex_iconst (pc := 143) 83 rfl ?_
            refine ex_istore (pc := 144) 84 rfl rfl rfl ?_
            exact h
          · have h := h.2 hb
            refine ex_iload_n (pc := 116) 68 rfl rfl ?_
            refine ex_iconst (pc := 117) 69 rfl ?_
            refine ex_icmp_ne (pc := 118) 143 70 rfl (by decide) hs2 ⟨by decide, by decide⟩ (fun hb => ?_) (fun hb => ?_)
            · have h := h.1 hb
              refine ex_iconst (pc := 143) 83 rfl ?_
              refine ex_istore (pc := 144) 84 rfl rfl rfl ?_
              exact h
            · have h := h.2 hb
              refine ex_aload_n (pc := 121) 71 rfl rfl ?_
              refine ex_iload (pc := 122) 72 rfl rfl ?_
              refine ex_iload (pc := 124) 73 rfl rfl ?_
              refine ex_iload (pc := 126) 74 rfl rfl ?_
              refine ex_iconst (pc := 128) 75 rfl ?_
              refine ex_invV (pc := 129) (M' := mX1_narrow) (As := [.inl v7, .inl v5, .inl v4, .inl 0]) (st := []) 76 rfl clk1 rfl rfl calX1_narrow (Or.inl ww_437) rfl rfl ?_
              refine vm_call.mono h ?_
              rintro m57 _ ⟨rfl, h⟩
              refine ex_aload_n (pc := 132) 77 rfl rfl ?_
              refine ex_iload (pc := 133) 78 rfl rfl ?_
              refine ex_iload (pc := 135) 79 rfl rfl ?_
              refine ex_iload (pc := 137) 80 rfl rfl ?_
              refine ex_iconst (pc := 139) 81 rfl ?_
              refine ex_invV (pc := 140) (M' := mX1_narrow) (As := [.inl v7, .inl v6, .inl v4, .inl 0]) (st := []) 82 rfl clk1 rfl rfl calX1_narrow (Or.inl ww_437) rfl rfl ?_
              refine vm_call.mono h ?_
              rintro m59 _ ⟨rfl, h⟩
              refine ex_iconst (pc := 143) 83 rfl ?_
              refine ex_istore (pc := 144) 84 rfl rfl rfl ?_
              exact h
set_option maxRecDepth 20000 in
theorem qX1_apply_146 {G : vm_G} {d : Nat} {v2 : Int} {v3 : Int} {v4 : Int} {v5 : Int} {v6 : Int} {v7 : Int} {v8 : Int} {mem : vm_M} {Q : vm_M → Prop} (h : (vm_R v8) ∧ ((4 ≤ v8 → vm_ex G (d + 1) mX1_apply 68 [some (.inr (.inr 7)), some (.inr (.inr 1)), some (.inl v2), some (.inl v3), some (.inl v4), some (.inl v5), some (.inl v6), some (.inl (v7 + 1)), none] [] mem (vm_qn Q)) ∧ (¬ 4 ≤ v8 → (vm_R v3) ∧ ((¬ v3 = 3 → ((¬ v3 = 4 → vm_ex G (d + 1) mX1_apply 146 [some (.inr (.inr 7)), some (.inr (.inr 1)), some (.inl v2), some (.inl v3), some (.inl v4), some (.inl v5), some (.inl v6), some (.inl v7), some (.inl (v8 + 1))] [] mem (vm_qn Q)) ∧ (v3 = 4 → vm_ci G d mX1_of [.inr (.inr 7), .inl v7, .inl v8, .inl v5] mem (fun m3 r4 => vm_ci G d mX1_of [.inr (.inr 7), .inl v7, .inl v8, .inl v6] m3 (fun m5 r6 => (vm_R r4) ∧ (vm_R r6) ∧ vm_cn G d mX1_narrow [.inr (.inr 7), .inl v7, .inl v8, .inl v4, .inl (if r4 < r6 then r6 else r4)] m5 (fun m9 => vm_ex G (d + 1) mX1_apply 146 [some (.inr (.inr 7)), some (.inr (.inr 1)), some (.inl v2), some (.inl v3), some (.inl v4), some (.inl v5), some (.inl v6), some (.inl v7), some (.inl (v8 + 1))] [] m9 (vm_qn Q))))))) ∧ (v3 = 3 → vm_ci G d mX1_of [.inr (.inr 7), .inl v7, .inl v5, .inl v8] mem (fun m11 r12 => vm_ci G d mX1_of [.inr (.inr 7), .inl v7, .inl v6, .inl v8] m11 (fun m13 r14 => (vm_R r12) ∧ (vm_R r14) ∧ vm_cn G d mX1_narrow [.inr (.inr 7), .inl v7, .inl v4, .inl v8, .inl (if r12 < r14 then r14 else r12)] m13 (fun m17 => vm_ex G (d + 1) mX1_apply 146 [some (.inr (.inr 7)), some (.inr (.inr 1)), some (.inl v2), some (.inl v3), some (.inl v4), some (.inl v5), some (.inl v6), some (.inl v7), some (.inl (v8 + 1))] [] m17 (vm_qn Q))))))))) : vm_ex G (d + 1) mX1_apply 146 [some (.inr (.inr 7)), some (.inr (.inr 1)), some (.inl v2), some (.inl v3), some (.inl v4), some (.inl v5), some (.inl v6), some (.inl v7), some (.inl v8)] [] mem (vm_qn Q) := by
  refine ex_iload (pc := 146) 85 rfl rfl ?_
  refine ex_iconst (pc := 148) 86 rfl ?_
  obtain ⟨hs1, h⟩ := h
  refine ex_icmp_ge (pc := 149) 237 87 rfl (by decide) hs1 ⟨by decide, by decide⟩ (fun hb => ?_) (fun hb => ?_)
  · have h := h.1 hb
    refine ex_iinc (pc := 237) 129 rfl rfl rfl rfl ?_
    refine ex_goto (pc := 240) 68 130 rfl (by decide) ?_
    exact ex_less [some (.inr (.inr 7)), some (.inr (.inr 1)), some (.inl v2), some (.inl v3), some (.inl v4), some (.inl v5), some (.inl v6), some (.inl (v7 + 1)), none] (And.intro rfl (And.intro rfl (And.intro rfl (And.intro rfl (And.intro rfl (And.intro rfl (And.intro rfl (And.intro rfl (True.intro))))))))) h
  · have h := h.2 hb
    refine ex_iload_n (pc := 152) 88 rfl rfl ?_
    refine ex_iconst (pc := 153) 89 rfl ?_
    obtain ⟨hs2, h⟩ := h
    refine ex_icmp_ne (pc := 154) 193 90 rfl (by decide) hs2 ⟨by decide, by decide⟩ (fun hb => ?_) (fun hb => ?_)
    · have h := h.1 hb
      refine ex_iload_n (pc := 193) 108 rfl rfl ?_
      refine ex_iconst (pc := 194) 109 rfl ?_
      refine ex_icmp_ne (pc := 195) 231 110 rfl (by decide) hs2 ⟨by decide, by decide⟩ (fun hb => ?_) (fun hb => ?_)
      · have h := h.1 hb
        refine ex_iinc (pc := 231) 127 rfl rfl rfl rfl ?_
        refine ex_goto (pc := 234) 146 128 rfl (by decide) ?_
        exact h
      · have h := h.2 hb
        refine ex_aload_n (pc := 198) 111 rfl rfl ?_
        refine ex_iload (pc := 199) 112 rfl rfl ?_
        refine ex_iload (pc := 201) 113 rfl rfl ?_
        refine ex_iload (pc := 203) 114 rfl rfl ?_
        refine ex_aload_n (pc := 205) 115 rfl rfl ?_
        refine ex_iload (pc := 206) 116 rfl rfl ?_
        refine ex_iload (pc := 208) 117 rfl rfl ?_
        refine ex_iload (pc := 210) 118 rfl rfl ?_
        refine ex_invV (pc := 212) (M' := mX1_of) (As := [.inl v7, .inl v8, .inl v5]) (st := [.inl v4, .inl v8, .inl v7, .inr (.inr 7)]) 119 rfl clk1 rfl rfl calX1_of (Or.inl ww_441) rfl rfl ?_
        refine vm_call.mono h ?_
        rintro m3 _ ⟨r4, rfl, h⟩
        refine ex_aload_n (pc := 215) 120 rfl rfl ?_
        refine ex_iload (pc := 216) 121 rfl rfl ?_
        refine ex_iload (pc := 218) 122 rfl rfl ?_
        refine ex_iload (pc := 220) 123 rfl rfl ?_
        refine ex_invV (pc := 222) (M' := mX1_of) (As := [.inl v7, .inl v8, .inl v6]) (st := [.inl r4, .inl v4, .inl v8, .inl v7, .inr (.inr 7)]) 124 rfl clk1 rfl rfl calX1_of (Or.inl ww_441) rfl rfl ?_
        refine vm_call.mono h ?_
        rintro m5 _ ⟨r6, rfl, h⟩
        obtain ⟨hs7, h⟩ := h
        obtain ⟨hs8, h⟩ := h
        refine ex_mmax (pc := 225) 125 rfl ww_445 ww_446 ww_99 ww_447 hs7 hs8 rfl ?_
        refine ex_invV (pc := 228) (M' := mX1_narrow) (As := [.inl v7, .inl v8, .inl v4, .inl (if r4 < r6 then r6 else r4)]) (st := []) 126 rfl clk1 rfl rfl calX1_narrow (Or.inl ww_437) rfl rfl ?_
        refine vm_call.mono h ?_
        rintro m9 _ ⟨rfl, h⟩
        refine ex_iinc (pc := 231) 127 rfl rfl rfl rfl ?_
        refine ex_goto (pc := 234) 146 128 rfl (by decide) ?_
        exact h
    · have h := h.2 hb
      refine ex_aload_n (pc := 157) 91 rfl rfl ?_
      refine ex_iload (pc := 158) 92 rfl rfl ?_
      refine ex_iload (pc := 160) 93 rfl rfl ?_
      refine ex_iload (pc := 162) 94 rfl rfl ?_
      refine ex_aload_n (pc := 164) 95 rfl rfl ?_
      refine ex_iload (pc := 165) 96 rfl rfl ?_
      refine ex_iload (pc := 167) 97 rfl rfl ?_
      refine ex_iload (pc := 169) 98 rfl rfl ?_
      refine ex_invV (pc := 171) (M' := mX1_of) (As := [.inl v7, .inl v5, .inl v8]) (st := [.inl v8, .inl v4, .inl v7, .inr (.inr 7)]) 99 rfl clk1 rfl rfl calX1_of (Or.inl ww_441) rfl rfl ?_
      refine vm_call.mono h ?_
      rintro m11 _ ⟨r12, rfl, h⟩
      refine ex_aload_n (pc := 174) 100 rfl rfl ?_
      refine ex_iload (pc := 175) 101 rfl rfl ?_
      refine ex_iload (pc := 177) 102 rfl rfl ?_
      refine ex_iload (pc := 179) 103 rfl rfl ?_
      refine ex_invV (pc := 181) (M' := mX1_of) (As := [.inl v7, .inl v6, .inl v8]) (st := [.inl r12, .inl v8, .inl v4, .inl v7, .inr (.inr 7)]) 104 rfl clk1 rfl rfl calX1_of (Or.inl ww_441) rfl rfl ?_
      refine vm_call.mono h ?_
      rintro m13 _ ⟨r14, rfl, h⟩
      obtain ⟨hs15, h⟩ := h
      obtain ⟨hs16, h⟩ := h
      refine ex_mmax (pc := 184) 105 rfl ww_445 ww_446 ww_99 ww_447 hs15 hs16 rfl ?_
      refine ex_invV (pc := 187) (M' := mX1_narrow) (As := [.inl v7, .inl v4, .inl v8, .inl (if r12 < r14 then r14 else r12)]) (st := []) 106 rfl clk1 rfl rfl calX1_narrow (Or.inl ww_437) rfl rfl ?_
      refine vm_call.mono h ?_
      rintro m17 _ ⟨rfl, h⟩
      refine ex_goto (pc := 190) 231 107 rfl (by decide) ?_
      refine ex_iinc (pc := 231) 127 rfl rfl rfl rfl ?_
      refine ex_goto (pc := 234) 146 128 rfl (by decide) ?_
      exact h
