set_option maxRecDepth 20000 in
theorem qX2_canHold {G : vm_G} {d : Nat} {p2 : Int} {mem : vm_M} {Q : vm_M → Bool → Prop} (h : vm_cn G d mX2_load [.inr (.inr 2), .inr (.inr 1), .inl p2, .inl 0] mem (fun m1 => vm_ci G d mX5_howMany [.inr (.inr 6), .inl 1] m1 (fun m3 r4 => (vm_R r4) ∧ ((r4 = 0 → Q m3 false) ∧ (¬ r4 = 0 → Q m3 true))))) : vm_cb G (d + 1) mX2_canHold [.inr (.inr 2), .inr (.inr 1), .inl p2] mem Q := by
  refine vm_enter (al := [some (.inr (.inr 2)), some (.inr (.inr 1)), some (.inl p2)]) 0 okX2_canHold (by decide +kernel) rfl rfl ?_
  refine ex_aload_n (pc := 0) 0 rfl rfl ?_
  refine ex_aload_n (pc := 1) 1 rfl rfl ?_
  refine ex_iload_n (pc := 2) 2 rfl rfl ?_
  refine ex_iconst (pc := 3) 3 rfl ?_
  refine ex_invV (pc := 4) (M' := mX2_load) (As := [.inr (.inr 1), .inl p2, .inl 0]) (st := []) 4 rfl clk2 rfl rfl calX2_load (Or.inl ww_392) rfl rfl ?_
  refine vm_call.mono h ?_
  rintro m1 _ ⟨rfl, h⟩
  refine ex_aload_n (pc := 7) 5 rfl rfl ?_
  refine ex_geta (pc := 8) 0 6 rfl clk2 rfl rfl (Or.inl ww_219) rfl ?_
  refine ex_iconst (pc := 11) 7 rfl ?_
  refine ex_invV (pc := 12) (M' := mX5_howMany) (As := [.inl 1]) (st := []) 8 rfl clk5 rfl rfl calX5_howMany (Or.inl ww_488) rfl rfl ?_
  refine vm_call.mono h ?_
  rintro m3 _ ⟨r4, rfl, h⟩
  obtain ⟨hs5, h⟩ := h
  refine ex_if_eq (pc := 15) 22 9 rfl (by decide) hs5 (fun hb => ?_) (fun hb => ?_)
  · have h := h.1 hb
    refine ex_iconst (pc := 22) 12 rfl ?_
    exact ex_iret (pc := 23) 13 rfl (Or.inr ⟨rfl, by decide⟩) ⟨false, rfl, h⟩
  · have h := h.2 hb
    refine ex_iconst (pc := 18) 10 rfl ?_
    refine ex_goto (pc := 19) 23 11 rfl (by decide) ?_
    exact ex_iret (pc := 23) 13 rfl (Or.inr ⟨rfl, by decide⟩) ⟨true, rfl, h⟩
set_option maxRecDepth 20000 in
theorem qX2_canFail {G : vm_G} {d : Nat} {p2 : Int} {p3 : Int} {mem : vm_M} {Q : vm_M → Bool → Prop} (h : vm_ci G d mX0_number [.inr (.inr 1), .inl p2, .inl 0] mem (fun m1 r2 => vm_cb G d mX7_isWithin [.inl r2, .inl 0, .inl 6] m1 (fun m3 r4 => (r4 = false → vm_ex G (d + 1) mX2_canFail 34 [some (.inr (.inr 2)), some (.inr (.inr 1)), some (.inl p2), some (.inl p3), some (.inl r2), some (.inl 0), some (.inl 0)] [] m3 (vm_qb Q)) ∧ (r4 = true → (0 ≤ r2 ∧ r2 < (G.len 38 : Int)) ∧ vm_ex G (d + 1) mX2_canFail 34 [some (.inr (.inr 2)), some (.inr (.inr 1)), some (.inl p2), some (.inl p3), some (.inl r2), some (.inl (G.rom 38 r2)), some (.inl 0)] [] m3 (vm_qb Q))))) : vm_cb G (d + 1) mX2_canFail [.inr (.inr 2), .inr (.inr 1), .inl p2, .inl p3] mem Q := by
  refine vm_enter (al := [some (.inr (.inr 2)), some (.inr (.inr 1)), some (.inl p2), some (.inl p3), none, none, none]) 3 okX2_canFail (by decide +kernel) rfl rfl ?_
  refine ex_aload_n (pc := 0) 0 rfl rfl ?_
  refine ex_iload_n (pc := 1) 1 rfl rfl ?_
  refine ex_iconst (pc := 2) 2 rfl ?_
  refine ex_invV (pc := 3) (M' := mX0_number) (As := [.inl p2, .inl 0]) (st := []) 3 rfl clk0 rfl rfl calX0_number (Or.inl ww_400) rfl rfl ?_
  refine vm_call.mono h ?_
  rintro m1 _ ⟨r2, rfl, h⟩
  refine ex_istore (pc := 6) 4 rfl rfl rfl ?_
  refine ex_iload (pc := 8) 5 rfl rfl ?_
  refine ex_iconst (pc := 10) 6 rfl ?_
  refine ex_bipush (pc := 11) 7 rfl (by decide) ?_
  refine ex_invS (pc := 13) (M' := mX7_isWithin) (As := [.inl r2, .inl 0, .inl 6]) (st := []) 8 rfl calX7_isWithin (Or.inr ⟨_, ww_602⟩) rfl rfl ?_
  refine vm_call.mono h ?_
  rintro m3 _ ⟨r4, rfl, h⟩
  refine ex_if_eq (pc := 16) 28 9 rfl (by decide) (vm_b2i_R _) (fun hb => ?_) (fun hb => ?_)
  · have h := h.1 (vm_b2i_0.mp hb)
    refine ex_iconst (pc := 28) 14 rfl ?_
    refine ex_istore (pc := 29) 15 rfl rfl rfl ?_
    refine ex_iconst (pc := 31) 16 rfl ?_
    refine ex_istore (pc := 32) 17 rfl rfl rfl ?_
    exact h
  · have h := h.2 (vm_b2i_n.mp hb)
    refine ex_gets (pc := 19) 10 rfl ww_603 ?_
    refine ex_iload (pc := 22) 11 rfl rfl ?_
    obtain ⟨hs5, h⟩ := h
    refine ex_roload (pc := 24) 12 rfl (Or.inl rfl) hs5 ?_
    refine ex_goto (pc := 25) 29 13 rfl (by decide) ?_
    refine ex_istore (pc := 29) 15 rfl rfl rfl ?_
    refine ex_iconst (pc := 31) 16 rfl ?_
    refine ex_istore (pc := 32) 17 rfl rfl rfl ?_
    exact h
set_option maxRecDepth 20000 in
theorem qX2_canFail_34 {G : vm_G} {d : Nat} {v2 : Int} {v3 : Int} {v4 : Int} {v5 : Int} {v6 : Int} {mem : vm_M} {Q : vm_M → Bool → Prop} (h : (vm_R v6) ∧ (vm_R v5) ∧ ((v5 ≤ v6 → Q mem false) ∧ (¬ v5 ≤ v6 → (vm_R v4) ∧ ((¬ v4 = 1 → vm_cn G d mX2_load [.inr (.inr 2), .inr (.inr 1), .inl v3, .inl 0] mem (fun m4 => vm_cn G d mX2_addOpposite [.inr (.inr 2), .inr (.inr 1), .inl v2, .inl v6] m4 (fun m6 => vm_ci G d mX5_howMany [.inr (.inr 6), .inl 1] m6 (fun m8 r9 => (vm_R r9) ∧ ((r9 = 0 → vm_ex G (d + 1) mX2_canFail 34 [some (.inr (.inr 2)), some (.inr (.inr 1)), some (.inl v2), some (.inl v3), some (.inl v4), some (.inl v5), some (.inl (v6 + 1))] [] m8 (vm_qb Q)) ∧ (¬ r9 = 0 → Q m8 true)))))) ∧ (v4 = 1 → vm_cn G d mX2_load [.inr (.inr 2), .inr (.inr 1), .inl v3, .inl 1] mem (fun m11 => vm_cn G d mX2_addOpposite [.inr (.inr 2), .inr (.inr 1), .inl v2, .inl v6] m11 (fun m13 => vm_ci G d mX5_howMany [.inr (.inr 6), .inl 1] m13 (fun m15 r16 => (vm_R r16) ∧ ((r16 = 0 → vm_ex G (d + 1) mX2_canFail 34 [some (.inr (.inr 2)), some (.inr (.inr 1)), some (.inl v2), some (.inl v3), some (.inl v4), some (.inl v5), some (.inl (v6 + 1))] [] m15 (vm_qb Q)) ∧ (¬ r16 = 0 → Q m15 true)))))))))) : vm_ex G (d + 1) mX2_canFail 34 [some (.inr (.inr 2)), some (.inr (.inr 1)), some (.inl v2), some (.inl v3), some (.inl v4), some (.inl v5), some (.inl v6)] [] mem (vm_qb Q) := by
  refine ex_iload (pc := 34) 18 rfl rfl ?_
  refine ex_iload (pc := 36) 19 rfl rfl ?_
  obtain ⟨hs1, h⟩ := h
  obtain ⟨hs2, h⟩ := h
  refine ex_icmp_ge (pc := 38) 85 20 rfl (by decide) hs1 hs2 (fun hb => ?_) (fun hb => ?_)
  · have h := h.1 hb
    refine ex_iconst (pc := 85) 45 rfl ?_
    exact ex_iret (pc := 86) 46 rfl (Or.inr ⟨rfl, by decide⟩) ⟨false, rfl, h⟩
  · have h := h.2 hb
    refine ex_aload_n (pc := 41) 21 rfl rfl ?_
    refine ex_aload_n (pc := 42) 22 rfl rfl ?_
    refine ex_iload_n (pc := 43) 23 rfl rfl ?_
    refine ex_iload (pc := 44) 24 rfl rfl ?_
    refine ex_iconst (pc := 46) 25 rfl ?_
    obtain ⟨hs3, h⟩ := h
    refine ex_icmp_ne (pc := 47) 54 26 rfl (by decide) hs3 ⟨by decide, by decide⟩ (fun hb => ?_) (fun hb => ?_)
    · have h := h.1 hb
      refine ex_iconst (pc := 54) 29 rfl ?_
      refine ex_invV (pc := 55) (M' := mX2_load) (As := [.inr (.inr 1), .inl v3, .inl 0]) (st := []) 30 rfl clk2 rfl rfl calX2_load (Or.inl ww_392) rfl rfl ?_
      refine vm_call.mono h ?_
      rintro m4 _ ⟨rfl, h⟩
      refine ex_aload_n (pc := 58) 31 rfl rfl ?_
      refine ex_aload_n (pc := 59) 32 rfl rfl ?_
      refine ex_iload_n (pc := 60) 33 rfl rfl ?_
      refine ex_iload (pc := 61) 34 rfl rfl ?_
      refine ex_invV (pc := 63) (M' := mX2_addOpposite) (As := [.inr (.inr 1), .inl v2, .inl v6]) (st := []) 35 rfl clk2 rfl rfl calX2_addOpposite (Or.inl ww_605) rfl rfl ?_
      refine vm_call.mono h ?_
      rintro m6 _ ⟨rfl, h⟩
      refine ex_aload_n (pc := 66) 36 rfl rfl ?_
      refine ex_geta (pc := 67) 0 37 rfl clk2 rfl rfl (Or.inl ww_219) rfl ?_
      refine ex_iconst (pc := 70) 38 rfl ?_
      refine ex_invV (pc := 71) (M' := mX5_howMany) (As := [.inl 1]) (st := []) 39 rfl clk5 rfl rfl calX5_howMany (Or.inl ww_488) rfl rfl ?_
      refine vm_call.mono h ?_
      rintro m8 _ ⟨r9, rfl, h⟩
      obtain ⟨hs10, h⟩ := h
      refine ex_if_eq (pc := 74) 79 40 rfl (by decide) hs10 (fun hb => ?_) (fun hb => ?_)
      · have h := h.1 hb
        refine ex_iinc (pc := 79) 43 rfl rfl rfl rfl ?_
        refine ex_goto (pc := 82) 34 44 rfl (by decide) ?_
        exact h
      · have h := h.2 hb
        refine ex_iconst (pc := 77) 41 rfl ?_
        exact ex_iret (pc := 78) 42 rfl (Or.inr ⟨rfl, by decide⟩) ⟨true, rfl, h⟩
    · have h := h.2 hb
      refine ex_iconst (pc := 50) 27 rfl ?_
      refine ex_goto (pc := 51) 55 28 rfl (by decide) ?_
      refine ex_invV (pc := 55) (M' := mX2_load) (As := [.inr (.inr 1), .inl v3, .inl 1]) (st := []) 30 rfl clk2 rfl rfl calX2_load (Or.inl ww_392) rfl rfl ?_
      refine vm_call.mono h ?_
      rintro m11 _ ⟨rfl, h⟩
      refine ex_aload_n (pc := 58) 31 rfl rfl ?_
      refine ex_aload_n (pc := 59) 32 rfl rfl ?_
      refine ex_iload_n (pc := 60) 33 rfl rfl ?_
      refine ex_iload (pc := 61) 34 rfl rfl ?_
      refine ex_invV (pc := 63) (M' := mX2_addOpposite) (As := [.inr (.inr 1), .inl v2, .inl v6]) (st := []) 35 rfl clk2 rfl rfl calX2_addOpposite (Or.inl ww_605) rfl rfl ?_
      refine vm_call.mono h ?_
      rintro m13 _ ⟨rfl, h⟩
      refine ex_aload_n (pc := 66) 36 rfl rfl ?_
      refine ex_geta (pc := 67) 0 37 rfl clk2 rfl rfl (Or.inl ww_219) rfl ?_
      refine ex_iconst (pc := 70) 38 rfl ?_
      refine ex_invV (pc := 71) (M' := mX5_howMany) (As := [.inl 1]) (st := []) 39 rfl clk5 rfl rfl calX5_howMany (Or.inl ww_488) rfl rfl ?_
      refine vm_call.mono h ?_
      rintro m15 _ ⟨r16, rfl, h⟩
      obtain ⟨hs17, h⟩ := h
      refine ex_if_eq (pc := 74) 79 40 rfl (by decide) hs17 (fun hb => ?_) (fun hb => ?_)
      · have h := h.1 hb
        refine ex_iinc (pc := 79) 43 rfl rfl rfl rfl ?_
        refine ex_goto (pc := 82) 34 44 rfl (by decide) ?_
        exact h
      · have h := h.2 hb
        refine ex_iconst (pc := 77) 41 rfl ?_
        exact ex_iret (pc := 78) 42 rfl (Or.inr ⟨rfl, by decide⟩) ⟨true, rfl, h⟩
set_option maxRecDepth 20000 in
theorem qX2_howMany {G : vm_G} {d : Nat} {p2 : Int} {mem : vm_M} {Q : vm_M → Int → Prop} (h : vm_ci G d mX0_all [.inr (.inr 1)] mem (fun m1 r2 => vm_cn G d mX2_load [.inr (.inr 2), .inr (.inr 1), .inl r2, .inl 0] m1 (fun m3 => vm_ci G d mX5_howMany [.inr (.inr 6), .inl p2] m3 (fun m5 r6 => Q m5 r6)))) : vm_ci G (d + 1) mX2_howMany [.inr (.inr 2), .inr (.inr 1), .inl p2] mem Q := by
  refine vm_enter (al := [some (.inr (.inr 2)), some (.inr (.inr 1)), some (.inl p2)]) 0 okX2_howMany (by decide +kernel) rfl rfl ?_
  refine ex_aload_n (pc := 0) 0 rfl rfl ?_
  refine ex_aload_n (pc := 1) 1 rfl rfl ?_
  refine ex_aload_n (pc := 2) 2 rfl rfl ?_
  refine ex_invV (pc := 3) (M' := mX0_all) (As := []) (st := [.inr (.inr 1), .inr (.inr 2)]) 3 rfl clk0 rfl rfl calX0_all (Or.inl ww_580) rfl rfl ?_
  refine vm_call.mono h ?_
  rintro m1 _ ⟨r2, rfl, h⟩
  refine ex_iconst (pc := 6) 4 rfl ?_
  refine ex_invV (pc := 7) (M' := mX2_load) (As := [.inr (.inr 1), .inl r2, .inl 0]) (st := []) 5 rfl clk2 rfl rfl calX2_load (Or.inl ww_392) rfl rfl ?_
  refine vm_call.mono h ?_
  rintro m3 _ ⟨rfl, h⟩
  refine ex_aload_n (pc := 10) 6 rfl rfl ?_
  refine ex_geta (pc := 11) 0 7 rfl clk2 rfl rfl (Or.inl ww_219) rfl ?_
  refine ex_iload_n (pc := 14) 8 rfl rfl ?_
  refine ex_invV (pc := 15) (M' := mX5_howMany) (As := [.inl p2]) (st := []) 9 rfl clk5 rfl rfl calX5_howMany (Or.inl ww_488) rfl rfl ?_
  refine vm_call.mono h ?_
  rintro m5 _ ⟨r6, rfl, h⟩
  exact ex_iret (pc := 18) 10 rfl (Or.inl rfl) ⟨_, rfl, h⟩
set_option maxRecDepth 20000 in
theorem qX2_extreme {G : vm_G} {d : Nat} {p2 : Int} {p3 : Int} {p4 : Bool} {mem : vm_M} {Q : vm_M → Int → Prop} (h : (vm_R (vm_rem p3 4)) ∧ ((¬ (vm_rem p3 4) = 3 → vm_cn G d mX2_load [.inr (.inr 2), .inr (.inr 1), .inl p2, .inl 0] mem (fun m2 => vm_cb G d mX5_settleAll [.inr (.inr 6)] m2 (fun m4 r5 => (r5 = true → (0 ≤ p3 ∧ p3 < 272) ∧ vm_ex G (d + 1) mX2_extreme 56 [some (.inr (.inr 2)), some (.inr (.inr 1)), some (.inl p2), some (.inl p3), some (.inl (vm_b2i p4)), some (.inl (m4 13 p3)), some (.inl (m4 14 p3)), some (.inl 0), none] [] m4 (vm_qi Q)) ∧ (r5 = false → Q m4 (-6))))) ∧ ((vm_rem p3 4) = 3 → vm_cn G d mX2_load [.inr (.inr 2), .inr (.inr 1), .inl p2, .inl 1] mem (fun m7 => vm_cb G d mX5_settleAll [.inr (.inr 6)] m7 (fun m9 r10 => (r10 = true → (0 ≤ p3 ∧ p3 < 272) ∧ vm_ex G (d + 1) mX2_extreme 56 [some (.inr (.inr 2)), some (.inr (.inr 1)), some (.inl p2), some (.inl p3), some (.inl (vm_b2i p4)), some (.inl (m9 13 p3)), some (.inl (m9 14 p3)), some (.inl 0), none] [] m9 (vm_qi Q)) ∧ (r10 = false → Q m9 (-6))))))) : vm_ci G (d + 1) mX2_extreme [.inr (.inr 2), .inr (.inr 1), .inl p2, .inl p3, .inl (vm_b2i p4)] mem Q := by
  refine vm_enter (al := [some (.inr (.inr 2)), some (.inr (.inr 1)), some (.inl p2), some (.inl p3), some (.inl (vm_b2i p4)), none, none, none, none]) 4 okX2_extreme (by decide +kernel) rfl rfl ?_
  refine ex_aload_n (pc := 0) 0 rfl rfl ?_
  refine ex_aload_n (pc := 1) 1 rfl rfl ?_
  refine ex_iload_n (pc := 2) 2 rfl rfl ?_
  refine ex_iload_n (pc := 3) 3 rfl rfl ?_
  refine ex_iconst (pc := 4) 4 rfl ?_
  refine ex_irem (pc := 5) 5 rfl ⟨⟨by decide, by decide⟩, by decide⟩ ?_
  refine ex_iconst (pc := 6) 6 rfl ?_
  obtain ⟨hs1, h⟩ := h
  refine ex_icmp_ne (pc := 7) 14 7 rfl (by decide) hs1 ⟨by decide, by decide⟩ (fun hb => ?_) (fun hb => ?_)
  · have h := h.1 hb
    refine ex_iconst (pc := 14) 10 rfl ?_
    refine ex_invV (pc := 15) (M' := mX2_load) (As := [.inr (.inr 1), .inl p2, .inl 0]) (st := []) 11 rfl clk2 rfl rfl calX2_load (Or.inl ww_392) rfl rfl ?_
    refine vm_call.mono h ?_
    rintro m2 _ ⟨rfl, h⟩
    refine ex_aload_n (pc := 18) 12 rfl rfl ?_
    refine ex_geta (pc := 19) 0 13 rfl clk2 rfl rfl (Or.inl ww_219) rfl ?_
    refine ex_invV (pc := 22) (M' := mX5_settleAll) (As := []) (st := []) 14 rfl clk5 rfl rfl calX5_settleAll (Or.inl ww_563) rfl rfl ?_
    refine vm_call.mono h ?_
    rintro m4 _ ⟨r5, rfl, h⟩
    refine ex_if_ne (pc := 25) 31 15 rfl (by decide) (vm_b2i_R _) (fun hb => ?_) (fun hb => ?_)
    · have h := h.1 (vm_b2i_n.mp hb)
      refine ex_aload_n (pc := 31) 18 rfl rfl ?_
      refine ex_geta (pc := 32) 0 19 rfl clk2 rfl rfl (Or.inl ww_219) rfl ?_
      refine ex_geta (pc := 35) 1 20 rfl clk5 rfl rfl (Or.inr ⟨_, ww_187⟩) rfl ?_
      refine ex_iload_n (pc := 38) 21 rfl rfl ?_
      obtain ⟨hs6, h⟩ := h
      refine ex_iaload (pc := 39) 22 rfl rfl rfl hs6 ?_
      refine ex_istore (pc := 40) 23 rfl rfl rfl ?_
      refine ex_aload_n (pc := 42) 24 rfl rfl ?_
      refine ex_geta (pc := 43) 0 25 rfl clk2 rfl rfl (Or.inl ww_219) rfl ?_
      refine ex_geta (pc := 46) 2 26 rfl clk5 rfl rfl (Or.inr ⟨_, ww_189⟩) rfl ?_
      refine ex_iload_n (pc := 49) 27 rfl rfl ?_
      refine ex_iaload (pc := 50) 28 rfl rfl rfl hs6 ?_
      refine ex_istore (pc := 51) 29 rfl rfl rfl ?_
      refine ex_iconst (pc := 53) 30 rfl ?_
      refine ex_istore (pc := 54) 31 rfl rfl rfl ?_
      exact h
    · have h := h.2 (vm_b2i_0.mp hb)
      refine ex_bipush (pc := 28) 16 rfl (by decide) ?_
      exact ex_iret (pc := 30) 17 rfl (Or.inl rfl) ⟨_, rfl, h⟩
  · have h := h.2 hb
    refine ex_iconst (pc := 10) 8 rfl ?_
    refine ex_goto (pc := 11) 15 9 rfl (by decide) ?_
    refine ex_invV (pc := 15) (M' := mX2_load) (As := [.inr (.inr 1), .inl p2, .inl 1]) (st := []) 11 rfl clk2 rfl rfl calX2_load (Or.inl ww_392) rfl rfl ?_
    refine vm_call.mono h ?_
    rintro m7 _ ⟨rfl, h⟩
    refine ex_aload_n (pc := 18) 12 rfl rfl ?_
    refine ex_geta (pc := 19) 0 13 rfl clk2 rfl rfl (Or.inl ww_219) rfl ?_
    refine ex_invV (pc := 22) (M' := mX5_settleAll) (As := []) (st := []) 14 rfl clk5 rfl rfl calX5_settleAll (Or.inl ww_563) rfl rfl ?_
    refine vm_call.mono h ?_
    rintro m9 _ ⟨r10, rfl, h⟩
    refine ex_if_ne (pc := 25) 31 15 rfl (by decide) (vm_b2i_R _) (fun hb => ?_) (fun hb => ?_)
    · have h := h.1 (vm_b2i_n.mp hb)
      refine ex_aload_n (pc := 31) 18 rfl rfl ?_
      refine ex_geta (pc := 32) 0 19 rfl clk2 rfl rfl (Or.inl ww_219) rfl ?_
      refine ex_geta (pc := 35) 1 20 rfl clk5 rfl rfl (Or.inr ⟨_, ww_187⟩) rfl ?_
      refine ex_iload_n (pc := 38) 21 rfl rfl ?_
      obtain ⟨hs11, h⟩ := h
      refine ex_iaload (pc := 39) 22 rfl rfl rfl hs11 ?_
      refine ex_istore (pc := 40) 23 rfl rfl rfl ?_
      refine ex_aload_n (pc := 42) 24 rfl rfl ?_
      refine ex_geta (pc := 43) 0 25 rfl clk2 rfl rfl (Or.inl ww_219) rfl ?_
      refine ex_geta (pc := 46) 2 26 rfl clk5 rfl rfl (Or.inr ⟨_, ww_189⟩) rfl ?_
      refine ex_iload_n (pc := 49) 27 rfl rfl ?_
      refine ex_iaload (pc := 50) 28 rfl rfl rfl hs11 ?_
      refine ex_istore (pc := 51) 29 rfl rfl rfl ?_
      refine ex_iconst (pc := 53) 30 rfl ?_
      refine ex_istore (pc := 54) 31 rfl rfl rfl ?_
      exact h
    · have h := h.2 (vm_b2i_0.mp hb)
      refine ex_bipush (pc := 28) 16 rfl (by decide) ?_
      exact ex_iret (pc := 30) 17 rfl (Or.inl rfl) ⟨_, rfl, h⟩
set_option maxRecDepth 20000 in
theorem qX2_extreme_56 {G : vm_G} {d : Nat} {v2 : Int} {v3 : Int} {v4 : Bool} {v5 : Int} {v6 : Int} {v7 : Int} {mem : vm_M} {Q : vm_M → Int → Prop} (h : (vm_R v7) ∧ (vm_R (v6 - v5)) ∧ (((v6 - v5) < v7 → Q mem (-6)) ∧ (¬ (v6 - v5) < v7 → (v4 = false → vm_cb G d mX5_canBe [.inr (.inr 6), .inl v3, .inl (v5 + v7)] mem (fun m3 r4 => (r4 = false → vm_ex G (d + 1) mX2_extreme 56 [some (.inr (.inr 2)), some (.inr (.inr 1)), some (.inl v2), some (.inl v3), some (.inl (vm_b2i v4)), some (.inl v5), some (.inl v6), some (.inl (v7 + 1)), none] [] m3 (vm_qi Q)) ∧ (r4 = true → Q m3 (v5 + v7)))) ∧ (v4 = true → vm_cb G d mX5_canBe [.inr (.inr 6), .inl v3, .inl (v6 - v7)] mem (fun m5 r6 => (r6 = false → vm_ex G (d + 1) mX2_extreme 56 [some (.inr (.inr 2)), some (.inr (.inr 1)), some (.inl v2), some (.inl v3), some (.inl (vm_b2i v4)), some (.inl v5), some (.inl v6), some (.inl (v7 + 1)), none] [] m5 (vm_qi Q)) ∧ (r6 = true → Q m5 (v6 - v7))))))) : vm_ex G (d + 1) mX2_extreme 56 [some (.inr (.inr 2)), some (.inr (.inr 1)), some (.inl v2), some (.inl v3), some (.inl (vm_b2i v4)), some (.inl v5), some (.inl v6), some (.inl v7), none] [] mem (vm_qi Q) := by
  refine ex_iload (pc := 56) 32 rfl rfl ?_
  refine ex_iload (pc := 58) 33 rfl rfl ?_
  refine ex_iload (pc := 60) 34 rfl rfl ?_
  refine ex_isub (pc := 62) 35 rfl ?_
  obtain ⟨hs1, h⟩ := h
  obtain ⟨hs2, h⟩ := h
  refine ex_icmp_gt (pc := 63) 108 36 rfl (by decide) hs1 hs2 (fun hb => ?_) (fun hb => ?_)
  · have h := h.1 hb
    refine ex_bipush (pc := 108) 57 rfl (by decide) ?_
    exact ex_iret (pc := 110) 58 rfl (Or.inl rfl) ⟨_, rfl, h⟩
  · have h := h.2 hb
    refine ex_iload (pc := 66) 37 rfl rfl ?_
    refine ex_if_eq (pc := 68) 79 38 rfl (by decide) (vm_b2i_R _) (fun hb => ?_) (fun hb => ?_)
    · have h := h.1 (vm_b2i_0.mp hb)
      refine ex_iload (pc := 79) 43 rfl rfl ?_
      refine ex_iload (pc := 81) 44 rfl rfl ?_
      refine ex_iadd (pc := 83) 45 rfl ?_
      refine ex_istore (pc := 84) 46 rfl rfl rfl ?_
      refine ex_aload_n (pc := 86) 47 rfl rfl ?_
      refine ex_geta (pc := 87) 0 48 rfl clk2 rfl rfl (Or.inl ww_219) rfl ?_
      refine ex_iload_n (pc := 90) 49 rfl rfl ?_
      refine ex_iload (pc := 91) 50 rfl rfl ?_
      refine ex_invV (pc := 93) (M' := mX5_canBe) (As := [.inl v3, .inl (v5 + v7)]) (st := []) 51 rfl clk5 rfl rfl calX5_canBe (Or.inl ww_564) rfl rfl ?_
      refine vm_call.mono h ?_
      rintro m3 _ ⟨r4, rfl, h⟩
      refine ex_if_eq (pc := 96) 102 52 rfl (by decide) (vm_b2i_R _) (fun hb => ?_) (fun hb => ?_)
      · have h := h.1 (vm_b2i_0.mp hb)
        refine ex_iinc (pc := 102) 55 rfl rfl rfl rfl ?_
        refine ex_goto (pc := 105) 56 56 rfl (by decide) ?_
        exact ex_less [some (.inr (.inr 2)), some (.inr (.inr 1)), some (.inl v2), some (.inl v3), some (.inl (vm_b2i v4)), some (.inl v5), some (.inl v6), some (.inl (v7 + 1)), none] (And.intro rfl (And.intro rfl (And.intro rfl (And.intro rfl (And.intro rfl (And.intro rfl (And.intro rfl (And.intro rfl (True.intro))))))))) h
      · have h := h.2 (vm_b2i_n.mp hb)
        refine ex_iload (pc := 99) 53 rfl rfl ?_
        exact ex_iret (pc := 101) 54 rfl (Or.inl rfl) ⟨_, rfl, h⟩
    · have h := h.2 (vm_b2i_n.mp hb)
      refine ex_iload (pc := 71) 39 rfl rfl ?_
      refine ex_iload (pc := 73) 40 rfl rfl ?_
      refine ex_isub (pc := 75) 41 rfl ?_
      refine ex_goto (pc := 76) 84 42 rfl (by decide) ?_
      refine ex_istore (pc := 84) 46 rfl rfl rfl ?_
      refine ex_aload_n (pc := 86) 47 rfl rfl ?_
      refine ex_geta (pc := 87) 0 48 rfl clk2 rfl rfl (Or.inl ww_219) rfl ?_
      refine ex_iload_n (pc := 90) 49 rfl rfl ?_
      refine ex_iload (pc := 91) 50 rfl rfl ?_
      refine ex_invV (pc := 93) (M' := mX5_canBe) (As := [.inl v3, .inl (v6 - v7)]) (st := []) 51 rfl clk5 rfl rfl calX5_canBe (Or.inl ww_564) rfl rfl ?_
      refine vm_call.mono h ?_
      rintro m5 _ ⟨r6, rfl, h⟩
      refine ex_if_eq (pc := 96) 102 52 rfl (by decide) (vm_b2i_R _) (fun hb => ?_) (fun hb => ?_)
      · have h := h.1 (vm_b2i_0.mp hb)
        refine ex_iinc (pc := 102) 55 rfl rfl rfl rfl ?_
        refine ex_goto (pc := 105) 56 56 rfl (by decide) ?_
        exact ex_less [some (.inr (.inr 2)), some (.inr (.inr 1)), some (.inl v2), some (.inl v3), some (.inl (vm_b2i v4)), some (.inl v5), some (.inl v6), some (.inl (v7 + 1)), none] (And.intro rfl (And.intro rfl (And.intro rfl (And.intro rfl (And.intro rfl (And.intro rfl (And.intro rfl (And.intro rfl (True.intro))))))))) h
      · have h := h.2 (vm_b2i_n.mp hb)
        refine ex_iload (pc := 99) 53 rfl rfl ?_
        exact ex_iret (pc := 101) 54 rfl (Or.inl rfl) ⟨_, rfl, h⟩
set_option maxRecDepth 20000 in
theorem qX2_inLeastSolution {G : vm_G} {d : Nat} {p2 : Int} {mem : vm_M} {Q : vm_M → Int → Prop} (h : vm_ci G d mX0_all [.inr (.inr 1)] mem (fun m1 r2 => vm_cn G d mX2_load [.inr (.inr 2), .inr (.inr 1), .inl r2, .inl 0] m1 (fun m3 => vm_ci G d mX5_howMany [.inr (.inr 6), .inl 1] m3 (fun m5 r6 => (vm_R r6) ∧ ((¬ r6 = 0 → vm_ex G (d + 1) mX2_inLeastSolution 26 [some (.inr (.inr 2)), some (.inr (.inr 1)), some (.inl p2), some (.inl 0), none, none] [] m5 (vm_qi Q)) ∧ (r6 = 0 → Q m5 (-6))))))) : vm_ci G (d + 1) mX2_inLeastSolution [.inr (.inr 2), .inr (.inr 1), .inl p2] mem Q := by
  refine vm_enter (al := [some (.inr (.inr 2)), some (.inr (.inr 1)), some (.inl p2), none, none, none]) 3 okX2_inLeastSolution (by decide +kernel) rfl rfl ?_
  refine ex_aload_n (pc := 0) 0 rfl rfl ?_
  refine ex_aload_n (pc := 1) 1 rfl rfl ?_
  refine ex_aload_n (pc := 2) 2 rfl rfl ?_
  refine ex_invV (pc := 3) (M' := mX0_all) (As := []) (st := [.inr (.inr 1), .inr (.inr 2)]) 3 rfl clk0 rfl rfl calX0_all (Or.inl ww_580) rfl rfl ?_
  refine vm_call.mono h ?_
  rintro m1 _ ⟨r2, rfl, h⟩
  refine ex_iconst (pc := 6) 4 rfl ?_
  refine ex_invV (pc := 7) (M' := mX2_load) (As := [.inr (.inr 1), .inl r2, .inl 0]) (st := []) 5 rfl clk2 rfl rfl calX2_load (Or.inl ww_392) rfl rfl ?_
  refine vm_call.mono h ?_
  rintro m3 _ ⟨rfl, h⟩
  refine ex_aload_n (pc := 10) 6 rfl rfl ?_
  refine ex_geta (pc := 11) 0 7 rfl clk2 rfl rfl (Or.inl ww_219) rfl ?_
  refine ex_iconst (pc := 14) 8 rfl ?_
  refine ex_invV (pc := 15) (M' := mX5_howMany) (As := [.inl 1]) (st := []) 9 rfl clk5 rfl rfl calX5_howMany (Or.inl ww_488) rfl rfl ?_
  refine vm_call.mono h ?_
  rintro m5 _ ⟨r6, rfl, h⟩
  obtain ⟨hs7, h⟩ := h
  refine ex_if_ne (pc := 18) 24 10 rfl (by decide) hs7 (fun hb => ?_) (fun hb => ?_)
  · have h := h.1 hb
    refine ex_iconst (pc := 24) 13 rfl ?_
    refine ex_istore_n (pc := 25) 14 rfl rfl rfl ?_
    exact h
  · have h := h.2 hb
    refine ex_bipush (pc := 21) 11 rfl (by decide) ?_
    exact ex_iret (pc := 23) 12 rfl (Or.inl rfl) ⟨_, rfl, h⟩
set_option maxRecDepth 20000 in
theorem qX2_inLeastSolution_26 {G : vm_G} {d : Nat} {v2 : Int} {v3 : Int} {mem : vm_M} {Q : vm_M → Int → Prop} (h : (vm_R v3) ∧ (vm_R v2) ∧ ((v2 < v3 → (0 ≤ v2 ∧ v2 < 272) ∧ Q mem (mem 13 v2)) ∧ (¬ v2 < v3 → (0 ≤ v3 ∧ v3 < 272) ∧ vm_ex G (d + 1) mX2_inLeastSolution 53 [some (.inr (.inr 2)), some (.inr (.inr 1)), some (.inl v2), some (.inl v3), some (.inl (mem 14 v3)), some (.inl (mem 13 v3))] [] mem (vm_qi Q)))) : vm_ex G (d + 1) mX2_inLeastSolution 26 [some (.inr (.inr 2)), some (.inr (.inr 1)), some (.inl v2), some (.inl v3), none, none] [] mem (vm_qi Q) := by
  refine ex_iload_n (pc := 26) 15 rfl rfl ?_
  refine ex_iload_n (pc := 27) 16 rfl rfl ?_
  obtain ⟨hs1, h⟩ := h
  obtain ⟨hs2, h⟩ := h
  refine ex_icmp_gt (pc := 28) 99 17 rfl (by decide) hs1 hs2 (fun hb => ?_) (fun hb => ?_)
  · have h := h.1 hb
    refine ex_aload_n (pc := 99) 50 rfl rfl ?_
    refine ex_geta (pc := 100) 0 51 rfl clk2 rfl rfl (Or.inl ww_219) rfl ?_
    refine ex_geta (pc := 103) 1 52 rfl clk5 rfl rfl (Or.inr ⟨_, ww_187⟩) rfl ?_
    refine ex_iload_n (pc := 106) 53 rfl rfl ?_
    obtain ⟨hs3, h⟩ := h
    refine ex_iaload (pc := 107) 54 rfl rfl rfl hs3 ?_
    exact ex_iret (pc := 108) 55 rfl (Or.inl rfl) ⟨_, rfl, h⟩
  · have h := h.2 hb
    refine ex_aload_n (pc := 31) 18 rfl rfl ?_
    refine ex_geta (pc := 32) 0 19 rfl clk2 rfl rfl (Or.inl ww_219) rfl ?_
    refine ex_geta (pc := 35) 2 20 rfl clk5 rfl rfl (Or.inr ⟨_, ww_189⟩) rfl ?_
    refine ex_iload_n (pc := 38) 21 rfl rfl ?_
    obtain ⟨hs4, h⟩ := h
    refine ex_iaload (pc := 39) 22 rfl rfl rfl hs4 ?_
    refine ex_istore (pc := 40) 23 rfl rfl rfl ?_
    refine ex_aload_n (pc := 42) 24 rfl rfl ?_
    refine ex_geta (pc := 43) 0 25 rfl clk2 rfl rfl (Or.inl ww_219) rfl ?_
    refine ex_geta (pc := 46) 1 26 rfl clk5 rfl rfl (Or.inr ⟨_, ww_187⟩) rfl ?_
    refine ex_iload_n (pc := 49) 27 rfl rfl ?_
    refine ex_iaload (pc := 50) 28 rfl rfl rfl hs4 ?_
    refine ex_istore (pc := 51) 29 rfl rfl rfl ?_
    exact h
set_option maxRecDepth 20000 in
theorem qX2_inLeastSolution_53 {G : vm_G} {d : Nat} {v2 : Int} {v3 : Int} {v4 : Int} {v5 : Int} {mem : vm_M} {Q : vm_M → Int → Prop} (h : (vm_R v5) ∧ (vm_R v4) ∧ ((v4 ≤ v5 → vm_cn G d mX5_settleOn [.inr (.inr 6), .inl v3, .inl v4] mem (fun m3 => vm_ex G (d + 1) mX2_inLeastSolution 26 [some (.inr (.inr 2)), some (.inr (.inr 1)), some (.inl v2), some (.inl (v3 + 1)), none, none] [] m3 (vm_qi Q))) ∧ (¬ v4 ≤ v5 → vm_cb G d mX5_canBe [.inr (.inr 6), .inl v3, .inl v5] mem (fun m5 r6 => (r6 = false → vm_ex G (d + 1) mX2_inLeastSolution 53 [some (.inr (.inr 2)), some (.inr (.inr 1)), some (.inl v2), some (.inl v3), some (.inl v4), some (.inl (v5 + 1))] [] m5 (vm_qi Q)) ∧ (r6 = true → vm_ex G (d + 1) mX2_inLeastSolution 53 [some (.inr (.inr 2)), some (.inr (.inr 1)), some (.inl v2), some (.inl v3), some (.inl v5), some (.inl (v5 + 1))] [] m5 (vm_qi Q)))))) : vm_ex G (d + 1) mX2_inLeastSolution 53 [some (.inr (.inr 2)), some (.inr (.inr 1)), some (.inl v2), some (.inl v3), some (.inl v4), some (.inl v5)] [] mem (vm_qi Q) := by
  refine ex_iload (pc := 53) 30 rfl rfl ?_
  refine ex_iload (pc := 55) 31 rfl rfl ?_
  obtain ⟨hs1, h⟩ := h
  obtain ⟨hs2, h⟩ := h
  refine ex_icmp_ge (pc := 57) 83 32 rfl (by decide) hs1 hs2 (fun hb => ?_) (fun hb => ?_)
  · have h := h.1 hb
    refine ex_aload_n (pc := 83) 43 rfl rfl ?_
    refine ex_geta (pc := 84) 0 44 rfl clk2 rfl rfl (Or.inl ww_219) rfl ?_
    refine ex_iload_n (pc := 87) 45 rfl rfl ?_
    refine ex_iload (pc := 88) 46 rfl rfl ?_
    refine ex_invV (pc := 90) (M' := mX5_settleOn) (As := [.inl v3, .inl v4]) (st := []) 47 rfl clk5 rfl rfl calX5_settleOn (Or.inl ww_581) rfl rfl ?_
    refine vm_call.mono h ?_
    rintro m3 _ ⟨rfl, h⟩
    refine ex_iinc (pc := 93) 48 rfl rfl rfl rfl ?_
    refine ex_goto (pc := 96) 26 49 rfl (by decide) ?_
    exact ex_less [some (.inr (.inr 2)), some (.inr (.inr 1)), some (.inl v2), some (.inl (v3 + 1)), none, none] (And.intro rfl (And.intro rfl (And.intro rfl (And.intro rfl (True.intro))))) h
  · have h := h.2 hb
    refine ex_aload_n (pc := 60) 33 rfl rfl ?_
    refine ex_geta (pc := 61) 0 34 rfl clk2 rfl rfl (Or.inl ww_219) rfl ?_
    refine ex_iload_n (pc := 64) 35 rfl rfl ?_
    refine ex_iload (pc := 65) 36 rfl rfl ?_
    refine ex_invV (pc := 67) (M' := mX5_canBe) (As := [.inl v3, .inl v5]) (st := []) 37 rfl clk5 rfl rfl calX5_canBe (Or.inl ww_564) rfl rfl ?_
    refine vm_call.mono h ?_
    rintro m5 _ ⟨r6, rfl, h⟩
    refine ex_if_eq (pc := 70) 77 38 rfl (by decide) (vm_b2i_R _) (fun hb => ?_) (fun hb => ?_)
    · have h := h.1 (vm_b2i_0.mp hb)
      refine ex_iinc (pc := 77) 41 rfl rfl rfl rfl ?_
      refine ex_goto (pc := 80) 53 42 rfl (by decide) ?_
      exact h
    · have h := h.2 (vm_b2i_n.mp hb)
      refine ex_iload (pc := 73) 39 rfl rfl ?_
      refine ex_istore (pc := 75) 40 rfl rfl rfl ?_
      refine ex_iinc (pc := 77) 41 rfl rfl rfl rfl ?_
      refine ex_goto (pc := 80) 53 42 rfl (by decide) ?_
      exact h
set_option maxRecDepth 20000 in
theorem qX2_load {G : vm_G} {d : Nat} {p2 : Int} {p3 : Bool} {mem : vm_M} {Q : vm_M → Prop} (h : (p3 = true → vm_cn G d mX5_begin [.inr (.inr 6), .inl (mem 1 2), .inl 1] mem (fun m1 => vm_cn G d mX1_close [.inr (.inr 7), .inr (.inr 1), .inl p2] m1 (fun m3 => vm_cn G d mX1_addTo [.inr (.inr 7), .inr (.inr 8), .inl 1] m3 (fun m5 => vm_ex G (d + 1) mX2_load 61 [some (.inr (.inr 2)), some (.inr (.inr 1)), some (.inl p2), some (.inl (vm_b2i p3)), some (.inl 1), some (.inl 0)] [] m5 (vm_qn Q))))) ∧ (p3 = false → vm_cb G d mX2_hasSizeFact [.inr (.inr 2), .inr (.inr 1), .inl p2] mem (fun m7 r8 => (r8 = false → vm_cn G d mX5_begin [.inr (.inr 6), .inl (m7 1 2), .inl 0] m7 (fun m9 => vm_cn G d mX1_close [.inr (.inr 7), .inr (.inr 1), .inl p2] m9 (fun m11 => vm_cn G d mX1_addTo [.inr (.inr 7), .inr (.inr 8), .inl 0] m11 (fun m13 => vm_ex G (d + 1) mX2_load 61 [some (.inr (.inr 2)), some (.inr (.inr 1)), some (.inl p2), some (.inl (vm_b2i p3)), some (.inl 0), some (.inl 0)] [] m13 (vm_qn Q))))) ∧ (r8 = true → vm_cn G d mX5_begin [.inr (.inr 6), .inl (m7 1 2), .inl 1] m7 (fun m15 => vm_cn G d mX1_close [.inr (.inr 7), .inr (.inr 1), .inl p2] m15 (fun m17 => vm_cn G d mX1_addTo [.inr (.inr 7), .inr (.inr 8), .inl 1] m17 (fun m19 => vm_ex G (d + 1) mX2_load 61 [some (.inr (.inr 2)), some (.inr (.inr 1)), some (.inl p2), some (.inl (vm_b2i p3)), some (.inl 1), some (.inl 0)] [] m19 (vm_qn Q)))))))) : vm_cn G (d + 1) mX2_load [.inr (.inr 2), .inr (.inr 1), .inl p2, .inl (vm_b2i p3)] mem Q := by
  refine vm_enter (al := [some (.inr (.inr 2)), some (.inr (.inr 1)), some (.inl p2), some (.inl (vm_b2i p3)), none, none]) 2 okX2_load (by decide +kernel) rfl rfl ?_
  refine ex_iload_n (pc := 0) 0 rfl rfl ?_
  refine ex_if_ne (pc := 1) 13 1 rfl (by decide) (vm_b2i_R _) (fun hb => ?_) (fun hb => ?_)
  · have h := h.1 (vm_b2i_n.mp hb)
    refine ex_iconst (pc := 13) 7 rfl ?_
    refine ex_goto (pc := 14) 18 8 rfl (by decide) ?_
    refine ex_istore (pc := 18) 10 rfl rfl rfl ?_
    refine ex_aload_n (pc := 20) 11 rfl rfl ?_
    refine ex_geta (pc := 21) 0 12 rfl clk2 rfl rfl (Or.inl ww_219) rfl ?_
    refine ex_aload_n (pc := 24) 13 rfl rfl ?_
    refine ex_geti (pc := 25) 2 14 rfl clk0 rfl rfl (Or.inr ⟨_, ww_120⟩) rfl ?_
    refine ex_iload (pc := 28) 15 rfl rfl ?_
    refine ex_invV (pc := 30) (M' := mX5_begin) (As := [.inl (mem 1 2), .inl 1]) (st := []) 16 rfl clk5 rfl rfl calX5_begin (Or.inl ww_401) rfl rfl ?_
    refine vm_call.mono h ?_
    rintro m1 _ ⟨rfl, h⟩
    refine ex_aload_n (pc := 33) 17 rfl rfl ?_
    refine ex_geta (pc := 34) 1 18 rfl clk2 rfl rfl (Or.inl ww_220) rfl ?_
    refine ex_aload_n (pc := 37) 19 rfl rfl ?_
    refine ex_iload_n (pc := 38) 20 rfl rfl ?_
    refine ex_invV (pc := 39) (M' := mX1_close) (As := [.inr (.inr 1), .inl p2]) (st := []) 21 rfl clk1 rfl rfl calX1_close (Or.inl ww_428) rfl rfl ?_
    refine vm_call.mono h ?_
    rintro m3 _ ⟨rfl, h⟩
    refine ex_aload_n (pc := 42) 22 rfl rfl ?_
    refine ex_geta (pc := 43) 1 23 rfl clk2 rfl rfl (Or.inl ww_220) rfl ?_
    refine ex_aload_n (pc := 46) 24 rfl rfl ?_
    refine ex_geta (pc := 47) 0 25 rfl clk2 rfl rfl (Or.inl ww_219) rfl ?_
    refine ex_geta (pc := 50) 0 26 rfl clk5 rfl rfl (Or.inr ⟨_, ww_185⟩) rfl ?_
    refine ex_iload (pc := 53) 27 rfl rfl ?_
    refine ex_invV (pc := 55) (M' := mX1_addTo) (As := [.inr (.inr 8), .inl 1]) (st := []) 28 rfl clk1 rfl rfl calX1_addTo (Or.inl ww_452) rfl rfl ?_
    refine vm_call.mono h ?_
    rintro m5 _ ⟨rfl, h⟩
    refine ex_iconst (pc := 58) 29 rfl ?_
    refine ex_istore (pc := 59) 30 rfl rfl rfl ?_
    exact h
  · have h := h.2 (vm_b2i_0.mp hb)
    refine ex_aload_n (pc := 4) 2 rfl rfl ?_
    refine ex_aload_n (pc := 5) 3 rfl rfl ?_
    refine ex_iload_n (pc := 6) 4 rfl rfl ?_
    refine ex_invV (pc := 7) (M' := mX2_hasSizeFact) (As := [.inr (.inr 1), .inl p2]) (st := []) 5 rfl clk2 rfl rfl calX2_hasSizeFact (Or.inl ww_396) rfl rfl ?_
    refine vm_call.mono h ?_
    rintro m7 _ ⟨r8, rfl, h⟩
    refine ex_if_eq (pc := 10) 17 6 rfl (by decide) (vm_b2i_R _) (fun hb => ?_) (fun hb => ?_)
    · have h := h.1 (vm_b2i_0.mp hb)
      refine ex_iconst (pc := 17) 9 rfl ?_
      refine ex_istore (pc := 18) 10 rfl rfl rfl ?_
      refine ex_aload_n (pc := 20) 11 rfl rfl ?_
      refine ex_geta (pc := 21) 0 12 rfl clk2 rfl rfl (Or.inl ww_219) rfl ?_
      refine ex_aload_n (pc := 24) 13 rfl rfl ?_
      refine ex_geti (pc := 25) 2 14 rfl clk0 rfl rfl (Or.inr ⟨_, ww_120⟩) rfl ?_
      refine ex_iload (pc := 28) 15 rfl rfl ?_
      refine ex_invV (pc := 30) (M' := mX5_begin) (As := [.inl (m7 1 2), .inl 0]) (st := []) 16 rfl clk5 rfl rfl calX5_begin (Or.inl ww_401) rfl rfl ?_
      refine vm_call.mono h ?_
      rintro m9 _ ⟨rfl, h⟩
      refine ex_aload_n (pc := 33) 17 rfl rfl ?_
      refine ex_geta (pc := 34) 1 18 rfl clk2 rfl rfl (Or.inl ww_220) rfl ?_
      refine ex_aload_n (pc := 37) 19 rfl rfl ?_
      refine ex_iload_n (pc := 38) 20 rfl rfl ?_
      refine ex_invV (pc := 39) (M' := mX1_close) (As := [.inr (.inr 1), .inl p2]) (st := []) 21 rfl clk1 rfl rfl calX1_close (Or.inl ww_428) rfl rfl ?_
      refine vm_call.mono h ?_
      rintro m11 _ ⟨rfl, h⟩
      refine ex_aload_n (pc := 42) 22 rfl rfl ?_
      refine ex_geta (pc := 43) 1 23 rfl clk2 rfl rfl (Or.inl ww_220) rfl ?_
      refine ex_aload_n (pc := 46) 24 rfl rfl ?_
      refine ex_geta (pc := 47) 0 25 rfl clk2 rfl rfl (Or.inl ww_219) rfl ?_
      refine ex_geta (pc := 50) 0 26 rfl clk5 rfl rfl (Or.inr ⟨_, ww_185⟩) rfl ?_
      refine ex_iload (pc := 53) 27 rfl rfl ?_
      refine ex_invV (pc := 55) (M' := mX1_addTo) (As := [.inr (.inr 8), .inl 0]) (st := []) 28 rfl clk1 rfl rfl calX1_addTo (Or.inl ww_452) rfl rfl ?_
      refine vm_call.mono h ?_
      rintro m13 _ ⟨rfl, h⟩
      refine ex_iconst (pc := 58) 29 rfl ?_
      refine ex_istore (pc := 59) 30 rfl rfl rfl ?_
      exact h
    · have h := h.2 (vm_b2i_n.mp hb)
      refine ex_iconst (pc := 13) 7 rfl ?_
      refine ex_goto (pc := 14) 18 8 rfl (by decide) ?_
      refine ex_istore (pc := 18) 10 rfl rfl rfl ?_
      refine ex_aload_n (pc := 20) 11 rfl rfl ?_
      refine ex_geta (pc := 21) 0 12 rfl clk2 rfl rfl (Or.inl ww_219) rfl ?_
      refine ex_aload_n (pc := 24) 13 rfl rfl ?_
      refine ex_geti (pc := 25) 2 14 rfl clk0 rfl rfl (Or.inr ⟨_, ww_120⟩) rfl ?_
      refine ex_iload (pc := 28) 15 rfl rfl ?_
      refine ex_invV (pc := 30) (M' := mX5_begin) (As := [.inl (m7 1 2), .inl 1]) (st := []) 16 rfl clk5 rfl rfl calX5_begin (Or.inl ww_401) rfl rfl ?_
      refine vm_call.mono h ?_
      rintro m15 _ ⟨rfl, h⟩
      refine ex_aload_n (pc := 33) 17 rfl rfl ?_
      refine ex_geta (pc := 34) 1 18 rfl clk2 rfl rfl (Or.inl ww_220) rfl ?_
      refine ex_aload_n (pc := 37) 19 rfl rfl ?_
      refine ex_iload_n (pc := 38) 20 rfl rfl ?_
      refine ex_invV (pc := 39) (M' := mX1_close) (As := [.inr (.inr 1), .inl p2]) (st := []) 21 rfl clk1 rfl rfl calX1_close (Or.inl ww_428) rfl rfl ?_
      refine vm_call.mono h ?_
      rintro m17 _ ⟨rfl, h⟩
      refine ex_aload_n (pc := 42) 22 rfl rfl ?_
      refine ex_geta (pc := 43) 1 23 rfl clk2 rfl rfl (Or.inl ww_220) rfl ?_
      refine ex_aload_n (pc := 46) 24 rfl rfl ?_
      refine ex_geta (pc := 47) 0 25 rfl clk2 rfl rfl (Or.inl ww_219) rfl ?_
      refine ex_geta (pc := 50) 0 26 rfl clk5 rfl rfl (Or.inr ⟨_, ww_185⟩) rfl ?_
      refine ex_iload (pc := 53) 27 rfl rfl ?_
      refine ex_invV (pc := 55) (M' := mX1_addTo) (As := [.inr (.inr 8), .inl 1]) (st := []) 28 rfl clk1 rfl rfl calX1_addTo (Or.inl ww_452) rfl rfl ?_
      refine vm_call.mono h ?_
      rintro m19 _ ⟨rfl, h⟩
      refine ex_iconst (pc := 58) 29 rfl ?_
      refine ex_istore (pc := 59) 30 rfl rfl rfl ?_
      exact h
set_option maxRecDepth 20000 in
theorem qX2_load_61 {G : vm_G} {d : Nat} {v2 : Int} {v3 : Bool} {v4 : Int} {v5 : Int} {mem : vm_M} {Q : vm_M → Prop} (h : (vm_R v5) ∧ ((10 < v5 → Q mem) ∧ (¬ 10 < v5 → (vm_R (vm_and v2 (vm_shl 1 v5))) ∧ (((vm_and v2 (vm_shl 1 v5)) = 0 → vm_ex G (d + 1) mX2_load 61 [some (.inr (.inr 2)), some (.inr (.inr 1)), some (.inl v2), some (.inl (vm_b2i v3)), some (.inl v4), some (.inl (v5 + 1))] [] mem (vm_qn Q)) ∧ (¬ (vm_and v2 (vm_shl 1 v5)) = 0 → vm_cn G d mX2_addFact [.inr (.inr 2), .inr (.inr 1), .inl v5, .inl v4] mem (fun m3 => vm_ex G (d + 1) mX2_load 61 [some (.inr (.inr 2)), some (.inr (.inr 1)), some (.inl v2), some (.inl (vm_b2i v3)), some (.inl v4), some (.inl (v5 + 1))] [] m3 (vm_qn Q))))))) : vm_ex G (d + 1) mX2_load 61 [some (.inr (.inr 2)), some (.inr (.inr 1)), some (.inl v2), some (.inl (vm_b2i v3)), some (.inl v4), some (.inl v5)] [] mem (vm_qn Q) := by
  refine ex_iload (pc := 61) 31 rfl rfl ?_
  refine ex_bipush (pc := 63) 32 rfl (by decide) ?_
  obtain ⟨hs1, h⟩ := h
  refine ex_icmp_gt (pc := 65) 92 33 rfl (by decide) hs1 ⟨by decide, by decide⟩ (fun hb => ?_) (fun hb => ?_)
  · have h := h.1 hb
    exact ex_ret (pc := 92) 47 rfl rfl ⟨rfl, h⟩
  · have h := h.2 hb
    refine ex_iload_n (pc := 68) 34 rfl rfl ?_
    refine ex_iconst (pc := 69) 35 rfl ?_
    refine ex_iload (pc := 70) 36 rfl rfl ?_
    refine ex_ishl (pc := 72) 37 rfl ?_
    refine ex_iand (pc := 73) 38 rfl ?_
    obtain ⟨hs2, h⟩ := h
    refine ex_if_eq (pc := 74) 86 39 rfl (by decide) hs2 (fun hb => ?_) (fun hb => ?_)
    · have h := h.1 hb
      refine ex_iinc (pc := 86) 45 rfl rfl rfl rfl ?_
      refine ex_goto (pc := 89) 61 46 rfl (by decide) ?_
      exact h
    · have h := h.2 hb
      refine ex_aload_n (pc := 77) 40 rfl rfl ?_
      refine ex_aload_n (pc := 78) 41 rfl rfl ?_
      refine ex_iload (pc := 79) 42 rfl rfl ?_
      refine ex_iload (pc := 81) 43 rfl rfl ?_
      refine ex_invV (pc := 83) (M' := mX2_addFact) (As := [.inr (.inr 1), .inl v5, .inl v4]) (st := []) 44 rfl clk2 rfl rfl calX2_addFact (Or.inl ww_461) rfl rfl ?_
      refine vm_call.mono h ?_
      rintro m3 _ ⟨rfl, h⟩
      refine ex_iinc (pc := 86) 45 rfl rfl rfl rfl ?_
      refine ex_goto (pc := 89) 61 46 rfl (by decide) ?_
      exact h
set_option maxRecDepth 20000 in
theorem qX2_hasSizeFact {G : vm_G} {d : Nat} {p2 : Int} {mem : vm_M} {Q : vm_M → Bool → Prop} (h : vm_ex G (d + 1) mX2_hasSizeFact 2 [some (.inr (.inr 2)), some (.inr (.inr 1)), some (.inl p2), some (.inl 0)] [] mem (vm_qb Q)) : vm_cb G (d + 1) mX2_hasSizeFact [.inr (.inr 2), .inr (.inr 1), .inl p2] mem Q := by
  refine vm_enter (al := [some (.inr (.inr 2)), some (.inr (.inr 1)), some (.inl p2), none]) 1 okX2_hasSizeFact (by decide +kernel) rfl rfl ?_
  refine ex_iconst (pc := 0) 0 rfl ?_
  refine ex_istore_n (pc := 1) 1 rfl rfl rfl ?_
  exact h
set_option maxRecDepth 20000 in
theorem qX2_hasSizeFact_2 {G : vm_G} {d : Nat} {v2 : Int} {v3 : Int} {mem : vm_M} {Q : vm_M → Bool → Prop} (h : (vm_R v3) ∧ ((10 < v3 → Q mem false) ∧ (¬ 10 < v3 → (vm_R (vm_and v2 (vm_shl 1 v3))) ∧ (((vm_and v2 (vm_shl 1 v3)) = 0 → vm_ex G (d + 1) mX2_hasSizeFact 2 [some (.inr (.inr 2)), some (.inr (.inr 1)), some (.inl v2), some (.inl (v3 + 1))] [] mem (vm_qb Q)) ∧ (¬ (vm_and v2 (vm_shl 1 v3)) = 0 → vm_ci G d mX0_number [.inr (.inr 1), .inl v3, .inl 0] mem (fun m3 r4 => (vm_R r4) ∧ ((¬ r4 = 1 → vm_ex G (d + 1) mX2_hasSizeFact 2 [some (.inr (.inr 2)), some (.inr (.inr 1)), some (.inl v2), some (.inl (v3 + 1))] [] m3 (vm_qb Q)) ∧ (r4 = 1 → Q m3 true)))))))) : vm_ex G (d + 1) mX2_hasSizeFact 2 [some (.inr (.inr 2)), some (.inr (.inr 1)), some (.inl v2), some (.inl v3)] [] mem (vm_qb Q) := by
  refine ex_iload_n (pc := 2) 2 rfl rfl ?_
  refine ex_bipush (pc := 3) 3 rfl (by decide) ?_
  obtain ⟨hs1, h⟩ := h
  refine ex_icmp_gt (pc := 5) 34 4 rfl (by decide) hs1 ⟨by decide, by decide⟩ (fun hb => ?_) (fun hb => ?_)
  · have h := h.1 hb
    refine ex_iconst (pc := 34) 21 rfl ?_
    exact ex_iret (pc := 35) 22 rfl (Or.inr ⟨rfl, by decide⟩) ⟨false, rfl, h⟩
  · have h := h.2 hb
    refine ex_iload_n (pc := 8) 5 rfl rfl ?_
    refine ex_iconst (pc := 9) 6 rfl ?_
    refine ex_iload_n (pc := 10) 7 rfl rfl ?_
    refine ex_ishl (pc := 11) 8 rfl ?_
    refine ex_iand (pc := 12) 9 rfl ?_
    obtain ⟨hs2, h⟩ := h
    refine ex_if_eq (pc := 13) 28 10 rfl (by decide) hs2 (fun hb => ?_) (fun hb => ?_)
    · have h := h.1 hb
      refine ex_iinc (pc := 28) 19 rfl rfl rfl rfl ?_
      refine ex_goto (pc := 31) 2 20 rfl (by decide) ?_
      exact h
    · have h := h.2 hb
      refine ex_aload_n (pc := 16) 11 rfl rfl ?_
      refine ex_iload_n (pc := 17) 12 rfl rfl ?_
      refine ex_iconst (pc := 18) 13 rfl ?_
      refine ex_invV (pc := 19) (M' := mX0_number) (As := [.inl v3, .inl 0]) (st := []) 14 rfl clk0 rfl rfl calX0_number (Or.inl ww_400) rfl rfl ?_
      refine vm_call.mono h ?_
      rintro m3 _ ⟨r4, rfl, h⟩
      refine ex_iconst (pc := 22) 15 rfl ?_
      obtain ⟨hs5, h⟩ := h
      refine ex_icmp_ne (pc := 23) 28 16 rfl (by decide) hs5 ⟨by decide, by decide⟩ (fun hb => ?_) (fun hb => ?_)
      · have h := h.1 hb
        refine ex_iinc (pc := 28) 19 rfl rfl rfl rfl ?_
        refine ex_goto (pc := 31) 2 20 rfl (by decide) ?_
        exact h
      · have h := h.2 hb
        refine ex_iconst (pc := 26) 17 rfl ?_
        exact ex_iret (pc := 27) 18 rfl (Or.inr ⟨rfl, by decide⟩) ⟨true, rfl, h⟩
set_option maxRecDepth 20000 in
theorem qX2_addFact {G : vm_G} {d : Nat} {p2 : Int} {p3 : Bool} {mem : vm_M} {Q : vm_M → Prop} (h : vm_ci G d mX0_number [.inr (.inr 1), .inl p2, .inl 0] mem (fun m1 r2 => vm_ci G d mX0_number [.inr (.inr 1), .inl p2, .inl 1] m1 (fun m3 r4 => vm_ci G d mX0_number [.inr (.inr 1), .inl p2, .inl 2] m3 (fun m5 r6 => vm_ci G d mX0_number [.inr (.inr 1), .inl p2, .inl 3] m5 (fun m7 r8 => vm_ci G d mX0_number [.inr (.inr 1), .inl p2, .inl 4] m7 (fun m9 r10 => (vm_R r2) ∧ ((¬ r2 = 0 → ((¬ r2 = 1 → ((¬ r2 = 6 → ((r2 = 2 → vm_ex G (d + 1) mX2_addFact 164 [some (.inr (.inr 2)), some (.inr (.inr 1)), some (.inl p2), some (.inl (vm_b2i p3)), some (.inl r2), some (.inl r4), some (.inl r6), some (.inl r8), some (.inl r10), some (.inl 0)] [] m9 (vm_qn Q)) ∧ (¬ r2 = 2 → ((r2 = 3 → vm_ex G (d + 1) mX2_addFact 164 [some (.inr (.inr 2)), some (.inr (.inr 1)), some (.inl p2), some (.inl (vm_b2i p3)), some (.inl r2), some (.inl r4), some (.inl r6), some (.inl r8), some (.inl r10), some (.inl 0)] [] m9 (vm_qn Q)) ∧ (¬ r2 = 3 → ((¬ r2 = 4 → Q m9) ∧ (r2 = 4 → vm_ex G (d + 1) mX2_addFact 164 [some (.inr (.inr 2)), some (.inr (.inr 1)), some (.inl p2), some (.inl (vm_b2i p3)), some (.inl r2), some (.inl r4), some (.inl r6), some (.inl r8), some (.inl r10), some (.inl 0)] [] m9 (vm_qn Q)))))))) ∧ (r2 = 6 → (vm_R r6) ∧ (vm_R r10) ∧ ((r6 = r10 → ((r2 = 2 → vm_ex G (d + 1) mX2_addFact 164 [some (.inr (.inr 2)), some (.inr (.inr 1)), some (.inl p2), some (.inl (vm_b2i p3)), some (.inl r2), some (.inl r4), some (.inl r6), some (.inl r8), some (.inl r10), some (.inl 0)] [] m9 (vm_qn Q)) ∧ (¬ r2 = 2 → ((r2 = 3 → vm_ex G (d + 1) mX2_addFact 164 [some (.inr (.inr 2)), some (.inr (.inr 1)), some (.inl p2), some (.inl (vm_b2i p3)), some (.inl r2), some (.inl r4), some (.inl r6), some (.inl r8), some (.inl r10), some (.inl 0)] [] m9 (vm_qn Q)) ∧ (¬ r2 = 3 → ((¬ r2 = 4 → Q m9) ∧ (r2 = 4 → vm_ex G (d + 1) mX2_addFact 164 [some (.inr (.inr 2)), some (.inr (.inr 1)), some (.inl p2), some (.inl (vm_b2i p3)), some (.inl r2), some (.inl r4), some (.inl r6), some (.inl r8), some (.inl r10), some (.inl 0)] [] m9 (vm_qn Q)))))))) ∧ (¬ r6 = r10 → vm_ci G d mX0_number [.inr (.inr 1), .inl p2, .inl 5] m9 (fun m14 r15 => vm_ci G d mX5_variable [.inl r4, .inl r6] m14 (fun m16 r17 => vm_ci G d mX5_variable [.inl r8, .inl r10] m16 (fun m18 r19 => vm_cn G d mX4_difference [.inr (.inr 8), .inl r17, .inl r19, .inl r15] m18 (fun m20 => Q m20))))))))) ∧ (r2 = 1 → vm_ci G d mX5_variable [.inl r4, .inl 3] m9 (fun m22 r23 => vm_cn G d mX5_restrict [.inr (.inr 6), .inl r23, .inl r6, .inl r8] m22 (fun m24 => Q m24))))) ∧ (r2 = 0 → vm_ci G d mX5_variable [.inl r4, .inl r6] m9 (fun m26 r27 => vm_cn G d mX5_restrict [.inr (.inr 6), .inl r27, .inl r8, .inl r10] m26 (fun m28 => Q m28)))))))))) : vm_cn G (d + 1) mX2_addFact [.inr (.inr 2), .inr (.inr 1), .inl p2, .inl (vm_b2i p3)] mem Q := by
  refine vm_enter (al := [some (.inr (.inr 2)), some (.inr (.inr 1)), some (.inl p2), some (.inl (vm_b2i p3)), none, none, none, none, none, none]) 6 okX2_addFact (by decide +kernel) rfl rfl ?_
  refine ex_aload_n (pc := 0) 0 rfl rfl ?_
  refine ex_iload_n (pc := 1) 1 rfl rfl ?_
  refine ex_iconst (pc := 2) 2 rfl ?_
  refine ex_invV (pc := 3) (M' := mX0_number) (As := [.inl p2, .inl 0]) (st := []) 3 rfl clk0 rfl rfl calX0_number (Or.inl ww_400) rfl rfl ?_
  refine vm_call.mono h ?_
  rintro m1 _ ⟨r2, rfl, h⟩
  refine ex_istore (pc := 6) 4 rfl rfl rfl ?_
  refine ex_aload_n (pc := 8) 5 rfl rfl ?_
  refine ex_iload_n (pc := 9) 6 rfl rfl ?_
  refine ex_iconst (pc := 10) 7 rfl ?_
  refine ex_invV (pc := 11) (M' := mX0_number) (As := [.inl p2, .inl 1]) (st := []) 8 rfl clk0 rfl rfl calX0_number (Or.inl ww_400) rfl rfl ?_
  refine vm_call.mono h ?_
  rintro m3 _ ⟨r4, rfl, h⟩
  refine ex_istore (pc := 14) 9 rfl rfl rfl ?_
  refine ex_aload_n (pc := 16) 10 rfl rfl ?_
  refine ex_iload_n (pc := 17) 11 rfl rfl ?_
  refine ex_iconst (pc := 18) 12 rfl ?_
  refine ex_invV (pc := 19) (M' := mX0_number) (As := [.inl p2, .inl 2]) (st := []) 13 rfl clk0 rfl rfl calX0_number (Or.inl ww_400) rfl rfl ?_
  refine vm_call.mono h ?_
  rintro m5 _ ⟨r6, rfl, h⟩
  refine ex_istore (pc := 22) 14 rfl rfl rfl ?_
  refine ex_aload_n (pc := 24) 15 rfl rfl ?_
  refine ex_iload_n (pc := 25) 16 rfl rfl ?_
  refine ex_iconst (pc := 26) 17 rfl ?_
  refine ex_invV (pc := 27) (M' := mX0_number) (As := [.inl p2, .inl 3]) (st := []) 18 rfl clk0 rfl rfl calX0_number (Or.inl ww_400) rfl rfl ?_
  refine vm_call.mono h ?_
  rintro m7 _ ⟨r8, rfl, h⟩
  refine ex_istore (pc := 30) 19 rfl rfl rfl ?_
  refine ex_aload_n (pc := 32) 20 rfl rfl ?_
  refine ex_iload_n (pc := 33) 21 rfl rfl ?_
  refine ex_iconst (pc := 34) 22 rfl ?_
  refine ex_invV (pc := 35) (M' := mX0_number) (As := [.inl p2, .inl 4]) (st := []) 23 rfl clk0 rfl rfl calX0_number (Or.inl ww_400) rfl rfl ?_
  refine vm_call.mono h ?_
  rintro m9 _ ⟨r10, rfl, h⟩
  refine ex_istore (pc := 38) 24 rfl rfl rfl ?_
  refine ex_iload (pc := 40) 25 rfl rfl ?_
  obtain ⟨hs11, h⟩ := h
  refine ex_if_ne (pc := 42) 66 26 rfl (by decide) hs11 (fun hb => ?_) (fun hb => ?_)
  · have h := h.1 hb
    refine ex_iload (pc := 66) 36 rfl rfl ?_
    refine ex_iconst (pc := 68) 37 rfl ?_
    refine ex_icmp_ne (pc := 69) 92 38 rfl (by decide) hs11 ⟨by decide, by decide⟩ (fun hb => ?_) (fun hb => ?_)
    · have h := h.1 hb
      refine ex_iload (pc := 92) 48 rfl rfl ?_
      refine ex_bipush (pc := 94) 49 rfl (by decide) ?_
      refine ex_icmp_ne (pc := 96) 143 50 rfl (by decide) hs11 ⟨by decide, by decide⟩ (fun hb => ?_) (fun hb => ?_)
      · have h := h.1 hb
        refine ex_iload (pc := 143) 71 rfl rfl ?_
        refine ex_iconst (pc := 145) 72 rfl ?_
        refine ex_icmp_eq (pc := 146) 161 73 rfl (by decide) hs11 ⟨by decide, by decide⟩ (fun hb => ?_) (fun hb => ?_)
        · have h := h.1 hb
          refine ex_iconst (pc := 161) 80 rfl ?_
          refine ex_istore (pc := 162) 81 rfl rfl rfl ?_
          exact h
        · have h := h.2 hb
          refine ex_iload (pc := 149) 74 rfl rfl ?_
          refine ex_iconst (pc := 151) 75 rfl ?_
          refine ex_icmp_eq (pc := 152) 161 76 rfl (by decide) hs11 ⟨by decide, by decide⟩ (fun hb => ?_) (fun hb => ?_)
          · have h := h.1 hb
            refine ex_iconst (pc := 161) 80 rfl ?_
            refine ex_istore (pc := 162) 81 rfl rfl rfl ?_
            exact h
          · have h := h.2 hb
            refine ex_iload (pc := 155) 77 rfl rfl ?_
            refine ex_iconst (pc := 157) 78 rfl ?_
            refine ex_icmp_ne (pc := 158) 198 79 rfl (by decide) hs11 ⟨by decide, by decide⟩ (fun hb => ?_) (fun hb => ?_)
            · have h := h.1 hb
              exact ex_ret (pc := 198) 98 rfl rfl ⟨rfl, h⟩
            · have h := h.2 hb
              refine ex_iconst (pc := 161) 80 rfl ?_
              refine ex_istore (pc := 162) 81 rfl rfl rfl ?_
              exact h
      · have h := h.2 hb
        refine ex_iload (pc := 99) 51 rfl rfl ?_
        refine ex_iload (pc := 101) 52 rfl rfl ?_
        obtain ⟨hs12, h⟩ := h
        obtain ⟨hs13, h⟩ := h
        refine ex_icmp_eq (pc := 103) 143 53 rfl (by decide) hs12 hs13 (fun hb => ?_) (fun hb => ?_)
        · have h := h.1 hb
          refine ex_iload (pc := 143) 71 rfl rfl ?_
          refine ex_iconst (pc := 145) 72 rfl ?_
          refine ex_icmp_eq (pc := 146) 161 73 rfl (by decide) hs11 ⟨by decide, by decide⟩ (fun hb => ?_) (fun hb => ?_)
          · have h := h.1 hb
            refine ex_iconst (pc := 161) 80 rfl ?_
            refine ex_istore (pc := 162) 81 rfl rfl rfl ?_
            exact h
          · have h := h.2 hb
            refine ex_iload (pc := 149) 74 rfl rfl ?_
            refine ex_iconst (pc := 151) 75 rfl ?_
            refine ex_icmp_eq (pc := 152) 161 76 rfl (by decide) hs11 ⟨by decide, by decide⟩ (fun hb => ?_) (fun hb => ?_)
            · have h := h.1 hb
              refine ex_iconst (pc := 161) 80 rfl ?_
              refine ex_istore (pc := 162) 81 rfl rfl rfl ?_
              exact h
            · have h := h.2 hb
              refine ex_iload (pc := 155) 77 rfl rfl ?_
              refine ex_iconst (pc := 157) 78 rfl ?_
              refine ex_icmp_ne (pc := 158) 198 79 rfl (by decide) hs11 ⟨by decide, by decide⟩ (fun hb => ?_) (fun hb => ?_)
              · have h := h.1 hb
                exact ex_ret (pc := 198) 98 rfl rfl ⟨rfl, h⟩
              · have h := h.2 hb
                refine ex_iconst (pc := 161) 80 rfl ?_
                refine ex_istore (pc := 162) 81 rfl rfl rfl ?_
                exact h
        · have h := h.2 hb
          refine ex_aload_n (pc := 106) 54 rfl rfl ?_
          refine ex_iload_n (pc := 107) 55 rfl rfl ?_
          refine ex_iconst (pc := 108) 56 rfl ?_
          refine ex_invV (pc := 109) (M' := mX0_number) (As := [.inl p2, .inl 5]) (st := []) 57 rfl clk0 rfl rfl calX0_number (Or.inl ww_400) rfl rfl ?_
          refine vm_call.mono h ?_
          rintro m14 _ ⟨r15, rfl, h⟩
          refine ex_istore (pc := 112) 58 rfl rfl rfl ?_
          refine ex_aload_n (pc := 114) 59 rfl rfl ?_
          refine ex_geta (pc := 115) 0 60 rfl clk2 rfl rfl (Or.inl ww_219) rfl ?_
          refine ex_geta (pc := 118) 0 61 rfl clk5 rfl rfl (Or.inr ⟨_, ww_185⟩) rfl ?_
          refine ex_iload (pc := 121) 62 rfl rfl ?_
          refine ex_iload (pc := 123) 63 rfl rfl ?_
          refine ex_invS (pc := 125) (M' := mX5_variable) (As := [.inl r4, .inl r6]) (st := [.inr (.inr 8)]) 64 rfl calX5_variable (Or.inl ww_465) rfl rfl ?_
          refine vm_call.mono h ?_
          rintro m16 _ ⟨r17, rfl, h⟩
          refine ex_iload (pc := 128) 65 rfl rfl ?_
          refine ex_iload (pc := 130) 66 rfl rfl ?_
          refine ex_invS (pc := 132) (M' := mX5_variable) (As := [.inl r8, .inl r10]) (st := [.inl r17, .inr (.inr 8)]) 67 rfl calX5_variable (Or.inl ww_465) rfl rfl ?_
          refine vm_call.mono h ?_
          rintro m18 _ ⟨r19, rfl, h⟩
          refine ex_iload (pc := 135) 68 rfl rfl ?_
          refine ex_invV (pc := 137) (M' := mX4_difference) (As := [.inl r17, .inl r19, .inl r15]) (st := []) 69 rfl clk4 rfl rfl calX4_difference (Or.inl ww_475) rfl rfl ?_
          refine vm_call.mono h ?_
          rintro m20 _ ⟨rfl, h⟩
          refine ex_goto (pc := 140) 198 70 rfl (by decide) ?_
          exact ex_ret (pc := 198) 98 rfl rfl ⟨rfl, h⟩
    · have h := h.2 hb
      refine ex_aload_n (pc := 72) 39 rfl rfl ?_
      refine ex_geta (pc := 73) 0 40 rfl clk2 rfl rfl (Or.inl ww_219) rfl ?_
      refine ex_iload (pc := 76) 41 rfl rfl ?_
      refine ex_iconst (pc := 78) 42 rfl ?_
      refine ex_invS (pc := 79) (M' := mX5_variable) (As := [.inl r4, .inl 3]) (st := [.inr (.inr 6)]) 43 rfl calX5_variable (Or.inl ww_465) rfl rfl ?_
      refine vm_call.mono h ?_
      rintro m22 _ ⟨r23, rfl, h⟩
      refine ex_iload (pc := 82) 44 rfl rfl ?_
      refine ex_iload (pc := 84) 45 rfl rfl ?_
      refine ex_invV (pc := 86) (M' := mX5_restrict) (As := [.inl r23, .inl r6, .inl r8]) (st := []) 46 rfl clk5 rfl rfl calX5_restrict (Or.inl ww_466) rfl rfl ?_
      refine vm_call.mono h ?_
      rintro m24 _ ⟨rfl, h⟩
      refine ex_goto (pc := 89) 198 47 rfl (by decide) ?_
      exact ex_ret (pc := 198) 98 rfl rfl ⟨rfl, h⟩
  · have h := h.2 hb
    refine ex_aload_n (pc := 45) 27 rfl rfl ?_
    refine ex_geta (pc := 46) 0 28 rfl clk2 rfl rfl (Or.inl ww_219) rfl ?_
    refine ex_iload (pc := 49) 29 rfl rfl ?_
    refine ex_iload (pc := 51) 30 rfl rfl ?_
    refine ex_invS (pc := 53) (M' := mX5_variable) (As := [.inl r4, .inl r6]) (st := [.inr (.inr 6)]) 31 rfl calX5_variable (Or.inl ww_465) rfl rfl ?_
    refine vm_call.mono h ?_
    rintro m26 _ ⟨r27, rfl, h⟩
    refine ex_iload (pc := 56) 32 rfl rfl ?_
    refine ex_iload (pc := 58) 33 rfl rfl ?_
    refine ex_invV (pc := 60) (M' := mX5_restrict) (As := [.inl r27, .inl r8, .inl r10]) (st := []) 34 rfl clk5 rfl rfl calX5_restrict (Or.inl ww_466) rfl rfl ?_
    refine vm_call.mono h ?_
    rintro m28 _ ⟨rfl, h⟩
    refine ex_goto (pc := 63) 198 35 rfl (by decide) ?_
    exact ex_ret (pc := 198) 98 rfl rfl ⟨rfl, h⟩
set_option maxRecDepth 20000 in
theorem qX2_addFact_164 {G : vm_G} {d : Nat} {v2 : Int} {v3 : Bool} {v4 : Int} {v5 : Int} {v6 : Int} {v7 : Int} {v8 : Int} {v9 : Int} {mem : vm_M} {Q : vm_M → Prop} (h : (v3 = false → (vm_R v9) ∧ ((3 ≤ v9 → Q mem) ∧ (¬ 3 ≤ v9 → vm_cn G d mX2_addColumn [.inr (.inr 2), .inl v4, .inl v9, .inl v5, .inl v6, .inl v7] mem (fun m2 => vm_ex G (d + 1) mX2_addFact 164 [some (.inr (.inr 2)), some (.inr (.inr 1)), some (.inl v2), some (.inl (vm_b2i v3)), some (.inl v4), some (.inl v5), some (.inl v6), some (.inl v7), some (.inl v8), some (.inl (v9 + 1))] [] m2 (vm_qn Q))))) ∧ (v3 = true → (vm_R v9) ∧ ((4 ≤ v9 → Q mem) ∧ (¬ 4 ≤ v9 → vm_cn G d mX2_addColumn [.inr (.inr 2), .inl v4, .inl v9, .inl v5, .inl v6, .inl v7] mem (fun m5 => vm_ex G (d + 1) mX2_addFact 164 [some (.inr (.inr 2)), some (.inr (.inr 1)), some (.inl v2), some (.inl (vm_b2i v3)), some (.inl v4), some (.inl v5), some (.inl v6), some (.inl v7), some (.inl v8), some (.inl (v9 + 1))] [] m5 (vm_qn Q)))))) : vm_ex G (d + 1) mX2_addFact 164 [some (.inr (.inr 2)), some (.inr (.inr 1)), some (.inl v2), some (.inl (vm_b2i v3)), some (.inl v4), some (.inl v5), some (.inl v6), some (.inl v7), some (.inl v8), some (.inl v9)] [] mem (vm_qn Q) := by
  refine ex_iload (pc := 164) 82 rfl rfl ?_
  refine ex_iload_n (pc := 166) 83 rfl rfl ?_
  refine ex_if_eq (pc := 167) 174 84 rfl (by decide) (vm_b2i_R _) (fun hb => ?_) (fun hb => ?_)
  · have h := h.1 (vm_b2i_0.mp hb)
    refine ex_iconst (pc := 174) 87 rfl ?_
    obtain ⟨hs1, h⟩ := h
    refine ex_icmp_ge (pc := 175) 198 88 rfl (by decide) hs1 ⟨by decide, by decide⟩ (fun hb => ?_) (fun hb => ?_)
    · have h := h.1 hb
      exact ex_ret (pc := 198) 98 rfl rfl ⟨rfl, h⟩
    · have h := h.2 hb
      refine ex_aload_n (pc := 178) 89 rfl rfl ?_
      refine ex_iload (pc := 179) 90 rfl rfl ?_
      refine ex_iload (pc := 181) 91 rfl rfl ?_
      refine ex_iload (pc := 183) 92 rfl rfl ?_
      refine ex_iload (pc := 185) 93 rfl rfl ?_
      refine ex_iload (pc := 187) 94 rfl rfl ?_
      refine ex_invV (pc := 189) (M' := mX2_addColumn) (As := [.inl v4, .inl v9, .inl v5, .inl v6, .inl v7]) (st := []) 95 rfl clk2 rfl rfl calX2_addColumn (Or.inl ww_476) rfl rfl ?_
      refine vm_call.mono h ?_
      rintro m2 _ ⟨rfl, h⟩
      refine ex_iinc (pc := 192) 96 rfl rfl rfl rfl ?_
      refine ex_goto (pc := 195) 164 97 rfl (by decide) ?_
      exact h
  · have h := h.2 (vm_b2i_n.mp hb)
    refine ex_iconst (pc := 170) 85 rfl ?_
    refine ex_goto (pc := 171) 175 86 rfl (by decide) ?_
    obtain ⟨hs4, h⟩ := h
    refine ex_icmp_ge (pc := 175) 198 88 rfl (by decide) hs4 ⟨by decide, by decide⟩ (fun hb => ?_) (fun hb => ?_)
    · have h := h.1 hb
      exact ex_ret (pc := 198) 98 rfl rfl ⟨rfl, h⟩
    · have h := h.2 hb
      refine ex_aload_n (pc := 178) 89 rfl rfl ?_
      refine ex_iload (pc := 179) 90 rfl rfl ?_
      refine ex_iload (pc := 181) 91 rfl rfl ?_
      refine ex_iload (pc := 183) 92 rfl rfl ?_
      refine ex_iload (pc := 185) 93 rfl rfl ?_
      refine ex_iload (pc := 187) 94 rfl rfl ?_
      refine ex_invV (pc := 189) (M' := mX2_addColumn) (As := [.inl v4, .inl v9, .inl v5, .inl v6, .inl v7]) (st := []) 95 rfl clk2 rfl rfl calX2_addColumn (Or.inl ww_476) rfl rfl ?_
      refine vm_call.mono h ?_
      rintro m5 _ ⟨rfl, h⟩
      refine ex_iinc (pc := 192) 96 rfl rfl rfl rfl ?_
      refine ex_goto (pc := 195) 164 97 rfl (by decide) ?_
      exact h
set_option maxRecDepth 20000 in
theorem qX2_addColumn {G : vm_G} {d : Nat} {p1 : Int} {p2 : Int} {p3 : Int} {p4 : Int} {p5 : Int} {mem : vm_M} {Q : vm_M → Prop} (h : vm_ci G d mX5_variable [.inl p3, .inl p2] mem (fun m1 r2 => vm_ci G d mX5_variable [.inl p4, .inl p2] m1 (fun m3 r4 => vm_ci G d mX5_variable [.inl p5, .inl p2] m3 (fun m5 r6 => (vm_R p1) ∧ ((¬ p1 = 2 → (vm_R p2) ∧ ((p2 = 3 → Q m5) ∧ (¬ p2 = 3 → ((¬ p1 = 3 → vm_cn G d mX4_choice [.inr (.inr 8), .inl 2, .inl r2, .inl r4, .inl r6] m5 (fun m9 => Q m9)) ∧ (p1 = 3 → vm_cn G d mX4_choice [.inr (.inr 8), .inl 1, .inl r2, .inl r4, .inl r6] m5 (fun m11 => Q m11)))))) ∧ (p1 = 2 → vm_cn G d mX4_sum [.inr (.inr 8), .inl r2, .inl r4, .inl r6, .inl 0, .inl 0] m5 (fun m13 => Q m13))))))) : vm_cn G (d + 1) mX2_addColumn [.inr (.inr 2), .inl p1, .inl p2, .inl p3, .inl p4, .inl p5] mem Q := by
  refine vm_enter (al := [some (.inr (.inr 2)), some (.inl p1), some (.inl p2), some (.inl p3), some (.inl p4), some (.inl p5), none, none, none]) 3 okX2_addColumn (by decide +kernel) rfl rfl ?_
  refine ex_iload_n (pc := 0) 0 rfl rfl ?_
  refine ex_iload_n (pc := 1) 1 rfl rfl ?_
  refine ex_invS (pc := 2) (M' := mX5_variable) (As := [.inl p3, .inl p2]) (st := []) 2 rfl calX5_variable (Or.inl ww_465) rfl rfl ?_
  refine vm_call.mono h ?_
  rintro m1 _ ⟨r2, rfl, h⟩
  refine ex_istore (pc := 5) 3 rfl rfl rfl ?_
  refine ex_iload (pc := 7) 4 rfl rfl ?_
  refine ex_iload_n (pc := 9) 5 rfl rfl ?_
  refine ex_invS (pc := 10) (M' := mX5_variable) (As := [.inl p4, .inl p2]) (st := []) 6 rfl calX5_variable (Or.inl ww_465) rfl rfl ?_
  refine vm_call.mono h ?_
  rintro m3 _ ⟨r4, rfl, h⟩
  refine ex_istore (pc := 13) 7 rfl rfl rfl ?_
  refine ex_iload (pc := 15) 8 rfl rfl ?_
  refine ex_iload_n (pc := 17) 9 rfl rfl ?_
  refine ex_invS (pc := 18) (M' := mX5_variable) (As := [.inl p5, .inl p2]) (st := []) 10 rfl calX5_variable (Or.inl ww_465) rfl rfl ?_
  refine vm_call.mono h ?_
  rintro m5 _ ⟨r6, rfl, h⟩
  refine ex_istore (pc := 21) 11 rfl rfl rfl ?_
  refine ex_iload_n (pc := 23) 12 rfl rfl ?_
  refine ex_iconst (pc := 24) 13 rfl ?_
  obtain ⟨hs7, h⟩ := h
  refine ex_icmp_ne (pc := 25) 49 14 rfl (by decide) hs7 ⟨by decide, by decide⟩ (fun hb => ?_) (fun hb => ?_)
  · have h := h.1 hb
    refine ex_iload_n (pc := 49) 25 rfl rfl ?_
    refine ex_iconst (pc := 50) 26 rfl ?_
    obtain ⟨hs8, h⟩ := h
    refine ex_icmp_eq (pc := 51) 80 27 rfl (by decide) hs8 ⟨by decide, by decide⟩ (fun hb => ?_) (fun hb => ?_)
    · have h := h.1 hb
      exact ex_ret (pc := 80) 41 rfl rfl ⟨rfl, h⟩
    · have h := h.2 hb
      refine ex_aload_n (pc := 54) 28 rfl rfl ?_
      refine ex_geta (pc := 55) 0 29 rfl clk2 rfl rfl (Or.inl ww_219) rfl ?_
      refine ex_geta (pc := 58) 0 30 rfl clk5 rfl rfl (Or.inr ⟨_, ww_185⟩) rfl ?_
      refine ex_iload_n (pc := 61) 31 rfl rfl ?_
      refine ex_iconst (pc := 62) 32 rfl ?_
      refine ex_icmp_ne (pc := 63) 70 33 rfl (by decide) hs7 ⟨by decide, by decide⟩ (fun hb => ?_) (fun hb => ?_)
      · have h := h.1 hb
        refine ex_iconst (pc := 70) 36 rfl ?_
        refine ex_iload (pc := 71) 37 rfl rfl ?_
        refine ex_iload (pc := 73) 38 rfl rfl ?_
        refine ex_iload (pc := 75) 39 rfl rfl ?_
        refine ex_invV (pc := 77) (M' := mX4_choice) (As := [.inl 2, .inl r2, .inl r4, .inl r6]) (st := []) 40 rfl clk4 rfl rfl calX4_choice (Or.inl ww_484) rfl rfl ?_
        refine vm_call.mono h ?_
        rintro m9 _ ⟨rfl, h⟩
        exact ex_ret (pc := 80) 41 rfl rfl ⟨rfl, h⟩
      · have h := h.2 hb
        refine ex_iconst (pc := 66) 34 rfl ?_
        refine ex_goto (pc := 67) 71 35 rfl (by decide) ?_
        refine ex_iload (pc := 71) 37 rfl rfl ?_
        refine ex_iload (pc := 73) 38 rfl rfl ?_
        refine ex_iload (pc := 75) 39 rfl rfl ?_
        refine ex_invV (pc := 77) (M' := mX4_choice) (As := [.inl 1, .inl r2, .inl r4, .inl r6]) (st := []) 40 rfl clk4 rfl rfl calX4_choice (Or.inl ww_484) rfl rfl ?_
        refine vm_call.mono h ?_
        rintro m11 _ ⟨rfl, h⟩
        exact ex_ret (pc := 80) 41 rfl rfl ⟨rfl, h⟩
  · have h := h.2 hb
    refine ex_aload_n (pc := 28) 15 rfl rfl ?_
    refine ex_geta (pc := 29) 0 16 rfl clk2 rfl rfl (Or.inl ww_219) rfl ?_
    refine ex_geta (pc := 32) 0 17 rfl clk5 rfl rfl (Or.inr ⟨_, ww_185⟩) rfl ?_
    refine ex_iload (pc := 35) 18 rfl rfl ?_
    refine ex_iload (pc := 37) 19 rfl rfl ?_
    refine ex_iload (pc := 39) 20 rfl rfl ?_
    refine ex_iconst (pc := 41) 21 rfl ?_
    refine ex_iconst (pc := 42) 22 rfl ?_
    refine ex_invV (pc := 43) (M' := mX4_sum) (As := [.inl r2, .inl r4, .inl r6, .inl 0, .inl 0]) (st := []) 23 rfl clk4 rfl rfl calX4_sum (Or.inl ww_480) rfl rfl ?_
    refine vm_call.mono h ?_
    rintro m13 _ ⟨rfl, h⟩
    refine ex_goto (pc := 46) 80 24 rfl (by decide) ?_
    exact ex_ret (pc := 80) 41 rfl rfl ⟨rfl, h⟩
set_option maxRecDepth 20000 in
theorem qX2_addOpposite {G : vm_G} {d : Nat} {p2 : Int} {p3 : Int} {mem : vm_M} {Q : vm_M → Prop} (h : vm_ci G d mX0_number [.inr (.inr 1), .inl p2, .inl 0] mem (fun m1 r2 => vm_ci G d mX0_number [.inr (.inr 1), .inl p2, .inl 1] m1 (fun m3 r4 => vm_ci G d mX0_number [.inr (.inr 1), .inl p2, .inl 2] m3 (fun m5 r6 => vm_ci G d mX0_number [.inr (.inr 1), .inl p2, .inl 3] m5 (fun m7 r8 => vm_ci G d mX0_number [.inr (.inr 1), .inl p2, .inl 4] m7 (fun m9 r10 => (vm_R r2) ∧ ((¬ r2 = 0 → ((¬ r2 = 1 → ((¬ r2 = 6 → vm_ci G d mX5_variable [.inl r4, .inl (vm_rem p3 3)] m9 (fun m12 r13 => vm_ci G d mX5_variable [.inl r6, .inl (vm_rem p3 3)] m12 (fun m14 r15 => vm_ci G d mX5_variable [.inl r8, .inl (vm_rem p3 3)] m14 (fun m16 r17 => vm_cn G d mX2_addOppositeOfKind [.inr (.inr 2), .inl r2, .inl (vm_div p3 3), .inl r13, .inl r15, .inl r17] m16 (fun m18 => Q m18))))) ∧ (r2 = 6 → vm_ci G d mX0_number [.inr (.inr 1), .inl p2, .inl 5] m9 (fun m20 r21 => vm_ci G d mX5_variable [.inl r8, .inl r10] m20 (fun m22 r23 => vm_ci G d mX5_variable [.inl r4, .inl r6] m22 (fun m24 r25 => vm_cn G d mX4_difference [.inr (.inr 8), .inl r23, .inl r25, .inl (1 - r21)] m24 (fun m26 => Q m26))))))) ∧ (r2 = 1 → vm_ci G d mX5_variable [.inl r4, .inl 3] m9 (fun m28 r29 => vm_cn G d mX2_restrictOutside [.inr (.inr 2), .inl r29, .inl r6, .inl r8, .inl p3] m28 (fun m30 => Q m30))))) ∧ (r2 = 0 → vm_ci G d mX5_variable [.inl r4, .inl r6] m9 (fun m32 r33 => vm_cn G d mX2_restrictOutside [.inr (.inr 2), .inl r33, .inl r8, .inl r10, .inl p3] m32 (fun m34 => Q m34)))))))))) : vm_cn G (d + 1) mX2_addOpposite [.inr (.inr 2), .inr (.inr 1), .inl p2, .inl p3] mem Q := by
  refine vm_enter (al := [some (.inr (.inr 2)), some (.inr (.inr 1)), some (.inl p2), some (.inl p3), none, none, none, none, none, none]) 6 okX2_addOpposite (by decide +kernel) rfl rfl ?_
  refine ex_aload_n (pc := 0) 0 rfl rfl ?_
  refine ex_iload_n (pc := 1) 1 rfl rfl ?_
  refine ex_iconst (pc := 2) 2 rfl ?_
  refine ex_invV (pc := 3) (M' := mX0_number) (As := [.inl p2, .inl 0]) (st := []) 3 rfl clk0 rfl rfl calX0_number (Or.inl ww_400) rfl rfl ?_
  refine vm_call.mono h ?_
  rintro m1 _ ⟨r2, rfl, h⟩
  refine ex_istore (pc := 6) 4 rfl rfl rfl ?_
  refine ex_aload_n (pc := 8) 5 rfl rfl ?_
  refine ex_iload_n (pc := 9) 6 rfl rfl ?_
  refine ex_iconst (pc := 10) 7 rfl ?_
  refine ex_invV (pc := 11) (M' := mX0_number) (As := [.inl p2, .inl 1]) (st := []) 8 rfl clk0 rfl rfl calX0_number (Or.inl ww_400) rfl rfl ?_
  refine vm_call.mono h ?_
  rintro m3 _ ⟨r4, rfl, h⟩
  refine ex_istore (pc := 14) 9 rfl rfl rfl ?_
  refine ex_aload_n (pc := 16) 10 rfl rfl ?_
  refine ex_iload_n (pc := 17) 11 rfl rfl ?_
  refine ex_iconst (pc := 18) 12 rfl ?_
  refine ex_invV (pc := 19) (M' := mX0_number) (As := [.inl p2, .inl 2]) (st := []) 13 rfl clk0 rfl rfl calX0_number (Or.inl ww_400) rfl rfl ?_
  refine vm_call.mono h ?_
  rintro m5 _ ⟨r6, rfl, h⟩
  refine ex_istore (pc := 22) 14 rfl rfl rfl ?_
  refine ex_aload_n (pc := 24) 15 rfl rfl ?_
  refine ex_iload_n (pc := 25) 16 rfl rfl ?_
  refine ex_iconst (pc := 26) 17 rfl ?_
  refine ex_invV (pc := 27) (M' := mX0_number) (As := [.inl p2, .inl 3]) (st := []) 18 rfl clk0 rfl rfl calX0_number (Or.inl ww_400) rfl rfl ?_
  refine vm_call.mono h ?_
  rintro m7 _ ⟨r8, rfl, h⟩
  refine ex_istore (pc := 30) 19 rfl rfl rfl ?_
  refine ex_aload_n (pc := 32) 20 rfl rfl ?_
  refine ex_iload_n (pc := 33) 21 rfl rfl ?_
  refine ex_iconst (pc := 34) 22 rfl ?_
  refine ex_invV (pc := 35) (M' := mX0_number) (As := [.inl p2, .inl 4]) (st := []) 23 rfl clk0 rfl rfl calX0_number (Or.inl ww_400) rfl rfl ?_
  refine vm_call.mono h ?_
  rintro m9 _ ⟨r10, rfl, h⟩
  refine ex_istore (pc := 38) 24 rfl rfl rfl ?_
  refine ex_iload (pc := 40) 25 rfl rfl ?_
  obtain ⟨hs11, h⟩ := h
  refine ex_if_ne (pc := 42) 64 26 rfl (by decide) hs11 (fun hb => ?_) (fun hb => ?_)
  · have h := h.1 hb
    refine ex_iload (pc := 64) 36 rfl rfl ?_
    refine ex_iconst (pc := 66) 37 rfl ?_
    refine ex_icmp_ne (pc := 67) 88 38 rfl (by decide) hs11 ⟨by decide, by decide⟩ (fun hb => ?_) (fun hb => ?_)
    · have h := h.1 hb
      refine ex_iload (pc := 88) 48 rfl rfl ?_
      refine ex_bipush (pc := 90) 49 rfl (by decide) ?_
      refine ex_icmp_ne (pc := 92) 134 50 rfl (by decide) hs11 ⟨by decide, by decide⟩ (fun hb => ?_) (fun hb => ?_)
      · have h := h.1 hb
        refine ex_iload_n (pc := 134) 70 rfl rfl ?_
        refine ex_iconst (pc := 135) 71 rfl ?_
        refine ex_irem (pc := 136) 72 rfl ⟨⟨by decide, by decide⟩, by decide⟩ ?_
        refine ex_istore (pc := 137) 73 rfl rfl rfl ?_
        refine ex_aload_n (pc := 139) 74 rfl rfl ?_
        refine ex_iload (pc := 140) 75 rfl rfl ?_
        refine ex_iload_n (pc := 142) 76 rfl rfl ?_
        refine ex_iconst (pc := 143) 77 rfl ?_
        refine ex_idiv (pc := 144) 78 rfl ⟨⟨by decide, by decide⟩, by decide⟩ ?_
        refine ex_iload (pc := 145) 79 rfl rfl ?_
        refine ex_iload (pc := 147) 80 rfl rfl ?_
        refine ex_invS (pc := 149) (M' := mX5_variable) (As := [.inl r4, .inl (vm_rem p3 3)]) (st := [.inl (vm_div p3 3), .inl r2, .inr (.inr 2)]) 81 rfl calX5_variable (Or.inl ww_465) rfl rfl ?_
        refine vm_call.mono h ?_
        rintro m12 _ ⟨r13, rfl, h⟩
        refine ex_iload (pc := 152) 82 rfl rfl ?_
        refine ex_iload (pc := 154) 83 rfl rfl ?_
        refine ex_invS (pc := 156) (M' := mX5_variable) (As := [.inl r6, .inl (vm_rem p3 3)]) (st := [.inl r13, .inl (vm_div p3 3), .inl r2, .inr (.inr 2)]) 84 rfl calX5_variable (Or.inl ww_465) rfl rfl ?_
        refine vm_call.mono h ?_
        rintro m14 _ ⟨r15, rfl, h⟩
        refine ex_iload (pc := 159) 85 rfl rfl ?_
        refine ex_iload (pc := 161) 86 rfl rfl ?_
        refine ex_invS (pc := 163) (M' := mX5_variable) (As := [.inl r8, .inl (vm_rem p3 3)]) (st := [.inl r15, .inl r13, .inl (vm_div p3 3), .inl r2, .inr (.inr 2)]) 87 rfl calX5_variable (Or.inl ww_465) rfl rfl ?_
        refine vm_call.mono h ?_
        rintro m16 _ ⟨r17, rfl, h⟩
        refine ex_invV (pc := 166) (M' := mX2_addOppositeOfKind) (As := [.inl r2, .inl (vm_div p3 3), .inl r13, .inl r15, .inl r17]) (st := []) 88 rfl clk2 rfl rfl calX2_addOppositeOfKind (Or.inl ww_613) rfl rfl ?_
        refine vm_call.mono h ?_
        rintro m18 _ ⟨rfl, h⟩
        exact ex_ret (pc := 169) 89 rfl rfl ⟨rfl, h⟩
      · have h := h.2 hb
        refine ex_aload_n (pc := 95) 51 rfl rfl ?_
        refine ex_iload_n (pc := 96) 52 rfl rfl ?_
        refine ex_iconst (pc := 97) 53 rfl ?_
        refine ex_invV (pc := 98) (M' := mX0_number) (As := [.inl p2, .inl 5]) (st := []) 54 rfl clk0 rfl rfl calX0_number (Or.inl ww_400) rfl rfl ?_
        refine vm_call.mono h ?_
        rintro m20 _ ⟨r21, rfl, h⟩
        refine ex_istore (pc := 101) 55 rfl rfl rfl ?_
        refine ex_aload_n (pc := 103) 56 rfl rfl ?_
        refine ex_geta (pc := 104) 0 57 rfl clk2 rfl rfl (Or.inl ww_219) rfl ?_
        refine ex_geta (pc := 107) 0 58 rfl clk5 rfl rfl (Or.inr ⟨_, ww_185⟩) rfl ?_
        refine ex_iload (pc := 110) 59 rfl rfl ?_
        refine ex_iload (pc := 112) 60 rfl rfl ?_
        refine ex_invS (pc := 114) (M' := mX5_variable) (As := [.inl r8, .inl r10]) (st := [.inr (.inr 8)]) 61 rfl calX5_variable (Or.inl ww_465) rfl rfl ?_
        refine vm_call.mono h ?_
        rintro m22 _ ⟨r23, rfl, h⟩
        refine ex_iload (pc := 117) 62 rfl rfl ?_
        refine ex_iload (pc := 119) 63 rfl rfl ?_
        refine ex_invS (pc := 121) (M' := mX5_variable) (As := [.inl r4, .inl r6]) (st := [.inl r23, .inr (.inr 8)]) 64 rfl calX5_variable (Or.inl ww_465) rfl rfl ?_
        refine vm_call.mono h ?_
        rintro m24 _ ⟨r25, rfl, h⟩
        refine ex_iconst (pc := 124) 65 rfl ?_
        refine ex_iload (pc := 125) 66 rfl rfl ?_
        refine ex_isub (pc := 127) 67 rfl ?_
        refine ex_invV (pc := 128) (M' := mX4_difference) (As := [.inl r23, .inl r25, .inl (1 - r21)]) (st := []) 68 rfl clk4 rfl rfl calX4_difference (Or.inl ww_475) rfl rfl ?_
        refine vm_call.mono h ?_
        rintro m26 _ ⟨rfl, h⟩
        refine ex_goto (pc := 131) 169 69 rfl (by decide) ?_
        exact ex_ret (pc := 169) 89 rfl rfl ⟨rfl, h⟩
    · have h := h.2 hb
      refine ex_aload_n (pc := 70) 39 rfl rfl ?_
      refine ex_iload (pc := 71) 40 rfl rfl ?_
      refine ex_iconst (pc := 73) 41 rfl ?_
      refine ex_invS (pc := 74) (M' := mX5_variable) (As := [.inl r4, .inl 3]) (st := [.inr (.inr 2)]) 42 rfl calX5_variable (Or.inl ww_465) rfl rfl ?_
      refine vm_call.mono h ?_
      rintro m28 _ ⟨r29, rfl, h⟩
      refine ex_iload (pc := 77) 43 rfl rfl ?_
      refine ex_iload (pc := 79) 44 rfl rfl ?_
      refine ex_iload_n (pc := 81) 45 rfl rfl ?_
      refine ex_invV (pc := 82) (M' := mX2_restrictOutside) (As := [.inl r29, .inl r6, .inl r8, .inl p3]) (st := []) 46 rfl clk2 rfl rfl calX2_restrictOutside (Or.inl ww_609) rfl rfl ?_
      refine vm_call.mono h ?_
      rintro m30 _ ⟨rfl, h⟩
      refine ex_goto (pc := 85) 169 47 rfl (by decide) ?_
      exact ex_ret (pc := 169) 89 rfl rfl ⟨rfl, h⟩
  · have h := h.2 hb
    refine ex_aload_n (pc := 45) 27 rfl rfl ?_
    refine ex_iload (pc := 46) 28 rfl rfl ?_
    refine ex_iload (pc := 48) 29 rfl rfl ?_
    refine ex_invS (pc := 50) (M' := mX5_variable) (As := [.inl r4, .inl r6]) (st := [.inr (.inr 2)]) 30 rfl calX5_variable (Or.inl ww_465) rfl rfl ?_
    refine vm_call.mono h ?_
    rintro m32 _ ⟨r33, rfl, h⟩
    refine ex_iload (pc := 53) 31 rfl rfl ?_
    refine ex_iload (pc := 55) 32 rfl rfl ?_
    refine ex_iload_n (pc := 57) 33 rfl rfl ?_
    refine ex_invV (pc := 58) (M' := mX2_restrictOutside) (As := [.inl r33, .inl r8, .inl r10, .inl p3]) (st := []) 34 rfl clk2 rfl rfl calX2_restrictOutside (Or.inl ww_609) rfl rfl ?_
    refine vm_call.mono h ?_
    rintro m34 _ ⟨rfl, h⟩
    refine ex_goto (pc := 61) 169 35 rfl (by decide) ?_
    exact ex_ret (pc := 169) 89 rfl rfl ⟨rfl, h⟩
set_option maxRecDepth 20000 in
theorem qX2_restrictOutside {G : vm_G} {d : Nat} {p1 : Int} {p2 : Int} {p3 : Int} {p4 : Int} {mem : vm_M} {Q : vm_M → Prop} (h : (vm_R p4) ∧ ((¬ p4 = 0 → vm_cn G d mX5_restrict [.inr (.inr 6), .inl p1, .inl (p3 + 1), .inl 18] mem (fun m2 => Q m2)) ∧ (p4 = 0 → vm_cn G d mX5_restrict [.inr (.inr 6), .inl p1, .inl 0, .inl (p2 - 1)] mem (fun m4 => Q m4)))) : vm_cn G (d + 1) mX2_restrictOutside [.inr (.inr 2), .inl p1, .inl p2, .inl p3, .inl p4] mem Q := by
  refine vm_enter (al := [some (.inr (.inr 2)), some (.inl p1), some (.inl p2), some (.inl p3), some (.inl p4)]) 0 okX2_restrictOutside (by decide +kernel) rfl rfl ?_
  refine ex_iload (pc := 0) 0 rfl rfl ?_
  obtain ⟨hs1, h⟩ := h
  refine ex_if_ne (pc := 2) 20 1 rfl (by decide) hs1 (fun hb => ?_) (fun hb => ?_)
  · have h := h.1 hb
    refine ex_aload_n (pc := 20) 11 rfl rfl ?_
    refine ex_geta (pc := 21) 0 12 rfl clk2 rfl rfl (Or.inl ww_219) rfl ?_
    refine ex_iload_n (pc := 24) 13 rfl rfl ?_
    refine ex_iload_n (pc := 25) 14 rfl rfl ?_
    refine ex_iconst (pc := 26) 15 rfl ?_
    refine ex_iadd (pc := 27) 16 rfl ?_
    refine ex_bipush (pc := 28) 17 rfl (by decide) ?_
    refine ex_invV (pc := 30) (M' := mX5_restrict) (As := [.inl p1, .inl (p3 + 1), .inl 18]) (st := []) 18 rfl clk5 rfl rfl calX5_restrict (Or.inl ww_466) rfl rfl ?_
    refine vm_call.mono h ?_
    rintro m2 _ ⟨rfl, h⟩
    exact ex_ret (pc := 33) 19 rfl rfl ⟨rfl, h⟩
  · have h := h.2 hb
    refine ex_aload_n (pc := 5) 2 rfl rfl ?_
    refine ex_geta (pc := 6) 0 3 rfl clk2 rfl rfl (Or.inl ww_219) rfl ?_
    refine ex_iload_n (pc := 9) 4 rfl rfl ?_
    refine ex_iconst (pc := 10) 5 rfl ?_
    refine ex_iload_n (pc := 11) 6 rfl rfl ?_
    refine ex_iconst (pc := 12) 7 rfl ?_
    refine ex_isub (pc := 13) 8 rfl ?_
    refine ex_invV (pc := 14) (M' := mX5_restrict) (As := [.inl p1, .inl 0, .inl (p2 - 1)]) (st := []) 9 rfl clk5 rfl rfl calX5_restrict (Or.inl ww_466) rfl rfl ?_
    refine vm_call.mono h ?_
    rintro m4 _ ⟨rfl, h⟩
    refine ex_goto (pc := 17) 33 10 rfl (by decide) ?_
    exact ex_ret (pc := 33) 19 rfl rfl ⟨rfl, h⟩
set_option maxRecDepth 20000 in
theorem qX2_addOppositeOfKind {G : vm_G} {d : Nat} {p1 : Int} {p2 : Int} {p3 : Int} {p4 : Int} {p5 : Int} {mem : vm_M} {Q : vm_M → Prop} (h : (vm_R p2) ∧ ((¬ p2 = 0 → (vm_R p1) ∧ ((¬ p1 = 5 → ((¬ p1 = 2 → ((2 ≤ p2 → ((¬ p1 = 3 → vm_cn G d mX4_difference [.inr (.inr 8), .inl p4, .inl p3, .inl 1] mem (fun m3 => vm_cn G d mX4_difference [.inr (.inr 8), .inl p5, .inl p3, .inl 1] m3 (fun m5 => Q m5))) ∧ (p1 = 3 → vm_cn G d mX4_difference [.inr (.inr 8), .inl p3, .inl p4, .inl 1] mem (fun m7 => vm_cn G d mX4_difference [.inr (.inr 8), .inl p3, .inl p5, .inl 1] m7 (fun m9 => Q m9))))) ∧ (¬ 2 ≤ p2 → ((¬ p1 = 3 → ((¬ p1 = 3 → vm_cn G d mX4_difference [.inr (.inr 8), .inl p3, .inl p5, .inl 1] mem (fun m11 => Q m11)) ∧ (p1 = 3 → vm_cn G d mX4_difference [.inr (.inr 8), .inl p3, .inl p3, .inl 1] mem (fun m13 => Q m13)))) ∧ (p1 = 3 → ((¬ p1 = 3 → vm_cn G d mX4_difference [.inr (.inr 8), .inl p5, .inl p5, .inl 1] mem (fun m15 => Q m15)) ∧ (p1 = 3 → vm_cn G d mX4_difference [.inr (.inr 8), .inl p5, .inl p3, .inl 1] mem (fun m17 => Q m17)))))))) ∧ (p1 = 2 → ((¬ p2 = 0 → ((¬ p2 = 0 → vm_cn G d mX4_sum [.inr (.inr 8), .inl p3, .inl p4, .inl p5, .inl (-18), .inl (-1)] mem (fun m19 => Q m19)) ∧ (p2 = 0 → vm_cn G d mX4_sum [.inr (.inr 8), .inl p3, .inl p4, .inl p5, .inl (-18), .inl 18] mem (fun m21 => Q m21)))) ∧ (p2 = 0 → ((¬ p2 = 0 → vm_cn G d mX4_sum [.inr (.inr 8), .inl p3, .inl p4, .inl p5, .inl 1, .inl (-1)] mem (fun m23 => Q m23)) ∧ (p2 = 0 → vm_cn G d mX4_sum [.inr (.inr 8), .inl p3, .inl p4, .inl p5, .inl 1, .inl 18] mem (fun m25 => Q m25)))))))) ∧ (p1 = 5 → vm_cn G d mX4_difference [.inr (.inr 8), .inl p3, .inl p4, .inl 1] mem (fun m27 => Q m27)))) ∧ (p2 = 0 → (vm_R p1) ∧ ((¬ p1 = 5 → ((¬ p1 = 2 → ((2 ≤ p2 → ((¬ p1 = 3 → vm_cn G d mX4_difference [.inr (.inr 8), .inl p4, .inl p3, .inl 1] mem (fun m30 => vm_cn G d mX4_difference [.inr (.inr 8), .inl p5, .inl p3, .inl 1] m30 (fun m32 => Q m32))) ∧ (p1 = 3 → vm_cn G d mX4_difference [.inr (.inr 8), .inl p3, .inl p4, .inl 1] mem (fun m34 => vm_cn G d mX4_difference [.inr (.inr 8), .inl p3, .inl p5, .inl 1] m34 (fun m36 => Q m36))))) ∧ (¬ 2 ≤ p2 → ((¬ p1 = 3 → ((¬ p1 = 3 → vm_cn G d mX4_difference [.inr (.inr 8), .inl p3, .inl p4, .inl 1] mem (fun m38 => Q m38)) ∧ (p1 = 3 → vm_cn G d mX4_difference [.inr (.inr 8), .inl p3, .inl p3, .inl 1] mem (fun m40 => Q m40)))) ∧ (p1 = 3 → ((¬ p1 = 3 → vm_cn G d mX4_difference [.inr (.inr 8), .inl p4, .inl p4, .inl 1] mem (fun m42 => Q m42)) ∧ (p1 = 3 → vm_cn G d mX4_difference [.inr (.inr 8), .inl p4, .inl p3, .inl 1] mem (fun m44 => Q m44)))))))) ∧ (p1 = 2 → ((¬ p2 = 0 → ((¬ p2 = 0 → vm_cn G d mX4_sum [.inr (.inr 8), .inl p3, .inl p4, .inl p5, .inl (-18), .inl (-1)] mem (fun m46 => Q m46)) ∧ (p2 = 0 → vm_cn G d mX4_sum [.inr (.inr 8), .inl p3, .inl p4, .inl p5, .inl (-18), .inl 18] mem (fun m48 => Q m48)))) ∧ (p2 = 0 → ((¬ p2 = 0 → vm_cn G d mX4_sum [.inr (.inr 8), .inl p3, .inl p4, .inl p5, .inl 1, .inl (-1)] mem (fun m50 => Q m50)) ∧ (p2 = 0 → vm_cn G d mX4_sum [.inr (.inr 8), .inl p3, .inl p4, .inl p5, .inl 1, .inl 18] mem (fun m52 => Q m52)))))))) ∧ (p1 = 5 → vm_cn G d mX4_difference [.inr (.inr 8), .inl p3, .inl p4, .inl 1] mem (fun m54 => Q m54)))))) : vm_cn G (d + 1) mX2_addOppositeOfKind [.inr (.inr 2), .inl p1, .inl p2, .inl p3, .inl p4, .inl p5] mem Q := by
  refine vm_enter (al := [some (.inr (.inr 2)), some (.inl p1), some (.inl p2), some (.inl p3), some (.inl p4), some (.inl p5), none, none]) 2 okX2_addOppositeOfKind (by decide +kernel) rfl rfl ?_
  refine ex_aload_n (pc := 0) 0 rfl rfl ?_
  refine ex_geta (pc := 1) 0 1 rfl clk2 rfl rfl (Or.inl ww_219) rfl ?_
  refine ex_geta (pc := 4) 0 2 rfl clk5 rfl rfl (Or.inr ⟨_, ww_185⟩) rfl ?_
  refine ex_astore (pc := 7) 3 rfl rfl rfl ?_
  refine ex_iload_n (pc := 9) 4 rfl rfl ?_
  obtain ⟨hs1, h⟩ := h
  refine ex_if_ne (pc := 10) 18 5 rfl (by decide) hs1 (fun hb => ?_) (fun hb => ?_)
  · have h := h.1 hb
    refine ex_iload (pc := 18) 8 rfl rfl ?_
    refine ex_istore (pc := 20) 9 rfl rfl rfl ?_
    refine ex_iload_n (pc := 22) 10 rfl rfl ?_
    refine ex_iconst (pc := 23) 11 rfl ?_
    obtain ⟨hs2, h⟩ := h
    refine ex_icmp_ne (pc := 24) 39 12 rfl (by decide) hs2 ⟨by decide, by decide⟩ (fun hb => ?_) (fun hb => ?_)
    · have h := h.1 hb
      refine ex_iload_n (pc := 39) 19 rfl rfl ?_
      refine ex_iconst (pc := 40) 20 rfl ?_
      refine ex_icmp_ne (pc := 41) 77 21 rfl (by decide) hs2 ⟨by decide, by decide⟩ (fun hb => ?_) (fun hb => ?_)
      · have h := h.1 hb
        refine ex_iload_n (pc := 77) 38 rfl rfl ?_
        refine ex_iconst (pc := 78) 39 rfl ?_
        refine ex_icmp_ge (pc := 79) 113 40 rfl (by decide) hs1 ⟨by decide, by decide⟩ (fun hb => ?_) (fun hb => ?_)
        · have h := h.1 hb
          refine ex_iload_n (pc := 113) 57 rfl rfl ?_
          refine ex_iconst (pc := 114) 58 rfl ?_
          refine ex_icmp_ne (pc := 115) 139 59 rfl (by decide) hs2 ⟨by decide, by decide⟩ (fun hb => ?_) (fun hb => ?_)
          · have h := h.1 hb
            refine ex_aload (pc := 139) 71 rfl rfl ?_
            refine ex_iload (pc := 141) 72 rfl rfl ?_
            refine ex_iload_n (pc := 143) 73 rfl rfl ?_
            refine ex_iconst (pc := 144) 74 rfl ?_
            refine ex_invV (pc := 145) (M' := mX4_difference) (As := [.inl p4, .inl p3, .inl 1]) (st := []) 75 rfl clk4 rfl rfl calX4_difference (Or.inl ww_475) rfl rfl ?_
            refine vm_call.mono h ?_
            rintro m3 _ ⟨rfl, h⟩
            refine ex_aload (pc := 148) 76 rfl rfl ?_
            refine ex_iload (pc := 150) 77 rfl rfl ?_
            refine ex_iload_n (pc := 152) 78 rfl rfl ?_
            refine ex_iconst (pc := 153) 79 rfl ?_
            refine ex_invV (pc := 154) (M' := mX4_difference) (As := [.inl p5, .inl p3, .inl 1]) (st := []) 80 rfl clk4 rfl rfl calX4_difference (Or.inl ww_475) rfl rfl ?_
            refine vm_call.mono h ?_
            rintro m5 _ ⟨rfl, h⟩
            exact ex_ret (pc := 157) 81 rfl rfl ⟨rfl, h⟩
          · have h := h.2 hb
            refine ex_aload (pc := 118) 60 rfl rfl ?_
            refine ex_iload_n (pc := 120) 61 rfl rfl ?_
            refine ex_iload (pc := 121) 62 rfl rfl ?_
            refine ex_iconst (pc := 123) 63 rfl ?_
            refine ex_invV (pc := 124) (M' := mX4_difference) (As := [.inl p3, .inl p4, .inl 1]) (st := []) 64 rfl clk4 rfl rfl calX4_difference (Or.inl ww_475) rfl rfl ?_
            refine vm_call.mono h ?_
            rintro m7 _ ⟨rfl, h⟩
            refine ex_aload (pc := 127) 65 rfl rfl ?_
            refine ex_iload_n (pc := 129) 66 rfl rfl ?_
            refine ex_iload (pc := 130) 67 rfl rfl ?_
            refine ex_iconst (pc := 132) 68 rfl ?_
            refine ex_invV (pc := 133) (M' := mX4_difference) (As := [.inl p3, .inl p5, .inl 1]) (st := []) 69 rfl clk4 rfl rfl calX4_difference (Or.inl ww_475) rfl rfl ?_
            refine vm_call.mono h ?_
            rintro m9 _ ⟨rfl, h⟩
            refine ex_goto (pc := 136) 157 70 rfl (by decide) ?_
            exact ex_ret (pc := 157) 81 rfl rfl ⟨rfl, h⟩
        · have h := h.2 hb
          refine ex_aload (pc := 82) 41 rfl rfl ?_
          refine ex_iload_n (pc := 84) 42 rfl rfl ?_
          refine ex_iconst (pc := 85) 43 rfl ?_
          refine ex_icmp_ne (pc := 86) 94 44 rfl (by decide) hs2 ⟨by decide, by decide⟩ (fun hb => ?_) (fun hb => ?_)
          · have h := h.1 hb
            refine ex_iload_n (pc := 94) 47 rfl rfl ?_
            refine ex_iload_n (pc := 95) 48 rfl rfl ?_
            refine ex_iconst (pc := 96) 49 rfl ?_
            refine ex_icmp_ne (pc := 97) 104 50 rfl (by decide) hs2 ⟨by decide, by decide⟩ (fun hb => ?_) (fun hb => ?_)
            · have h := h.1 hb
              refine ex_iload (pc := 104) 53 rfl rfl ?_
              refine ex_iconst (pc := 106) 54 rfl ?_
              refine ex_invV (pc := 107) (M' := mX4_difference) (As := [.inl p3, .inl p5, .inl 1]) (st := []) 55 rfl clk4 rfl rfl calX4_difference (Or.inl ww_475) rfl rfl ?_
              refine vm_call.mono h ?_
              rintro m11 _ ⟨rfl, h⟩
              refine ex_goto (pc := 110) 157 56 rfl (by decide) ?_
              exact ex_ret (pc := 157) 81 rfl rfl ⟨rfl, h⟩
            · have h := h.2 hb
              refine ex_iload_n (pc := 100) 51 rfl rfl ?_
              refine ex_goto (pc := 101) 106 52 rfl (by decide) ?_
              refine ex_iconst (pc := 106) 54 rfl ?_
              refine ex_invV (pc := 107) (M' := mX4_difference) (As := [.inl p3, .inl p3, .inl 1]) (st := []) 55 rfl clk4 rfl rfl calX4_difference (Or.inl ww_475) rfl rfl ?_
              refine vm_call.mono h ?_
              rintro m13 _ ⟨rfl, h⟩
              refine ex_goto (pc := 110) 157 56 rfl (by decide) ?_
              exact ex_ret (pc := 157) 81 rfl rfl ⟨rfl, h⟩
          · have h := h.2 hb
            refine ex_iload (pc := 89) 45 rfl rfl ?_
            refine ex_goto (pc := 91) 95 46 rfl (by decide) ?_
            refine ex_iload_n (pc := 95) 48 rfl rfl ?_
            refine ex_iconst (pc := 96) 49 rfl ?_
            refine ex_icmp_ne (pc := 97) 104 50 rfl (by decide) hs2 ⟨by decide, by decide⟩ (fun hb => ?_) (fun hb => ?_)
            · have h := h.1 hb
              refine ex_iload (pc := 104) 53 rfl rfl ?_
              refine ex_iconst (pc := 106) 54 rfl ?_
              refine ex_invV (pc := 107) (M' := mX4_difference) (As := [.inl p5, .inl p5, .inl 1]) (st := []) 55 rfl clk4 rfl rfl calX4_difference (Or.inl ww_475) rfl rfl ?_
              refine vm_call.mono h ?_
              rintro m15 _ ⟨rfl, h⟩
              refine ex_goto (pc := 110) 157 56 rfl (by decide) ?_
              exact ex_ret (pc := 157) 81 rfl rfl ⟨rfl, h⟩
            · have h := h.2 hb
              refine ex_iload_n (pc := 100) 51 rfl rfl ?_
              refine ex_goto (pc := 101) 106 52 rfl (by decide) ?_
              refine ex_iconst (pc := 106) 54 rfl ?_
              refine ex_invV (pc := 107) (M' := mX4_difference) (As := [.inl p5, .inl p3, .inl 1]) (st := []) 55 rfl clk4 rfl rfl calX4_difference (Or.inl ww_475) rfl rfl ?_
              refine vm_call.mono h ?_
              rintro m17 _ ⟨rfl, h⟩
              refine ex_goto (pc := 110) 157 56 rfl (by decide) ?_
              exact ex_ret (pc := 157) 81 rfl rfl ⟨rfl, h⟩
      · have h := h.2 hb
        refine ex_aload (pc := 44) 22 rfl rfl ?_
        refine ex_iload_n (pc := 46) 23 rfl rfl ?_
        refine ex_iload (pc := 47) 24 rfl rfl ?_
        refine ex_iload (pc := 49) 25 rfl rfl ?_
        refine ex_iload_n (pc := 51) 26 rfl rfl ?_
        refine ex_if_ne (pc := 52) 59 27 rfl (by decide) hs1 (fun hb => ?_) (fun hb => ?_)
        · have h := h.1 hb
          refine ex_bipush (pc := 59) 30 rfl (by decide) ?_
          refine ex_iload_n (pc := 61) 31 rfl rfl ?_
          refine ex_if_ne (pc := 62) 70 32 rfl (by decide) hs1 (fun hb => ?_) (fun hb => ?_)
          · have h := h.1 hb
            refine ex_iconst (pc := 70) 35 rfl ?_
            refine ex_invV (pc := 71) (M' := mX4_sum) (As := [.inl p3, .inl p4, .inl p5, .inl (-18), .inl (-1)]) (st := []) 36 rfl clk4 rfl rfl calX4_sum (Or.inl ww_480) rfl rfl ?_
            refine vm_call.mono h ?_
            rintro m19 _ ⟨rfl, h⟩
            refine ex_goto (pc := 74) 157 37 rfl (by decide) ?_
            exact ex_ret (pc := 157) 81 rfl rfl ⟨rfl, h⟩
          · have h := h.2 hb
            refine ex_bipush (pc := 65) 33 rfl (by decide) ?_
            refine ex_goto (pc := 67) 71 34 rfl (by decide) ?_
            refine ex_invV (pc := 71) (M' := mX4_sum) (As := [.inl p3, .inl p4, .inl p5, .inl (-18), .inl 18]) (st := []) 36 rfl clk4 rfl rfl calX4_sum (Or.inl ww_480) rfl rfl ?_
            refine vm_call.mono h ?_
            rintro m21 _ ⟨rfl, h⟩
            refine ex_goto (pc := 74) 157 37 rfl (by decide) ?_
            exact ex_ret (pc := 157) 81 rfl rfl ⟨rfl, h⟩
        · have h := h.2 hb
          refine ex_iconst (pc := 55) 28 rfl ?_
          refine ex_goto (pc := 56) 61 29 rfl (by decide) ?_
          refine ex_iload_n (pc := 61) 31 rfl rfl ?_
          refine ex_if_ne (pc := 62) 70 32 rfl (by decide) hs1 (fun hb => ?_) (fun hb => ?_)
          · have h := h.1 hb
            refine ex_iconst (pc := 70) 35 rfl ?_
            refine ex_invV (pc := 71) (M' := mX4_sum) (As := [.inl p3, .inl p4, .inl p5, .inl 1, .inl (-1)]) (st := []) 36 rfl clk4 rfl rfl calX4_sum (Or.inl ww_480) rfl rfl ?_
            refine vm_call.mono h ?_
            rintro m23 _ ⟨rfl, h⟩
            refine ex_goto (pc := 74) 157 37 rfl (by decide) ?_
            exact ex_ret (pc := 157) 81 rfl rfl ⟨rfl, h⟩
          · have h := h.2 hb
            refine ex_bipush (pc := 65) 33 rfl (by decide) ?_
            refine ex_goto (pc := 67) 71 34 rfl (by decide) ?_
            refine ex_invV (pc := 71) (M' := mX4_sum) (As := [.inl p3, .inl p4, .inl p5, .inl 1, .inl 18]) (st := []) 36 rfl clk4 rfl rfl calX4_sum (Or.inl ww_480) rfl rfl ?_
            refine vm_call.mono h ?_
            rintro m25 _ ⟨rfl, h⟩
            refine ex_goto (pc := 74) 157 37 rfl (by decide) ?_
            exact ex_ret (pc := 157) 81 rfl rfl ⟨rfl, h⟩
    · have h := h.2 hb
      refine ex_aload (pc := 27) 13 rfl rfl ?_
      refine ex_iload_n (pc := 29) 14 rfl rfl ?_
      refine ex_iload (pc := 30) 15 rfl rfl ?_
      refine ex_iconst (pc := 32) 16 rfl ?_
      refine ex_invV (pc := 33) (M' := mX4_difference) (As := [.inl p3, .inl p4, .inl 1]) (st := []) 17 rfl clk4 rfl rfl calX4_difference (Or.inl ww_475) rfl rfl ?_
      refine vm_call.mono h ?_
      rintro m27 _ ⟨rfl, h⟩
      refine ex_goto (pc := 36) 157 18 rfl (by decide) ?_
      exact ex_ret (pc := 157) 81 rfl rfl ⟨rfl, h⟩
  · have h := h.2 hb
    refine ex_iload (pc := 13) 6 rfl rfl ?_
    refine ex_goto (pc := 15) 20 7 rfl (by decide) ?_
    refine ex_istore (pc := 20) 9 rfl rfl rfl ?_
    refine ex_iload_n (pc := 22) 10 rfl rfl ?_
    refine ex_iconst (pc := 23) 11 rfl ?_
    obtain ⟨hs29, h⟩ := h
    refine ex_icmp_ne (pc := 24) 39 12 rfl (by decide) hs29 ⟨by decide, by decide⟩ (fun hb => ?_) (fun hb => ?_)
    · have h := h.1 hb
      refine ex_iload_n (pc := 39) 19 rfl rfl ?_
      refine ex_iconst (pc := 40) 20 rfl ?_
      refine ex_icmp_ne (pc := 41) 77 21 rfl (by decide) hs29 ⟨by decide, by decide⟩ (fun hb => ?_) (fun hb => ?_)
      · have h := h.1 hb
        refine ex_iload_n (pc := 77) 38 rfl rfl ?_
        refine ex_iconst (pc := 78) 39 rfl ?_
        refine ex_icmp_ge (pc := 79) 113 40 rfl (by decide) hs1 ⟨by decide, by decide⟩ (fun hb => ?_) (fun hb => ?_)
        · have h := h.1 hb
          refine ex_iload_n (pc := 113) 57 rfl rfl ?_
          refine ex_iconst (pc := 114) 58 rfl ?_
          refine ex_icmp_ne (pc := 115) 139 59 rfl (by decide) hs29 ⟨by decide, by decide⟩ (fun hb => ?_) (fun hb => ?_)
          · have h := h.1 hb
            refine ex_aload (pc := 139) 71 rfl rfl ?_
            refine ex_iload (pc := 141) 72 rfl rfl ?_
            refine ex_iload_n (pc := 143) 73 rfl rfl ?_
            refine ex_iconst (pc := 144) 74 rfl ?_
            refine ex_invV (pc := 145) (M' := mX4_difference) (As := [.inl p4, .inl p3, .inl 1]) (st := []) 75 rfl clk4 rfl rfl calX4_difference (Or.inl ww_475) rfl rfl ?_
            refine vm_call.mono h ?_
            rintro m30 _ ⟨rfl, h⟩
            refine ex_aload (pc := 148) 76 rfl rfl ?_
            refine ex_iload (pc := 150) 77 rfl rfl ?_
            refine ex_iload_n (pc := 152) 78 rfl rfl ?_
            refine ex_iconst (pc := 153) 79 rfl ?_
            refine ex_invV (pc := 154) (M' := mX4_difference) (As := [.inl p5, .inl p3, .inl 1]) (st := []) 80 rfl clk4 rfl rfl calX4_difference (Or.inl ww_475) rfl rfl ?_
            refine vm_call.mono h ?_
            rintro m32 _ ⟨rfl, h⟩
            exact ex_ret (pc := 157) 81 rfl rfl ⟨rfl, h⟩
          · have h := h.2 hb
            refine ex_aload (pc := 118) 60 rfl rfl ?_
            refine ex_iload_n (pc := 120) 61 rfl rfl ?_
            refine ex_iload (pc := 121) 62 rfl rfl ?_
            refine ex_iconst (pc := 123) 63 rfl ?_
            refine ex_invV (pc := 124) (M' := mX4_difference) (As := [.inl p3, .inl p4, .inl 1]) (st := []) 64 rfl clk4 rfl rfl calX4_difference (Or.inl ww_475) rfl rfl ?_
            refine vm_call.mono h ?_
            rintro m34 _ ⟨rfl, h⟩
            refine ex_aload (pc := 127) 65 rfl rfl ?_
            refine ex_iload_n (pc := 129) 66 rfl rfl ?_
            refine ex_iload (pc := 130) 67 rfl rfl ?_
            refine ex_iconst (pc := 132) 68 rfl ?_
            refine ex_invV (pc := 133) (M' := mX4_difference) (As := [.inl p3, .inl p5, .inl 1]) (st := []) 69 rfl clk4 rfl rfl calX4_difference (Or.inl ww_475) rfl rfl ?_
            refine vm_call.mono h ?_
            rintro m36 _ ⟨rfl, h⟩
            refine ex_goto (pc := 136) 157 70 rfl (by decide) ?_
            exact ex_ret (pc := 157) 81 rfl rfl ⟨rfl, h⟩
        · have h := h.2 hb
          refine ex_aload (pc := 82) 41 rfl rfl ?_
          refine ex_iload_n (pc := 84) 42 rfl rfl ?_
          refine ex_iconst (pc := 85) 43 rfl ?_
          refine ex_icmp_ne (pc := 86) 94 44 rfl (by decide) hs29 ⟨by decide, by decide⟩ (fun hb => ?_) (fun hb => ?_)
          · have h := h.1 hb
            refine ex_iload_n (pc := 94) 47 rfl rfl ?_
            refine ex_iload_n (pc := 95) 48 rfl rfl ?_
            refine ex_iconst (pc := 96) 49 rfl ?_
            refine ex_icmp_ne (pc := 97) 104 50 rfl (by decide) hs29 ⟨by decide, by decide⟩ (fun hb => ?_) (fun hb => ?_)
            · have h := h.1 hb
              refine ex_iload (pc := 104) 53 rfl rfl ?_
              refine ex_iconst (pc := 106) 54 rfl ?_
              refine ex_invV (pc := 107) (M' := mX4_difference) (As := [.inl p3, .inl p4, .inl 1]) (st := []) 55 rfl clk4 rfl rfl calX4_difference (Or.inl ww_475) rfl rfl ?_
              refine vm_call.mono h ?_
              rintro m38 _ ⟨rfl, h⟩
              refine ex_goto (pc := 110) 157 56 rfl (by decide) ?_
              exact ex_ret (pc := 157) 81 rfl rfl ⟨rfl, h⟩
            · have h := h.2 hb
              refine ex_iload_n (pc := 100) 51 rfl rfl ?_
              refine ex_goto (pc := 101) 106 52 rfl (by decide) ?_
              refine ex_iconst (pc := 106) 54 rfl ?_
              refine ex_invV (pc := 107) (M' := mX4_difference) (As := [.inl p3, .inl p3, .inl 1]) (st := []) 55 rfl clk4 rfl rfl calX4_difference (Or.inl ww_475) rfl rfl ?_
              refine vm_call.mono h ?_
              rintro m40 _ ⟨rfl, h⟩
              refine ex_goto (pc := 110) 157 56 rfl (by decide) ?_
              exact ex_ret (pc := 157) 81 rfl rfl ⟨rfl, h⟩
          · have h := h.2 hb
            refine ex_iload (pc := 89) 45 rfl rfl ?_
            refine ex_goto (pc := 91) 95 46 rfl (by decide) ?_
            refine ex_iload_n (pc := 95) 48 rfl rfl ?_
            refine ex_iconst (pc := 96) 49 rfl ?_
            refine ex_icmp_ne (pc := 97) 104 50 rfl (by decide) hs29 ⟨by decide, by decide⟩ (fun hb => ?_) (fun hb => ?_)
            · have h := h.1 hb
              refine ex_iload (pc := 104) 53 rfl rfl ?_
              refine ex_iconst (pc := 106) 54 rfl ?_
              refine ex_invV (pc := 107) (M' := mX4_difference) (As := [.inl p4, .inl p4, .inl 1]) (st := []) 55 rfl clk4 rfl rfl calX4_difference (Or.inl ww_475) rfl rfl ?_
              refine vm_call.mono h ?_
              rintro m42 _ ⟨rfl, h⟩
              refine ex_goto (pc := 110) 157 56 rfl (by decide) ?_
              exact ex_ret (pc := 157) 81 rfl rfl ⟨rfl, h⟩
            · have h := h.2 hb
              refine ex_iload_n (pc := 100) 51 rfl rfl ?_
              refine ex_goto (pc := 101) 106 52 rfl (by decide) ?_
              refine ex_iconst (pc := 106) 54 rfl ?_
              refine ex_invV (pc := 107) (M' := mX4_difference) (As := [.inl p4, .inl p3, .inl 1]) (st := []) 55 rfl clk4 rfl rfl calX4_difference (Or.inl ww_475) rfl rfl ?_
              refine vm_call.mono h ?_
              rintro m44 _ ⟨rfl, h⟩
              refine ex_goto (pc := 110) 157 56 rfl (by decide) ?_
              exact ex_ret (pc := 157) 81 rfl rfl ⟨rfl, h⟩
      · have h := h.2 hb
        refine ex_aload (pc := 44) 22 rfl rfl ?_
        refine ex_iload_n (pc := 46) 23 rfl rfl ?_
        refine ex_iload (pc := 47) 24 rfl rfl ?_
        refine ex_iload (pc := 49) 25 rfl rfl ?_
        refine ex_iload_n (pc := 51) 26 rfl rfl ?_
        refine ex_if_ne (pc := 52) 59 27 rfl (by decide) hs1 (fun hb => ?_) (fun hb => ?_)
        · have h := h.1 hb
          refine ex_bipush (pc := 59) 30 rfl (by decide) ?_
          refine ex_iload_n (pc := 61) 31 rfl rfl ?_
          refine ex_if_ne (pc := 62) 70 32 rfl (by decide) hs1 (fun hb => ?_) (fun hb => ?_)
          · have h := h.1 hb
            refine ex_iconst (pc := 70) 35 rfl ?_
            refine ex_invV (pc := 71) (M' := mX4_sum) (As := [.inl p3, .inl p4, .inl p5, .inl (-18), .inl (-1)]) (st := []) 36 rfl clk4 rfl rfl calX4_sum (Or.inl ww_480) rfl rfl ?_
            refine vm_call.mono h ?_
            rintro m46 _ ⟨rfl, h⟩
            refine ex_goto (pc := 74) 157 37 rfl (by decide) ?_
            exact ex_ret (pc := 157) 81 rfl rfl ⟨rfl, h⟩
          · have h := h.2 hb
            refine ex_bipush (pc := 65) 33 rfl (by decide) ?_
            refine ex_goto (pc := 67) 71 34 rfl (by decide) ?_
            refine ex_invV (pc := 71) (M' := mX4_sum) (As := [.inl p3, .inl p4, .inl p5, .inl (-18), .inl 18]) (st := []) 36 rfl clk4 rfl rfl calX4_sum (Or.inl ww_480) rfl rfl ?_
            refine vm_call.mono h ?_
            rintro m48 _ ⟨rfl, h⟩
            refine ex_goto (pc := 74) 157 37 rfl (by decide) ?_
            exact ex_ret (pc := 157) 81 rfl rfl ⟨rfl, h⟩
        · have h := h.2 hb
          refine ex_iconst (pc := 55) 28 rfl ?_
          refine ex_goto (pc := 56) 61 29 rfl (by decide) ?_
          refine ex_iload_n (pc := 61) 31 rfl rfl ?_
          refine ex_if_ne (pc := 62) 70 32 rfl (by decide) hs1 (fun hb => ?_) (fun hb => ?_)
          · have h := h.1 hb
            refine ex_iconst (pc := 70) 35 rfl ?_
            refine ex_invV (pc := 71) (M' := mX4_sum) (As := [.inl p3, .inl p4, .inl p5, .inl 1, .inl (-1)]) (st := []) 36 rfl clk4 rfl rfl calX4_sum (Or.inl ww_480) rfl rfl ?_
            refine vm_call.mono h ?_
            rintro m50 _ ⟨rfl, h⟩
            refine ex_goto (pc := 74) 157 37 rfl (by decide) ?_
            exact ex_ret (pc := 157) 81 rfl rfl ⟨rfl, h⟩
          · have h := h.2 hb
            refine ex_bipush (pc := 65) 33 rfl (by decide) ?_
            refine ex_goto (pc := 67) 71 34 rfl (by decide) ?_
            refine ex_invV (pc := 71) (M' := mX4_sum) (As := [.inl p3, .inl p4, .inl p5, .inl 1, .inl 18]) (st := []) 36 rfl clk4 rfl rfl calX4_sum (Or.inl ww_480) rfl rfl ?_
            refine vm_call.mono h ?_
            rintro m52 _ ⟨rfl, h⟩
            refine ex_goto (pc := 74) 157 37 rfl (by decide) ?_
            exact ex_ret (pc := 157) 81 rfl rfl ⟨rfl, h⟩
    · have h := h.2 hb
      refine ex_aload (pc := 27) 13 rfl rfl ?_
      refine ex_iload_n (pc := 29) 14 rfl rfl ?_
      refine ex_iload (pc := 30) 15 rfl rfl ?_
      refine ex_iconst (pc := 32) 16 rfl ?_
      refine ex_invV (pc := 33) (M' := mX4_difference) (As := [.inl p3, .inl p4, .inl 1]) (st := []) 17 rfl clk4 rfl rfl calX4_difference (Or.inl ww_475) rfl rfl ?_
      refine vm_call.mono h ?_
      rintro m54 _ ⟨rfl, h⟩
      refine ex_goto (pc := 36) 157 18 rfl (by decide) ?_
      exact ex_ret (pc := 157) 81 rfl rfl ⟨rfl, h⟩
