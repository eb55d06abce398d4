/-! CALL BY CALL, BOTH SIDES; AND THE LAW'S LOOP -/
section BTH
variable {G : vm_G} {m m1 m2 : vm_M} {S : aS}
theorem KR.cfr (h : KR m S) (f : CFr m m1) : KR m1 S :=
  h.same (funext fun i => f 25 i (by decide)) (funext fun i => f 26 i (by decide)) (funext fun i => f 27 i (by decide)) (funext fun i => f 28 i (by decide)) (funext fun i => f 36 i (by decide)) (f 24 2 (by decide)) (f 24 3 (by decide)) (f 24 18 (by decide))
theorem KC.rfr (h : KC m S) (f : RFr m m1) : KC m1 S := by
  obtain ⟨⟨h1, h2⟩, ⟨a1, a2, a3⟩, ⟨b1, b2, b3⟩, ⟨c1, c2⟩⟩ := h
  have fc : ∀ c : Nat, c < 24 → m1 c = m c := fun c q => funext fun i => f c i q
  have ek : kst m1 = kst m := by
    funext x
    unfold kst
    rw [fc 1 (by decide), fc 9 (by decide)]
  exact ⟨⟨by unfold KCc; rw [ek]; exact h1, by rw [fc 6 (by decide)]; exact h2⟩, ⟨by rw [fc 4 (by decide)]; exact a1, by rw [fc 0 (by decide)]; exact a2, by rw [fc 11 (by decide)]; exact a3⟩, ⟨by rw [fc 5 (by decide)]; exact b1, by rw [fc 0 (by decide)]; exact b2, by rw [fc 12 (by decide)]; exact b3⟩, ⟨by rw [fc 3 (by decide)]; exact c1, fun i i0 i1 => by rw [fc 10 (by decide)]; exact c2 i i0 i1⟩⟩
/-- both sides keep one state -/
def JJ (m : vm_M) : Prop := ∃ S, sV S ∧ KC m S ∧ KR m S
theorem both_o {D : Nat} {MC MR : vm_Me} {AC AR : List vm_V} {o : aS → aS → Int → Prop} (hv : ∀ S S' r, sV S → o S S' r → sV S') (hd : ∀ S S1 S2 r1 r2, o S S1 r1 → o S S2 r2 → S1 = S2 ∧ r1 = r2)
    (hC : ∀ (m : vm_M) (S : aS) (Q : vm_M → Int → Prop), sV S → KC m S → (∀ m' S' r, CFr m m' → KC m' S' → o S S' r → Q m' r) → vm_ci G D MC AC m Q)
    (hR : ∀ (m : vm_M) (S : aS) (Q : vm_M → Int → Prop), sV S → KR m S → (∀ m' S' r, RFr m m' → KR m' S' → o S S' r → Q m' r) → vm_ci G D MR AR m Q)
    (h : JJ m) {P : vm_M → Prop} (hP : ∀ m', JJ m' → P m') : vm_ci G D MC AC m (fun m1 r1 => vm_ci G D MR AR m1 (fun m2 r2 => r1 = r2 ∧ P m2)) := by
  obtain ⟨S, hv0, hc, hr⟩ := h
  refine hC m S _ hv0 hc (fun m1 S1 r1 f1 k1 o1 => hR m1 S _ hv0 (hr.cfr f1) (fun m2 S2 r2 f2 k2 o2 => ?_))
  obtain ⟨rfl, rfl⟩ := hd S S1 S2 r1 r2 o1 o2
  exact ⟨rfl, hP m2 ⟨S1, hv S S1 r1 hv0 o1, k1.rfr f2, k2⟩⟩
theorem both_q {D : Nat} {MC MR : vm_Me} {AC AR : List vm_V} {an : (Int → Int) → Int → Prop} (hu : ∀ st st' r r', ste st st' → an st r → an st' r' → r = r')
    (hC : ∀ (m : vm_M) (Q : vm_M → Int → Prop), kok m → (∀ m' r, CQ9 m m' → an (kst m) r → Q m' r) → vm_ci G D MC AC m Q)
    (hR : ∀ (m : vm_M) (Q : vm_M → Int → Prop), st_v (m 25) → (∀ m' r, rf_F2 m m' → an (m 25) r → Q m' r) → vm_ci G D MR AR m Q)
    (h : JJ m) {P : vm_M → Prop} (hP : ∀ m', JJ m' → P m') : vm_ci G D MC AC m (fun m1 r1 => vm_ci G D MR AR m1 (fun m2 r2 => r1 = r2 ∧ P m2)) := by
  obtain ⟨S, hv0, hc, hr⟩ := h
  refine hC m _ (hc.ok hv0) (fun m1 r1 c1 a1 => ?_)
  have hr1 := hr.cfr c1.cfr
  refine hR m1 _ (hr1.v hv0) (fun m2 r2 f2 a2 => ⟨hu _ _ _ _ ((hc.1.1).trans hr1.1.symm) a1 a2, hP m2 ⟨S, hv0, (c1.kc hv0 hc).rfr f2.rfr, f2.kr hr1⟩⟩)
/-! what a call does is one thing -/
theorem d_most {S S1 S2 : aS} {p r1 r2 : Int} (a : o_most S p S1 r1) (b : o_most S p S2 r2) : S1 = S2 ∧ r1 = r2 := by
  rcases a with ⟨a1, a2, a3⟩ | ⟨a1, a2, a3⟩ <;> rcases b with ⟨b1, b2, b3⟩ | ⟨b1, b2, b3⟩
  · exact ⟨a2.trans b2.symm, a3.trans b3.symm⟩
  · exact absurd b1 a1
  · exact absurd a1 b1
  · exact ⟨a2.trans b2.symm, a3.trans b3.symm⟩
theorem d_fact {S S1 S2 : aS} {t : fc_T} {r1 r2 : Int} (a : o_fact S t S1 r1) (b : o_fact S t S2 r2) : S1 = S2 ∧ r1 = r2 := by
  rcases a with ⟨a1, a2, a3⟩ | ⟨a1, a0, a2, a3⟩ | ⟨a1, a0, a2, a3⟩ <;> rcases b with ⟨b1, b2, b3⟩ | ⟨b1, b0, b2, b3⟩ | ⟨b1, b0, b2, b3⟩
  · exact ⟨a2.trans b2.symm, a3.trans b3.symm⟩
  · exact absurd b1 a1
  · exact absurd b1 a1
  · exact absurd a1 b1
  · exact ⟨a2.trans b2.symm, a3.trans b3.symm⟩
  · exact absurd a0 b0
  · exact absurd a1 b1
  · exact absurd b0 a0
  · exact ⟨a2.trans b2.symm, a3.trans b3.symm⟩
theorem d_drop {S S1 S2 : aS} {k r1 r2 : Int} (a : o_drop S k S1 r1) (b : o_drop S k S2 r2) : S1 = S2 ∧ r1 = r2 := by
  rcases a with ⟨a1, a2, a3⟩ | ⟨a1, a2, a3⟩ <;> rcases b with ⟨b1, b2, b3⟩ | ⟨b1, b2, b3⟩
  · exact ⟨a2.trans b2.symm, a3.trans b3.symm⟩
  · exact absurd b1 a1
  · exact absurd a1 b1
  · exact ⟨a2.trans b2.symm, a3.trans b3.symm⟩
theorem d_ofFact {S S1 S2 : aS} {k w r1 r2 : Int} (a : o_ofFact S k w S1 r1) (b : o_ofFact S k w S2 r2) : S1 = S2 ∧ r1 = r2 := by
  refine ⟨a.1.trans b.1.symm, ?_⟩
  rcases a.2 with ⟨a1, a2⟩ | ⟨a1, a2, a3⟩ | ⟨a1, a2, a3⟩ | ⟨a1, a2, a3⟩ <;> rcases b.2 with ⟨b1, b2⟩ | ⟨b1, b2, b3⟩ | ⟨b1, b2, b3⟩ | ⟨b1, b2, b3⟩ <;> omega
theorem d_count {S S1 S2 : aS} {w r1 r2 : Int} (a : o_count S w S1 r1) (b : o_count S w S2 r2) : S1 = S2 ∧ r1 = r2 := by
  refine ⟨a.1.trans b.1.symm, ?_⟩
  have a := a.2
  have b := b.2
  omega
theorem d_wipe {S S1 S2 : aS} {r1 r2 : Int} (a : o_wipe S S1 r1) (b : o_wipe S S2 r2) : S1 = S2 ∧ r1 = r2 := ⟨a.1.trans b.1.symm, a.2.trans b.2.symm⟩
theorem d_undo {S S1 S2 : aS} {r1 r2 : Int} (a : o_undo S S1 r1) (b : o_undo S S2 r2) : S1 = S2 ∧ r1 = r2 := by
  rcases a with ⟨a1, a2, a3⟩ | ⟨a1, a2, a3⟩ <;> rcases b with ⟨b1, b2, b3⟩ | ⟨b1, b2, b3⟩
  · exact ⟨a2.trans b2.symm, a3.trans b3.symm⟩
  · exact absurd a1 b1
  · exact absurd b1 a1
  · exact ⟨a2.trans b2.symm, a3.trans b3.symm⟩
theorem d_save {S S1 S2 : aS} {s r1 r2 : Int} (a : o_save S s S1 r1) (b : o_save S s S2 r2) : S1 = S2 ∧ r1 = r2 := by
  rcases a with ⟨a1, a2, a3⟩ | ⟨a1, a2, a3⟩ <;> rcases b with ⟨b1, b2, b3⟩ | ⟨b1, b2, b3⟩
  · exact ⟨a2.trans b2.symm, a3.trans b3.symm⟩
  · exact absurd b1 a1
  · exact absurd a1 b1
  · exact ⟨a2.trans b2.symm, a3.trans b3.symm⟩
theorem d_restore {S S1 S2 : aS} {s r1 r2 : Int} (a : o_restore S s S1 r1) (b : o_restore S s S2 r2) : S1 = S2 ∧ r1 = r2 := by
  rcases a with ⟨a1, a2, a3⟩ | ⟨a1, a0, a2, a3⟩ | ⟨a1, a0, a2, a3⟩ <;> rcases b with ⟨b1, b2, b3⟩ | ⟨b1, b0, b2, b3⟩ | ⟨b1, b0, b2, b3⟩
  · exact ⟨a2.trans b2.symm, a3.trans b3.symm⟩
  · exact absurd b1 a1
  · exact absurd b1 a1
  · exact absurd a1 b1
  · exact ⟨a2.trans b2.symm, a3.trans b3.symm⟩
  · rw [a0] at b0; cases b0
  · exact absurd a1 b1
  · rw [a0] at b0; cases b0
  · exact ⟨a2.trans b2.symm, a3.trans b3.symm⟩
theorem d_put {S S1 S2 : aS} {X : Nat} {r1 r2 : Int} (a : o_put S X S1 r1) (b : o_put S X S2 r2) : S1 = S2 ∧ r1 = r2 := by
  rcases a with ⟨a1, a2, a3⟩ | ⟨n, a1, a0, a2, a3⟩ | ⟨n, a1, a0, a2, a3⟩ <;> rcases b with ⟨b1, b2, b3⟩ | ⟨n', b1, b0, b2, b3⟩ | ⟨n', b1, b0, b2, b3⟩
  · exact ⟨a2.trans b2.symm, a3.trans b3.symm⟩
  · exact absurd ⟨n', b1⟩ a1
  · exact absurd ⟨n', b1⟩ a1
  · exact absurd ⟨n, a1⟩ b1
  · exact ⟨a2.trans b2.symm, a3.trans b3.symm⟩
  · have e := plen_unique a1 b1
    subst e
    omega
  · exact absurd ⟨n, a1⟩ b1
  · have e := plen_unique a1 b1
    subst e
    omega
  · have e := plen_unique a1 b1
    subst e
    exact ⟨a2.trans b2.symm, a3.trans b3.symm⟩
theorem d_fault {S S1 S2 : aS} {r1 r2 : Int} (a : o_fault S S1 r1) (b : o_fault S S2 r2) : S1 = S2 ∧ r1 = r2 := ⟨a.1.trans b.1.symm, a.2.trans b.2.symm⟩
theorem d_tell {S S1 S2 : aS} {r1 r2 : Int} (a : o_tell S S1 r1) (b : o_tell S S2 r2) : S1 = S2 ∧ r1 = r2 := by
  rcases a with ⟨a1, a2, a3⟩ | ⟨a1, a2, a3⟩ <;> rcases b with ⟨b1, b2, b3⟩ | ⟨b1, b2, b3⟩
  · exact ⟨a2.trans b2.symm, a3.trans b3.symm⟩
  · exact absurd b1 a1
  · exact absurd a1 b1
  · exact ⟨a2.trans b2.symm, a3.trans b3.symm⟩
theorem vm_and_R (a b : Int) : vm_R (vm_and a b) := ⟨Int32.le_toInt _, Int.le_of_lt_add_one (Int32.toInt_lt _)⟩
def an_pos (st : Int → Int) (r : Int) : Prop := (an_has st ∧ r = 1) ∨ (¬ an_has st ∧ r = 0)
theorem un_pos {st st' : Int → Int} (h : ste st st') {r r' : Int} (a : an_pos st r) (b : an_pos st' r') : r = r' := by
  unfold an_pos at a b
  rw [h.hasE] at a
  rcases a with ⟨a1, a2⟩ | ⟨a1, a2⟩ <;> rcases b with ⟨b1, b2⟩ | ⟨b1, b2⟩
  · omega
  · exact absurd a1 b1
  · exact absurd b1 a1
  · omega
/-- THE LAW'S LOOP -/
theorem law_loop (hG : opsG G) (hL : (G.len 39 : Int) ≤ 3584) (hX : ∀ i : Int, 0 ≤ i → i < (G.len 39 : Int) → vm_R (G.rom 39 i)) :
    ∀ (n : Nat) (v : Int) (m : vm_M), (G.len 39 : Int) - v < (n : Int) → 0 ≤ v → v ≤ 3600 → JJ m → vm_ex G 41 mL_law 18 [some (.inr (.inr 39)), some (.inr (.inr 0)), some (.inr (.inr 24)), some (.inl v)] [] m (vm_qb (fun _ b => b = true)) := by
  intro n
  induction n with
  | zero =>
    intro v m hn v0 v1 hj
    exact qL_law_18 (d := 40) ⟨⟨by omega, by omega⟩, ⟨by omega, by omega⟩, fun _ => rfl, fun z => absurd (by omega) z⟩
  | succ n ih =>
    intro v m hn v0 v1 hj
    refine qL_law_18 (d := 40) ⟨⟨by omega, by omega⟩, ⟨by omega, by omega⟩, fun _ => rfl, fun hlt => ?_⟩
    have next : ∀ m', JJ m' → vm_ex G (40 + 1) mL_law 18 [some (.inr (.inr 39)), some (.inr (.inr 0)), some (.inr (.inr 24)), some (.inl (v + 7))] [] m' (vm_qb (fun _ b => b = true)) := fun m' hj' => ih (v + 7) m' (by omega) (by omega) (by omega) hj'
    have x1 := hX (v + 1) (by omega) (by omega)
    have x2 := hX (v + 2) (by omega) (by omega)
    have x3 := hX (v + 3) (by omega) (by omega)
    have x4 := hX (v + 4) (by omega) (by omega)
    have x5 := hX (v + 5) (by omega) (by omega)
    have x6 := hX (v + 6) (by omega) (by omega)
    have i1 : 0 ≤ v + 1 ∧ v + 1 < (G.len 39 : Int) := by omega
    have i2 : 0 ≤ v + 2 ∧ v + 2 < (G.len 39 : Int) := by omega
    have i3 : 0 ≤ v + 3 ∧ v + 3 < (G.len 39 : Int) := by omega
    have i4 : 0 ≤ v + 4 ∧ v + 4 < (G.len 39 : Int) := by omega
    have i5 : 0 ≤ v + 5 ∧ v + 5 < (G.len 39 : Int) := by omega
    have i6 : 0 ≤ v + 6 ∧ v + 6 < (G.len 39 : Int) := by omega
    refine ⟨by omega, vm_and_R _ _, fun _ => ⟨i1, ?_⟩, fun _ => ⟨i1, i2, i3, i4, i5, i6, ?_⟩, fun _ => ⟨i1, ?_⟩, fun _ => ⟨i1, i2, ?_⟩, fun _ => ⟨i1, ?_⟩, fun _ => ?_, fun _ => ⟨i1, i2, i3, ?_⟩, fun _ => ⟨i1, i2, ?_⟩, fun _ => ⟨i1, i2, ?_⟩, fun _ => ⟨i1, ?_⟩, fun _ => ⟨i1, i2, i3, i4, i5, i6, ?_⟩, fun _ => ?_, fun _ => ⟨i1, i2, i3, ?_⟩, fun _ => ?_, fun _ => ⟨i1, x1, i2, x2, ?_⟩, fun _ => ?_, fun _ => ?_, fun _ => ?_, fun _ => ?_, fun _ => ⟨i1, ?_⟩, fun _ => ⟨i1, ?_⟩, fun _ => next m hj⟩
    · exact both_o (o := fun S S' r => o_most S _ S' r) (fun S S' r hv o => o_most_v hv o) (fun S S1 S2 r1 r2 a b => d_most a b) (fun m S Q hv h hQ => cs_most (d := 36) x1 hv h hQ) (fun m S Q hv h hQ => cm_most (d := 39) x1 hv h hQ) hj next
    · exact both_o (o := fun S S' r => o_fact S (_, _, _, _, _, _) S' r) (fun S S' r hv o => o_fact_v hv o) (fun S S1 S2 r1 r2 a b => d_fact a b) (fun m S Q hv h hQ => cs_fact (d := 36) x1 x2 x3 x4 x5 x6 hv h hQ) (fun m S Q hv h hQ => cm_fact (d := 36) x1 x2 x3 x4 x5 x6 hv h hQ) hj next
    · exact both_o (o := fun S S' r => o_drop S _ S' r) (fun S S' r hv o => o_drop_v hv o) (fun S S1 S2 r1 r2 a b => d_drop a b) (fun m S Q hv h hQ => cs_drop (d := 36) x1 hv h hQ) (fun m S Q hv h hQ => cm_drop (d := 38) x1 hv h hQ) hj next
    · exact both_o (o := fun S S' r => o_ofFact S _ _ S' r) (fun S S' r hv o => by rw [o.1]; exact hv) (fun S S1 S2 r1 r2 a b => d_ofFact a b) (fun m S Q hv h hQ => cs_ofFact (d := 38) x1 x2 hv h hQ) (fun m S Q hv h hQ => cm_ofFact (d := 38) x1 x2 hv h hQ) hj next
    · exact both_o (o := fun S S' r => o_count S _ S' r) (fun S S' r hv o => by rw [o.1]; exact hv) (fun S S1 S2 r1 r2 a b => d_count a b) (fun m S Q hv h hQ => cs_count x1 hv h hQ) (fun m S Q hv h hQ => cm_count x1 hv h hQ) hj next
    · exact both_q (an := an_pos) (fun _ _ _ _ h a b => un_pos h a b) (fun m Q h hQ => cs_isPossible (d := 16) h (fun m' r c a => hQ m' r c.n a)) (fun m Q h hQ => cm_isPossible (d := 28) h.ok (fun m' r f a => hQ m' r f.two a)) hj next
    · exact both_q (an := fun st r => an_bound st _ _ _ r) (fun _ _ _ _ h a b => un_bound h a b) (fun m Q h hQ => cs_bound (d := 16) x1 x2 x3 h (fun m' r c a => hQ m' r c.n a)) (fun m Q h hQ => cm_bound (d := 27) x1 x2 x3 h.ok (fun m' r f a => hQ m' r f.two a)) hj next
    · exact both_q (an := fun st r => an_size st _ _ r) (fun _ _ _ _ h a b => un_size h a b) (fun m Q h hQ => cs_sizeOf (d := 16) x1 x2 h (fun m' r c a => hQ m' r c.n a)) (fun m Q h hQ => cm_sizeOf (d := 28) x1 x2 h.ok (fun m' r f a => hQ m' r f.two a)) hj next
    · exact both_q (an := fun st r => an_least st _ _ r) (fun _ _ _ _ h a b => un_least h a b) (fun m Q h hQ => cs_least (d := 15) x1 x2 h (fun m' r c a => hQ m' r c.n a)) (fun m Q h hQ => cm_least (d := 28) x1 x2 h.ok (fun m' r f a => hQ m' r f a)) hj next
    · exact both_q (an := fun st r => an_solutions st _ r) (fun _ _ _ _ h a b => un_solutions h a b) (fun m Q h hQ => cs_solutions (d := 16) x1 h (fun m' r c a => hQ m' r c.n a)) (fun m Q h hQ => cm_solutions (d := 28) x1 h.ok (fun m' r f a => hQ m' r f.two a)) hj next
    · exact both_q (an := fun st r => an_follows st (_, _, _, _, _, _) r) (fun _ _ _ _ h a b => un_follows h a b) (fun m Q h hQ => cs_follows (d := 16) hG x1 x2 x3 x4 x5 x6 h (fun m' r c a => hQ m' r c a)) (fun m Q h hQ => cm_follows (d := 26) x1 x2 x3 x4 x5 x6 h.ok (fun m' r f a => hQ m' r f.two a)) hj next
    · exact both_q (an := an_contra) (fun _ _ _ _ h a b => un_contra h a b) (fun m Q h hQ => cs_contradiction (d := 16) h (fun m' r c a => hQ m' r c.n a)) (fun m Q h hQ => cm_contradiction (d := 28) h.ok (fun m' r f a => hQ m' r f.two a)) hj next
    · exact both_q (an := fun st r => an_reason st _ _ _ r) (fun _ _ _ _ h a b => un_reason h a b) (fun m Q h hQ => cs_reason (d := 16) x1 x2 x3 h (fun m' r c a => hQ m' r c.n a)) (fun m Q h hQ => cm_reason (d := 27) x1 x2 x3 h.ok (fun m' r f a => hQ m' r f.two a)) hj next
    · exact both_q (an := an_needless) (fun _ _ _ _ h a b => un_needless h a b) (fun m Q h hQ => cs_needless (d := 16) hG h (fun m' r c a => hQ m' r c.n a)) (fun m Q h hQ => cm_needless (d := 26) h (fun m' r f a => hQ m' r f.two a)) hj next
    · exact both_o (o := fun S S' r => o_put S (bX _) S' r) (fun S S' r hv o => o_put_v hv o) (fun S S1 S2 r1 r2 a b => d_put a b) (fun m S Q hv h hQ => cs_put (d := 38) hv h hQ) (fun m S Q hv h hQ => cm_put (d := 39) hv h hQ) hj next
    · exact both_o (o := o_wipe) (fun S S' r hv o => o_wipe_v hv o) (fun S S1 S2 r1 r2 a b => d_wipe a b) (fun m S Q hv h hQ => cs_wipe (d := 39) h hQ) (fun m S Q hv h hQ => cm_wipe h hQ) hj next
    · exact both_o (o := o_fault) (fun S S' r hv o => by rw [o.1]; exact hv) (fun S S1 S2 r1 r2 a b => d_fault a b) (fun m S Q hv h hQ => cs_fault (d := 34) hv h hQ) (fun m S Q hv h hQ => cm_fault (d := 33) hv h hQ) hj next
    · exact both_o (o := o_tell) (fun S S' r hv o => o_tell_v hv o) (fun S S1 S2 r1 r2 a b => d_tell a b) (fun m S Q hv h hQ => cs_tell (d := 34) hv h hQ) (fun m S Q hv h hQ => cm_tell (d := 32) hv h hQ) hj next
    · exact both_o (o := o_undo) (fun S S' r hv o => o_undo_v hv o) (fun S S1 S2 r1 r2 a b => d_undo a b) (fun m S Q hv h hQ => cs_undo (d := 37) hv h hQ) (fun m S Q hv h hQ => cm_undo hv h hQ) hj next
    · exact both_o (o := fun S S' r => o_save S _ S' r) (fun S S' r hv o => o_save_v hv o) (fun S S1 S2 r1 r2 a b => d_save a b) (fun m S Q hv h hQ => cs_save (d := 37) x1 hv h hQ) (fun m S Q hv h hQ => cm_save (d := 39) x1 hv h hQ) hj next
    · exact both_o (o := fun S S' r => o_restore S _ S' r) (fun S S' r hv o => o_restore_v hv o) (fun S S1 S2 r1 r2 a b => d_restore a b) (fun m S Q hv h hQ => cs_restore (d := 36) x1 hv h hQ) (fun m S Q hv h hQ => cm_restore (d := 39) x1 hv h hQ) hj next
end BTH
