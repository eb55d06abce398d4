/-! THE ANSWERS, as both sides have to give them -/
def an_has (st : Int → Int) : Prop := ∃ g, sl st (st_all st) g
def bdd (P : Int → Prop) (what r : Int) : Prop := (r = -6 ∧ ∀ v, ¬ P v) ∨ (P r ∧ ∀ v, P v → (what = 0 → r ≤ v) ∧ (what = 1 → v ≤ r))
def bd_c (st : Int → Int) (set : Nat) (v : Int) (x : Int) : Prop := ∃ g, sl st set g ∧ g v = x
def bd_s (st : Int → Int) (set : Nat) (b : Int) (x : Int) : Prop := ∃ g, sl st set g ∧ g (3 * b) + g (3 * b + 1) + g (3 * b + 2) = x
theorem bdd_unique {P : Int → Prop} {what r r' : Int} (hw : what = 0 ∨ what = 1) (h : bdd P what r) (h' : bdd P what r') : r = r' := by
  rcases h with ⟨rfl, h⟩ | ⟨h1, h2⟩ <;> rcases h' with ⟨rfl, h'⟩ | ⟨h1', h2'⟩
  · rfl
  · exact absurd h1' (h _)
  · exact absurd h1 (h' _)
  · have a := h2 _ h1'
    have b := h2' _ h1
    rcases hw with rfl | rfl
    · have := a.1 rfl; have := b.1 rfl; omega
    · have := a.2 rfl; have := b.2 rfl; omega
def clr (t n : Nat) : Nat := t ^^^ (t &&& 2 ^ n)
theorem clr_bit (t n i : Nat) : (clr t n).testBit i = (t.testBit i && !decide (n = i)) := by
  unfold clr
  rw [Nat.testBit_xor, Nat.testBit_and, Nat.testBit_two_pow]
  cases t.testBit i <;> cases decide (n = i) <;> rfl
theorem clr_le (t n : Nat) : clr t n ≤ t := by
  have h : clr t n &&& t = clr t n := by
    apply Nat.eq_of_testBit_eq
    intro i
    rw [Nat.testBit_and, clr_bit]
    cases t.testBit i <;> cases decide (n = i) <;> rfl
  rw [← h]
  exact Nat.and_le_right
theorem zz_clrI (a n : Nat) (ha : a < 2147483648) (hn : n < 31) : vm_and (a : Int) (vm_xor (vm_shl 1 (n : Int)) (-1)) = ((clr a n : Nat) : Int) := by
  obtain ⟨r, h1, h2, h3, h4⟩ := zz_clr a n ha hn
  have : r = clr a n := Nat.eq_of_testBit_eq fun i => by rw [h4, clr_bit]
  rw [h1, this]
/-- one after the other is left out, where the rest will do without it -/
noncomputable def red (B : Nat → Prop) (s : Nat) : Nat → Nat
  | 0 => s
  | n + 1 => @ite Nat (B (clr (red B s n) n)) (Classical.propDecidable _) (clr (red B s n) n) (red B s n)
theorem red_yes {B : Nat → Prop} {s n : Nat} (h : B (clr (red B s n) n)) : red B s (n + 1) = clr (red B s n) n := by simp only [red]; rw [if_pos h]
theorem red_no {B : Nat → Prop} {s n : Nat} (h : ¬ B (clr (red B s n) n)) : red B s (n + 1) = red B s n := by simp only [red]; rw [if_neg h]
theorem red_le (B : Nat → Prop) (s : Nat) : ∀ n, red B s n ≤ s
  | 0 => Nat.le_refl _
  | n + 1 => by
    by_cases h : B (clr (red B s n) n)
    · rw [red_yes h]; exact Nat.le_trans (clr_le _ _) (red_le B s n)
    · rw [red_no h]; exact red_le B s n
/-- as many, up to a limit -/
def cnt {α : Type} (S : α → Prop) (lim r : Nat) : Prop := ∃ l : List α, l.Nodup ∧ (∀ u ∈ l, S u) ∧ l.length = r ∧ r ≤ lim ∧ (r < lim → ∀ u, S u → u ∈ l)
theorem nodup_le {α : Type} : ∀ {l l' : List α}, l.Nodup → (∀ u ∈ l, u ∈ l') → l.length ≤ l'.length
  | [], l', _, _ => Nat.zero_le _
  | a :: l, l', hn, h => by
    rw [List.nodup_cons] at hn
    obtain ⟨s, t, rfl⟩ := List.append_of_mem (h a List.mem_cons_self)
    have := nodup_le (l := l) (l' := s ++ t) hn.2 (fun u hu => by
      have h1 := h u (List.mem_cons_of_mem _ hu)
      rw [List.mem_append, List.mem_cons] at h1
      rw [List.mem_append]
      rcases h1 with h1 | rfl | h1
      · exact Or.inl h1
      · exact absurd hu hn.1
      · exact Or.inr h1)
    simp only [List.length_append, List.length_cons] at this ⊢
    omega
theorem cnt_unique {α : Type} {S : α → Prop} {lim r r' : Nat} (h : cnt S lim r) (h' : cnt S lim r') : r = r' := by
  obtain ⟨l, n1, s1, e1, le1, c1⟩ := h
  obtain ⟨l', n2, s2, e2, le2, c2⟩ := h'
  by_cases h1 : r < lim
  · have a := nodup_le n2 (fun u hu => c1 h1 u (s2 u hu))
    have b := nodup_le n1 (fun u hu => c2 (by omega) u (s1 u hu))
    omega
  · by_cases h2 : r' < lim
    · have b := nodup_le n1 (fun u hu => c2 h2 u (s1 u hu))
      omega
    · omega
theorem nodup_map {α β : Type} {f : α → β} : ∀ {l : List α}, l.Nodup → (∀ a ∈ l, ∀ b ∈ l, f a = f b → a = b) → (l.map f).Nodup
  | [], _, _ => List.nodup_nil
  | a :: l, hn, h => by
    rw [List.nodup_cons] at hn
    rw [List.map_cons, List.nodup_cons]
    refine ⟨fun hm => ?_, nodup_map hn.2 (fun x hx y hy => h x (List.mem_cons_of_mem _ hx) y (List.mem_cons_of_mem _ hy))⟩
    obtain ⟨b, hb, e⟩ := List.mem_map.mp hm
    have := h a List.mem_cons_self b (List.mem_cons_of_mem _ hb) e.symm
    subst this
    exact hn.1 hb
/-- all pairs -/
def prs {α β γ : Type} (f : α → β → γ) (l : List α) (l' : List β) : List γ := l.flatMap fun a => l'.map (f a)
theorem prs_len {α β γ : Type} (f : α → β → γ) (l' : List β) : ∀ l : List α, (prs f l l').length = l.length * l'.length
  | [] => by simp [prs]
  | a :: l => by
    have := prs_len f l' l
    simp only [prs, List.flatMap_cons, List.length_append, List.length_map, List.length_cons] at this ⊢
    rw [this, Nat.succ_mul]; omega
theorem prs_mem {α β γ : Type} {f : α → β → γ} {l : List α} {l' : List β} {c : γ} : c ∈ prs f l l' ↔ ∃ a ∈ l, ∃ b ∈ l', f a b = c := by
  simp only [prs, List.mem_flatMap, List.mem_map]
theorem prs_nodup {α β γ : Type} {f : α → β → γ} {l' : List β} (hn' : l'.Nodup) : ∀ {l : List α}, l.Nodup → (∀ a ∈ l, ∀ b ∈ l', ∀ a2 ∈ l, ∀ b2 ∈ l', f a b = f a2 b2 → a = a2 ∧ b = b2) → (prs f l l').Nodup
  | [], _, _ => by simp [prs]
  | a :: l, hn, h => by
    have hn0 := hn
    rw [List.nodup_cons] at hn
    have ih := prs_nodup (f := f) hn' (l := l) hn.2 (fun x hx y hy x2 hx2 y2 hy2 => h x (List.mem_cons_of_mem _ hx) y hy x2 (List.mem_cons_of_mem _ hx2) y2 hy2)
    show ((l'.map (f a)) ++ prs f l l').Nodup
    refine List.nodup_append.mpr ⟨nodup_map hn' (fun x hx y hy e => (h a List.mem_cons_self x hx a List.mem_cons_self y hy e).2), ih, fun x hx y hy e => ?_⟩
    subst e
    obtain ⟨b, hb, e1⟩ := List.mem_map.mp hx
    obtain ⟨a2, ha2, b2, hb2, e2⟩ := prs_mem.mp hy
    have := (h a List.mem_cons_self b hb a2 (List.mem_cons_of_mem _ ha2) b2 hb2 (e1.trans e2.symm)).1
    subst this
    exact hn.1 ha2
theorem cnt_take {α : Type} {S : α → Prop} {lim : Nat} {l : List α} (hn : l.Nodup) (hs : ∀ u ∈ l, S u) (hc : l.length < lim → ∀ u, S u → u ∈ l) : cnt S lim (min lim l.length) := by
  refine ⟨l.take lim, List.Nodup.sublist (List.take_sublist _ _) hn, fun u hu => hs u (List.mem_of_mem_take hu), by rw [List.length_take], Nat.min_le_left _ _, fun h u hu => ?_⟩
  have hl : l.length < lim := by omega
  rw [List.take_of_length_le (Nat.le_of_lt hl)]
  exact hc hl u hu
/-- one times the other -/
theorem cnt_prod {α β γ : Type} {S : α → Prop} {S' : β → Prop} {R : γ → Prop} (f : α → β → γ) {lim r r' : Nat} (h : cnt S lim r) (h' : cnt S' lim r') (p : 1 ≤ r) (p' : 1 ≤ r') (hR : ∀ a b, S a → S' b → R (f a b)) (hi : ∀ a b a2 b2, S a → S' b → S a2 → S' b2 → f a b = f a2 b2 → a = a2 ∧ b = b2) (hs : ∀ c, R c → ∃ a b, S a ∧ S' b ∧ f a b = c) : cnt R lim (min lim (r * r')) := by
  obtain ⟨l, n1, s1, e1, le1, c1⟩ := h
  obtain ⟨l', n2, s2, e2, le2, c2⟩ := h'
  have hl : (prs f l l').length = r * r' := by rw [prs_len, e1, e2]
  rw [← hl]
  refine cnt_take (prs_nodup n2 n1 (fun a ha b hb a2 ha2 b2 hb2 => hi a b a2 b2 (s1 a ha) (s2 b hb) (s1 a2 ha2) (s2 b2 hb2))) (fun u hu => ?_) (fun hlt u hu => ?_)
  · obtain ⟨a, ha, b, hb, rfl⟩ := prs_mem.mp hu
    exact hR a b (s1 a ha) (s2 b hb)
  · rw [hl] at hlt
    have q1 : r ≤ r * r' := Nat.le_mul_of_pos_right r p'
    have q2 : r' ≤ r * r' := Nat.le_mul_of_pos_left r' p
    obtain ⟨a, b, ha, hb, e⟩ := hs u hu
    exact prs_mem.mpr ⟨a, c1 (by omega) a ha, b, c2 (by omega) b hb, e⟩
/-- the same number, by another name for each -/
theorem cnt_map {α β : Type} {S : α → Prop} {R : β → Prop} (f : α → β) {lim r : Nat} (h : cnt S lim r) (hR : ∀ a, S a → R (f a)) (hi : ∀ a b, S a → S b → f a = f b → a = b) (hs : ∀ c, R c → ∃ a, S a ∧ f a = c) : cnt R lim r := by
  obtain ⟨l, n1, s1, e1, le1, c1⟩ := h
  refine ⟨l.map f, nodup_map n1 (fun a ha b hb => hi a b (s1 a ha) (s1 b hb)), fun u hu => ?_, by rw [List.length_map, e1], le1, fun hlt u hu => ?_⟩
  · obtain ⟨a, ha, rfl⟩ := List.mem_map.mp hu
    exact hR a (s1 a ha)
  · obtain ⟨a, ha, e⟩ := hs u hu
    exact List.mem_map.mpr ⟨a, c1 hlt a ha, e⟩
/-- solutions, each written in one way -/
def an_S (st : Int → Int) (g : fc_G) : Prop := sl st (st_all st) g ∧ rs_U 4095 g = g
/-- the least solutions, as far as the first n counts go -/
def lx (st : Int → Int) : Nat → fc_G → Prop
  | 0, g => sl st (st_all st) g
  | n + 1, g => lx st n g ∧ ∀ g', lx st n g' → g (n : Int) ≤ g' (n : Int)
def an_bad (bag kind : Int) : Prop := ¬ ((0 ≤ bag ∧ bag ≤ 3) ∧ (0 ≤ kind ∧ kind ≤ 2))
def an_bound (st : Int → Int) (bag kind what r : Int) : Prop := (an_bad bag kind ∧ r = -1) ∨ (¬ an_bad bag kind ∧ ¬ (what = 0 ∨ what = 1) ∧ r = -2) ∨ (¬ an_bad bag kind ∧ (what = 0 ∨ what = 1) ∧ bdd (bd_c st (st_all st) (3 * bag + kind)) what r)
def an_size (st : Int → Int) (bag what r : Int) : Prop := (¬ (0 ≤ bag ∧ bag ≤ 3) ∧ r = -1) ∨ ((0 ≤ bag ∧ bag ≤ 3) ∧ ¬ (what = 0 ∨ what = 1) ∧ r = -2) ∨ ((0 ≤ bag ∧ bag ≤ 3) ∧ (what = 0 ∨ what = 1) ∧ bdd (bd_s st (st_all st) bag) what r)
def an_least (st : Int → Int) (bag kind r : Int) : Prop := (an_bad bag kind ∧ r = -1) ∨ (¬ an_bad bag kind ∧ ¬ an_has st ∧ r = -6) ∨ (¬ an_bad bag kind ∧ ∃ g, lx st ((3 * bag + kind).toNat + 1) g ∧ r = g (3 * bag + kind))
def an_solutions (st : Int → Int) (lim r : Int) : Prop := (¬ (1 ≤ lim ∧ lim ≤ 500) ∧ r = -2) ∨ ((1 ≤ lim ∧ lim ≤ 500) ∧ ∃ n : Nat, cnt (an_S st) lim.toNat n ∧ r = (n : Int))
def an_follows (st : Int → Int) (t : fc_T) (r : Int) : Prop := (¬ fc_v t ∧ r = -2) ∨ (fc_v t ∧ ¬ an_has st ∧ r = -6) ∨ (fc_v t ∧ an_has st ∧ (((∀ g, sl st (st_all st) g → ¬ fc_holds t g) ∧ r = 0) ∨ ((∀ g, sl st (st_all st) g → fc_holds t g) ∧ r = 1) ∨ ((∃ g, sl st (st_all st) g ∧ fc_holds t g) ∧ (∃ g, sl st (st_all st) g ∧ ¬ fc_holds t g) ∧ r = 2)))
def an_contra (st : Int → Int) (r : Int) : Prop := (an_has st ∧ r = -6) ∨ (¬ an_has st ∧ r = ((red (fun s => ¬ ∃ g, sl st s g) (st_all st) (st 1).toNat : Nat) : Int))
def an_reason (st : Int → Int) (bag kind what r : Int) : Prop := (an_bad bag kind ∧ r = -1) ∨ (¬ an_bad bag kind ∧ ¬ (what = 0 ∨ what = 1) ∧ r = -2) ∨ (¬ an_bad bag kind ∧ (what = 0 ∨ what = 1) ∧ ((¬ an_has st ∧ r = -6) ∨ ∃ b, an_has st ∧ bdd (bd_c st (st_all st) (3 * bag + kind)) what b ∧ r = ((red (fun s => bdd (bd_c st s (3 * bag + kind)) what b) (st_all st) (st 1).toNat : Nat) : Int)))
def an_needless (st : Int → Int) (r : Int) : Prop := (¬ an_has st ∧ r = -6) ∨ (an_has st ∧ ∃ n : Nat, r = (n : Int) ∧ ∀ i : Nat, n.testBit i = true ↔ i < (st 1).toNat ∧ ¬ ∃ g, sl st (clr (st_all st) i) g ∧ ¬ fc_holds (rf_tup st (2 + 6 * (i : Int))) g)
theorem lx_has {st : Int → Int} : ∀ {n : Nat} {g : fc_G}, lx st n g → sl st (st_all st) g
  | 0, _, h => h
  | _ + 1, _, h => lx_has h.1
