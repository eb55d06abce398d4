/-! THE CLASS: the opposite of a fact about bags, by a kind -/
section OPP
variable {G : vm_G} {d : Nat} {m : vm_M} {P : fc_G → Prop} {n : Int}
def opP (f w a b c : Int) (h : fc_G) : Prop :=
  if f = 5 then 1 ≤ h a - h b
  else if f = 2 then (if w = 0 then 1 ≤ h a - h b - h c else h a - h b - h c ≤ -1)
  else if w = 0 then (if f = 3 then 1 ≤ h b - h a else 1 ≤ h a - h b)
  else if w = 1 then (if f = 3 then 1 ≤ h c - h a else 1 ≤ h a - h c)
  else if f = 3 then 1 ≤ h a - h b ∧ 1 ≤ h a - h c else 1 ≤ h b - h a ∧ 1 ≤ h c - h a
/-- the variables are no more than a size can be -/
def H18 (h : fc_G) : Prop := ∀ v : Int, 0 ≤ v → v < 16 → 0 ≤ h v ∧ h v ≤ 18
end OPP
