/-! ===== the reference's changes, on ===== -/
section
variable {g : PG} {u : PM} {t : Nat} {s r x y : Int}
theorem rem_inj {c : Option PO} {u2 u3 : PM} (h : c = some (0, vN, g, u2)) (h' : c = some (0, vN, g, u3)) : u2 = u3 := by
  rw [h] at h'
  injection h' with h'
  injection h' with _ h'
  injection h' with _ h'
  injection h'
end
