theorem uq_in {w : Cond} (h : w ∈ lw_tbl) (hg : goodWord w = true) : w ∈ uW := List.mem_filter.mpr ⟨List.mem_append_right _ h, hg⟩
theorem uc_name {s : State} {c : ClassId} {ty : FieldType} (h : va_RA s c ty) : s.vm.findClass ("[" ++ ty.toString) = some c := by
  cases ty
  case object C =>
    obtain ⟨kA, comp, h1, h2, h3, h4⟩ := h
    exact h4
  all_goals exact h
/-- an array's class is told by its name: a new array is of the class that the world knows -/
theorem uc_same {D : va_G} {cl : List vw_C} {tys : List (ClassId × FieldType)} {c0 cA : ClassId} {ty : FieldType} {s : State} {t : Nat} (h : va_K D cl (tys ++ [(cA, ty)]) s) (ht : tys[t]? = some (c0, ty)) : cA = c0 := by
  have hl : t < tys.length := (List.getElem?_eq_some_iff.mp ht).1
  have h1 := h.2 t (c0, ty) (by rw [List.getElem?_append_left hl]; exact ht)
  have h2 := h.2 tys.length (cA, ty) (by rw [List.getElem?_append_right (Nat.le_refl _), Nat.sub_self]; rfl)
  have n1 := uc_name h1.2
  have n2 := uc_name h2.2
  dsimp only at n1 n2
  rw [n1] at n2
  exact (Option.some.inj n2).symm
