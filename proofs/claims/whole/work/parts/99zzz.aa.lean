def uAO : List String := [RX3, RX5, RX7, RX9, RX10]
/-- nest links, and arrays of objects: what rides in a maker's world -/
def UN (U : State) : Prop := NW U ∧ ∀ C ∈ uAO, va_AO C U
theorem UN.warm {s U : State} (hW : s.WarmedH U.vm) (h : UN s) : UN U := ⟨NW.warm hW h.1, fun C hC => (h.2 C hC).moved hW.alike⟩
theorem UN.same {s U : State} (hv : s.vm = U.vm) (h : UN s) : UN U := ⟨NW.same hv h.1, fun C hC => (h.2 C hC).moved (by rw [hv]; exact Vm.Alike.refl U.vm)⟩
