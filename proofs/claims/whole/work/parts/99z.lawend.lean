/-- the law's end: what was made is forgotten, the room is what the claim has -/
theorem lw_fin {Z : ZT} {C : CX} {σ : Mem} {M : List (Nat × Value)} {kc ks : Nat} (hA : ∀ q, c_A C q → (c_s C).heap.size ≤ q) (hk : c_k C ≤ kc) (hn : c_n C ≤ ks)
    (hret : ∀ (H : Heap) (ls : Array Slot), W (c_p C) (zl Z) (c_e C) (c_R C) (c_s C) (c_m C) (c_a C) (c_b C) (c_h C) (c_c C) H [] kc ks (c_Q C) (F0 (c_m C) 1160 ls [.int (nI 1)])) : G Z C σ 1160 M [.int (nI 1)] := by
  intro H locs ls hP hS h
  exact va_forget (fun q hq => hA _ (hS.2.2 q hq)) (W.widen hk hn (hret H ls))
