def zV (n : Nat) : Bool := n == 97 || n == 101 || n == 105 || n == 111 || n == 117
def zsg (b : Nat) : Int32 := (nI b).toInt8.toInt32
theorem zsg_255 {b : Nat} (h : b < 256) : zsg b &&& nI 255 = nI b := sc_k8 b h
theorem zsg_sm : ∀ b, b < 128 → zsg b = nI b := by
  have h : ∀ b : Fin 128, zsg b.1 = nI b.1 := by decide +kernel
  exact fun b hb => h ⟨b, hb⟩
theorem zsg_nn (b : Nat) : ((((nI b).toInt8.toInt32)).toInt8.toInt32) = zsg b := by
  unfold zsg
  rw [Int8.toInt8_toInt32]
/-- a Letters object at i holds these letters -/
def zL (σ : Mem) (i : Nat) (l : List Nat) : Prop := σ i 1 = nI l.length ∧ (∀ k, k < l.length → σ (i + 1) k = zsg (l.getD k 0)) ∧ ∀ b, b ∈ l → b < 256
theorem zL_get {σ : Mem} {i : Nat} {l : List Nat} (h : zL σ i l) {k : Nat} (hk : k < l.length) : l.getD k 0 < 256 := by
  have := h.2.2 (l[k]) (List.getElem_mem hk)
  simpa [List.getD_eq_getElem?_getD, List.getElem?_eq_getElem hk] using this
theorem zL_co {σ τ : Mem} {i : Nat} {l : List Nat} (h : zL σ i l) (h1 : τ i 1 = σ i 1) (h2 : ∀ k, τ (i + 1) k = σ (i + 1) k) : zL τ i l :=
  ⟨by rw [h1]; exact h.1, fun k hk => by rw [h2]; exact h.2.1 k hk, h.2.2⟩
theorem zgd_app (a b : List Nat) (k : Nat) : (a ++ b).getD k 0 = if k < a.length then a.getD k 0 else b.getD (k - a.length) 0 := by
  simp only [List.getD_eq_getElem?_getD, List.getElem?_append]
  split <;> rfl
theorem zgd_take (a : List Nat) (n k : Nat) : (a.take n).getD k 0 = if k < n then a.getD k 0 else 0 := by
  simp only [List.getD_eq_getElem?_getD, List.getElem?_take]
  split <;> rfl
theorem z_at {σ : Mem} {i R : Nat} {l : List Nat} (h : zL σ i l) (hr : ln (i + 1) = R) (hl : l.length ≤ R) (hR : R < 1000) {k : Nat} (hk : k < 2 ^ 30) :
    fX5_at σ i (nI k) = some (if k < l.length then nI (l.getD k 0) else -nI 1) := by
  unfold fX5_at
  simp (disch := omega) only [zLT, zC, zI, zE, h.1, hr, if_neg, Nat.not_lt_zero, if_false]
  by_cases hc : k < l.length
  · simp (disch := omega) only [if_neg, if_pos hc, zI, zE, h.2.1 k hc, zsg_255 (zL_get h hc)]
  · simp (disch := omega) only [if_pos, if_neg hc]
theorem z_at_neg {σ : Mem} {i : Nat} {x : Int32} (h : x < 0) : fX5_at σ i x = some (-nI 1) := by
  unfold fX5_at
  rw [if_pos h]
  rfl
theorem z_vow {σ : Mem} {n : Nat} (h : n < 2 ^ 31) : fX5_isVowel σ (nI n) = some (if zV n then nI 1 else nI 0) := by
  unfold fX5_isVowel zV
  simp (disch := omega) only [zLT, zC]
  simp only [Bool.or_eq_true, beq_iff_eq]
  repeat (split <;> try simp_all)
theorem z_vowN {σ : Mem} : fX5_isVowel σ (-nI 1) = some (nI 0) := by
  unfold fX5_isVowel
  decide +kernel
theorem z_vowM {σ : Mem} {n : Nat} (h : n < 2 ^ 31) : fX12_isVowel σ (nI n) = some (if zV n then nI 1 else nI 0) := z_vow (σ := σ) h
theorem z_add {σ : Mem} {i R : Nat} {l : List Nat} (h : zL σ i l) (hr : ln (i + 1) = R) (hl : l.length < R) (hR : R < 1000) {b : Nat} (hb : b < 256) :
    ∃ τ, fX5_add σ i (nI b) = some τ ∧ zL τ i (l ++ [b]) ∧ ∀ a c, a ≠ i → a ≠ i + 1 → τ a c = σ a c := by
  unfold fX5_add
  simp (disch := omega) only [zLT, zC, zI, zE, h.1, hr, if_neg, zM, zsg_nn]
  refine ⟨_, rfl, ⟨?_, ?_, ?_⟩, ?_⟩
  · simp (disch := omega) only [zM, List.length_append, List.length_singleton]
  · intro k hk
    simp only [List.length_append, List.length_singleton] at hk
    rw [zgd_app]
    by_cases hc : k < l.length
    · simp (disch := omega) only [zM, if_pos hc, h.2.1 k hc]
    · simp (disch := omega) only [zM, if_neg hc]
      rw [show k - l.length = 0 by omega]
      rfl
  · intro c hc
    rcases List.mem_append.mp hc with q | q
    · exact h.2.2 c q
    · rw [List.mem_singleton.mp q]; exact hb
  · intro a c h1 h2
    simp (disch := omega) only [zM]
