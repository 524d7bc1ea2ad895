theorem zf_log {c s : Nat} (h2 : 8388608 ≤ c) (h3 : c < 16777216) : Nat.log2 (c * 2 ^ s) = 23 + s := by
  have p : 0 < 2 ^ s := Nat.pow_pos (by omega)
  have h0 : c * 2 ^ s ≠ 0 := by
    have := Nat.mul_le_mul h2 p
    omega
  have a : 23 + s ≤ Nat.log2 (c * 2 ^ s) := by
    rw [Nat.le_log2 h0, Nat.pow_add]
    exact Nat.mul_le_mul_right _ h2
  have b : Nat.log2 (c * 2 ^ s) < 24 + s := by
    rw [Nat.log2_lt h0, Nat.pow_add]
    exact Nat.mul_lt_mul_of_pos_right h3 p
  omega
theorem zf_nearX {c s : Nat} : Jvm.FP.Core.nearest (c * 2 ^ s) (2 ^ s) = c := by
  have p : 0 < 2 ^ s := Nat.pow_pos (by omega)
  unfold Jvm.FP.Core.nearest
  rw [Nat.mul_mod_left, Nat.mul_div_cancel _ p, if_pos (by omega)]
theorem zf_two : Jvm.FP.Core.decode Jvm.FP.Core.b32 Jvm.FP.Core.fconst2.toNat = .fin false 8388608 (-22) := by decide +kernel
/-- twice -/
theorem zf_dbl {x : UInt32} {k c : Nat} (h : zFl x k c) (hk : 1 ≤ k) : zFl (Jvm.FP.Core.fmul x Jvm.FP.Core.fconst2) (k - 1) c := by
  obtain ⟨c1, c2, c3, c4, c5, c6⟩ := zf_c
  have e : Jvm.FP.Core.fmul x Jvm.FP.Core.fconst2 = UInt32.ofNat (Jvm.FP.Core.encode Jvm.FP.Core.b32 (.fin false c (-((k - 1 : Nat) : Int)))) := by
    unfold Jvm.FP.Core.fmul Jvm.FP.Core.mul
    rw [zf_dec h, zf_two]
    have : Jvm.FP.Core.exactProduct (.fin false c (-(k : Int))) (.fin false 8388608 (-22)) = .fin false (c * 2 ^ 23) (-((k + 22 : Nat) : Int)) := by
      unfold Jvm.FP.Core.exactProduct
      dsimp only
      rw [show (-(k : Int) + -22) = -((k + 22 : Nat) : Int) by omega]
      rfl
    rw [this]
    have h4 := h.2.2.2
    have h0 : c * 2 ^ 23 ≠ 0 := by have := h.2.1; omega
    show UInt32.ofNat (Jvm.FP.Core.encode _ (Jvm.FP.Core.roundRatio _ _ _ _ _)) = _
    rw [zf_round (zf_log h.2.1 h.2.2.1) h0 (by omega), zf_nearX]
    unfold Jvm.FP.Core.settle Jvm.FP.Core.bound
    rw [c4, c5, if_pos h.2.2.1, if_pos (by omega), show (-((k + 22 : Nat) : Int) + ((23 : Nat) : Int)) = -((k - 1 : Nat) : Int) by omega]
  rw [e]
  exact zf_of h.2.1 h.2.2.1 (by have := h.2.2.2; omega)
theorem zf_2p23 : Jvm.FP.Core.decode Jvm.FP.Core.b32 (1258291200 : UInt32).toNat = .fin false 8388608 0 := by decide +kernel
theorem zf_zero : Jvm.FP.Core.decode Jvm.FP.Core.b32 Jvm.FP.Core.fconst0.toNat = .fin false 0 (-149) := by decide +kernel
/-- against two to the 23 -/
theorem zf_cmp {x : UInt32} {k c : Nat} (h : zFl x k c) : (0 ≤ k → 1 ≤ k → ¬ ((0 : Int32) ≤ Op.cmpValue (Jvm.FP.Core.fcmp x 1258291200) .g)) ∧ (k = 0 → (0 : Int32) ≤ Op.cmpValue (Jvm.FP.Core.fcmp x 1258291200) .g) := by
  have e : Jvm.FP.Core.fcmp x 1258291200 = some (compare ((c : Nat) : Int) ((8388608 * 2 ^ k : Nat) : Int)) := by
    unfold Jvm.FP.Core.fcmp Jvm.FP.Core.cmp
    rw [zf_dec h, zf_2p23]
    unfold Jvm.FP.Core.order
    dsimp only
    unfold Jvm.FP.Core.signed Jvm.FP.Core.inUnits
    rw [show min (-(k : Int)) 0 = -(k : Int) by omega, show (-(k : Int) - -(k : Int)).toNat = 0 by omega, show (0 - -(k : Int)).toNat = k by omega]
    simp only [Bool.false_eq_true, if_false, Nat.pow_zero, Nat.mul_one]
  rw [e]
  constructor
  · intro _ hk
    have h2 : 2 ≤ 2 ^ k := by
      have : 2 ^ 1 ≤ 2 ^ k := Nat.pow_le_pow_right (by omega) hk
      omega
    have h3 := h.2.2.1
    have : compare ((c : Nat) : Int) ((8388608 * 2 ^ k : Nat) : Int) = .lt := by
      rw [Int.compare_eq_lt]
      have := Nat.mul_le_mul_left 8388608 h2
      omega
    rw [this]
    decide +kernel
  · rintro rfl
    have h3 := h.2.1
    by_cases hc : c = 8388608
    · have : compare ((c : Nat) : Int) ((8388608 * 2 ^ 0 : Nat) : Int) = .eq := by
        rw [Int.compare_eq_eq]; omega
      rw [this]
      decide +kernel
    · have : compare ((c : Nat) : Int) ((8388608 * 2 ^ 0 : Nat) : Int) = .gt := by
        rw [Int.compare_eq_gt]; omega
      rw [this]
      decide +kernel
theorem zf_pos {x : UInt32} {k c : Nat} (h : zFl x k c) : (0 : Int32) < Op.cmpValue (Jvm.FP.Core.fcmp x Jvm.FP.Core.fconst0) .l := by
  have e : Jvm.FP.Core.fcmp x Jvm.FP.Core.fconst0 = some (compare ((c * 2 ^ (149 - k) : Nat) : Int) 0) := by
    unfold Jvm.FP.Core.fcmp Jvm.FP.Core.cmp
    rw [zf_dec h, zf_zero]
    have h4 := h.2.2.2
    unfold Jvm.FP.Core.order
    dsimp only
    unfold Jvm.FP.Core.signed Jvm.FP.Core.inUnits
    rw [show min (-(k : Int)) (-149) = -149 by omega, show (-(k : Int) - -149).toNat = 149 - k by omega]
    simp only [Bool.false_eq_true, if_false, Nat.zero_mul]
    rfl
  rw [e]
  have : compare ((c * 2 ^ (149 - k) : Nat) : Int) 0 = .gt := by
    rw [Int.compare_eq_gt]
    have p : 0 < 2 ^ (149 - k) := Nat.pow_pos (by omega)
    have := Nat.mul_le_mul h.2.1 p
    omega
  rw [this]
  decide +kernel
theorem zf_fnn {x : UInt32} {k c : Nat} (h : zFl x k c) : fnn x = true := by
  unfold fnn
  rw [decide_eq_true_eq, UInt32.le_iff_toNat_le, UInt32.toNat_and]
  have h1 : x.toNat ≤ 2139095040 := by rw [h.1]; have := h.2.1; have := h.2.2.1; omega
  exact Nat.le_trans Nat.and_le_left h1
theorem zf_f2i {x : UInt32} {c : Nat} (h : zFl x 0 c) : Jvm.FP.Core.f2i x = nI c := by
  unfold Jvm.FP.Core.f2i Jvm.FP.Core.toI
  rw [zf_dec h]
  unfold Jvm.FP.Core.toInt Jvm.FP.Core.truncate Jvm.FP.Core.signed
  have h2 := h.2.1
  have h3 := h.2.2.1
  have e : (-((0 : Nat) : Int)).toNat = 0 := rfl
  have e' : (-(-((0 : Nat) : Int))).toNat = 0 := rfl
  dsimp only
  rw [e, e']
  simp only [Bool.false_eq_true, if_false, Nat.pow_zero, Nat.mul_one, Nat.div_one]
  rw [show max (-2 ^ 31) (min (2 ^ 31 - 1) ((c : Nat) : Int)) = ((c : Nat) : Int) by omega]
  rfl
theorem zf_bits {x : UInt32} {k c c0 : Nat} (h : zFl x k c) (hc : c0 = c) : ((nI (150 - k) <<< ((23 : Int32) &&& 31)) ||| (nI c0 &&& (8388607 : Int32))) = x.toInt32 := by
  subst hc
  obtain ⟨h1, h2, h3, h4⟩ := h
  have s1 : ∀ e : Fin 151, (nI e.1 <<< ((23 : Int32) &&& 31)).toBitVec.toNat = e.1 * 8388608 := by decide +kernel
  have e1 := s1 ⟨150 - k, by omega⟩
  have e2 : (nI c0 &&& (8388607 : Int32)).toBitVec.toNat = c0 - 8388608 := by
    rw [Int32.toBitVec_and, BitVec.toNat_and]
    have a : (nI c0).toBitVec.toNat = c0 := by
      show (BitVec.ofNat 32 c0).toNat = c0
      rw [BitVec.toNat_ofNat]; omega
    have b : (8388607 : Int32).toBitVec.toNat = 2 ^ 23 - 1 := by decide +kernel
    rw [a, b, Nat.and_two_pow_sub_one_eq_mod]
    omega
  rw [← Int32.toBitVec_inj]
  apply BitVec.eq_of_toNat_eq
  rw [Int32.toBitVec_or, BitVec.toNat_or, e1, e2]
  have e3 : x.toInt32.toBitVec.toNat = x.toNat := rfl
  have := Nat.two_pow_add_eq_or_of_lt (i := 23) (b := c0 - 8388608) (by omega) (150 - k)
  rw [e3, h1]
  show (150 - k) * 8388608 ||| c0 - 8388608 = _
  rw [show (150 - k) * 8388608 = 2 ^ 23 * (150 - k) by omega]
  exact this.symm
