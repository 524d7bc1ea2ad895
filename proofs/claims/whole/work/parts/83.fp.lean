theorem zf_c : Jvm.FP.Core.b32.tails = 8388608 ∧ Jvm.FP.Core.b32.exps = 256 ∧ Jvm.FP.Core.b32.qmin = -149 ∧ Jvm.FP.Core.b32.qmax = 104 ∧ (2 ^ Jvm.FP.Core.b32.p : Nat) = 16777216 ∧ ((Jvm.FP.Core.b32.p : Int) - 1) = 23 := by decide +kernel
/-- a float of value c over two to the k -/
def zFl (x : UInt32) (k c : Nat) : Prop := x.toNat = (150 - k) * 8388608 + (c - 8388608) ∧ 8388608 ≤ c ∧ c < 16777216 ∧ k ≤ 29
theorem zf_dec {x : UInt32} {k c : Nat} (h : zFl x k c) : Jvm.FP.Core.decode Jvm.FP.Core.b32 x.toNat = .fin false c (-(k : Int)) := by
  obtain ⟨c1, c2, c3, -⟩ := zf_c
  obtain ⟨h1, h2, h3, h4⟩ := h
  rw [h1]
  generalize hn : (150 - k) * 8388608 + (c - 8388608) = n
  have e1 : Jvm.FP.Core.fieldE Jvm.FP.Core.b32 n = 150 - k := by unfold Jvm.FP.Core.fieldE; rw [c1, c2]; omega
  have e2 : Jvm.FP.Core.fieldT Jvm.FP.Core.b32 n = c - 8388608 := by unfold Jvm.FP.Core.fieldT; rw [c1]; omega
  have e3 : Jvm.FP.Core.fieldS Jvm.FP.Core.b32 n = false := by
    unfold Jvm.FP.Core.fieldS; rw [c1, c2]
    have : n / 8388608 / 256 % 2 = 0 := by omega
    rw [this]; rfl
  unfold Jvm.FP.Core.decode
  rw [e1, e2, e3, c1, c2, c3, if_neg (by omega), if_neg (by omega)]
  rw [show 8388608 + (c - 8388608) = c by omega, show (-149 + (((150 - k : Nat) : Int) - 1)) = -(k : Int) by omega]
theorem zf_enc {k c : Nat} (h2 : 8388608 ≤ c) (hk : k ≤ 149) : Jvm.FP.Core.encode Jvm.FP.Core.b32 (.fin false c (-(k : Int))) = (150 - k) * 8388608 + (c - 8388608) := by
  obtain ⟨c1, c2, c3, -⟩ := zf_c
  unfold Jvm.FP.Core.encode
  dsimp only
  rw [c1, if_neg (by omega)]
  unfold Jvm.FP.Core.assemble
  rw [c1, c2, c3]
  have : (-(k : Int) - -149).toNat + 1 = 150 - k := by omega
  rw [this]
  simp only [Bool.toNat_false, Nat.zero_mul, Nat.zero_add]
theorem zf_of {k c : Nat} (h2 : 8388608 ≤ c) (h3 : c < 16777216) (hk : k ≤ 29) : zFl (UInt32.ofNat (Jvm.FP.Core.encode Jvm.FP.Core.b32 (.fin false c (-(k : Int))))) k c := by
  refine ⟨?_, h2, h3, hk⟩
  rw [zf_enc h2 (by omega), UInt32.toNat_ofNat']
  omega
theorem zf_round {num K s : Nat} (hs : Nat.log2 num = 23 + s) (h0 : num ≠ 0) (hK : K ≤ 149) : Jvm.FP.Core.roundRatio Jvm.FP.Core.b32 false num 1 (-(K : Int)) = Jvm.FP.Core.settle Jvm.FP.Core.b32 false (Jvm.FP.Core.nearest num (2 ^ s)) (-(K : Int) + (s : Int)) := by
  obtain ⟨c1, c2, c3, c4, c5, c6⟩ := zf_c
  have hl : Jvm.FP.Core.leading num 1 = (23 + s : Int) := by
    unfold Jvm.FP.Core.leading
    rw [hs]
    have l1 : Nat.log2 1 = 0 := by decide +kernel
    rw [l1]
    dsimp only
    have e1 : (((23 + s : Nat) : Int) - ((0 : Nat) : Int)).toNat = 23 + s := by omega
    have e2 : (-(((23 + s : Nat) : Int) - ((0 : Nat) : Int))).toNat = 0 := by omega
    rw [e1, e2, if_pos]
    · omega
    · have := Nat.log2_self_le h0
      rw [hs] at this
      omega
  have hq : Jvm.FP.Core.quantum Jvm.FP.Core.b32 num 1 (-(K : Int)) = -(K : Int) + (s : Int) := by
    unfold Jvm.FP.Core.quantum
    rw [c3, c6, hl]
    omega
  unfold Jvm.FP.Core.roundRatio
  rw [if_neg h0, hq]
  unfold Jvm.FP.Core.roundAt Jvm.FP.Core.unitsNum Jvm.FP.Core.unitsDen
  have e3 : (-(K : Int) - (-(K : Int) + (s : Int))).toNat = 0 := by omega
  have e4 : (-(K : Int) + (s : Int) - -(K : Int)).toNat = s := by omega
  rw [e3, e4]
  simp only [Nat.pow_zero, Nat.mul_one, Nat.one_mul]
theorem zf_settle {c K s : Nat} (h2 : 8388608 ≤ c) (h3 : c ≤ 16777216) (hs : s + 1 ≤ K) : ∃ c' k' : Nat, Jvm.FP.Core.settle Jvm.FP.Core.b32 false c (-(K : Int) + (s : Int)) = .fin false c' (-(k' : Int)) ∧ 8388608 ≤ c' ∧ c' < 16777216 ∧ k' ≤ K ∧ ((c' = c ∧ k' = K - s) ∨ (c = 16777216 ∧ c' = 8388608 ∧ k' = K - s - 1)) := by
  obtain ⟨c1, c2, c3, c4, c5, c6⟩ := zf_c
  unfold Jvm.FP.Core.settle Jvm.FP.Core.bound
  rw [c4, c5, c1]
  by_cases h : c < 16777216
  · rw [if_pos h, if_pos (by omega)]
    exact ⟨c, K - s, by congr 1; omega, h2, h, by omega, Or.inl ⟨rfl, rfl⟩⟩
  · rw [if_neg h, if_pos (by omega)]
    exact ⟨8388608, K - s - 1, by congr 1; omega, by omega, by omega, by omega, Or.inr ⟨by omega, rfl, rfl⟩⟩
theorem zf_near {num s : Nat} (hs : Nat.log2 num = 23 + s) (h0 : num ≠ 0) : 8388608 ≤ Jvm.FP.Core.nearest num (2 ^ s) ∧ Jvm.FP.Core.nearest num (2 ^ s) ≤ 16777216 ∧ Jvm.FP.Core.nearest num (2 ^ s) * 2 ^ s ≤ num + 2 ^ s := by
  have a := Nat.log2_self_le h0
  have b : num < 2 ^ (num.log2 + 1) := Nat.lt_log2_self
  rw [hs] at a b
  rw [show 23 + s + 1 = 24 + s by omega, Nat.pow_add] at b
  rw [Nat.pow_add] at a
  have p : 0 < 2 ^ s := Nat.pow_pos (by omega)
  have dl : 8388608 ≤ num / 2 ^ s := (Nat.le_div_iff_mul_le p).mpr a
  have du : num / 2 ^ s < 16777216 := (Nat.div_lt_iff_lt_mul p).mpr b
  have dm : num / 2 ^ s * 2 ^ s ≤ num := Nat.div_mul_le_self num (2 ^ s)
  have e : ∀ r, r ≤ 1 → (num / 2 ^ s + r) * 2 ^ s ≤ num + 2 ^ s := fun r hr => by
    rw [Nat.add_mul]
    have : r * 2 ^ s ≤ 1 * 2 ^ s := Nat.mul_le_mul_right _ hr
    omega
  unfold Jvm.FP.Core.nearest
  split
  · exact ⟨dl, by omega, e 0 (by omega)⟩
  · split
    · exact ⟨by omega, by omega, e 1 (by omega)⟩
    · exact ⟨by omega, by omega, e _ (by omega)⟩
def zVl (k c : Nat) : Nat := c * 2 ^ (29 - k)
theorem zf_add {x y : UInt32} {k c l d : Nat} (h1 : zFl x k c) (h2 : zFl y l d) (hb : zVl k c + zVl l d < 2 ^ 39) : ∃ k' c', zFl (Jvm.FP.Core.fadd x y) k' c' ∧ zVl k' c' * 8388607 ≤ (zVl k c + zVl l d) * 8388608 := by
  obtain ⟨K, hK⟩ : ∃ K, K = max k l := ⟨_, rfl⟩
  have kK : k ≤ K := by omega
  have lK : l ≤ K := by omega
  have k29 := h1.2.2.2
  have l29 := h2.2.2.2
  obtain ⟨num, hnum⟩ : ∃ num, num = c * 2 ^ (K - k) + d * 2 ^ (K - l) := ⟨_, rfl⟩
  have hV : num * 2 ^ (29 - K) = zVl k c + zVl l d := by
    unfold zVl
    rw [hnum, Nat.add_mul, Nat.mul_assoc, Nat.mul_assoc, ← Nat.pow_add, ← Nat.pow_add, show K - k + (29 - K) = 29 - k by omega, show K - l + (29 - K) = 29 - l by omega]
  have hmin : 8388608 ≤ num := by
    have p : 1 ≤ 2 ^ (K - k) := Nat.pow_pos (by omega)
    have := Nat.mul_le_mul h1.2.1 p
    omega
  have h0 : num ≠ 0 := by omega
  have hl : 23 ≤ num.log2 := by
    rw [Nat.le_log2 h0]; exact hmin
  obtain ⟨s, hs⟩ : ∃ s, num.log2 = 23 + s := ⟨num.log2 - 23, by omega⟩
  have hlt : num < 2 ^ (10 + K) := by
    have : num * 2 ^ (29 - K) < 2 ^ (10 + K) * 2 ^ (29 - K) := by
      rw [hV, ← Nat.pow_add, show 10 + K + (29 - K) = 39 by omega]; exact hb
    exact Nat.lt_of_mul_lt_mul_right this
  have hs2 : 23 + s < 10 + K := by
    rw [← hs]
    exact (Nat.log2_lt h0).mpr hlt
  have hsum : Jvm.FP.Core.exactSum (.fin false c (-(k : Int))) (.fin false d (-(l : Int))) = .fin false num (-(K : Int)) := by
    unfold Jvm.FP.Core.exactSum
    dsimp only
    have hm : min (-(k : Int)) (-(l : Int)) = -(K : Int) := by omega
    have hu : Jvm.FP.Core.sumUnits false c (-(k : Int)) false d (-(l : Int)) (-(K : Int)) = (num : Int) := by
      unfold Jvm.FP.Core.sumUnits Jvm.FP.Core.signed Jvm.FP.Core.inUnits
      rw [show (-(k : Int) - -(K : Int)).toNat = K - k by omega, show (-(l : Int) - -(K : Int)).toNat = K - l by omega]
      simp only [Bool.false_eq_true, if_false]
      rw [hnum]; omega
    rw [hm, hu]
    unfold Jvm.FP.Core.sumSign
    rw [if_neg (by omega)]
    congr 1
  obtain ⟨n1, n2, n3⟩ := zf_near hs h0
  obtain ⟨c', k', e, e1, e2, e3, e4⟩ := zf_settle (K := K) n1 n2 (show s + 1 ≤ K by omega)
  have hr : Jvm.FP.Core.fadd x y = UInt32.ofNat (Jvm.FP.Core.encode Jvm.FP.Core.b32 (.fin false c' (-(k' : Int)))) := by
    unfold Jvm.FP.Core.fadd Jvm.FP.Core.add
    rw [zf_dec h1, zf_dec h2, hsum]
    show UInt32.ofNat (Jvm.FP.Core.encode _ (Jvm.FP.Core.roundRatio _ _ _ _ _)) = _
    rw [zf_round hs h0 (by omega), e]
  refine ⟨k', c', by rw [hr]; exact zf_of e1 e2 (by omega), ?_⟩
  -- the value: at most one unit of the last digit more
  obtain ⟨N, hN⟩ : ∃ N, N = Jvm.FP.Core.nearest num (2 ^ s) := ⟨_, rfl⟩
  have v : zVl k' c' = N * 2 ^ s * 2 ^ (29 - K) := by
    unfold zVl
    rw [Nat.mul_assoc, ← Nat.pow_add]
    rcases e4 with ⟨a, b⟩ | ⟨a, b, d'⟩
    · rw [a, b, hN]
      congr 2; omega
    · rw [b, d', hN, a, show 29 - (K - s - 1) = (s + (29 - K)) + 1 by omega, Nat.pow_succ]
      omega
  have w1 : N * 2 ^ s * 2 ^ (29 - K) ≤ (num + 2 ^ s) * 2 ^ (29 - K) := Nat.mul_le_mul_right _ (by rw [hN]; exact n3)
  have w2 : 8388608 * (2 ^ s * 2 ^ (29 - K)) ≤ num * 2 ^ (29 - K) := by
    rw [← Nat.mul_assoc]
    refine Nat.mul_le_mul_right _ ?_
    have := Nat.log2_self_le h0
    rw [hs, Nat.pow_add] at this
    exact this
  rw [Nat.add_mul, hV] at w1
  rw [hV] at w2
  rw [v]
  omega
