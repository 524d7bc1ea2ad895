def znx (z : Int32) : Int32 := z * 1103515245 + 12345
/-- a number drawn of so many -/
def zdr (z : Int32) (n : Nat) : Nat := (ius z (nI 9)).toBitVec.toNat % n
theorem zdr_lt {z : Int32} {n : Nat} (h : 0 < n) : zdr z n < n := Nat.mod_lt _ h
theorem zdr_eq {z : Int32} {n : Nat} (h : 0 < n) (hn : n < 2 ^ 31) : irm (ius z (nI 9)) (nI n) = nI (zdr z n) := by
  have e := pk_ushr z (nI 9) 9 (by decide +kernel)
  have hz : z.toBitVec.toNat < 2 ^ 32 := z.toBitVec.isLt
  have hu : (ius z (nI 9)).toBitVec.toNat = z.toBitVec.toNat / 2 ^ 9 := e
  have hlt : (ius z (nI 9)).toBitVec.toNat < 2 ^ 31 := by rw [hu]; omega
  have : ius z (nI 9) = nI ((ius z (nI 9)).toBitVec.toNat) := by
    apply Int32.toBitVec_inj.mp
    apply BitVec.eq_of_toNat_eq
    rw [pk_tn (by omega)]
  unfold zdr
  conv => lhs; rw [this]
  rw [zi_rem hlt h hn]
theorem z_next {σ : Mem} {n : Nat} (hn : n < 2 ^ 31) : fX1_next σ 356 (nI n) = some (if n = 0 then nI 0 else nI (zdr (znx (σ 356 1)) n), mw σ 356 1 (znx (σ 356 1))) := by
  refine zW_val ?_
  unfold fX1_next
  refine zW_bv (mw σ 356 1 (znx (σ 356 1))) rfl ?_
  refine zW_if (fun h => ?_) (fun h => ?_)
  · simp (disch := omega) only [zLT, zC] at h
    exact zW_so (by rw [if_pos (by omega)]; rfl)
  · simp (disch := omega) only [zLT, zC] at h
    refine zW_gd (by rw [Bool.not_eq_true', decide_eq_false_iff_not]; simp (disch := omega) only [zLT, zC]; omega) ?_
    refine zW_so ?_
    rw [if_neg (by omega)]
    have : (mw σ 356 1 (znx (σ 356 1))) 356 1 = znx (σ 356 1) := by simp only [zM]
    rw [this]
    exact congrArg (fun x => (x, mw σ 356 1 (znx (σ 356 1)))) (zdr_eq (by omega) hn)
theorem z_draws {σ : Mem} {n : Nat} (hn : n < 2 ^ 31) : fX12_draws σ 383 (nI n) = some (if n = 0 then -nI 1 else nI (zdr (znx (σ 383 20)) n), mw σ 383 20 (znx (σ 383 20))) := by
  refine zW_val ?_
  unfold fX12_draws
  refine zW_bv (mw σ 383 20 (znx (σ 383 20))) rfl ?_
  refine zW_if (fun h => ?_) (fun h => ?_)
  · simp (disch := omega) only [zLT, zC] at h
    exact zW_so (by rw [if_pos (by omega)]; rfl)
  · simp (disch := omega) only [zLT, zC] at h
    refine zW_gd (by rw [Bool.not_eq_true', decide_eq_false_iff_not]; simp (disch := omega) only [zLT, zC]; omega) ?_
    refine zW_so ?_
    rw [if_neg (by omega)]
    have : (mw σ 383 20 (znx (σ 383 20))) 383 20 = znx (σ 383 20) := by simp only [zM]
    rw [this]
    exact congrArg (fun x => (x, mw σ 383 20 (znx (σ 383 20)))) (zdr_eq (by omega) hn)
/-- the number that stands before hole i -/
def zdz (g : Nat → Int32) (f : Nat) (z : Int32) : Nat → Int32
  | 0 => z
  | i + 1 => if ix (g (zha f i)) = 112 then zdz g f z i else znx (zdz g f z i)
theorem zdz_s (g : Nat → Int32) (f : Nat) (z : Int32) (i : Nat) : zdz g f z (i + 1) = if ix (g (zha f i)) = 112 then zdz g f z i else znx (zdz g f z i) := rfl
/-- the word drawn for hole i -/
def zdo (g : Nat → Int32) (f : Nat) (z : Int32) (i : Nat) : Option Nat := if ix (g (zha f i)) = 112 then zth (zcan g f i) (znW g) 0 0 else if zct (zcan g f i) (znW g) = 0 then none else zth (zcan g f i) (znW g) 0 (zdr (znx (zdz g f z i)) (zct (zcan g f i) (znW g)))
theorem zct_pos {p : Nat → Bool} {m : Nat} : ∀ {i k : Nat}, k < zct (fun x => p (i + x)) m → ∃ w, zth p m i k = some w := by
  induction m with
  | zero => intro i k h; exact absurd h (Nat.not_lt_zero k)
  | succ m ih =>
    intro i k h
    have e : ∀ (q : Nat → Bool) (n : Nat), zct q (n + 1) = (if q 0 then 1 else 0) + zct (fun x => q (x + 1)) n := by
      intro q n
      induction n with
      | zero => simp [zct]
      | succ n ih' =>
        have : zct q (n + 1 + 1) = zct q (n + 1) + if q (n + 1) then 1 else 0 := rfl
        rw [this, ih']
        have : zct (fun x => q (x + 1)) (n + 1) = zct (fun x => q (x + 1)) n + if q (n + 1) then 1 else 0 := rfl
        rw [this]; omega
    rw [e] at h
    have e2 : (fun x => p (i + (x + 1))) = (fun x => p (i + 1 + x)) := by funext x; congr 1; omega
    rw [e2, Nat.add_zero] at h
    rw [zth_s]
    cases hp : p i with
    | true =>
      rw [hp] at h
      rw [if_pos rfl]
      by_cases hk : k = 0
      · rw [if_pos hk]; exact ⟨i, rfl⟩
      · rw [if_neg hk]; exact ih (by simp only [if_true] at h; omega)
    | false =>
      rw [hp] at h
      rw [if_neg (by decide)]
      exact ih (by simp only [Bool.false_eq_true, if_false] at h; omega)
theorem zct_z {p : Nat → Bool} {m : Nat} (h : zct p m = 0) : ∀ w, w < m → p w = false := by
  induction m with
  | zero => intro w hw; omega
  | succ m ih =>
    intro w hw
    have e : zct p (m + 1) = zct p m + if p m then 1 else 0 := rfl
    rw [e] at h
    rcases Nat.lt_succ_iff_lt_or_eq.mp hw with q | q
    · exact ih (by omega) w q
    · subst q
      cases hp : p w with
      | false => rfl
      | true => rw [hp, if_pos rfl] at h; omega
theorem zct_nz {p : Nat → Bool} {m k : Nat} (hk : k < zct p m) : ∃ w, zth p m 0 k = some w := by
  have : zct (fun x => p (0 + x)) m = zct p m := by
    congr 1
    funext x
    rw [Nat.zero_add]
  exact zct_pos (i := 0) (by rw [this]; exact hk)
/-- a p's word is there -/
theorem zct_p {g : Nat → Int32} {f i : Nat} (hF : zFm g f) (hi : i < znH g f) (hp : ix (g (zha f i)) = 112) : zth (zcan g f i) (znW g) 0 0 = some (ix (g (zha f i + 3))) ∧ 0 < zct (zcan g f i) (znW g) := by
  obtain ⟨n, l1, l2, l3⟩ := zHo_l (hF.2.2.1 i hi)
  have hp' := hp
  rw [l2] at hp
  subst hp
  have q := zHo_p (hF.2.2.1 i hi) l1
  have hz : ∀ w, zcan g f i w = true ↔ w = ix (g (zha f i + 3)) := by
    intro w
    have : zcan g f i w = (w == ix (g (zha f i + 3))) := by
      unfold zcan
      rw [l2]
      rfl
    rw [this, beq_iff_eq]
  obtain ⟨w, hw⟩ := zth_ex (p := zcan g f i) (m := znW g) (i := 0) (Nat.zero_le (ix (g (zha f i + 3)))) (by rw [Nat.zero_add]; exact q.2.2.2.1) ((hz _).mpr rfl)
  have hw2 := (hz w).mp (zth_in hw).2.2
  refine ⟨by rw [hw, hw2], ?_⟩
  rcases Nat.eq_zero_or_pos (zct (zcan g f i) (znW g)) with e | e
  · have := zct_z e _ q.2.2.2.1
    rw [(hz _).mpr rfl] at this
    cases this
  · exact e
