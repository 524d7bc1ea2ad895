theorem z_bitsOf {σ : Mem} {x : UInt32} {k c : Nat} (h : zFl x k c) : fX11_bitsOf σ x = some x.toInt32 := by
  refine zW_val ?_
  unfold fX11_bitsOf
  refine zW_t (zf_pos h) ?_
  have h4 := h.2.2.2
  refine zW_lp (fun j a => j ≤ k ∧ ∃ y, a = (nI j, nI (150 - j), y) ∧ zFl y (k - j) c) k ?_ (by unfold FU; omega) ⟨Nat.zero_le _, x, rfl, h⟩
  rintro j a hj ⟨-, y, rfl, hy⟩
  unfold sX11_bitsOf_16
  dsimp only
  refine zW_f (by simp (disch := omega) only [zLT, zC]; omega) (zW_if (fun q => ?_) (fun q => ?_))
  · have hjk : j = k := by
      apply Classical.byContradiction
      intro hne
      exact (zf_cmp hy).1 (by omega) (by omega) q
    subst hjk
    rw [Nat.sub_self] at hy
    refine zW_oR (zW_so ?_)
    show _ = x.toInt32
    rw [show FP.f2i y = nI c from zf_f2i hy]
    exact zf_bits h rfl
  · have hjk : j < k := by
      apply Classical.byContradiction
      intro hne
      exact q ((zf_cmp hy).2 (by omega))
    have d := zf_dbl hy (by omega)
    refine zW_gd (zf_fnn d) (zW_bv _ rfl (zW_bv (nI (150 - (j + 1))) ?_ (zW_bv _ rfl (zW_oL ⟨hjk, by omega, Jvm.FP.Core.fmul y Jvm.FP.Core.fconst2, by simp only [zLT, zI]; rfl, ?_⟩))))
    · show nI (150 - j) + -nI 1 = _
      rw [zi_subn (by omega)]
      congr 1
    · rw [show k - (j + 1) = k - j - 1 by omega]
      exact d
theorem z_bitsOf0 {σ : Mem} : fX11_bitsOf σ Jvm.FP.Core.fconst0 = some (nI 0) := by
  unfold fX11_bitsOf
  rw [if_neg (by decide +kernel)]
  rfl
theorem z_toBits {σ : Mem} {x : UInt32} {k c : Nat} (h : zFl x k c) : fJxf58ca_floatToIntBits_5c35a σ x = some x.toInt32 := by
  have e : Op.cmpValue (Jvm.FP.Core.fcmp x x) .l = 0 := by
    have : Jvm.FP.Core.fcmp x x = some .eq := by
      unfold Jvm.FP.Core.fcmp Jvm.FP.Core.cmp
      rw [zf_dec h]
      unfold Jvm.FP.Core.order
      dsimp only
      congr 1
      rw [Int.compare_eq_eq]
    rw [this]
    rfl
  unfold fJxf58ca_floatToIntBits_5c35a fJxf58ca_isNaN_12338
  rw [if_pos e]
  rfl
theorem z_toBits0 {σ : Mem} : fJxf58ca_floatToIntBits_5c35a σ Jvm.FP.Core.fconst0 = some (nI 0) := by
  unfold fJxf58ca_floatToIntBits_5c35a fJxf58ca_isNaN_12338
  rw [if_pos (by decide +kernel)]
  rfl
def zbk (x : UInt32) : Bool := decide (121 ≤ x.toNat / 8388608 ∧ x.toNat / 8388608 ≤ 150) && (decide (zVl (150 - x.toNat / 8388608) (8388608 + x.toNat % 8388608) ≤ 4831838208) && decide (Jvm.FP.Core.fadd Jvm.FP.Core.fconst0 x = x))
/-- one share of the time -/
def zgo (x : UInt32) : Prop := ∃ k c, zFl x k c ∧ zVl k c ≤ 4831838208 ∧ Jvm.FP.Core.fadd Jvm.FP.Core.fconst0 x = x
theorem zbk_go {x : UInt32} (h : zbk x = true) : zgo x := by
  unfold zbk at h
  simp only [Bool.and_eq_true, decide_eq_true_eq] at h
  obtain ⟨⟨h1, h2⟩, h3, h4⟩ := h
  exact ⟨150 - x.toNat / 8388608, 8388608 + x.toNat % 8388608, ⟨by omega, by omega, by omega, by omega⟩, h3, h4⟩
def zyl (y : UInt32) : Prop := y = 1091567616 ∨ y = 1082130432 ∨ y = 1088421888
theorem zf_tab : ∀ y, zyl y → ∀ p, 1 ≤ p → p ≤ 99 → zgo (Jvm.FP.Core.fdiv y (Jvm.FP.Core.i2f (nI p))) ∧ fnn (Jvm.FP.Core.fmul y 1061158912) = true ∧ zgo (Jvm.FP.Core.fdiv (Jvm.FP.Core.fmul y 1061158912) (Jvm.FP.Core.i2f (nI p))) := by
  have k : ∀ y : UInt32, zyl y → ∀ p : Fin 99, (zbk (Jvm.FP.Core.fdiv y (Jvm.FP.Core.i2f (nI (p.1 + 1)))) && (fnn (Jvm.FP.Core.fmul y 1061158912) && zbk (Jvm.FP.Core.fdiv (Jvm.FP.Core.fmul y 1061158912) (Jvm.FP.Core.i2f (nI (p.1 + 1)))))) = true := by
    rintro y (rfl | rfl | rfl)
    · decide +kernel
    · decide +kernel
    · decide +kernel
  intro y hy p h1 h2
  have := k y hy ⟨p - 1, by omega⟩
  dsimp only at this
  rw [show p - 1 + 1 = p by omega] at this
  simp only [Bool.and_eq_true] at this
  exact ⟨zbk_go this.1, this.2.1, zbk_go this.2.2⟩
def zacu (n : Nat) (t : UInt32) : Prop := (n = 0 ∧ t = Jvm.FP.Core.fconst0) ∨ ∃ k c, zFl t k c ∧ zVl k c ≤ n * 4831969280
theorem zacu_add {n : Nat} {t b : UInt32} (h : zacu n t) (hn : n ≤ 66) (hb : zgo b) : zacu (n + 1) (Jvm.FP.Core.fadd t b) ∧ fnn b = true ∧ fnn (Jvm.FP.Core.fadd t b) = true := by
  obtain ⟨l, d, b1, b2, b3⟩ := hb
  rcases h with ⟨rfl, rfl⟩ | ⟨k, c, t1, t2⟩
  · rw [b3]
    exact ⟨Or.inr ⟨l, d, b1, by omega⟩, zf_fnn b1, zf_fnn b1⟩
  · obtain ⟨k', c', q1, q2⟩ := zf_add t1 b1 (by omega)
    exact ⟨Or.inr ⟨k', c', q1, by omega⟩, zf_fnn b1, zf_fnn q1⟩
def zfy (l : List Nat) (n : Nat) : UInt32 := if l.getD n 0 = 32 then 1091567616 else if zV (l.getD n 0) then 1088421888 else 1082130432
theorem zfy_y (l : List Nat) (n : Nat) : zyl (zfy l n) := by
  unfold zfy zyl
  split
  · exact Or.inl rfl
  · split
    · exact Or.inr (Or.inr rfl)
    · exact Or.inr (Or.inl rfl)
def zfb (l : List Nat) (p n : Nat) : UInt32 := if l.getD n 0 ≠ 32 ∧ 0 < n ∧ l.getD n 0 = l.getD (n - 1) 0 then Jvm.FP.Core.fdiv (Jvm.FP.Core.fmul (zfy l n) 1061158912) (Jvm.FP.Core.i2f (nI p)) else Jvm.FP.Core.fdiv (zfy l n) (Jvm.FP.Core.i2f (nI p))
def zftm (l : List Nat) (p : Nat) : Nat → UInt32
  | 0 => Jvm.FP.Core.fconst0
  | n + 1 => Jvm.FP.Core.fadd (zftm l p n) (zfb l p n)
theorem zfb_go {l : List Nat} {p n : Nat} (h1 : 1 ≤ p) (h2 : p ≤ 99) : zgo (zfb l p n) := by
  have t := zf_tab (zfy l n) (zfy_y l n) p h1 h2
  unfold zfb
  split
  · exact t.2.2
  · exact t.1
theorem zftm_au {l : List Nat} {p : Nat} (h1 : 1 ≤ p) (h2 : p ≤ 99) : ∀ n, n ≤ 66 → zacu n (zftm l p n) := by
  intro n
  induction n with
  | zero => intro _; exact Or.inl ⟨rfl, rfl⟩
  | succ n ih => intro hn; exact (zacu_add (ih (by omega)) (by omega) (zfb_go h1 h2)).1
theorem z_timeBy {σ : Mem} {l : List Nat} {p : Nat} (h : zL σ 353 l) (hl : l.length ≤ 66) (h1 : 1 ≤ p) (h2 : p ≤ 99) : fX8_timeBy σ 350 (nI p) = some (zftm l p l.length) := by
  refine zW_val ?_
  unfold fX8_timeBy
  have at' : ∀ k, k < l.length → fX5_at σ (350 + 3) (nI k) = some (nI (l.getD k 0)) := fun k hk => by rw [z_at (i := 350 + 3) h zl_354 hl (by omega) (by omega), if_pos hk]
  refine zW_lp (fun n a => n ≤ l.length ∧ a = (nI n, zftm l p n)) l.length ?_ (by unfold FU; omega) ⟨Nat.zero_le _, rfl⟩
  rintro n a hn ⟨-, rfl⟩
  unfold sX8_timeBy_4
  dsimp only
  rw [show σ (350 + 3) 1 = nI l.length from h.1]
  refine zW_if (fun q => ?_) (fun q => ?_)
  · simp (disch := omega) only [zC] at q
    have : n = l.length := by omega
    subst this
    exact zW_oR (zW_so rfl)
  simp (disch := omega) only [zC] at q
  have hc : n < l.length := by omega
  have g := zL_get h hc
  have ac := zftm_au (l := l) h1 h2 n (by omega)
  have tb := zf_tab (zfy l n) (zfy_y l n) p h1 h2
  refine zW_ob (at' n hc) ?_
  refine zW_jn (fun y : UInt32 => y = zfy l n) ?_ ?_
  · rintro y rfl
    have plain : ¬ (l.getD n 0 ≠ 32 ∧ 0 < n ∧ l.getD n 0 = l.getD (n - 1) 0) → zW (grd (fnn (FP.fdiv (zfy l n) (FP.i2f (nI p)))) (grd (fnn (FP.fadd (zftm l p n) (FP.fdiv (zfy l n) (FP.i2f (nI p))))) (bnd (FP.fadd (zftm l p n) (FP.fdiv (zfy l n) (FP.i2f (nI p)))) (fun x7 => bnd ((nI n) + (1 : Int32)) (fun x8 => oL (x8, x7)))))) (zS (fun a' : Int32 × UInt32 => n < l.length ∧ n + 1 ≤ l.length ∧ a' = (nI (n + 1), zftm l p (n + 1))) (fun b : UInt32 => b = zftm l p l.length)) := by
      intro hno
      have st := zacu_add ac (by omega) tb.1
      refine zW_gd st.2.1 (zW_gd st.2.2 (zW_bv _ rfl (zW_bv _ rfl (zW_oL ⟨hc, by omega, ?_⟩))))
      have : zftm l p (n + 1) = Jvm.FP.Core.fadd (zftm l p n) (Jvm.FP.Core.fdiv (zfy l n) (Jvm.FP.Core.i2f (nI p))) := by
        show Jvm.FP.Core.fadd (zftm l p n) (zfb l p n) = _
        unfold zfb
        rw [if_neg hno]
      rw [this]
      simp only [zLT, zI]
    refine zW_if (fun e => ?_) (fun e => ?_)
    · simp (disch := omega) only [zLT, zC] at e
      exact plain (fun q => q.1 e)
    · simp (disch := omega) only [zLT, zC] at e
      by_cases h0 : n = 0
      · subst h0
        refine zW_ob (z_at_neg (by decide +kernel)) (zW_f ?_ (plain (fun q => by omega)))
        simp (disch := omega) only [zC]
        exact id
      · have g2 := zL_get h (k := n - 1) (by omega)
        refine zW_ob (x := nI (l.getD (n - 1) 0)) (by rw [zLT.2.1, zi_sub (by omega)]; exact at' _ (by omega)) (zW_if (fun e2 => ?_) (fun e2 => ?_))
        · simp (disch := omega) only [zC] at e2
          have st := zacu_add ac (by omega) tb.2.2
          refine zW_gd tb.2.1 (zW_bv _ rfl (zW_gd st.2.1 (zW_gd st.2.2 (zW_bv _ rfl (zW_bv _ rfl (zW_oL ⟨hc, by omega, ?_⟩))))))
          have : zftm l p (n + 1) = Jvm.FP.Core.fadd (zftm l p n) (Jvm.FP.Core.fdiv (Jvm.FP.Core.fmul (zfy l n) 1061158912) (Jvm.FP.Core.i2f (nI p))) := by
            show Jvm.FP.Core.fadd (zftm l p n) (zfb l p n) = _
            unfold zfb
            rw [if_pos ⟨e, by omega, e2⟩]
          rw [this]
          simp only [zLT, zI]
        · simp (disch := omega) only [zC] at e2
          exact plain (fun q => e2 q.2.2)
  · intro k hk
    refine zW_if (fun e => ?_) (fun e => ?_)
    · simp (disch := omega) only [zLT, zC] at e
      exact hk _ (by unfold zfy; rw [if_pos e])
    · simp (disch := omega) only [zLT, zC] at e
      refine zW_ob (z_vow (by omega)) ?_
      by_cases hv : zV (l.getD n 0) = true
      · rw [if_pos hv]
        exact zW_f zn01 (hk _ (by unfold zfy; rw [if_neg e, if_pos hv]))
      · rw [if_neg hv]
        exact zW_t rfl (hk _ (by unfold zfy; rw [if_neg e, if_neg hv]))
