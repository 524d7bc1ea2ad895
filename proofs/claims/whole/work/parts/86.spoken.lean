theorem z_spokenM {σ ω : Mem} {l : List Nat} {p : Nat} (hs : fX12_saysDesk_ σ 383 = some ω) (h : zLn ω l) (hl : l.length ≤ 66) (hb : ∀ b, b ∈ l → b < 256) (h1 : 1 ≤ p) (h2 : p ≤ 99) {v : Int32} (hv : fJxf58ca_floatToIntBits_5c35a ω (zftm l p l.length) = some v) : fX12_spoken σ 383 (nI p) = some (v, ω) := by
  refine zW_val ?_
  unfold fX12_spoken
  refine zW_ob (z_isIn (a := 1) (c := 99) h1 h2 (by omega)) (zW_f zn01 (zW_ob hs ?_))
  refine zW_lp (fun n a => n ≤ l.length ∧ a = (nI n, zftm l p n)) l.length ?_ (by unfold FU; omega) ⟨Nat.zero_le _, rfl⟩
  rintro n a hn ⟨-, rfl⟩
  unfold sX12_spoken_21
  dsimp only
  rw [h.1]
  refine zW_if (fun q => ?_) (fun q => ?_)
  · simp (disch := omega) only [zC] at q
    have : n = l.length := by omega
    subst this
    exact zW_oR (zW_ob hv (zW_so rfl))
  simp (disch := omega) only [zC] at q
  have hc : n < l.length := by omega
  have g := zgdI hb n hc
  have ac := zftm_au (l := l) h1 h2 n (by omega)
  have tb := zf_tab (zfy l n) (zfy_y l n) p h1 h2
  have gd : ∀ k, k < 80 → inb (nI k) (ln (383 + 6)) = true := fun k hk => by simp (disch := omega) only [Nat.reduceAdd, zl_c, zI]
  have e0 : ω (383 + 6) (ix (nI n)) = nI (l.getD n 0) := by rw [zi_ix (by omega)]; exact h.2 n hc
  refine zW_gd (gd n (by omega)) (zW_ob (by rw [e0]; exact z_vowM (by omega)) ?_)
  refine zW_jn (fun y : UInt32 => y = zfy l n) ?_ ?_
  · rintro y rfl
    have plain : ¬ (l.getD n 0 ≠ 32 ∧ 0 < n ∧ l.getD n 0 = l.getD (n - 1) 0) → zW (grd (fnn (FP.fdiv (zfy l n) (FP.i2f (nI p)))) (grd (fnn (FP.fadd (zftm l p n) (FP.fdiv (zfy l n) (FP.i2f (nI p))))) (bnd (FP.fadd (zftm l p n) (FP.fdiv (zfy l n) (FP.i2f (nI p)))) (fun x7 => bnd ((nI n) + (1 : Int32)) (fun x8 => oL (x8, x7)))))) (zS (fun a' : Int32 × UInt32 => n < l.length ∧ n + 1 ≤ l.length ∧ a' = (nI (n + 1), zftm l p (n + 1))) (fun b : Int32 × Mem => b = (v, ω))) := by
      intro hno
      have st := zacu_add ac (by omega) tb.1
      refine zW_gd st.2.1 (zW_gd st.2.2 (zW_bv _ rfl (zW_bv _ rfl (zW_oL ⟨hc, by omega, ?_⟩))))
      have : zftm l p (n + 1) = Jvm.FP.Core.fadd (zftm l p n) (Jvm.FP.Core.fdiv (zfy l n) (Jvm.FP.Core.i2f (nI p))) := by
        show Jvm.FP.Core.fadd (zftm l p n) (zfb l p n) = _
        unfold zfb
        rw [if_neg hno]
      rw [this]
      simp only [zLT, zI]
    refine zW_if (fun e => ?_) (fun e => ?_)
    · simp (disch := omega) only [zLT, zC] at e
      exact plain (fun q => by omega)
    simp (disch := omega) only [zLT, zC] at e
    refine zW_gd (gd n (by omega)) (zW_if (fun e1 => ?_) (fun e1 => ?_))
    · rw [e0] at e1
      simp (disch := omega) only [zLT, zC] at e1
      exact plain (fun q => q.1 e1)
    rw [e0] at e1
    simp (disch := omega) only [zLT, zC] at e1
    have g2 := zgdI hb (n - 1) (by omega)
    have ep : ω (383 + 6) (ix (nI n - (1 : Int32))) = nI (l.getD (n - 1) 0) := by rw [zLT.2.1, zi_sub (by omega), zi_ix (by omega)]; exact h.2 _ (by omega)
    refine zW_gd (gd n (by omega)) (zW_gd (by rw [zLT.2.1, zi_sub (by omega)]; exact gd _ (by omega)) (zW_if (fun e2 => ?_) (fun e2 => ?_)))
    · rw [e0, ep] at e2
      simp (disch := omega) only [zC] at e2
      have st := zacu_add ac (by omega) tb.2.2
      refine zW_gd tb.2.1 (zW_bv _ rfl (zW_gd st.2.1 (zW_gd st.2.2 (zW_bv _ rfl (zW_bv _ rfl (zW_oL ⟨hc, by omega, ?_⟩))))))
      have : zftm l p (n + 1) = Jvm.FP.Core.fadd (zftm l p n) (Jvm.FP.Core.fdiv (Jvm.FP.Core.fmul (zfy l n) 1061158912) (Jvm.FP.Core.i2f (nI p))) := by
        show Jvm.FP.Core.fadd (zftm l p n) (zfb l p n) = _
        unfold zfb
        rw [if_pos ⟨e1, by omega, e2⟩]
      rw [this]
      simp only [zLT, zI]
    · rw [e0, ep] at e2
      simp (disch := omega) only [zC] at e2
      exact plain (fun q => e2 q.2.2)
  · intro k hk
    have z32 : zV 32 = false := rfl
    by_cases hv : zV (l.getD n 0) = true
    · rw [if_pos hv]
      refine zW_f zn01 (hk _ ?_)
      unfold zfy
      rw [if_neg (fun q => by rw [q, z32] at hv; cases hv), if_pos hv]
    · rw [if_neg hv]
      refine zW_t rfl (zW_gd (gd n (by omega)) (zW_if (fun e => ?_) (fun e => ?_)))
      · rw [e0] at e
        simp (disch := omega) only [zLT, zC] at e
        exact hk _ (by unfold zfy; rw [if_pos e])
      · rw [e0] at e
        simp (disch := omega) only [zLT, zC] at e
        exact hk _ (by unfold zfy; rw [if_neg e, if_neg hv])
theorem z_op_spoken {σ : Mem} {g : Nat → Int32} (h : zIv σ g) (p1 : Int32) : zOp σ (fun σ => fX11_spoken σ 0 p1) (fun τ => fX12_spoken τ 383 p1) := by
  have hp : (∃ p, 1 ≤ p ∧ p ≤ 99 ∧ p1 = nI p) ∨ (fX11_spoken σ 0 p1 = some (-nI 2, σ) ∧ fX12_spoken σ 383 p1 = some (-nI 2, σ)) := by
    by_cases h1 : p1 < (1 : Int32)
    · refine Or.inr ⟨by unfold fX11_spoken; rw [if_pos h1]; rfl, ?_⟩
      unfold fX12_spoken
      rw [z_isInN (Or.inl h1)]; rfl
    · by_cases h5 : p1 ≤ (99 : Int32)
      · refine Or.inl ?_
        rcases zrg p1 (n := 100) (by omega) with ⟨j, hj, rfl⟩ | q
        · simp (disch := omega) only [zLT, zC] at h1
          exact ⟨j, by omega, by omega, rfl⟩
        · exfalso
          have e1 : ((1 : Int32)).toInt = 1 := rfl
          have e5 : ((99 : Int32)).toInt = 99 := rfl
          have e6 : (nI 100).toInt = 100 := nI_toInt (by omega)
          have e0 : ((0 : Int32)).toInt = 0 := rfl
          rw [Int32.lt_iff_toInt_lt] at h1 q
          rw [Int32.le_iff_toInt_le] at q h5
          omega
      · refine Or.inr ⟨by unfold fX11_spoken; rw [if_neg h1, if_neg h5]; rfl, ?_⟩
        unfold fX12_spoken
        rw [z_isInN (Or.inr ?_)]; · rfl
        rw [Int32.lt_iff_toInt_lt]
        rw [Int32.le_iff_toInt_le] at h5
        omega
  rcases hp with ⟨p, h1, h2, rfl⟩ | ⟨a, b⟩
  rotate_left
  · exact zO_e a b h
  obtain ⟨l, r, τ, l1, l2, t1, t2, t3, t4, -⟩ := z_deskBoth h
  have fr := zFr_sy t3
  obtain ⟨ω, o1, o2, o3⟩ := t4 τ (zMG_fr h.1 fr)
  have key : ∃ v, (∀ τ : Mem, fX11_bitsOf τ (zftm l p l.length) = some v) ∧ ∀ τ : Mem, fJxf58ca_floatToIntBits_5c35a τ (zftm l p l.length) = some v := by
    rcases zftm_au (l := l) h1 h2 l.length l1 with ⟨-, b⟩ | ⟨k, c, b, -⟩
    · rw [b]
      exact ⟨nI 0, fun _ => z_bitsOf0, fun _ => z_toBits0⟩
    · exact ⟨(zftm l p l.length).toInt32, fun _ => z_bitsOf b, fun _ => z_toBits b⟩
  obtain ⟨v, v1, v2⟩ := key
  refine zO_e (r := v) (τ := τ) (υ := ω) ?_ (z_spokenM o1 o2 l1 l2 h1 h2 (v2 ω)) (zIv_fr h (zFr_trans fr (zFr_s o3)))
  refine zW_val ?_
  unfold fX11_spoken
  refine zW_f (by simp (disch := omega) only [zLT, zC]; omega) (zW_t ?_ (zW_ob t1 ?_))
  · rw [show (99 : Int32) = nI 99 from rfl]
    simp (disch := omega) only [zC]
    exact h2
  · simp only [Nat.zero_add]
    exact zW_ob (z_timeBy t2 l1 h1 h2) (zW_ob (v1 τ) (zW_so rfl))
