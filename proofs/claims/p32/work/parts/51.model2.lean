theorem zWG_eq {g : Nat → Int32} {l : List Nat} {f gr j m : Nat} (hg : zBG g) (hF : zFm g f) (hj : j < znH g f) (h1 : g (zha f j) = nI 110) (h2 : g (zha f j + 1) = nI gr) :
    zWG g l f gr m = zsm (fun w => if zcan g f j w then zsm (fun n => (if zlk g l f j ((2 * zge2 g w + n) % 2) ((2 * zge2 g w + n) / 2) m w then 1 else 0) * zR1 g l f gr j m (2 * zge2 g w + n) (znH g f)) (if zk3 g w then 1 else 2) else 0) (znW g) := by
  have hgj : zgi g f j gr = true := decide_eq_true h2
  rw [← zgroup (zcan g f j) (zge2 g) (zk3 g) (fun t w => zlk g l f j (t % 2) (t / 2) m w) (fun t => zR1 g l f gr j m t (znH g f)) (znW g) (zge2_lt hg)]
  unfold zWG
  refine zsm_cg (fun t _ => ?_)
  unfold zWg
  rw [zpr_pick hj, if_pos hgj]
  congr 1
  · unfold zWH
    congr 1
    funext w
    rw [zfit_n h1]
  · unfold zR1
    refine zpr_cg (fun i hi => ?_)
    by_cases q : i = j
    · rw [if_pos q, if_pos q]
    · rw [if_neg q, if_neg q]
      by_cases e : zgi g f i gr = true
      · rw [if_pos e, if_pos e]
        unfold zWH zA
        congr 1
        funext w
        rw [zfit_o]
        intro q110
        obtain ⟨n', l1, l2, l3⟩ := zHo_l (hF.2.2.1 i hi)
        rw [l2] at q110
        rw [q110] at l1
        exact q (hF.2.2.2.2 i j hi hj l1 h1 ((of_decide_eq_true e).trans h2.symm))
      · rw [if_neg e, if_neg e]
theorem zFG_eq {g : Nat → Int32} {l : List Nat} {f gr j m : Nat} (hg : zBG g) (hF : zFm g f) (hj : j < znH g f) (h1 : g (zha f j) = nI 110) (h2 : g (zha f j + 1) = nI gr) :
    zFG g l f gr m = zgfar (zcan g f j) (zge2 g) (zk3 g) (fun t w => zaa g l f j (t % 2) (t / 2) m w) (fun t => zR2 g l f gr j m t (znH g f)) (znW g) := by
  have hgj : zgi g f j gr = true := decide_eq_true h2
  rw [← zgroupF (zcan g f j) (zge2 g) (zk3 g) (fun t w => zaa g l f j (t % 2) (t / 2) m w) (fun t => zR2 g l f gr j m t (znH g f)) (znW g) (zge2_lt hg)]
  unfold zFG
  refine zgm_cg (fun t _ => ?_)
  unfold zFg
  rw [zsm_pick hj, if_pos hgj]
  congr 1
  · unfold zFH
    have : zfit g f j (t % 2) (t / 2) = zpt6 (zcan g f j) (zge2 g) (zk3 g) t := by
      funext w
      exact zfit_n h1
    rw [this]
  · unfold zR2
    refine zsm_cg (fun i hi => ?_)
    by_cases q : i = j
    · rw [if_pos q, if_pos q]
    · rw [if_neg q, if_neg q]
      by_cases e : zgi g f i gr = true
      · rw [if_pos e, if_pos e]
        unfold zFH zAf
        have : zfit g f i (t % 2) (t / 2) = zcan g f i := by
          funext w
          refine zfit_o ?_
          intro q110
          obtain ⟨n', l1, l2, l3⟩ := zHo_l (hF.2.2.1 i hi)
          rw [l2] at q110
          rw [q110] at l1
          exact q (hF.2.2.2.2 i j hi hj l1 h1 ((of_decide_eq_true e).trans h2.symm))
        rw [this]
      · rw [if_neg e, if_neg e]
theorem z_byGroup {σ : Mem} {g : Nat → Int32} {l : List Nat} {f gr j m : Nat} (h : zRm σ g l) (hf : f < znF g) (hN : znH g f = (zps l).length) (hj : j < znH g f) (h1 : g (zha f j) = nI 110) (h2 : g (zha f j + 1) = nI gr) (hm : m < 4) :
    ∃ τ, fX12_byGroup σ 383 (nI f) (nI gr) (nI m) (nI 0) = some (nI (zWG g l f gr m), τ) ∧ zFa σ τ := by
  have hg := h.1
  have hW : znW g ≤ 20 := hg.1.2
  have hFm := hg.2.2.2.2.1 f hf
  rw [zWG_eq hg hFm hj h1 h2]
  have key : zW (fX12_byGroup σ 383 (nI f) (nI gr) (nI m) (nI 0)) (fun r => ∃ τ, r = (nI (zsm (fun w => if zcan g f j w then zsm (fun n => (if zlk g l f j ((2 * zge2 g w + n) % 2) ((2 * zge2 g w + n) / 2) m w then 1 else 0) * zR1 g l f gr j m (2 * zge2 g w + n) (znH g f)) (if zk3 g w then 1 else 2) else 0) (znW g)), τ) ∧ zFa σ τ) := by
    unfold fX12_byGroup
    refine zW_jn (fun y => y = nI 0) ?_ (fun k hk => zW_t rfl (hk _ rfl))
    rintro y rfl
    generalize hX : (fun w => fun n => (if zlk g l f j ((2 * zge2 g w + n) % 2) ((2 * zge2 g w + n) / 2) m w then 1 else 0) * zR1 g l f gr j m (2 * zge2 g w + n) (znH g f)) = X
    have hX' : ∀ w n, X w n = (if zlk g l f j ((2 * zge2 g w + n) % 2) ((2 * zge2 g w + n) / 2) m w then 1 else 0) * zR1 g l f gr j m (2 * zge2 g w + n) (znH g f) := fun w n => by rw [← hX]
    have hXf : (fun w => if zcan g f j w then zsm (fun n => (if zlk g l f j ((2 * zge2 g w + n) % 2) ((2 * zge2 g w + n) / 2) m w then 1 else 0) * zR1 g l f gr j m (2 * zge2 g w + n) (znH g f)) (if zk3 g w then 1 else 2) else 0) = (fun w => if zcan g f j w then zsm (X w) (if zk3 g w then 1 else 2) else 0) := by rw [← hX]
    rw [hXf]
    refine zW_lp (fun w a => ∃ τ, a = (nI w, nI (zsm (fun w => if zcan g f j w then zsm (X w) (if zk3 g w then 1 else 2) else 0) w), τ) ∧ zFa σ τ) (znW g) ?_ (by unfold FU; omega) ⟨σ, rfl, zFa_r σ⟩
    rintro w a hw ⟨τ, rfl, t1⟩
    have ht := zRm_a h t1
    unfold sX12_byGroup_16
    dsimp only
    refine zW_gd (by simp (disch := omega) only [zLT, Nat.reduceAdd, zl_c, zI]) ?_
    refine zW_if (fun h0 => ?_) (fun h0 => ?_)
    · rw [z_sizeR ht] at h0
      simp (disch := omega) only [zC] at h0
      have : w = znW g := by omega
      subst this
      exact zW_oR (zW_so ⟨τ, rfl, t1⟩)
    · rw [z_sizeR ht] at h0
      simp (disch := omega) only [zC] at h0
      have hlt : w < znW g := by omega
      refine zW_ob (z_holeOf hg ht.2.1 hf hj h1 h2) ?_
      refine zW_ob (z_canBe hg ht.2.1 hf hj hlt) ?_
      cases hc : zcan g f j w with
      | false =>
        refine zW_t rfl (zW_oL ⟨hlt, τ, ?_, t1⟩)
        simp only [zLT, zI, zsm, hc, Bool.false_eq_true, if_false, Nat.add_zero]
      | true =>
        refine zW_f zn01 ?_
        obtain ⟨⟨w0, w1⟩, -⟩ := hg.2.2.1 w hlt
        refine zW_lp (fun n a => ∃ υ, a = (nI n, nI (zsm (fun w => if zcan g f j w then zsm (X w) (if zk3 g w then 1 else 2) else 0) w + zsm (X w) n), υ) ∧ zFa σ υ) (if zk3 g w then 1 else 2) ?_ (by unfold FU; split <;> omega) ⟨τ, by simp only [zsm, Nat.add_zero, zLT], t1⟩
        rintro n a hn ⟨υ, rfl, u1⟩
        have hu := zRm_a h u1
        unfold sX12_byGroup_49
        dsimp only
        refine zW_ob (z_kind hu.2.1 (by omega)) ?_
        have hn2 : (if zk3 g w = true then 1 else 2) ≤ 2 := by split <;> omega
        refine zW_jn (fun y => y = nI (if zk3 g w then 1 else 2)) ?_ ?_
        · rintro y rfl
          refine zW_if (fun q => ?_) (fun q => ?_)
          · simp (disch := omega) only [zC] at q
            have : n = (if zk3 g w then 1 else 2) := by omega
            subst this
            refine zW_oR ?_
            refine zW_bv (nI (w + 1)) (by simp only [zLT, zI]) ?_
            refine zW_oL ⟨hlt, υ, ?_, u1⟩
            simp only [zsm, hc, if_true]
          · simp (disch := omega) only [zC] at q
            have hnl : n < (if zk3 g w then 1 else 2) := by omega
            obtain ⟨ω, o1, o2⟩ := z_byNoun hu hf hN hj h1 h2 hlt (show n < 2 by omega) hm
            rw [← hX'] at o1
            refine zW_ob o1 (zW_t rfl ?_)
            refine zW_oL ⟨hnl, ω, ?_, zFa_t u1 o2⟩
            simp only [zLT, zI, zsm, Nat.add_assoc]
        · intro kk hkk
          have e3 : zk3 g w = decide (ix (g (zwa w)) = 3) := rfl
          refine zW_if (fun q => ?_) (fun q => ?_)
          · rw [w0] at q
            simp (disch := omega) only [zLT, zC] at q
            refine hkk _ ?_
            rw [e3, decide_eq_true q]
            rfl
          · rw [w0] at q
            simp (disch := omega) only [zLT, zC] at q
            refine hkk _ ?_
            rw [e3, decide_eq_false q]
            rfl
  obtain ⟨r, e, τ, rfl, q⟩ := key
  exact ⟨τ, e, q⟩
theorem zgfar_le {can : Nat → Bool} {ge : Nat → Nat} {k3 : Nat → Bool} {v : Nat → Nat → Nat} {R : Nat → Nat} (W : Nat) : zgfar can ge k3 v R W ≤ 1000000 := by
  induction W with
  | zero => exact Nat.le_refl _
  | succ W ih =>
    unfold zgfar
    split
    · split <;> simp only [zmf] <;> omega
    · exact ih
theorem z_byGroupF {σ : Mem} {g : Nat → Int32} {l : List Nat} {f gr j m : Nat} (h : zRm σ g l) (hf : f < znF g) (hN : znH g f = (zps l).length) (hj : j < znH g f) (h1 : g (zha f j) = nI 110) (h2 : g (zha f j + 1) = nI gr) (hm : m < 4) :
    ∃ τ, fX12_byGroup σ 383 (nI f) (nI gr) (nI m) (nI 1) = some (nI (zFG g l f gr m), τ) ∧ zFa σ τ := by
  have hg := h.1
  have hW : znW g ≤ 20 := hg.1.2
  have hFm := hg.2.2.2.2.1 f hf
  have h6 : znH g f ≤ 6 := hFm.1.2
  rw [zFG_eq hg hFm hj h1 h2]
  generalize hV : (fun t w => zaa g l f j (t % 2) (t / 2) m w) = V
  generalize hR : (fun t => zR2 g l f gr j m t (znH g f)) = R
  have hVR : ∀ n w, zaa g l f j ((2 * zge2 g w + n) % 2) ((2 * zge2 g w + n) / 2) m w + zR2 g l f gr j m (2 * zge2 g w + n) (znH g f) = V (2 * zge2 g w + n) w + R (2 * zge2 g w + n) := fun n w => by rw [← hV, ← hR]
  have hVb : ∀ n w, w < znW g → V (2 * zge2 g w + n) w + R (2 * zge2 g w + n) < 2 ^ 30 := by
    intro n w hw
    rw [← hVR]
    have b2 := zsm_cap (F := fun i => if i = j then 0 else if zgi g f i gr then zAf g l f m (2 * zge2 g w + n) i else 0) (n := znH g f) (c := 1000000) (fun i _ => by
      split
      · omega
      · split
        · exact zAf_le
        · omega)
    have b3 : zR2 g l f gr j m (2 * zge2 g w + n) (znH g f) ≤ 6000000 := by
      unfold zR2
      omega
    have c3 : zca (g (zha f j + 2)) < 4 := by have := (zca_h hFm hj).1; omega
    have b4 := zap_le (zfh g f j ((2 * zge2 g w + n) % 2) ((2 * zge2 g w + n) / 2) m w) (zwd l j)
    have b5 := (zform_ok (d := (2 * zge2 g w + n) / 2) hg hw c3 (show (2 * zge2 g w + n) % 2 < 2 by omega) hm).2.2
    have b6 : (zfh g f j ((2 * zge2 g w + n) % 2) ((2 * zge2 g w + n) / 2) m w).length ≤ 10 := b5
    have b7 : j < (zps l).length := by omega
    have b8 := zwd_len b7
    have b9 := zps_ok b7
    have b10 := h.2.2.2.1
    unfold zaa
    omega
  have key : zW (fX12_byGroup σ 383 (nI f) (nI gr) (nI m) (nI 1)) (fun r => ∃ τ, r = (nI (zgfar (zcan g f j) (zge2 g) (zk3 g) V R (znW g)), τ) ∧ zFa σ τ) := by
    unfold fX12_byGroup
    refine zW_jn (fun y => y = nI 1000000) ?_ (fun k hk => zW_f zn01 (hk _ rfl))
    rintro y rfl
    refine zW_lp (fun w a => ∃ τ, a = (nI w, nI (zgfar (zcan g f j) (zge2 g) (zk3 g) V R w), τ) ∧ zFa σ τ) (znW g) ?_ (by unfold FU; omega) ⟨σ, rfl, zFa_r σ⟩
    rintro w a hw ⟨τ, rfl, t1⟩
    have ht := zRm_a h t1
    have hle := zgfar_le (can := zcan g f j) (ge := zge2 g) (k3 := zk3 g) (v := V) (R := R) w
    unfold sX12_byGroup_16
    dsimp only
    refine zW_gd (by simp (disch := omega) only [zLT, Nat.reduceAdd, zl_c, zI]) ?_
    refine zW_if (fun h0 => ?_) (fun h0 => ?_)
    · rw [z_sizeR ht] at h0
      simp (disch := omega) only [zC] at h0
      have : w = znW g := by omega
      subst this
      exact zW_oR (zW_so ⟨τ, rfl, t1⟩)
    · rw [z_sizeR ht] at h0
      simp (disch := omega) only [zC] at h0
      have hlt : w < znW g := by omega
      refine zW_ob (z_holeOf hg ht.2.1 hf hj h1 h2) ?_
      refine zW_ob (z_canBe hg ht.2.1 hf hj hlt) ?_
      cases hc : zcan g f j w with
      | false =>
        refine zW_t rfl (zW_oL ⟨hlt, τ, ?_, t1⟩)
        simp only [zLT, zI, zgfar, hc, Bool.false_eq_true, if_false]
      | true =>
        refine zW_f zn01 ?_
        obtain ⟨⟨w0, w1⟩, -⟩ := hg.2.2.1 w hlt
        refine zW_lp (fun n a => ∃ υ, a = (nI n, nI (zmf (zgfar (zcan g f j) (zge2 g) (zk3 g) V R w) (fun n => V (2 * zge2 g w + n) w + R (2 * zge2 g w + n)) n), υ) ∧ zFa σ υ) (if zk3 g w then 1 else 2) ?_ (by unfold FU; split <;> omega) ⟨τ, rfl, t1⟩
        rintro n a hn ⟨υ, rfl, u1⟩
        have hu := zRm_a h u1
        have hmf : ∀ n, zmf (zgfar (zcan g f j) (zge2 g) (zk3 g) V R w) (fun n => V (2 * zge2 g w + n) w + R (2 * zge2 g w + n)) n ≤ 1000000 := by
          intro n
          induction n with
          | zero => exact hle
          | succ n ih => unfold zmf; omega
        have hmn := hmf n
        unfold sX12_byGroup_49
        dsimp only
        refine zW_ob (z_kind hu.2.1 (by omega)) ?_
        have hn2 : (if zk3 g w = true then 1 else 2) ≤ 2 := by split <;> omega
        refine zW_jn (fun y => y = nI (if zk3 g w then 1 else 2)) ?_ ?_
        · rintro y rfl
          refine zW_if (fun q => ?_) (fun q => ?_)
          · simp (disch := omega) only [zC] at q
            have : n = (if zk3 g w then 1 else 2) := by omega
            subst this
            refine zW_oR ?_
            refine zW_bv (nI (w + 1)) (by simp only [zLT, zI]) ?_
            refine zW_oL ⟨hlt, υ, ?_, u1⟩
            simp only [zgfar, hc, if_true]
          · simp (disch := omega) only [zC] at q
            have hnl : n < (if zk3 g w then 1 else 2) := by omega
            obtain ⟨ω, o1, o2⟩ := z_byNounF hu hf hN hj h1 h2 hlt (show n < 2 by omega) hm
            rw [hVR] at o1
            refine zW_ob o1 (zW_f zn01 ?_)
            have hb := hVb n w hlt
            refine zW_bv (nI (zmf (zgfar (zcan g f j) (zge2 g) (zk3 g) V R w) (fun n => V (2 * zge2 g w + n) w + R (2 * zge2 g w + n)) (n + 1))) (by simp (disch := omega) only [zI, zmf]) ?_
            exact zW_oL ⟨hnl, ω, by simp only [zLT, zI], zFa_t u1 o2⟩
        · intro kk hkk
          have e3 : zk3 g w = decide (ix (g (zwa w)) = 3) := rfl
          refine zW_if (fun q => ?_) (fun q => ?_)
          · rw [w0] at q
            simp (disch := omega) only [zLT, zC] at q
            refine hkk _ ?_
            rw [e3, decide_eq_true q]
            rfl
          · rw [w0] at q
            simp (disch := omega) only [zLT, zC] at q
            refine hkk _ ?_
            rw [e3, decide_eq_false q]
            rfl
  obtain ⟨r, e, τ, rfl, q⟩ := key
  exact ⟨τ, e, q⟩
