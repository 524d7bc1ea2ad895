set_option maxHeartbeats 1000000 in
theorem z_apart {σ : Mem} {w : Nat} {l s : List Nat} (hsp : zMP σ l) (hl : l.length ≤ 70) (hb : ∀ k, k < l.length → l.getD k 0 < 256) (hs : zR σ s) (hs10 : s.length ≤ 10) (hsb : ∀ x, x ∈ s → x < 256) (hw : w < (zps l).length) :
    ∃ τ, fX12_apart σ 383 (nI w) = some (nI (zap s (zwd l w)), τ) ∧ ∀ x c, x ≠ 392 → x ≠ 393 → τ x c = σ x c := by
  have hok := zps_ok hw
  have hwl := zwd_len hw
  have hwm := zps_len (l := l)
  obtain ⟨b1, b2⟩ := hsp.2.2 w hw
  have gs : ∀ k, k < s.length → s.getD k 0 < 256 := fun k hk => by
    have : s.getD k 0 = s[k] := by simp [List.getD_eq_getElem?_getD, List.getElem?_eq_getElem hk]
    rw [this]
    exact hsb _ (List.getElem_mem hk)
  generalize hW : (zwd l w).length = W at *
  have : zW (fX12_apart σ 383 (nI w)) (fun r => r.1 = nI (zap s (zwd l w)) ∧ ∀ x c, x ≠ 392 → x ≠ 393 → r.2 x c = σ x c) := by
    unfold fX12_apart
    refine zW_gd (by simp (disch := omega) only [Nat.reduceAdd, zl_c, zI]) ?_
    refine zW_gd (by simp (disch := omega) only [Nat.reduceAdd, zl_c, zI]) ?_
    refine zW_bv (nI W) ?_ ?_
    · simp (disch := omega) only [Nat.reduceAdd, zI, b1, b2]
      congr 1; omega
    refine zW_lp (fun n t => ∃ τ, t = (nI n, τ) ∧ n ≤ W + 1 ∧ (∀ k, k < n → τ 392 k = nI k) ∧ ∀ x c, x ≠ 392 → x ≠ 393 → τ x c = σ x c) (W + 1) ?_ (by unfold FU; omega) ⟨σ, rfl, Nat.zero_le _, fun k hk => absurd hk (by omega), fun _ _ _ _ => rfl⟩
    rintro n t hn ⟨τ, rfl, -, t1, t2⟩
    unfold sX12_apart_16
    dsimp only
    refine zW_if (fun h0 => ?_) (fun h0 => ?_)
    · simp (disch := omega) only [zC] at h0
      refine zW_oR ?_
      refine zW_lp (fun m u => ∃ υ, u = (nI (m + 1), υ) ∧ m ≤ s.length ∧ (∀ k, k ≤ W → υ 392 k = nI (zED s (zwd l w) m k)) ∧ ∀ x c, x ≠ 392 → x ≠ 393 → υ x c = σ x c) s.length ?_ (by unfold FU; omega) ⟨τ, rfl, Nat.zero_le _, fun k hk => by rw [zED_0]; exact t1 k (by omega), t2⟩
      rintro m u hm ⟨υ, rfl, -, u1, u2⟩
      have hsu : zR υ s := ⟨by rw [u2 _ _ (by omega) (by omega)]; exact hs.1, fun k hk => by rw [u2 _ _ (by omega) (by omega)]; exact hs.2 k hk⟩
      unfold sX12_apart_36
      dsimp only
      refine zW_if (fun h1 => ?_) (fun h1 => ?_)
      · rw [hsu.1] at h1
        simp (disch := omega) only [zC] at h1
        have : m = s.length := by omega
        refine zW_oR (zW_gd (by simp (disch := omega) only [Nat.reduceAdd, zl_c, zI]) ?_)
        refine zW_so ⟨?_, u2⟩
        show υ (383 + 9) (ix (nI W)) = _
        rw [zi_ix (by omega), u1 _ (Nat.le_refl _), this]
        unfold zap
        rw [hW]
      · rw [hsu.1] at h1
        simp (disch := omega) only [zC] at h1
        have hml : m < s.length := by omega
        refine zW_gd (by simp (disch := omega) only [zLT, Nat.reduceAdd, zl_c, zI]) ?_
        refine zW_bv (mw υ 393 0 (nI (m + 1))) (by simp (disch := omega) only [zLT, Nat.reduceAdd, zI]) ?_
        have gm := gs m hml
        refine zW_lp (fun j v => ∃ ω, v = (nI (j + 1), ω) ∧ j ≤ W ∧ (∀ k, k ≤ j → ω 393 k = nI (zED s (zwd l w) (m + 1) k)) ∧ (∀ k, k ≤ W → ω 392 k = nI (zED s (zwd l w) m k)) ∧ ∀ x c, x ≠ 392 → x ≠ 393 → ω x c = σ x c) W ?_ (by unfold FU; omega)
          ⟨_, rfl, Nat.zero_le _, fun k hk => (by rw [Nat.le_zero.mp hk]; simp only [zM, zED_s0]), fun k k2 => by simp (disch := omega) only [zM]; exact u1 k k2, fun x c p q => by simp (disch := omega) only [zM]; exact u2 x c p q⟩
        rintro j v hj ⟨ω, rfl, -, v1, v2, v3⟩
        unfold sX12_apart_54
        dsimp only
        refine zW_if (fun h2 => ?_) (fun h2 => ?_)
        · simp (disch := omega) only [zC] at h2
          have : j = W := by omega
          subst this
          refine zW_oR ?_
          refine zW_lp (fun q v => ∃ ω', v = (nI q, ω') ∧ q ≤ j + 1 ∧ (∀ k, k < q → ω' 392 k = nI (zED s (zwd l w) (m + 1) k)) ∧ (∀ k, k ≤ j → ω' 393 k = nI (zED s (zwd l w) (m + 1) k)) ∧ ∀ x c, x ≠ 392 → x ≠ 393 → ω' x c = σ x c) (j + 1) ?_ (by unfold FU; omega)
            ⟨ω, rfl, Nat.zero_le _, fun k hk => absurd hk (by omega), v1, v3⟩
          rintro q v hq ⟨ω', rfl, -, w1, w2, w3⟩
          unfold sX12_apart_142
          dsimp only
          refine zW_if (fun h3 => ?_) (fun h3 => ?_)
          · simp (disch := omega) only [zC] at h3
            refine zW_oR (zW_bv (nI (m + 1 + 1)) (by simp only [zLT, zI]) ?_)
            exact zW_oL ⟨hml, ω', rfl, hml, fun k hk => w1 k (by omega), w3⟩
          · simp (disch := omega) only [zC] at h3
            refine zW_gd (by simp (disch := omega) only [Nat.reduceAdd, zl_c, zI]) ?_
            refine zW_gd (by simp (disch := omega) only [Nat.reduceAdd, zl_c, zI]) ?_
            refine zW_bv (mw ω' 392 q (nI (zED s (zwd l w) (m + 1) q))) (by simp (disch := omega) only [Nat.reduceAdd, zI]; rw [w2 q (by omega)]) ?_
            refine zW_oL ⟨by omega, _, by simp only [zLT, zI]; rfl, by omega, fun k hk => ?_, fun k hk => by simp (disch := omega) only [zM]; exact w2 k hk, fun x c p r => by simp (disch := omega) only [zM]; exact w3 x c p r⟩
            by_cases e : k = q
            · subst e; simp only [zM]
            · simp (disch := omega) only [zM]
              exact w1 k (by omega)
        · simp (disch := omega) only [zC] at h2
          have hjl : j < W := by omega
          have d1 := zED_le s (zwd l w) m j
          have d2 := zED_le s (zwd l w) (m + 1) j
          have d3 := zED_le s (zwd l w) m (j + 1)
          have g2 := hb (((zps l).getD w (0, 0)).1 + j) (by omega)
          have b1' : ω (383 + 7) (ix (nI w)) = nI ((zps l).getD w (0, 0)).1 := by rw [zi_ix (by omega), v3 _ _ (by omega) (by omega)]; exact b1
          refine zW_gd (by simp (disch := omega) only [Nat.reduceAdd, zl_c, zI]) ?_
          refine zW_gd (by simp (disch := omega) only [zLT, Nat.reduceAdd, zl_c, zI]) ?_
          refine zW_gd (by simp (disch := omega) only [zLT, Nat.reduceAdd, zl_c, zI]) ?_
          refine zW_gd (by simp (disch := omega) only [zLT, Nat.reduceAdd, zl_c, zI]) ?_
          refine zW_gd (by simp (disch := omega) only [Nat.reduceAdd, zl_c, zI]) ?_
          refine zW_gd (by rw [b1']; simp (disch := omega) only [zLT, Nat.reduceAdd, zl_c, zI]) ?_
          have c1 : ω (383 + 4) (ix (nI (m + 1) - (1 : Int32))) = nI (s.getD m 0) := by
            simp (disch := omega) only [zLT, Nat.reduceAdd, zI]
            rw [show m + 1 - 1 = m by omega, v3 _ _ (by omega) (by omega)]
            exact hs.2 m hml
          have c2 : ω (383 + 6) (ix ((ω (383 + 7) (ix (nI w)) + nI (j + 1)) - (1 : Int32))) = nI ((zwd l w).getD j 0) := by
            rw [b1']
            simp (disch := omega) only [zLT, Nat.reduceAdd, zI]
            rw [show ((zps l).getD w (0, 0)).1 + (j + 1) - 1 = ((zps l).getD w (0, 0)).1 + j by omega, v3 _ _ (by omega) (by omega), zwd_get (by omega)]
            exact hsp.1.2 _ (by omega)
          rw [← zwd_get (by omega)] at g2
          refine zW_jn (fun y => y = nI (if s.getD m 0 = (zwd l w).getD j 0 then 0 else 1)) ?_ ?_
          · rintro y rfl
            have hco : (if s.getD m 0 = (zwd l w).getD j 0 then 0 else 1) ≤ 1 := by split <;> omega
            generalize hcc : (if s.getD m 0 = (zwd l w).getD j 0 then 0 else 1) = co at *
            refine zW_gd (by simp (disch := omega) only [Nat.reduceAdd, zl_c, zI]) ?_
            have e1 : ω (383 + 9) (ix (nI (j + 1))) = nI (zED s (zwd l w) m (j + 1)) := by rw [zi_ix (by omega)]; exact v2 _ (by omega)
            have e2 : ω (383 + 10) (ix (nI (j + 1) - (1 : Int32))) = nI (zED s (zwd l w) (m + 1) j) := by
              simp (disch := omega) only [zLT, Nat.reduceAdd, zI]
              rw [show j + 1 - 1 = j by omega]
              exact v1 j (Nat.le_refl _)
            have e3 : ω (383 + 9) (ix (nI (j + 1) - (1 : Int32))) = nI (zED s (zwd l w) m j) := by
              simp (disch := omega) only [zLT, Nat.reduceAdd, zI]
              rw [show j + 1 - 1 = j by omega]
              exact v2 j (by omega)
            refine zW_bv (mw ω 393 (j + 1) (nI (zED s (zwd l w) (m + 1) (j + 1)))) ?_ ?_
            · rw [e1, e2, e3]
              simp (disch := omega) only [zLT, Nat.reduceAdd, zI]
              rw [zED_ss, hcc]
            refine zW_oL ⟨hjl, _, by simp only [zLT, zI]; rfl, hjl, fun k hk => ?_, fun k k2 => ?_, fun x c p q => ?_⟩
            · by_cases q : k = j + 1
              · subst q; simp only [zM]
              · simp (disch := omega) only [zM]
                exact v1 k (by omega)
            · simp (disch := omega) only [zM]
              exact v2 k k2
            · simp (disch := omega) only [zM]
              exact v3 x c p q
          · intro kk hk
            refine zW_if (fun h3 => ?_) (fun h3 => ?_)
            · rw [c1, c2] at h3
              simp (disch := omega) only [zC] at h3
              exact hk _ (by rw [if_pos h3]; rfl)
            · rw [c1, c2] at h3
              simp (disch := omega) only [zC] at h3
              exact hk _ (by rw [if_neg h3]; rfl)
    · simp (disch := omega) only [zC] at h0
      refine zW_gd (by simp (disch := omega) only [Nat.reduceAdd, zl_c, zI]) ?_
      refine zW_bv (mw τ 392 n (nI n)) (by simp (disch := omega) only [Nat.reduceAdd, zI]) ?_
      refine zW_oL ⟨by omega, _, by simp only [zLT, zI]; rfl, by omega, fun k hk => ?_, fun x c p q => ?_⟩
      · by_cases q : k = n
        · subst q; simp only [zM]
        · simp (disch := omega) only [zM]
          exact t1 k (by omega)
      · simp (disch := omega) only [zM]
        exact t2 x c p q
  obtain ⟨⟨r1, r2⟩, e, h1, h2⟩ := this
  exact ⟨r2, by rw [e, show r1 = _ from h1], h2⟩
