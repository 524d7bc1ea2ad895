def zwd (l : List Nat) (i : Nat) : List Nat := (l.drop ((zps l).getD i (0, 0)).1).take ((zps l).getD i (0, 0)).2
theorem zwd_len {l : List Nat} {i : Nat} (h : i < (zps l).length) : (zwd l i).length = ((zps l).getD i (0, 0)).2 := by
  have := zps_ok h
  unfold zwd
  generalize (zps l).getD i (0, 0) = p at *
  simp
  omega
theorem zwd_get {l : List Nat} {i k : Nat} (hk : k < ((zps l).getD i (0, 0)).2) : (zwd l i).getD k 0 = l.getD (((zps l).getD i (0, 0)).1 + k) 0 := by
  unfold zwd
  generalize (zps l).getD i (0, 0) = p at *
  simp only [List.getD_eq_getElem?_getD, List.getElem?_take, List.getElem?_drop]
  rw [if_pos hk]
theorem zext {a b : List Nat} (h : a.length = b.length) (h2 : ∀ k, k < a.length → a.getD k 0 = b.getD k 0) : a = b := by
  apply List.ext_getElem h
  intro n h1 h3
  have := h2 n h1
  rw [List.getD_eq_getElem?_getD, List.getD_eq_getElem?_getD, List.getElem?_eq_getElem h1, List.getElem?_eq_getElem h3] at this
  exact this
theorem z_ratLen {σ : Mem} {l : List Nat} {w : Nat} (h : zSP σ l) (hw : w < (zps l).length) (h6 : w < 6) : fX6_lengthOf σ 359 (nI w) = some (nI ((zps l).getD w (0, 0)).2) ∧ fX6_startOf σ 359 (nI w) = some (nI ((zps l).getD w (0, 0)).1) := by
  obtain ⟨h1, h2⟩ := h.2 w hw h6
  unfold fX6_lengthOf fX6_startOf
  simp (disch := omega) only [zLT, z_below, zE, zn01, if_false, Nat.reduceAdd, zl_c, zI, h1, h2]
  exact ⟨trivial, trivial⟩
theorem z_isSpelledAt {σ : Mem} {i S w : Nat} {l s : List Nat} (h : zL σ i l) (hS : ln (i + 1) = S) (hl : l.length ≤ S) (hS2 : S ≤ 80) (hsp : zSP σ l) (hs : zL σ 360 s) (hs10 : s.length ≤ 10) (hw : w < (zps l).length) (h6 : w < 6) :
    fX6_isSpelledAt σ 359 i (nI w) = some (if s = zwd l w then nI 1 else nI 0) := by
  obtain ⟨e1, e2⟩ := z_ratLen hsp hw h6
  have hok := zps_ok hw
  have hwl := zwd_len hw
  refine zW_val ?_
  unfold fX6_isSpelledAt
  refine zW_ob e1 ?_
  refine zW_if (fun h0 => ?_) (fun h0 => ?_)
  · rw [show σ (359 + 1) 1 = nI s.length from hs.1] at h0
    simp (disch := omega) only [zC] at h0
    refine zW_lp (fun n t => t = nI n ∧ ∀ k, k < n → s.getD k 0 = l.getD (((zps l).getD w (0, 0)).1 + k) 0) s.length ?_ (by unfold FU; omega) ⟨rfl, fun k hk => absurd hk (by omega)⟩
    rintro n t hn ⟨rfl, t1⟩
    unfold sX6_isSpelledAt_19
    refine zW_if (fun h1 => ?_) (fun h1 => ?_)
    · rw [show σ (359 + 1) 1 = nI s.length from hs.1] at h1
      simp (disch := omega) only [zC] at h1
      refine zW_oR (zW_so ?_)
      rw [zS_inr, if_pos]
      · rfl
      · refine zext (by omega) (fun k hk => ?_)
        rw [zwd_get (by omega)]
        exact t1 k (by omega)
    · rw [show σ (359 + 1) 1 = nI s.length from hs.1] at h1
      simp (disch := omega) only [zC] at h1
      have g1 := zL_get hs (k := n) (by omega)
      have g2 := zL_get h (k := ((zps l).getD w (0, 0)).1 + n) (by omega)
      refine zW_ob (x := nI (s.getD n 0)) (by rw [z_at hs zl_c.2.2.2.2.2.2.2.2.2.2.2.2.1 hs10 (by omega) (by omega), if_pos (by omega)]) ?_
      refine zW_ob e2 ?_
      refine zW_ob (x := nI (l.getD (((zps l).getD w (0, 0)).1 + n) 0)) (by rw [nI_add, z_at h hS hl (by omega) (by omega), if_pos (by omega)]) ?_
      refine zW_if (fun h2 => ?_) (fun h2 => ?_)
      · simp (disch := omega) only [zC] at h2
        refine zW_oL ⟨by omega, by simp only [zLT, zI], fun k hk => ?_⟩
        rcases Nat.lt_succ_iff_lt_or_eq.mp hk with q | q
        · exact t1 k q
        · rw [q]; exact h2
      · simp (disch := omega) only [zC] at h2
        refine zW_oR (zW_so ?_)
        rw [zS_inr, if_neg]
        · rfl
        · intro q
          apply h2
          rw [← zwd_get (by omega), ← q]
  · rw [show σ (359 + 1) 1 = nI s.length from hs.1] at h0
    simp (disch := omega) only [zC] at h0
    refine zW_so ?_
    rw [if_neg]
    · rfl
    · intro q
      apply h0
      rw [q]; exact hwl
theorem z_isLike {σ : Mem} {w : Nat} {l s : List Nat} (hsp : zMP σ l) (hl : l.length ≤ 70) (hb : ∀ k, k < l.length → l.getD k 0 < 256) (hs : zR σ s) (hs10 : s.length ≤ 10) (hsb : ∀ x, x ∈ s → x < 256) (hw : w < (zps l).length) :
    fX12_isLike σ 383 (nI w) = some (if s = zwd l w then nI 1 else nI 0) := by
  have hok := zps_ok hw
  have hwl := zwd_len hw
  have hwm := zps_len (l := l)
  obtain ⟨b1, b2⟩ := hsp.2.2 w hw
  refine zW_val ?_
  unfold fX12_isLike
  refine zW_gd (by simp (disch := omega) only [Nat.reduceAdd, zl_c, zI]) ?_
  refine zW_gd (by simp (disch := omega) only [Nat.reduceAdd, zl_c, zI]) ?_
  have ee : σ (383 + 8) (ix (nI w)) - σ (383 + 7) (ix (nI w)) = nI ((zps l).getD w (0, 0)).2 := by
    simp (disch := omega) only [Nat.reduceAdd, zI, b1, b2]
    congr 1; omega
  have gs : ∀ k, k < s.length → s.getD k 0 < 256 := fun k hk => by
    have : s.getD k 0 = s[k] := by simp [List.getD_eq_getElem?_getD, List.getElem?_eq_getElem hk]
    rw [this]
    exact hsb _ (List.getElem_mem hk)
  refine zW_if (fun h0 => ?_) (fun h0 => ?_)
  · rw [ee, hs.1] at h0
    simp (disch := omega) only [zC] at h0
    refine zW_lp (fun n t => t = nI n ∧ ∀ k, k < n → s.getD k 0 = l.getD (((zps l).getD w (0, 0)).1 + k) 0) s.length ?_ (by unfold FU; omega) ⟨rfl, fun k hk => absurd hk (by omega)⟩
    rintro n t hn ⟨rfl, t1⟩
    unfold sX12_isLike_24
    refine zW_if (fun h1 => ?_) (fun h1 => ?_)
    · rw [hs.1] at h1
      simp (disch := omega) only [zC] at h1
      refine zW_oR (zW_so ?_)
      rw [zS_inr, if_pos]
      · rfl
      · refine zext (by omega) (fun k hk => ?_)
        rw [zwd_get (by omega)]
        exact t1 k (by omega)
    · rw [hs.1] at h1
      simp (disch := omega) only [zC] at h1
      have g1 := gs n (by omega)
      have g2 := hb (((zps l).getD w (0, 0)).1 + n) (by omega)
      have b1' : σ (383 + 7) (ix (nI w)) = nI ((zps l).getD w (0, 0)).1 := by rw [zi_ix (by omega)]; exact b1
      refine zW_gd (by simp (disch := omega) only [Nat.reduceAdd, zl_c, zI]) ?_
      refine zW_gd (by rw [b1']; simp (disch := omega) only [Nat.reduceAdd, zl_c, zI]) ?_
      refine zW_gd (by simp (disch := omega) only [Nat.reduceAdd, zl_c, zI]) ?_
      have v1 : σ (383 + 6) (ix (σ (383 + 7) (ix (nI w)) + nI n)) = nI (l.getD (((zps l).getD w (0, 0)).1 + n) 0) := by
        rw [b1', nI_add, zi_ix (by omega)]
        exact hsp.1.2 _ (by omega)
      have v2 : σ (383 + 4) (ix (nI n)) = nI (s.getD n 0) := by
        rw [zi_ix (by omega)]
        exact hs.2 n (by omega)
      refine zW_if (fun h2 => ?_) (fun h2 => ?_)
      · rw [v1, v2] at h2
        simp (disch := omega) only [zC] at h2
        refine zW_oL ⟨by omega, by simp only [zLT, zI], fun k hk => ?_⟩
        rcases Nat.lt_succ_iff_lt_or_eq.mp hk with q | q
        · exact t1 k q
        · rw [q]; exact h2.symm
      · rw [v1, v2] at h2
        simp (disch := omega) only [zC] at h2
        refine zW_oR (zW_so ?_)
        rw [zS_inr, if_neg]
        · rfl
        · intro q
          apply h2
          rw [← zwd_get (by omega), ← q]
  · rw [ee, hs.1] at h0
    simp (disch := omega) only [zC] at h0
    refine zW_so ?_
    rw [if_neg]
    · rfl
    · intro q
      apply h0
      rw [q]; exact hwl.symm
def zEDr (p : Nat → Nat) (x : Nat) (b : List Nat) (i : Nat) : Nat → Nat
  | 0 => i + 1
  | j + 1 => min (min (p (j + 1)) (zEDr p x b i j) + 1) (p j + if x = b.getD j 0 then 0 else 1)
/-- how far the first i letters of a are from the first j of b -/
def zED (a b : List Nat) : Nat → Nat → Nat
  | 0 => fun j => j
  | i + 1 => zEDr (zED a b i) (a.getD i 0) b i
theorem zED_0 (a b : List Nat) (j : Nat) : zED a b 0 j = j := rfl
theorem zED_s0 (a b : List Nat) (i : Nat) : zED a b (i + 1) 0 = i + 1 := rfl
theorem zED_i0 (a b : List Nat) (i : Nat) : zED a b i 0 = i := by cases i <;> rfl
theorem zED_ss (a b : List Nat) (i j : Nat) : zED a b (i + 1) (j + 1) = min (min (zED a b i (j + 1)) (zED a b (i + 1) j) + 1) (zED a b i j + if a.getD i 0 = b.getD j 0 then 0 else 1) := rfl
theorem zED_sym (a b : List Nat) : ∀ i j, zED a b i j = zED b a j i := by
  intro i
  induction i with
  | zero => intro j; rw [zED_0, zED_i0]
  | succ i ih =>
    intro j
    induction j with
    | zero => rfl
    | succ j jh =>
      rw [zED_ss, zED_ss, ih (j + 1), ih j, jh, Nat.min_comm (zED b a (j + 1) i)]
      congr 2
      by_cases h : a.getD i 0 = b.getD j 0
      · rw [if_pos h, if_pos h.symm]
      · rw [if_neg h, if_neg (fun q => h q.symm)]
theorem zED_le (a b : List Nat) : ∀ i j, zED a b i j ≤ i + j := by
  intro i
  induction i with
  | zero => intro j; rw [zED_0]; omega
  | succ i ih =>
    intro j
    cases j with
    | zero => rw [zED_s0]; omega
    | succ j =>
      rw [zED_ss]
      have := ih (j + 1)
      omega
def zap (s w : List Nat) : Nat := zED s w s.length w.length
set_option maxHeartbeats 1000000 in
theorem z_apartFrom {σ : Mem} {i S w : Nat} {l s : List Nat} (h : zL σ i l) (hi : i + 1 < 359) (hS : ln (i + 1) = S) (hl : l.length ≤ S) (hS2 : S ≤ 80) (hsp : zSP σ l) (hs : zL σ 360 s) (hs10 : s.length ≤ 10) (hw : w < (zps l).length) (h6 : w < 6) :
    ∃ τ, fX6_apartFrom σ 359 i (nI w) = some (nI (zap s (zwd l w)), τ) ∧ ∀ x c, x ≠ 364 → τ x c = σ x c := by
  have hok := zps_ok hw
  have hwl := zwd_len hw
  have : zW (fX6_apartFrom σ 359 i (nI w)) (fun r => r.1 = nI (zap s (zwd l w)) ∧ ∀ x c, x ≠ 364 → r.2 x c = σ x c) := by
    unfold fX6_apartFrom
    refine zW_bv (nI s.length) ?_ ?_
    · rw [show σ (359 + 1) 1 = nI s.length from hs.1]
      simp (disch := omega) only [zLT, zI]
      congr 1; omega
    refine zW_lp (fun n t => ∃ τ, t = (nI n, τ) ∧ n ≤ s.length + 1 ∧ (∀ k, k < n → τ 364 k = nI k) ∧ ∀ x c, x ≠ 364 → τ x c = σ x c) (s.length + 1) ?_ (by unfold FU; omega) ⟨σ, rfl, Nat.zero_le _, fun k hk => absurd hk (by omega), fun _ _ _ => rfl⟩
    rintro n t hn ⟨τ, rfl, -, t1, t2⟩
    unfold sX6_apartFrom_16
    dsimp only
    refine zW_if (fun h0 => ?_) (fun h0 => ?_)
    · simp (disch := omega) only [zC] at h0
      refine zW_oR ?_
      refine zW_lp (fun m u => ∃ υ, u = (nI (m + 1), υ) ∧ m ≤ (zwd l w).length ∧ (∀ k, k ≤ s.length → υ 364 k = nI (zED (zwd l w) s m k)) ∧ ∀ x c, x ≠ 364 → υ x c = σ x c) (zwd l w).length ?_ (by unfold FU; omega) ⟨τ, rfl, Nat.zero_le _, fun k hk => by rw [zED_0]; exact t1 k (by omega), t2⟩
      rintro m u hm ⟨υ, rfl, -, u1, u2⟩
      have hspu : zSP υ l := ⟨by rw [u2 _ _ (by omega)]; exact hsp.1, fun k k1 k2 => by rw [u2 _ _ (by omega), u2 _ _ (by omega)]; exact hsp.2 k k1 k2⟩
      have hLu : zL υ i l := zL_cb h (fun p q a b => u2 p q (by omega))
      have hsu : zL υ 360 s := zL_cb hs (fun p q a b => u2 p q (by omega))
      obtain ⟨e1, e2⟩ := z_ratLen hspu hw h6
      unfold sX6_apartFrom_40
      dsimp only
      refine zW_ob e1 ?_
      refine zW_if (fun h1 => ?_) (fun h1 => ?_)
      · simp (disch := omega) only [zC] at h1
        have : m = (zwd l w).length := by omega
        refine zW_oR (zW_gd (by simp (disch := omega) only [Nat.reduceAdd, zl_c, zI]) ?_)
        refine zW_so ⟨?_, u2⟩
        show υ (359 + 5) (ix (nI s.length)) = _
        rw [zi_ix (by omega), u1 _ (Nat.le_refl _), this]
        unfold zap
        rw [zED_sym]
      · simp (disch := omega) only [zC] at h1
        have hml : m < (zwd l w).length := by omega
        refine zW_ob e2 ?_
        have g2 := zL_get h (k := ((zps l).getD w (0, 0)).1 + m) (by omega)
        refine zW_ob (x := nI ((zwd l w).getD m 0)) ?_ ?_
        · have : nI ((zps l).getD w (0, 0)).1 + nI (m + 1) - 1 = nI (((zps l).getD w (0, 0)).1 + m) := by
            simp (disch := omega) only [zLT, zI]
            congr 1
          rw [this, z_at hLu hS hl (by omega) (by omega), if_pos (by omega), zwd_get (by omega)]
        rw [← zwd_get (by omega)] at g2
        generalize hch : (zwd l w).getD m 0 = ch at *
        refine zW_gd (by simp (disch := omega) only [zLT, Nat.reduceAdd, zl_c, zI]) ?_
        refine zW_bv (nI m) (by simp (disch := omega) only [zLT, Nat.reduceAdd, zI]; rw [u1 0 (by omega), zED_i0]) ?_
        refine zW_gd (by simp (disch := omega) only [zLT, Nat.reduceAdd, zl_c, zI]) ?_
        refine zW_bv (mw υ 364 0 (nI (m + 1))) (by simp (disch := omega) only [zLT, Nat.reduceAdd, zI]) ?_
        refine zW_lp (fun j v => ∃ ω, v = (nI (j + 1), nI (zED (zwd l w) s m j), ω) ∧ j ≤ s.length ∧ (∀ k, k ≤ j → ω 364 k = nI (zED (zwd l w) s (m + 1) k)) ∧ (∀ k, j < k → k ≤ s.length → ω 364 k = nI (zED (zwd l w) s m k)) ∧ ∀ x c, x ≠ 364 → ω x c = σ x c) s.length ?_ (by unfold FU; omega)
          ⟨_, by simp only [zLT, zED_i0, zI]; rfl, Nat.zero_le _, fun k hk => (by rw [Nat.le_zero.mp hk]; simp only [zM, zED_s0]), fun k k1 k2 => by simp (disch := omega) only [zM]; exact u1 k k2, fun x c p => by simp (disch := omega) only [zM]; exact u2 x c p⟩
        rintro j v hj ⟨ω, rfl, -, v1, v2, v3⟩
        have hso : zL ω 360 s := zL_cb hs (fun p q a b => v3 p q (by omega))
        unfold sX6_apartFrom_85
        dsimp only
        refine zW_if (fun h2 => ?_) (fun h2 => ?_)
        · simp (disch := omega) only [zC] at h2
          have : j = s.length := by omega
          subst this
          refine zW_oR (zW_bv (nI (m + 1 + 1)) (by simp only [zLT, zI]) ?_)
          refine zW_oL ⟨hml, ω, rfl, hml, v1, v3⟩
        · simp (disch := omega) only [zC] at h2
          have hjl : j < s.length := by omega
          have g1 := zL_get hs hjl
          refine zW_ob (x := nI (s.getD j 0)) ?_ ?_
          · have : nI (j + 1) - 1 = nI j := by simp (disch := omega) only [zLT, zI]; congr 1
            rw [this, z_at hso zl_c.2.2.2.2.2.2.2.2.2.2.2.2.1 hs10 (by omega) (by omega), if_pos hjl]
          have d1 := zED_le (zwd l w) s m j
          have d2 := zED_le (zwd l w) s (m + 1) j
          have d3 := zED_le (zwd l w) s m (j + 1)
          refine zW_jn (fun y => y = nI (if ch = s.getD j 0 then 0 else 1)) ?_ ?_
          · rintro y rfl
            have hco : (if ch = s.getD j 0 then 0 else 1) ≤ 1 := by split <;> omega
            generalize hcc : (if ch = s.getD j 0 then 0 else 1) = co at *
            refine zW_bv (nI (zED (zwd l w) s m j + co)) (by simp only [zI]) ?_
            have k1 : inb (nI (j + 1)) (ln (359 + 5)) = true := by simp (disch := omega) only [Nat.reduceAdd, zl_c, zI]
            have k2 : inb (nI (j + 1) - (1 : Int32)) (ln (359 + 5)) = true := by simp (disch := omega) only [zLT, Nat.reduceAdd, zl_c, zI]
            refine zW_gd k1 ?_
            refine zW_bv (nI (zED (zwd l w) s m (j + 1))) (by simp (disch := omega) only [Nat.reduceAdd, zI]; exact v2 _ (by omega) (by omega)) ?_
            refine zW_gd k2 (zW_gd k1 (zW_gd k1 ?_))
            have e3 : ω (359 + 5) (ix (nI (j + 1) - (1 : Int32))) = nI (zED (zwd l w) s (m + 1) j) := by
              simp (disch := omega) only [zLT, Nat.reduceAdd, zI]
              rw [show j + 1 - 1 = j by omega]
              exact v1 j (Nat.le_refl _)
            have e4 : ω (359 + 5) (ix (nI (j + 1))) = nI (zED (zwd l w) s m (j + 1)) := by rw [zi_ix (by omega)]; exact v2 _ (by omega) (by omega)
            refine zW_bv (mw ω 364 (j + 1) (nI (zED (zwd l w) s (m + 1) (j + 1)))) ?_ ?_
            · rw [e3, e4]
              simp (disch := omega) only [zLT, Nat.reduceAdd, zI]
              rw [zED_ss, hch, hcc]
              congr 2
              omega
            refine zW_oL ⟨hjl, _, by simp only [zLT, zI]; rfl, hjl, fun k hk => ?_, fun k k1 k2 => ?_, fun x c p => ?_⟩
            · by_cases q : k = j + 1
              · subst q; simp only [zM]
              · simp (disch := omega) only [zM]
                exact v1 k (by omega)
            · simp (disch := omega) only [zM]
              exact v2 k (by omega) k2
            · simp (disch := omega) only [zM]
              exact v3 x c p
          · intro kk hk
            refine zW_if (fun h3 => ?_) (fun h3 => ?_)
            · simp (disch := omega) only [zC] at h3
              exact hk _ (by rw [if_pos h3.symm]; rfl)
            · simp (disch := omega) only [zC] at h3
              exact hk _ (by rw [if_neg (fun q => h3 q.symm)]; rfl)
    · simp (disch := omega) only [zC] at h0
      refine zW_gd (by simp (disch := omega) only [Nat.reduceAdd, zl_c, zI]) ?_
      refine zW_bv (mw τ 364 n (nI n)) (by simp (disch := omega) only [Nat.reduceAdd, zI]) ?_
      refine zW_oL ⟨by omega, _, by simp only [zLT, zI]; rfl, by omega, fun k hk => ?_, fun x c p => ?_⟩
      · by_cases q : k = n
        · subst q; simp only [zM]
        · simp (disch := omega) only [zM]
          exact t1 k (by omega)
      · simp (disch := omega) only [zM]
        exact t2 x c p
  obtain ⟨⟨r1, r2⟩, e, h1, h2⟩ := this
  exact ⟨r2, by rw [e, show r1 = _ from h1], h2⟩
