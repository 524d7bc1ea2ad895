theorem z_run {σ : Mem} {i n a b : Nat} (h : σ i 1 = nI n) (hn : n ≤ 40) (hab : a + b ≤ n) : fX7_hasRun σ i (nI a) (nI b) = some (nI 1) := by
  unfold fX7_hasRun
  simp (disch := omega) only [zLT, zC, zI, h, if_neg]
theorem z_runN {σ : Mem} {i n : Nat} {x y : Int32} (h : σ i 1 = nI n) (hn : n ≤ 40) (hx : ¬ ∃ a b, a + b ≤ n ∧ x = nI a ∧ y = nI b) : fX7_hasRun σ i x y = some (nI 0) := by
  unfold fX7_hasRun
  refine zW_val ?_
  refine zW_if (fun _ => zW_so rfl) (fun q1 => ?_)
  refine zW_if (fun _ => zW_so rfl) (fun q2 => ?_)
  refine zW_if (fun _ => zW_so rfl) (fun q3 => ?_)
  rw [h] at q3
  obtain ⟨a, ha, rfl⟩ := nI_of q1
  obtain ⟨b, hb, rfl⟩ := nI_of q2
  simp (disch := omega) only [zC] at q3
  refine zW_if (fun _ => zW_so rfl) (fun q4 => ?_)
  rw [h] at q4
  simp (disch := omega) only [zC, zI] at q4
  exact absurd ⟨a, b, by omega, rfl, rfl⟩ hx
theorem z_op_put {σ : Mem} {g : Nat → Int32} (h : zIv σ g) (p1 p2 p3 : Int32) : zOp σ (fun σ => fX11_put σ 0 p1 p2 p3) (fun τ => fX12_put τ 383 p1 p2 p3) := by
  rcases zrg p1 (n := 4) (by omega) with ⟨t, ht, rfl⟩ | h1
  rotate_left
  · refine zO_e (r := -nI 2) (τ := σ) (υ := σ) ?_ ?_ h
    · unfold fX11_put
      rw [z_sheetAtN h1]; rfl
    · unfold fX12_put
      rw [z_isSheetN h1]; rfl
  have xa : ∀ Q, zW (obd (fX7_isMissing σ (367 + 2 * t)) (fun q4 => if q4 = 0 then (obd (fX7_hasRun σ (367 + 2 * t) p2 (1 : Int32)) (fun q7 => if q7 = 0 then (some ((-12 : Int32), σ)) else (obd (fX7_set σ (367 + 2 * t) p2 p3) (fun q10 => some ((1 : Int32), q10))))) else (some ((-11 : Int32), σ)))) Q → zW (fX11_put σ 0 (nI t) p2 p3) Q := by
    intro Q hQ
    unfold fX11_put
    rw [z_sheetAt ht]
    exact hQ
  obtain ⟨n, hn, a1, a2, a3, a4⟩ := zSH_c h ht
  refine zO_op ?_
  show zW (fX11_put σ 0 (nI t) p2 p3) _
  refine xa _ ?_
  rcases a4 with ⟨b1, b2⟩ | ⟨so, hso, b1, b2⟩
  · refine zW_ob (z_missS b1) ?_
    rw [if_pos rfl]
    refine zW_f zn01 (zW_so ?_)
    dsimp only
    unfold fX12_put
    refine zW_ob (z_isSheet ht) (zW_f zn01 ?_)
    refine zW_gd (by simp (disch := omega) only [Nat.reduceAdd, zl_c, zI]) ?_
    exact zW_f (by simp (disch := omega) only [Nat.reduceAdd, zI, b2]; decide +kernel) (zW_so ⟨rfl, g, h⟩)
  · have nm : ¬ (nI so : Int32) = -nI 1 := by simp (disch := omega) only [zC]; exact fun h => h
    refine zW_ob (z_missS b1) ?_
    rw [if_neg nm]
    refine zW_t rfl ?_
    rcases zrg p2 (n := n) (by omega) with ⟨k, hk, rfl⟩ | h2
    · refine zW_ob (z_run (b := 1) a1 hn (by omega)) (zW_f zn01 ?_)
      generalize hv : (if so = 0 then ((p3).toInt16.toInt32) else p3) = v
      refine zW_ob (x := mw σ (368 + 2 * t) k v) ?_ (zW_so ?_)
      · refine zW_val ?_
        unfold fX7_set
        refine zW_ob (z_run (b := 1) a1 hn (by omega)) (zW_f zn01 ?_)
        refine zW_jn (fun y => y = v) ?_ ?_
        · rintro y rfl
          refine zW_gd (by simp (disch := omega) only [zl_t, zI]) ?_
          refine zW_so ?_
          simp (disch := omega) only [zI]
          rw [show 367 + 2 * t + 1 = 368 + 2 * t by omega]
        · intro kk hkk
          refine zW_if (fun q => ?_) (fun q => ?_)
          · rw [b1] at q
            simp (disch := omega) only [zLT, zC] at q
            rw [if_pos q] at hv
            exact hkk _ hv
          · rw [b1] at q
            simp (disch := omega) only [zLT, zC] at q
            rw [if_neg q] at hv
            exact hkk _ hv
      · dsimp only
        unfold fX12_put
        have c1 : (mw σ (368 + 2 * t) k v) 398 t = nI so := by simp (disch := omega) only [zM]; exact b2
        have c2 : (mw σ (368 + 2 * t) k v) 399 t = nI n := by simp (disch := omega) only [zM]; exact a2
        refine zW_ob (z_isSheet ht) (zW_f zn01 ?_)
        refine zW_gd (by simp (disch := omega) only [Nat.reduceAdd, zl_c, zI]) ?_
        refine zW_t (by simp (disch := omega) only [Nat.reduceAdd, zI, c1]; exact nI_pos' (by omega)) ?_
        refine zW_gd (by simp (disch := omega) only [Nat.reduceAdd, zl_c, zI]) ?_
        refine zW_ob (x := nI 1) (by simp (disch := omega) only [zLT, Nat.reduceAdd, zI, c2]; exact z_isIn (by omega) (by omega) (by omega)) (zW_f zn01 ?_)
        refine zW_gd (by simp (disch := omega) only [Nat.reduceAdd, zl_c, zI]) ?_
        refine zW_jn (fun y => y = v) ?_ ?_
        · rintro y rfl
          refine zW_gd (by simp (disch := omega) only [zLT, Nat.reduceAdd, zl_c, zI]) ?_
          refine zW_so ⟨rfl, g, ?_⟩
          simp (disch := omega) only [zLT, Nat.reduceAdd, zI]
          refine zIv_sh h (fun x c p q r => by simp (disch := omega) only [zM]) (fun s hs => ?_)
          have hT := h.2.2.2.2.2.2.2 s hs
          simp (disch := omega) only [zM]
          refine ⟨hT.1, hT.2.1, hT.2.2.1, hT.2.2.2.1, fun j hj => ?_⟩
          have hb := hT.2.2.2.1.2
          by_cases e : s = t ∧ j = k
          · obtain ⟨e1, e2⟩ := e
            subst e1 e2
            simp (disch := omega) only [zM]
          · simp (disch := omega) only [zM]
            exact hT.2.2.2.2 j hj
        · intro kk hkk
          refine zW_if (fun q => ?_) (fun q => ?_)
          · simp (disch := omega) only [zLT, Nat.reduceAdd, zI, c1, zC] at q
            rw [if_pos q] at hv
            exact hkk _ hv
          · simp (disch := omega) only [zLT, Nat.reduceAdd, zI, c1, zC] at q
            rw [if_neg q] at hv
            exact hkk _ hv
    · refine zW_ob (z_runN a1 hn ?_) (zW_t rfl (zW_so ?_))
      · rintro ⟨a, b, e1, e2, e3⟩
        have eb : b = 1 := by
          have : (nI 1 : Int32) = nI b := e3
          simp (disch := omega) only [zC] at this
          omega
        rcases h2 with q | q
        · rw [e2] at q; exact nI_pos (by omega) q
        · rw [e2] at q; simp (disch := omega) only [zC] at q; omega
      · dsimp only
        unfold fX12_put
        refine zW_ob (z_isSheet ht) (zW_f zn01 ?_)
        refine zW_gd (by simp (disch := omega) only [Nat.reduceAdd, zl_c, zI]) ?_
        refine zW_t (by simp (disch := omega) only [Nat.reduceAdd, zI, b2]; exact nI_pos' (by omega)) ?_
        refine zW_gd (by simp (disch := omega) only [Nat.reduceAdd, zl_c, zI]) ?_
        refine zW_ob (x := nI 0) ?_ (zW_t rfl (zW_so ⟨rfl, g, h⟩))
        have e : σ (383 + 16) (ix (nI t)) - 1 = nI n - nI 1 := by
          rw [zi_ix (by omega), show (383 + 16 : Nat) = 399 by omega, a2]
          rfl
        rw [e]
        exact z_isInN (z_pred (by omega) h2)
set_option maxHeartbeats 1000000 in
theorem z_op_copy {σ : Mem} {g : Nat → Int32} (h : zIv σ g) (p1 p2 p3 p4 p5 : Int32) : zOp σ (fun σ => fX11_copy σ 0 p1 p2 p3 p4 p5) (fun τ => fX12_copy τ 383 p1 p2 p3 p4 p5) := by
  rcases zrg p1 (n := 4) (by omega) with ⟨t, ht, rfl⟩ | h1
  rotate_left
  · refine zO_e (r := -nI 2) (τ := σ) (υ := σ) ?_ ?_ h
    · unfold fX11_copy
      rw [z_sheetAtN h1]
      rcases zrg p3 (n := 4) (by omega) with ⟨w, hw, rfl⟩ | h3
      · simp only [zE]; rw [z_sheetAt hw]; rfl
      · simp only [zE]; rw [z_sheetAtN h3]; rfl
    · unfold fX12_copy
      rw [z_isSheetN h1]; rfl
  rcases zrg p3 (n := 4) (by omega) with ⟨o, ho, rfl⟩ | h2
  rotate_left
  · refine zO_e (r := -nI 2) (τ := σ) (υ := σ) ?_ ?_ h
    · unfold fX11_copy
      rw [z_sheetAt ht]
      simp only [zE_obd, zE_ocss]
      rw [z_sheetAtN h2]; rfl
    · unfold fX12_copy
      rw [z_isSheet ht]
      simp only [zE_obd, zn01, zLT, if_false]
      rw [z_isSheetN h2]; rfl
  obtain ⟨n, hn, a1, a2, a3, a4⟩ := zSH_c h ht
  obtain ⟨m, hm, b1, b2, b3, b4⟩ := zSH_c h ho
  refine zO_op ?_
  show zW (fX11_copy σ 0 (nI t) p2 (nI o) p4 p5) _
  unfold fX11_copy
  refine zW_ob (z_sheetAt ht) ?_
  rw [zE_ocss]
  refine zW_ob (z_sheetAt ho) ?_
  rw [zE_ocss]
  have mm : ∀ (τ : Mem) Q, zW (grd (inb (nI t) (ln (383 + 15))) (if (τ (383 + 15) (ix (nI t))) < 0 then (some ((-11 : Int32), τ)) else (grd (inb (nI o) (ln (383 + 15))) (if 0 ≤ (τ (383 + 15) (ix (nI o))) then (grd (inb (nI t) (ln (383 + 15))) (grd (inb (nI o) (ln (383 + 15))) (if (τ (383 + 15) (ix (nI t))) = (τ (383 + 15) (ix (nI o))) then (if p5 < 0 then (some ((-12 : Int32), τ)) else (if p2 < 0 then (some ((-12 : Int32), τ)) else (if p4 < 0 then (some ((-12 : Int32), τ)) else (grd (inb (nI t) (ln (383 + 16))) (if ((τ (383 + 16) (ix (nI t))) - p5) < p2 then (some ((-12 : Int32), τ)) else (grd (inb (nI o) (ln (383 + 16))) (if p4 ≤ ((τ (383 + 16) (ix (nI o))) - p5) then (lp (sX12_copy_103 383 (nI t) p2 (nI o) p4 p5) FU ((0 : Int32), τ)) else (some ((-12 : Int32), τ))))))))) else (some ((-13 : Int32), τ))))) else (some ((-11 : Int32), τ)))))) Q → zW (fX12_copy τ 383 (nI t) p2 (nI o) p4 p5) Q := by
    intro τ Q hQ
    unfold fX12_copy
    exact zW_ob (z_isSheet ht) (zW_f zn01 (zW_ob (z_isSheet ho) (zW_f zn01 hQ)))
  have hneg : ¬ (nI 0 : Int32) ≤ -nI 1 := by decide +kernel
  have hneg2 : (-nI 1 : Int32) < 0 := by decide +kernel
  have gd1 : inb (nI t) (ln (383 + 15)) = true := by simp (disch := omega) only [Nat.reduceAdd, zl_c, zI]
  have gd2 : inb (nI o) (ln (383 + 15)) = true := by simp (disch := omega) only [Nat.reduceAdd, zl_c, zI]
  have gd3 : inb (nI t) (ln (383 + 16)) = true := by simp (disch := omega) only [Nat.reduceAdd, zl_c, zI]
  have gd4 : inb (nI o) (ln (383 + 16)) = true := by simp (disch := omega) only [Nat.reduceAdd, zl_c, zI]
  have r1 : ∀ (τ : Mem), τ (383 + 15) (ix (nI t)) = τ 398 t := fun τ => by rw [zi_ix (by omega)]
  have r2 : ∀ (τ : Mem), τ (383 + 15) (ix (nI o)) = τ 398 o := fun τ => by rw [zi_ix (by omega)]
  have r3 : ∀ (τ : Mem), τ (383 + 16) (ix (nI t)) = τ 399 t := fun τ => by rw [zi_ix (by omega)]
  have r4 : ∀ (τ : Mem), τ (383 + 16) (ix (nI o)) = τ 399 o := fun τ => by rw [zi_ix (by omega)]
  rcases a4 with ⟨c1, c2⟩ | ⟨so, hso, c1, c2⟩
  · refine zW_ob (z_missS c1) ?_
    rw [if_pos rfl]
    refine zW_f zn01 (zW_so (mm σ _ (zW_gd gd1 ?_)))
    exact zW_t (by rw [r1 σ, c2]; exact hneg2) (zW_so ⟨rfl, g, h⟩)
  have nm : ¬ (nI so : Int32) = -nI 1 := by simp (disch := omega) only [zC]; exact fun h => h
  refine zW_ob (z_missS c1) ?_
  rw [if_neg nm]
  refine zW_t rfl ?_
  rcases b4 with ⟨d1, d2⟩ | ⟨so', hso', d1, d2⟩
  · refine zW_ob (z_missS d1) ?_
    rw [if_pos rfl]
    refine zW_f zn01 (zW_so (mm σ _ (zW_gd gd1 ?_)))
    refine zW_f (by rw [r1 σ, c2]; exact nI_pos (by omega)) (zW_gd gd2 ?_)
    exact zW_f (by rw [r2 σ, d2]; exact hneg) (zW_so ⟨rfl, g, h⟩)
  have nm' : ¬ (nI so' : Int32) = -nI 1 := by simp (disch := omega) only [zC]; exact fun h => h
  refine zW_ob (z_missS d1) ?_
  rw [if_neg nm']
  refine zW_t rfl ?_
  have m2 : ∀ (τ : Mem) Q, τ 398 t = nI so → τ 398 o = nI so' → zW (if (nI so : Int32) = nI so' then (if p5 < 0 then (some ((-12 : Int32), τ)) else (if p2 < 0 then (some ((-12 : Int32), τ)) else (if p4 < 0 then (some ((-12 : Int32), τ)) else (grd (inb (nI t) (ln (383 + 16))) (if ((τ (383 + 16) (ix (nI t))) - p5) < p2 then (some ((-12 : Int32), τ)) else (grd (inb (nI o) (ln (383 + 16))) (if p4 ≤ ((τ (383 + 16) (ix (nI o))) - p5) then (lp (sX12_copy_103 383 (nI t) p2 (nI o) p4 p5) FU ((0 : Int32), τ)) else (some ((-12 : Int32), τ))))))))) else (some ((-13 : Int32), τ))) Q → zW (fX12_copy τ 383 (nI t) p2 (nI o) p4 p5) Q := by
    intro τ Q e1 e2 hQ
    refine mm τ _ (zW_gd gd1 (zW_f (by rw [r1 τ, e1]; exact nI_pos (by omega)) (zW_gd gd2 (zW_t (by rw [r2 τ, e2]; exact nI_pos' (by omega)) (zW_gd gd1 (zW_gd gd2 ?_))))))
    rw [r1 τ, r2 τ, e1, e2]
    exact hQ
  refine zW_if (fun q => ?_) (fun q => ?_)
  rotate_left
  · refine zW_so (m2 σ _ c2 d2 (zW_f ?_ (zW_so ⟨rfl, g, h⟩)))
    rw [← c1, ← d1]; exact q
  rw [c1, d1] at q
  -- in range, or not
  by_cases hr : (∃ a b, a + b ≤ n ∧ p2 = nI a ∧ p5 = nI b) ∧ (∃ a b, a + b ≤ m ∧ p4 = nI a ∧ p5 = nI b)
  rotate_left
  · have mno : zW (fX12_copy σ 383 (nI t) p2 (nI o) p4 p5) (fun s => s.1 = -nI 12 ∧ ∃ g, zIv s.2 g) := by
      refine m2 σ _ c2 d2 (zW_t q ?_)
      refine zW_if (fun _ => zW_so ⟨rfl, g, h⟩) (fun e1 => ?_)
      refine zW_if (fun _ => zW_so ⟨rfl, g, h⟩) (fun e2 => ?_)
      refine zW_if (fun _ => zW_so ⟨rfl, g, h⟩) (fun e3 => ?_)
      obtain ⟨b, hb, rfl⟩ := nI_of e1
      obtain ⟨a, ha, rfl⟩ := nI_of e2
      obtain ⟨c, hc, rfl⟩ := nI_of e3
      refine zW_gd gd3 (zW_if (fun _ => zW_so ⟨rfl, g, h⟩) (fun e4 => ?_))
      rw [r3 σ, a2] at e4
      refine zW_gd gd4 (zW_if (fun e5 => ?_) (fun _ => zW_so ⟨rfl, g, h⟩))
      rw [r4 σ, b2] at e5
      exfalso
      apply hr
      have tn : ∀ (x y : Nat), x ≤ 40 → y < 2 ^ 31 → (nI x - nI y).toInt = (x : Int) - y := by
        intro x y hx hy
        rw [Int32.toInt_sub, nI_toInt (by omega), nI_toInt hy]
        unfold Int.bmod
        dsimp only
        split <;> omega
      rw [Int32.lt_iff_toInt_lt, tn n b hn hb, nI_toInt ha] at e4
      rw [Int32.le_iff_toInt_le, tn m b hm hb, nI_toInt hc] at e5
      exact ⟨⟨a, b, by omega, rfl, rfl⟩, ⟨c, b, by omega, rfl, rfl⟩⟩
    by_cases h1 : ∃ a b, a + b ≤ n ∧ p2 = nI a ∧ p5 = nI b
    · have h2 : ¬ ∃ a b, a + b ≤ m ∧ p4 = nI a ∧ p5 = nI b := fun e => hr ⟨h1, e⟩
      obtain ⟨a, b, e1, rfl, rfl⟩ := h1
      refine zW_ob (z_run a1 hn e1) (zW_f zn01 ?_)
      exact zW_ob (z_runN b1 hm h2) (zW_t rfl (zW_so mno))
    · exact zW_ob (z_runN a1 hn h1) (zW_t rfl (zW_so mno))
  obtain ⟨⟨a, b, e1, rfl, rfl⟩, ⟨c, b', e2, rfl, e3⟩⟩ := hr
  have eb : b' = b := by
    have hb' : b' < 2 ^ 31 := by omega
    simp (disch := omega) only [zC] at e3
    exact e3.symm
  subst eb
  refine zW_ob (z_run a1 hn e1) (zW_f zn01 ?_)
  refine zW_ob (z_run b1 hm e2) (zW_f zn01 ?_)
  have x1 : fX7_take σ (367 + 2 * o) (nI c) (367 + 2 * t) (nI a) (nI b') = some (mcp σ (368 + 2 * t) a (368 + 2 * o) c b') := by
    unfold fX7_take
    rw [z_run a1 hn e1]
    simp only [zE_obd, zLT, zn01, if_false]
    rw [z_run b1 hm e2]
    simp (disch := omega) only [zE, zn01, if_false, zl_t, zI]
    rw [show 367 + 2 * t + 1 = 368 + 2 * t by omega, show 367 + 2 * o + 1 = 368 + 2 * o by omega]
  refine zW_ob x1 (zW_so ?_)
  dsimp only
  generalize hτ : mcp σ (368 + 2 * t) a (368 + 2 * o) c b' = τ
  have tf : ∀ x c, x ≠ 368 + 2 * o → τ x c = σ x c := fun x c p => by rw [← hτ]; simp (disch := omega) only [zM]
  have ti : ∀ k, c ≤ k → k < c + b' → τ (368 + 2 * o) k = σ (368 + 2 * t) (a + (k - c)) := fun k p q => by rw [← hτ]; simp (disch := omega) only [zM]
  have to' : ∀ k, ¬ (c ≤ k ∧ k < c + b') → τ (368 + 2 * o) k = σ (368 + 2 * o) k := fun k p => by rw [← hτ]; simp (disch := omega) only [zM]
  refine m2 τ _ (by rw [tf _ _ (by omega)]; exact c2) (by rw [tf _ _ (by omega)]; exact d2) (zW_t q ?_)
  have p0 : ∀ k, k < 2 ^ 31 → ¬ (nI k : Int32) < 0 := fun k hk => nI_pos hk
  refine zW_f (p0 _ (by omega)) (zW_f (p0 _ (by omega)) (zW_f (p0 _ (by omega)) ?_))
  refine zW_gd gd3 (zW_f (by rw [r3 τ, tf _ _ (by omega), a2]; simp (disch := omega) only [zI, zC]; omega) ?_)
  refine zW_gd gd4 (zW_t (by rw [r4 τ, tf _ _ (by omega), b2]; simp (disch := omega) only [zI, zC]; omega) ?_)
  refine zW_lp (fun j x => ∃ υ, x = (nI j, υ) ∧ j ≤ b' ∧ (∀ k, k < j → υ 401 k = σ 400 (40 * t + a + k)) ∧ ∀ x c, x ≠ 401 → υ x c = τ x c) b' ?_ (by unfold FU; omega) ⟨τ, rfl, Nat.zero_le _, fun k hk => absurd hk (by omega), fun _ _ _ => rfl⟩
  rintro j x hj ⟨υ, rfl, -, u1, u2⟩
  unfold sX12_copy_103
  dsimp only
  refine zW_if (fun w => ?_) (fun w => ?_)
  · simp (disch := omega) only [zC] at w
    have : j = b' := by omega
    subst this
    refine zW_oR ?_
    refine zW_lp (fun i x => ∃ ω, x = (nI i, ω) ∧ i ≤ j ∧ (∀ k, k < i → ω 400 (40 * o + c + k) = σ 400 (40 * t + a + k)) ∧ (∀ k, ¬ (40 * o + c ≤ k ∧ k < 40 * o + c + i) → ω 400 k = σ 400 k) ∧ (∀ k, ω 401 k = υ 401 k) ∧ ∀ x c, x ≠ 400 → x ≠ 401 → ω x c = τ x c) j ?_ (by unfold FU; omega)
      ⟨υ, rfl, Nat.zero_le _, fun k hk => absurd hk (by omega), fun k _ => by rw [u2 _ _ (by omega), tf _ _ (by omega)], fun _ => rfl, fun x c p r => u2 x c r⟩
    rintro i x hi ⟨ω, rfl, -, v1, v2, v3, v4⟩
    unfold sX12_copy_140
    dsimp only
    refine zW_if (fun w' => ?_) (fun w' => ?_)
    · simp (disch := omega) only [zC] at w'
      have : i = j := by omega
      subst this
      refine zW_oR (zW_so ⟨rfl, g, zIv_sh h (fun x c p q r => ?_) (fun s hs => ?_)⟩)
      · dsimp only
        have r' : x ≠ 401 := by
          intro e
          apply r
          unfold zsc; omega
        rw [v4 x c (by omega) r', tf x c (by omega)]
      · have hT := h.2.2.2.2.2.2.2 s hs
        dsimp only
        have hb := hT.2.2.2.1.2
        rw [v4 _ _ (by omega) (by omega), v4 _ 1 (by omega) (by omega), v4 398 _ (by omega) (by omega), v4 399 _ (by omega) (by omega), tf _ _ (by omega), tf _ 1 (by omega), tf 398 _ (by omega), tf 399 _ (by omega)]
        refine ⟨hT.1, hT.2.1, hT.2.2.1, hT.2.2.2.1, fun k hk => ?_⟩
        rw [v4 _ _ (by omega) (by omega)]
        by_cases hso : s = o
        · subst hso
          have hkm : k < m := by rw [b2, zi_ix (by omega)] at hk; exact hk
          by_cases hin : c ≤ k ∧ k < c + i
          · rw [ti k hin.1 hin.2, a3 _ (by omega)]
            have := v1 (k - c) (by omega)
            rw [show 40 * s + c + (k - c) = 40 * s + k by omega] at this
            rw [this]
            congr 1; omega
          · rw [to' k hin, v2 _ (by omega)]
            exact b3 k hkm
        · rw [tf _ _ (by omega), v2 _ (by omega)]
          exact hT.2.2.2.2 k hk
    · simp (disch := omega) only [zC] at w'
      refine zW_gd (by simp (disch := omega) only [Nat.reduceAdd, zl_c, zI]) (zW_gd (by simp (disch := omega) only [zLT, Nat.reduceAdd, zl_c, zI]) ?_)
      refine zW_bv (mw ω 400 (40 * o + c + i) (σ 400 (40 * t + a + i))) ?_ ?_
      · simp (disch := omega) only [zLT, Nat.reduceAdd, zI]
        rw [v3, u1 i (by omega)]
      · refine zW_oL ⟨by omega, mw ω 400 (40 * o + c + i) (σ 400 (40 * t + a + i)), by simp only [zLT, zI], by omega, fun k hk => ?_, fun k hk => by simp (disch := omega) only [zM]; exact v2 k (by omega), fun k => by simp (disch := omega) only [zM]; exact v3 k, fun x c p r => by simp (disch := omega) only [zM]; exact v4 x c p r⟩
        by_cases e : k = i
        · subst e; simp only [zM]
        · simp (disch := omega) only [zM]
          exact v1 k (by omega)
  · simp (disch := omega) only [zC] at w
    refine zW_gd (by simp (disch := omega) only [zLT, Nat.reduceAdd, zl_c, zI]) (zW_gd (by simp (disch := omega) only [Nat.reduceAdd, zl_c, zI]) ?_)
    refine zW_bv (mw υ 401 j (σ 400 (40 * t + a + j))) ?_ ?_
    · simp (disch := omega) only [zLT, Nat.reduceAdd, zI]
      rw [u2 _ _ (by omega), tf _ _ (by omega)]
    · refine zW_oL ⟨by omega, mw υ 401 j (σ 400 (40 * t + a + j)), by simp only [zLT, zI], by omega, fun k hk => ?_, fun x c p => by simp (disch := omega) only [zM]; exact u2 x c p⟩
      by_cases e : k = j
      · subst e; simp only [zM]
      · simp (disch := omega) only [zM]
        exact u1 k (by omega)
