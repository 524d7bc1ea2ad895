def zO (σ : Mem) (x m : Mem → Option (Int32 × Mem)) : Prop := zW (x σ) (fun r => zW (m r.2) (fun s => s.1 = r.1 ∧ ∃ g, zIv s.2 g))
theorem zO_op {σ : Mem} {x m : Mem → Option (Int32 × Mem)} (h : zO σ x m) : zOp σ x m := by
  obtain ⟨⟨r, τ⟩, e, ⟨⟨s, υ⟩, e2, h1, h2⟩⟩ := h
  exact ⟨r, τ, υ, e, by rw [← show s = r from h1]; exact e2, h2⟩
theorem zO_e {σ : Mem} {x m : Mem → Option (Int32 × Mem)} {r : Int32} {τ υ : Mem} {g : Nat → Int32} (h1 : x σ = some (r, τ)) (h2 : m τ = some (r, υ)) (h3 : zIv υ g) : zOp σ x m := ⟨r, τ, υ, h1, h2, g, h3⟩
theorem z_miss {σ : Mem} {t : Nat} {x : Int32} (h : σ t 0 = x) : fX9_isMissing σ t = some (if x = -nI 1 then nI 1 else nI 0) := by
  unfold fX9_isMissing
  rw [h]
  simp only [zLT]
  split <;> rfl
theorem z_missS {σ : Mem} {t : Nat} {x : Int32} (h : σ t 0 = x) : fX7_isMissing σ t = some (if x = -nI 1 then nI 1 else nI 0) := z_miss h
theorem z_has9 {σ : Mem} {i n k : Nat} (h : σ i 1 = nI n) (hn : n ≤ 20) (hk : k < n) : fX9_has σ i (nI k) = some (nI 1) := by
  unfold fX9_has
  simp (disch := omega) only [zLT, zC, h, if_neg]
theorem z_has9N {σ : Mem} {i n : Nat} {x : Int32} (h : σ i 1 = nI n) (hx : x < 0 ∨ nI n ≤ x) : fX9_has σ i x = some (nI 0) := by
  unfold fX9_has
  by_cases h0 : x < 0
  · rw [if_pos h0]; rfl
  · rw [if_neg h0, h, if_pos (hx.resolve_left h0)]; rfl
/-- what is known of a tray -/
theorem zTR_c {σ : Mem} {g : Nat → Int32} (h : zIv σ g) {t : Nat} (ht : t < 4) : (σ (375 + 2 * t) 0 = -nI 1 ∧ σ 395 t = -nI 1) ∨ ∃ kd n, kd ≤ 5 ∧ n ≤ 20 ∧ σ (375 + 2 * t) 0 = nI kd ∧ σ 395 t = nI kd ∧ σ (375 + 2 * t) 1 = nI n ∧ σ 396 t = nI n ∧ ∀ k, k < n → σ (376 + 2 * t) k = σ 397 (20 * t + k) := by
  obtain ⟨h1, h2⟩ := h.2.2.2.2.2.2.1 t ht
  rcases h2 with h2 | ⟨a, b, c, d⟩
  · exact Or.inl ⟨h1.trans h2, h2⟩
  · exact Or.inr ⟨_, _, a.2, c.2, h1.trans a.1, a.1, b.trans c.1, c.1, d⟩
theorem z_wrongM {σ : Mem} {t : Nat} {p : Int32} (ht : t < 4) (h : σ 395 t = -nI 1) : fX12_wrongPlace σ 383 (nI t) p = some (-nI 11) := by
  refine zW_val ?_
  unfold fX12_wrongPlace
  refine zW_gd (by simp (disch := omega) only [Nat.reduceAdd, zl_c, zI]) ?_
  refine zW_f (by simp (disch := omega) only [Nat.reduceAdd, zI, h]; decide +kernel) (zW_so rfl)
theorem z_wrongY {σ : Mem} {t kd n k : Nat} (ht : t < 4) (hkd : kd ≤ 5) (h : σ 395 t = nI kd) (h2 : σ 396 t = nI n) (hn : n ≤ 20) (hk : k < n) : fX12_wrongPlace σ 383 (nI t) (nI k) = some (nI 0) := by
  refine zW_val ?_
  unfold fX12_wrongPlace
  refine zW_gd (by simp (disch := omega) only [Nat.reduceAdd, zl_c, zI]) ?_
  refine zW_t (by simp (disch := omega) only [Nat.reduceAdd, zI, h]; exact nI_pos' (by omega)) ?_
  refine zW_gd (by simp (disch := omega) only [Nat.reduceAdd, zl_c, zI]) ?_
  refine zW_ob (x := nI 1) ?_ (zW_f zn01 (zW_so rfl))
  simp (disch := omega) only [zLT, Nat.reduceAdd, zI, h2]
  exact z_isIn (by omega) (by omega) (by omega)
theorem z_wrongN {σ : Mem} {t kd n : Nat} {p : Int32} (ht : t < 4) (hkd : kd ≤ 5) (h : σ 395 t = nI kd) (h2 : σ 396 t = nI n) (hn : n ≤ 20) (hp : p < 0 ∨ nI n ≤ p) : fX12_wrongPlace σ 383 (nI t) p = some (-nI 12) := by
  refine zW_val ?_
  unfold fX12_wrongPlace
  refine zW_gd (by simp (disch := omega) only [Nat.reduceAdd, zl_c, zI]) ?_
  refine zW_t (by simp (disch := omega) only [Nat.reduceAdd, zI, h]; exact nI_pos' (by omega)) ?_
  refine zW_gd (by simp (disch := omega) only [Nat.reduceAdd, zl_c, zI]) ?_
  refine zW_ob (x := nI 0) ?_ (zW_t rfl (zW_so rfl))
  have e : σ (383 + 13) (ix (nI t)) - 1 = nI n - nI 1 := by
    rw [zi_ix (by omega), show (383 + 13 : Nat) = 396 by omega, h2]
    rfl
  rw [e]
  exact z_isInN (z_pred (by omega) hp)
theorem z_op_laid {σ : Mem} {g : Nat → Int32} (h : zIv σ g) (p1 p2 : Int32) : ∃ r, fX11_laid σ 0 p1 p2 = some r ∧ fX12_laid σ 383 p1 p2 = some r := by
  rcases zrg p1 (n := 4) (by omega) with ⟨t, ht, rfl⟩ | h1
  · have ma : fX12_laid σ 383 (nI t) p2 = obd (fX12_wrongPlace σ 383 (nI t) p2) (fun q4 => if q4 = 0 then (grd (inb (((20 : Int32) * nI t) + p2) (ln (383 + 14))) (some (σ (383 + 14) (ix (((20 : Int32) * nI t) + p2))))) else (some q4)) := by
      unfold fX12_laid
      rw [show (3 : Int32) = nI 3 from rfl, zLT.1, z_isIn (by omega) (by omega) (by omega)]
      simp only [zE, zn01, if_false]
    have xa : fX11_laid σ 0 (nI t) p2 = obd (fX9_isMissing σ (375 + 2 * t)) (fun q4 => if q4 = 0 then (obd (fX9_has σ (375 + 2 * t) p2) (fun q7 => if q7 = 0 then (some (-12 : Int32)) else (obd (fX9_wordAt σ (375 + 2 * t) p2) (fun q10 => some q10)))) else (some (-11 : Int32))) := by
      unfold fX11_laid
      rw [z_trayAt ht]
      simp only [zE]
    rcases zTR_c h ht with ⟨a, b⟩ | ⟨kd, n, a1, a2, a3, a4, a5, a6, a7⟩
    · refine ⟨-nI 11, ?_, ?_⟩
      · rw [xa, z_miss a, if_pos rfl]; rfl
      · rw [ma, z_wrongM ht b]; rfl
    · have nm : ¬ (nI kd : Int32) = -nI 1 := by simp (disch := omega) only [zC]; exact fun h => h
      rcases zrg p2 (n := n) (by omega) with ⟨k, hk, rfl⟩ | h2
      · refine ⟨σ (376 + 2 * t) k, ?_, ?_⟩
        · rw [xa, z_miss a3, if_neg nm]
          simp only [zE, zLT, if_true]
          rw [z_has9 a5 a2 hk]
          simp only [zE, zn01, if_false]
          unfold fX9_wordAt
          rw [z_has9 a5 a2 hk]
          simp (disch := omega) only [zE, zLT, zn01, if_false, zl_t, zI]
          rw [show 375 + 2 * t + 1 = 376 + 2 * t by omega]
        · rw [ma, z_wrongY ht a1 a4 a6 a2 hk]
          simp (disch := omega) only [zE, zLT, if_true, Nat.reduceAdd, zl_c, zI]
          rw [a7 k hk]
      · refine ⟨-nI 12, ?_, ?_⟩
        · rw [xa, z_miss a3, if_neg nm]
          simp only [zE, zLT, if_true]
          rw [z_has9N a5 h2]
          rfl
        · rw [ma, z_wrongN ht a1 a4 a6 a2 h2]; rfl
  · refine ⟨-nI 2, ?_, ?_⟩
    · unfold fX11_laid
      rw [z_trayAtN h1]; rfl
    · unfold fX12_laid
      rw [show (3 : Int32) = nI (4 - 1) from rfl, zLT.1, z_isInX (by omega) (by omega) h1]; rfl
theorem z_op_lays {σ : Mem} {g : Nat → Int32} (h : zIv σ g) (p1 p2 p3 : Int32) : zOp σ (fun σ => fX11_lays σ 0 p1 p2 p3) (fun τ => fX12_lays τ 383 p1 p2 p3) := by
  have hg := h.2.1
  have hc := h.2.2.1
  have hM := h.1
  have hW : znW g ≤ 20 := hg.1.2
  have ref : ∀ r, fX11_lays σ 0 p1 p2 p3 = some (r, σ) → fX12_lays σ 383 p1 p2 p3 = some (r, σ) → zOp σ (fun σ => fX11_lays σ 0 p1 p2 p3) (fun τ => fX12_lays τ 383 p1 p2 p3) := fun r a b => zO_e a b h
  rcases zrg p1 (n := 4) (by omega) with ⟨t, ht, rfl⟩ | h1
  rotate_left
  · refine ref (-nI 2) ?_ ?_
    · unfold fX11_lays
      rw [z_trayAtN h1]
      rcases zrg p3 (n := znW g) (by omega) with ⟨w, hw, rfl⟩ | h3
      · simp only [zE]; rw [z_wordAt hg hc hw]; rfl
      · simp only [zE]; rw [z_wordAtN hg hc h3]; rfl
    · unfold fX12_lays
      rw [show (3 : Int32) = nI (4 - 1) from rfl, zLT.1, z_isInX (by omega) (by omega) h1]; rfl
  -- the word: none, one, no such one
  have ma : ∀ τ : Mem, fX12_lays τ 383 (nI t) p2 p3 = (bnd (fun (_ : Unit) => obd (fX12_wrongPlace τ 383 (nI t) p2) (fun q5 => if q5 = 0 then (bnd (fun (_ : Unit) => grd (inb (((20 : Int32) * nI t) + p2) (ln (383 + 14))) (bnd (mw τ (383 + 14) (ix (((20 : Int32) * nI t) + p2)) p3) (fun m9 => some ((1 : Int32), m9)))) (fun k8 => if p3 = (-1 : Int32) then (k8 ()) else (obd (fX12_kind τ 383 p3) (fun q11 => grd (inb (nI t) (ln (383 + 12))) (obd (fX12_isUnder τ q11 (τ (383 + 12) (ix (nI t)))) (fun q13 => if q13 = 0 then (some ((-16 : Int32), τ)) else (k8 ()))))))) else (some (q5, τ)))) (fun k4 => if p3 = (-1 : Int32) then (k4 ()) else (obd (fX12_isWord τ 383 p3) (fun q17 => if q17 = 0 then (some ((-2 : Int32), τ)) else (k4 ()))))) := by
    intro τ
    unfold fX12_lays
    rw [show (3 : Int32) = nI 3 from rfl, zLT.1, z_isIn (by omega) (by omega) (by omega)]
    simp only [zE_obd, zn01, if_false]
  have main : (p3 = -nI 1 ∨ ∃ w, w < znW g ∧ p3 = nI w) → zOp σ (fun σ => fX11_lays σ 0 (nI t) p2 p3) (fun τ => fX12_lays τ 383 (nI t) p2 p3) := by
    intro hp3
    have k4 : ∀ (τ : Mem) Q, zMG τ g → zW (obd (fX12_wrongPlace τ 383 (nI t) p2) (fun q5 => if q5 = 0 then (bnd (fun (_ : Unit) => grd (inb (((20 : Int32) * nI t) + p2) (ln (383 + 14))) (bnd (mw τ (383 + 14) (ix (((20 : Int32) * nI t) + p2)) p3) (fun m9 => some ((1 : Int32), m9)))) (fun k8 => if p3 = (-1 : Int32) then (k8 ()) else (obd (fX12_kind τ 383 p3) (fun q11 => grd (inb (nI t) (ln (383 + 12))) (obd (fX12_isUnder τ q11 (τ (383 + 12) (ix (nI t)))) (fun q13 => if q13 = 0 then (some ((-16 : Int32), τ)) else (k8 ()))))))) else (some (q5, τ)))) Q → zW (fX12_lays τ 383 (nI t) p2 p3) Q := by
      intro τ Q hMt hQ
      rw [ma]
      refine zW_jn (fun _ => True) (fun _ _ => hQ) (fun k hk => ?_)
      rcases hp3 with e | ⟨w, hw, e⟩
      · exact zW_t e (hk () trivial)
      · refine zW_f (by rw [e]; simp (disch := omega) only [zLT, zC]; exact fun h => h) ?_
        rw [e]
        exact zW_ob (z_isWord hg hMt hw) (zW_f zn01 (hk () trivial))
    have xa : ∀ Q : Int32 × Mem → Prop, zW (obd (fX9_isMissing σ (375 + 2 * t)) (fun q19 => if q19 = 0 then (obd (fX9_has σ (375 + 2 * t) p2) (fun q22 => if q22 = 0 then (some ((-12 : Int32), σ)) else (bnd (fun (_ : Unit) => obd (fX9_lay σ (375 + 2 * t) p2 p3) (fun q28 => some ((1 : Int32), q28))) (fun k => if p3 = -nI 1 then k () else obd (fX10_isOf σ (12 + 3 * ix p3) (σ (375 + 2 * t) 0)) (fun q25 => if q25 = 0 then (some ((-16 : Int32), σ)) else k ()))))) else (some ((-11 : Int32), σ)))) Q → zW (fX11_lays σ 0 (nI t) p2 p3) Q := by
      intro Q hQ
      unfold fX11_lays
      rw [z_trayAt ht]
      simp only [zE_obd, zE_ocss]
      rcases hp3 with e | ⟨w, hw, e⟩
      · rw [Nat.zero_add, z_wordAtN hg hc (Or.inl (by rw [e]; decide +kernel))]
        simp only [zE_obd, zE_ocsn]
        simp only [zE_bnd, if_pos e] at hQ
        exact zW_t e hQ
      · subst e
        rw [Nat.zero_add, z_wordAt hg hc hw]
        simp only [zE_obd, zE_ocss]
        have : ¬ (nI w : Int32) = -nI 1 := by simp (disch := omega) only [zC]; exact fun h => h
        rw [zi_ix (by omega)] at hQ
        simp only [zE_bnd, if_neg this] at hQ
        exact hQ
    rcases zTR_c h ht with ⟨a, b⟩ | ⟨kd, n, a1, a2, a3, a4, a5, a6, a7⟩
    · refine zO_op (xa _ (zW_ob (z_miss a) ?_))
      rw [if_pos rfl]
      refine zW_f zn01 (zW_so (k4 _ _ hM (zW_ob (z_wrongM ht b) ?_)))
      exact zW_f (by decide +kernel) (zW_so ⟨rfl, g, h⟩)
    · have nm : ¬ (nI kd : Int32) = -nI 1 := by simp (disch := omega) only [zC]; exact fun h => h
      refine zO_op (xa _ (zW_ob (z_miss a3) ?_))
      rw [if_neg nm]
      refine zW_t rfl ?_
      rcases zrg p2 (n := n) (by omega) with ⟨k, hk, rfl⟩ | h2
      · refine zW_ob (z_has9 a5 a2 hk) (zW_f zn01 ?_)
        -- both lay
        have fin : (p3 = -nI 1 ∨ ∃ w, w < znW g ∧ p3 = nI w ∧ zund (ix (g (zwa w))) kd = true) → zW (obd (fX9_lay σ (375 + 2 * t) (nI k) p3) (fun q28 => some ((1 : Int32), q28))) (fun r => zW (fX12_lays r.2 383 (nI t) (nI k) p3) (fun s => s.1 = r.1 ∧ ∃ g, zIv s.2 g)) := by
          intro hz
          have e1 : fX9_lay σ (375 + 2 * t) (nI k) p3 = some (mw σ (376 + 2 * t) k p3) := by
            unfold fX9_lay
            rw [z_has9 a5 a2 hk]
            simp (disch := omega) only [zE, zLT, zn01, if_false, zl_t, zI]
            rw [show 375 + 2 * t + 1 = 376 + 2 * t by omega]
          have hMt : zMG (mw σ (376 + 2 * t) k p3) g := fun j hj => by simp (disch := omega) only [zM]; exact hM j hj
          have iv : zIv (mw (mw σ (376 + 2 * t) k p3) 397 (20 * t + k) p3) g := by
            refine zIv_tr h (fun x c p q r => by simp (disch := omega) only [zM]) (fun s hs => ?_)
            have hT := h.2.2.2.2.2.2.1 s hs
            simp (disch := omega) only [zM]
            refine ⟨hT.1, hT.2.imp id (fun q => ⟨q.1, q.2.1, q.2.2.1, fun j hj => ?_⟩)⟩
            have hb := q.2.2.1.2
            by_cases e : s = t ∧ j = k
            · obtain ⟨e1, e2⟩ := e
              subst e1 e2
              simp (disch := omega) only [zM]
            · simp (disch := omega) only [zM]
              exact q.2.2.2 j hj
          refine zW_ob e1 (zW_so ?_)
          refine k4 _ _ hMt (zW_ob (z_wrongY (kd := kd) ht a1 (by simp (disch := omega) only [zM]; exact a4) (by simp (disch := omega) only [zM]; exact a6) a2 hk) ?_)
          refine zW_t rfl ?_
          refine zW_jn (fun _ => True) ?_ ?_
          · rintro - -
            refine zW_gd (by simp (disch := omega) only [zLT, Nat.reduceAdd, zl_c, zI]) ?_
            refine zW_so ⟨rfl, g, ?_⟩
            simp (disch := omega) only [zLT, Nat.reduceAdd, zI]
            exact iv
          · intro kk hkk
            rcases hz with e | ⟨w, hw, e, hu⟩
            · exact zW_t e (hkk () trivial)
            · subst e
              refine zW_f (by simp (disch := omega) only [zLT, zC]; exact fun h => h) ?_
              have w0 := (hg.2.2.1 w hw).1
              have w1 := w0.2
              refine zW_ob (z_kind hMt (by omega)) ?_
              refine zW_gd (by simp (disch := omega) only [Nat.reduceAdd, zl_c, zI]) ?_
              refine zW_ob (x := nI 1) ?_ (zW_f zn01 (hkk () trivial))
              rw [w0.1]
              simp (disch := omega) only [Nat.reduceAdd, zI, zM]
              rw [a4, z_isUnder w1 a1, hu]
              rfl
        refine zW_jn (fun _ => (p3 = -nI 1 ∨ ∃ w, w < znW g ∧ p3 = nI w ∧ zund (ix (g (zwa w))) kd = true)) (fun _ hz => fin hz) ?_
        intro kk hkk
        rcases hp3 with e | ⟨w, hw, e⟩
        · exact zW_t e (hkk () (Or.inl e))
        · subst e
          refine zW_f (by simp (disch := omega) only [zC]; exact fun h => h) ?_
          have w0 := (hg.2.2.1 w hw).1
          have w1 := w0.2
          have b1 := (hc.2.2.1 w hw).1
          rw [show 3 + 9 + 3 * w = 12 + 3 * w by omega, w0.1] at b1
          rw [zi_ix (by omega), a3]
          refine zW_ob (z_isOf b1 w1 a1) ?_
          cases hu : zund (ix (g (zwa w))) kd with
          | true => exact zW_f zn01 (hkk () (Or.inr ⟨w, hw, rfl, hu⟩))
          | false =>
            refine zW_t rfl (zW_so ?_)
            refine k4 _ _ hM (zW_ob (z_wrongY (kd := kd) ht a1 a4 a6 a2 hk) (zW_t rfl ?_))
            refine zW_f (by simp (disch := omega) only [zLT, zC]; exact fun h => h) ?_
            refine zW_ob (z_kind hM (by omega)) ?_
            refine zW_gd (by simp (disch := omega) only [Nat.reduceAdd, zl_c, zI]) ?_
            refine zW_ob (x := nI 0) ?_ (zW_t rfl (zW_so ⟨rfl, g, h⟩))
            rw [w0.1]
            simp (disch := omega) only [Nat.reduceAdd, zI]
            rw [a4, z_isUnder w1 a1, hu]
            rfl
      · refine zW_ob (z_has9N a5 h2) (zW_t rfl (zW_so (k4 _ _ hM (zW_ob (z_wrongN ht a1 a4 a6 a2 h2) ?_))))
        exact zW_f (by decide +kernel) (zW_so ⟨rfl, g, h⟩)
  rcases zrg p3 (n := znW g) (by omega) with ⟨w, hw, e⟩ | h3
  · exact main (Or.inr ⟨w, hw, e⟩)
  · by_cases e : p3 = -nI 1
    · exact main (Or.inl e)
    · have e' : ¬ p3 = (-1 : Int32) := e
      refine ref (-nI 2) ?_ ?_
      · unfold fX11_lays
        rw [z_trayAt ht]
        simp only [zE_obd, zE_ocss]
        rw [Nat.zero_add, z_wordAtN hg hc h3]
        simp only [zE_obd, zE_ocsn]
        rw [if_neg e']; rfl
      · rw [ma]
        rw [zE_bnd, if_neg e', z_isWordN hg hM h3]
        rfl
