def zMH (σ : Mem) (g : Nat → Int32) : Prop := ∀ k, k < 517 → (k < 2 ∨ 13 ≤ k) → σ 384 k = g k
theorem z_kindH {σ : Mem} {g : Nat → Int32} {w : Nat} (hM : zMH σ g) (hw : w < 20) : fX12_kind σ 383 (nI w) = some (g (zwa w)) := by
  unfold fX12_kind
  simp (disch := omega) only [zLT, zI, Nat.reduceAdd, zl_c, zE]
  rw [hM _ (by omega) (by omega)]
theorem z_holesH {σ : Mem} {g : Nat → Int32} {f : Nat} (hM : zMH σ g) (hw : f < 5) : fX12_holes σ 383 (nI f) = some (g (zfa f)) := by
  unfold fX12_holes
  simp (disch := omega) only [zLT, zI, Nat.reduceAdd, zl_c, zE]
  rw [hM _ (by omega) (by omega)]
theorem z_ofHoleH {σ : Mem} {g : Nat → Int32} {f i k : Nat} (hM : zMH σ g) (hw : f < 5) (hi : i < 6) (hk : k < 4) : fX12_ofHole σ 383 (nI f) (nI i) (nI k) = some (g (zha f i + k)) := by
  unfold fX12_ofHole
  simp (disch := omega) only [zLT, zI, Nat.reduceAdd, zl_c, zE]
  rw [hM _ (by omega) (by omega)]
theorem z_canBeH {σ : Mem} {g : Nat → Int32} {f i w : Nat} (hg : zBG g) (hM : zMH σ g) (hf : f < znF g) (hi : i < znH g f) (hw : w < znW g) : fX12_canBe σ 383 (nI f) (nI i) (nI w) = some (if zcan g f i w then nI 1 else nI 0) := by
  have h0 : f < 5 := Nat.lt_of_lt_of_le hf hg.2.1.2
  have h1 := hg.2.2.2.2.1 f hf
  have h4 : znH g f ≤ 6 := h1.1.2
  have hw20 : w < 20 := Nat.lt_of_lt_of_le hw hg.1.2
  obtain ⟨⟨w0, w1⟩, -⟩ := hg.2.2.1 w hw
  obtain ⟨n, l1, l2, l3⟩ := zHo_l (h1.2.2.1 i hi)
  have hwo : n = 112 → g (zha f i + 3) = nI (ix (g (zha f i + 3))) ∧ ix (g (zha f i + 3)) ≤ 19 := fun e => by
    subst e
    have := (zHo_p (h1.2.2.1 i hi) l1).2.2.1
    exact ⟨this.1, this.2⟩
  have : zW (fX12_canBe σ 383 (nI f) (nI i) (nI w)) (fun r => r = if zcan g f i w then nI 1 else nI 0) := by
    unfold fX12_canBe
    refine zW_ob (z_ofHoleH (k := 0) hM h0 (by omega) (by omega)) ?_
    refine zW_ob (z_kindH hM hw20) ?_
    rw [Nat.add_zero, l1, w0]
    have zz : ∀ b, (if n = 110 then ix (g (zwa w)) == 1 || ix (g (zwa w)) == 3 else if n = 118 then ix (g (zwa w)) == 2 || ix (g (zwa w)) == 5 else if n = 102 then ix (g (zwa w)) == 4 else w == ix (g (zha f i + 3))) = b → zcan g f i w = b := fun b h => by unfold zcan; rw [l2]; exact h
    generalize hkk : ix (g (zwa w)) = kd at *
    rcases l3 with r | r | r | r <;> subst r
    · refine zW_t rfl ?_
      have hz : zcan g f i w = (kd == 1 || kd == 3) := zz _ rfl
      rw [hz]
      refine zW_if (fun h => ?_) (fun h => zW_if (fun h' => ?_) (fun h' => ?_)) <;> refine zW_so ?_ <;> simp (disch := omega) only [zLT, zC] at h
      · subst h; rfl
      · simp (disch := omega) only [zLT, zC] at h'; subst h'; rfl
      · simp (disch := omega) only [zLT, zC] at h'; rw [if_neg]; · rfl
        · simp [h, h']
    · refine zW_f (by decide +kernel) (zW_t rfl ?_)
      have hz : zcan g f i w = (kd == 2 || kd == 5) := zz _ rfl
      rw [hz]
      refine zW_if (fun h => ?_) (fun h => zW_if (fun h' => ?_) (fun h' => ?_)) <;> refine zW_so ?_ <;> simp (disch := omega) only [zLT, zC] at h
      · subst h; rfl
      · simp (disch := omega) only [zLT, zC] at h'; subst h'; rfl
      · simp (disch := omega) only [zLT, zC] at h'; rw [if_neg]; · rfl
        · simp [h, h']
    · refine zW_f (by decide +kernel) (zW_f (by decide +kernel) (zW_t rfl ?_))
      have hz : zcan g f i w = (kd == 4) := zz _ rfl
      rw [hz]
      refine zW_if (fun h => ?_) (fun h => ?_) <;> refine zW_so ?_ <;> simp (disch := omega) only [zLT, zC] at h
      · subst h; rfl
      · rw [if_neg]; · rfl
        · simp [h]
    · refine zW_f (by decide +kernel) (zW_f (by decide +kernel) (zW_f (by decide +kernel) ?_))
      obtain ⟨r1, r2⟩ := hwo rfl
      refine zW_ob (z_ofHoleH (k := 3) hM h0 (by omega) (by omega)) ?_
      have hz : zcan g f i w = (w == ix (g (zha f i + 3))) := zz _ rfl
      rw [hz, r1]
      refine zW_if (fun h => ?_) (fun h => ?_) <;> refine zW_so ?_ <;> simp (disch := omega) only [zLT, zC] at h
      · rw [if_pos]; · rfl
        · simp only [beq_iff_eq]; rw [← r1]; exact h
      · rw [if_neg]; · rfl
        · simp only [beq_iff_eq]; rw [← r1]; exact h
  obtain ⟨r, e, q⟩ := this
  rw [e, q]

theorem z_ableAtH {σ : Mem} {g : Nat → Int32} {f i k : Nat} (hg : zBG g) (hM : zMH σ g) (hf : f < znF g) (hi : i < znH g f) (hk : k < 2 ^ 30) : fX12_ableAt σ 383 (nI f) (nI i) (nI k) = some (zoI (zth (zcan g f i) (znW g) 0 k)) := by
  have h2 : znW g ≤ 20 := hg.1.2
  have e : σ 384 0 = nI (znW g) := (hM 0 (by omega) (by omega)).trans hg.1.1
  refine zW_val ?_
  unfold fX12_ableAt
  refine zW_lp (fun n s => ∃ k', k' < 2 ^ 30 ∧ s = (nI n, nI k') ∧ n ≤ znW g ∧ zth (zcan g f i) (znW g) 0 k = zth (zcan g f i) (znW g - n) n k') (znW g) ?_ (by unfold FU; omega) ⟨k, hk, rfl, Nat.zero_le _, rfl⟩
  rintro n s hn' ⟨k', hk', rfl, -, hz⟩
  unfold sX12_ableAt_6
  dsimp only
  refine zW_gd (by simp (disch := omega) only [zLT, Nat.reduceAdd, zl_c, zI]) ?_
  have e' : σ (383 + 1) (ix 0) = nI (znW g) := by simp (disch := omega) only [zLT, Nat.reduceAdd, zI, e]
  rw [e']
  refine zW_if (fun h => ?_) (fun h => ?_)
  · simp (disch := omega) only [zLT, zC] at h
    have : n = znW g := by omega
    subst this
    rw [Nat.sub_self] at hz
    rw [hz]
    exact zW_oR (zW_so rfl)
  · simp (disch := omega) only [zLT, zC] at h
    have hlt : n < znW g := by omega
    have hs : znW g - n = (znW g - (n + 1)) + 1 := by omega
    rw [hs, zth_s] at hz
    refine zW_f (by simp (disch := omega) only [zLT, zC]; omega) ?_
    refine zW_ob (z_canBeH hg hM hf hi hlt) ?_
    cases hp : zcan g f i n with
    | true =>
      rw [hp, if_pos rfl] at hz
      refine zW_f zn01 ?_
      refine zW_if (fun h0 => ?_) (fun h0 => ?_)
      · simp (disch := omega) only [zLT, zC] at h0
        rw [if_pos h0] at hz
        rw [hz]
        exact zW_oR (zW_so rfl)
      · simp (disch := omega) only [zLT, zC] at h0
        rw [if_neg h0] at hz
        refine zW_oL ⟨hlt, k' - 1, by omega, ?_, hlt, hz⟩
        simp (disch := omega) only [zLT, zI]
    | false =>
      rw [hp, if_neg (by decide)] at hz
      refine zW_t rfl ?_
      refine zW_oL ⟨hlt, k', hk', ?_, hlt, hz⟩
      simp only [zLT, zI]
theorem zbt_lt {g : Nat → Int32} (h : zBG g) : zbt g < 8 := by
  have h4 := h.2.2.2.2.2.2.2.2.1.2
  have h5 := h.2.2.2.2.2.2.2.2.2.1.2
  have h6 := h.2.2.2.2.2.2.2.2.2.2.2
  unfold zbt
  omega
/-- the row with the desk anew: i holes of the frame have their words -/
def zgd (g : Nat → Int32) (f m i : Nat) (R : Nat → Int32) (k : Nat) : Int32 :=
  if k < 2 ∨ 13 ≤ k then g k else if k = 2 then nI f else if k = 3 then nI m else if k < 7 then nI 0 else if k < 7 + i then zoI (zth (zcan g f (k - 7)) (znW g) 0 0) else R k
theorem zgd_o {g : Nat → Int32} {f m i : Nat} {R : Nat → Int32} {k : Nat} (h : k < 2 ∨ 13 ≤ k) : zgd g f m i R k = g k := by
  unfold zgd; rw [if_pos h]
theorem zgd_2 {g : Nat → Int32} {f m i : Nat} {R : Nat → Int32} : zgd g f m i R 2 = nI f ∧ zgd g f m i R 3 = nI m ∧ zgd g f m i R 4 = nI 0 ∧ zgd g f m i R 5 = nI 0 ∧ zgd g f m i R 6 = nI 0 := by
  refine ⟨rfl, rfl, rfl, rfl, rfl⟩
theorem zgd_w {g : Nat → Int32} {f m i : Nat} {R : Nat → Int32} {k : Nat} (h : k < 6) : zgd g f m i R (7 + k) = if k < i then zoI (zth (zcan g f k) (znW g) 0 0) else R (7 + k) := by
  unfold zgd
  rw [if_neg (by omega), if_neg (by omega), if_neg (by omega), if_neg (by omega), show 7 + k - 7 = k by omega]
  by_cases q : k < i
  · rw [if_pos (by omega), if_pos q]
  · rw [if_neg (by omega), if_neg q]
theorem zgd_nW {g : Nat → Int32} {f m i : Nat} {R : Nat → Int32} : znW (zgd g f m i R) = znW g := rfl
theorem zgd_nF {g : Nat → Int32} {f m i : Nat} {R : Nat → Int32} : znF (zgd g f m i R) = znF g := rfl
theorem zgd_fa {g : Nat → Int32} {f m i : Nat} {R : Nat → Int32} (f' k : Nat) : zgd g f m i R (zfa f' + k) = g (zfa f' + k) := zgd_o (by right; show 13 ≤ 342 + 25 * f' + k; omega)
theorem zgd_wa {g : Nat → Int32} {f m i : Nat} {R : Nat → Int32} (w k : Nat) : zgd g f m i R (zwa w + k) = g (zwa w + k) := zgd_o (by right; show 13 ≤ 14 + 10 * w + k; omega)
theorem zgd_nH {g : Nat → Int32} {f m i : Nat} {R : Nat → Int32} (f' : Nat) : znH (zgd g f m i R) f' = znH g f' := by
  show ix (zgd g f m i R (zfa f' + 0)) = ix (g (zfa f'))
  rw [zgd_fa]
  rfl
theorem zgd_can {g : Nat → Int32} {f m i : Nat} {R : Nat → Int32} (f' : Nat) {k : Nat} (hk : k < 6) : zcan (zgd g f m i R) f' k = zcan g f' k := by
  funext w
  exact zcan_cg (fun j _ => zgd_fa f' j) hk (zgd_wa w 0)
theorem zgd_ok {g : Nat → Int32} {f m i : Nat} {R : Nat → Int32} (hg : zBG g) (hf : f < znF g) (hm : m < 4) (hR : (∀ k, R k = -nI 1) ∨ i = znH g f) : zBG (zgd g f m i R) := by
  have h6 : znH g f ≤ 6 := (hg.2.2.2.2.1 f hf).1.2
  obtain ⟨e2, e3, e4, e5, e6⟩ := zgd_2 (g := g) (f := f) (m := m) (i := i) (R := R)
  refine zBG_dk (fun k hk => zgd_o hk) hg ⟨Or.inr ⟨f, hf, e2, fun k hk => ?_⟩, by rw [e3]; exact zNI_of (by omega) (by omega), by rw [e4]; exact zNI_of (by omega) (by omega), by rw [e5]; exact zNI_of (by omega) (by omega), by rw [e6]; exact zNI_of (by omega) (by omega)⟩
  rw [zgd_nH] at hk
  rw [zgd_w (by omega)]
  split
  · cases e : zth (zcan g f k) (znW g) 0 0 with
    | none => exact Or.inl rfl
    | some w =>
      have := zth_in e
      exact Or.inr ⟨w, by rw [zgd_nW]; omega, by rw [zgd_can f (by omega)]; exact this.2.2, rfl⟩
  · rcases hR with hR | hR
    · exact Or.inl (hR _)
    · omega
theorem zgd_cb {σ τ : Mem} {g : Nat → Int32} {f m i : Nat} {R : Nat → Int32} (hg : zBG g) (hc : zCB σ 3 g) (hf : f < znF g) (t0 : τ 10 0 = nI f) (t1 : τ 10 1 = nI m) (t2 : τ 10 2 = nI 0) (tw : ∀ k, k < znH g f → τ 11 k = if k < i then zoI (zth (zcan g f k) (znW g) 0 0) else R (7 + k)) (tf : ∀ x c, x ≠ 10 → x ≠ 11 → τ x c = σ x c) : zCB τ 3 (zgd g f m i R) := by
  have h6 : znH g f ≤ 6 := (hg.2.2.2.2.1 f hf).1.2
  have hF5 : znF g ≤ 5 := hg.2.1.2
  obtain ⟨e2, e3, e4, e5, e6⟩ := zgd_2 (g := g) (f := f) (m := m) (i := i) (R := R)
  refine zCB_dk (fun k hk => zgd_o hk) hg hc (fun a k p q r s => tf a k r s) ⟨by rw [e2]; exact t0, by rw [e3]; exact t1, ?_, fun f' hf' he k hk => ?_⟩
  · unfold zbt
    rw [e4, e5, e6, zi_ix (by omega)]
    exact t2
  · rw [e2] at he
    rw [zgd_nF] at hf'
    have : f' = f := by
      simp (disch := omega) only [zC] at he
      exact he.symm
    subst this
    rw [zgd_nH] at hk
    rw [zgd_w (by omega)]
    exact tw k hk
theorem z_op_desk {σ : Mem} {g : Nat → Int32} (h : zIv σ g) (p1 p2 : Int32) : zOp σ (fun σ => fX11_desk σ 0 p1 p2) (fun τ => fX12_desk τ 383 p1 p2) := by
  have hg := h.2.1
  have hc := h.2.2.1
  have hM := h.1
  have hN := h.2.2.2.1
  have hF : znF g ≤ 5 := hg.2.1.2
  rcases zrg p1 (n := znF g) (by omega) with ⟨f, hf, rfl⟩ | h1
  rotate_left
  · refine zO_e (r := -nI 2) (τ := σ) (υ := σ) ?_ ?_ h
    · unfold fX11_desk
      rw [Nat.zero_add, z_frameAtN hg hc h1]; rfl
    · unfold fX12_desk
      rw [z_isFrameN hg hM h1]; rfl
  rcases zrg p2 (n := 4) (by omega) with ⟨m, hm, rfl⟩ | h2
  rotate_left
  · refine zO_e (r := -nI 2) (τ := σ) (υ := σ) ?_ ?_ h
    · unfold fX11_desk
      rw [Nat.zero_add, z_frameAt hg hc hf]
      simp only [zE, zLT]
      rw [z_belowN h2]; rfl
    · unfold fX12_desk
      rw [z_isFrame hg hM hf]
      simp only [zE, zn01, zLT, if_false]
      rw [show (nI 3 : Int32) = nI (4 - 1) from rfl, z_isInX (by omega) (by omega) h2]; rfl
  obtain ⟨f5, hFm, hB, q3, q4, q5⟩ := zF_n hg hc hf
  have en : g (zfa f) = nI (znH g f) := hFm.1.1
  have h6' : ix (g (zfa f)) ≤ 6 := hFm.1.2
  have hW : znW g ≤ 20 := hg.1.2
  refine zO_op ?_
  show zW (fX11_desk σ 0 (nI f) (nI m)) _
  unfold fX11_desk
  rw [Nat.zero_add]
  refine zW_ob (z_frameAt hg hc hf) ?_
  rw [zE_ocss]
  refine zW_ob (z_below (b := 4) hm (by omega)) (zW_f zn01 ?_)
  obtain ⟨τ0, b1, b2, b3, b4, b5, b6⟩ := z_fillBegin (σ := σ) (F := 10) (a := nI f) (b := nI m) zl_c.2.2.2.2.2.1
  refine zW_ob b1 ?_
  refine zW_mono (P := fun r => r.1 = nI (znH g f) ∧ r.2 10 0 = nI f ∧ r.2 10 1 = nI m ∧ r.2 10 2 = nI 0 ∧ (∀ k, k < znH g f → r.2 11 k = zoI (zth (zcan g f k) (znW g) 0 0)) ∧ ∀ x c, x ≠ 10 → x ≠ 11 → r.2 x c = σ x c) ?_ ?_
  · refine zW_lp (fun i a => ∃ τ, a = (nI i, τ) ∧ τ 10 0 = nI f ∧ τ 10 1 = nI m ∧ τ 10 2 = nI 0 ∧ (∀ k, k < i → τ 11 k = zoI (zth (zcan g f k) (znW g) 0 0)) ∧ (∀ x c, x ≠ 10 → x ≠ 11 → τ x c = σ x c) ∧ ∀ k, i ≤ k → k < 6 → τ 11 k = -nI 1) (znH g f) ?_ (by unfold FU; omega) ⟨τ0, rfl, b2, b3, b4, fun k hk => absurd hk (by omega), b6, fun k _ q => b5 k q⟩
    rintro i a hi ⟨τ, rfl, t0, t1, t2, t3, t4, t5⟩
    have eq0 : τ (142 + 6 * f) 0 = nI (znH g f) := by rw [t4 _ _ (by omega) (by omega)]; exact q3
    unfold sX11_desk_39
    dsimp only
    refine zW_if (fun q => ?_) (fun q => ?_)
    · rw [eq0] at q
      simp (disch := omega) only [zC] at q
      have : i = znH g f := by omega
      subst this
      exact zW_oR (zW_so ⟨eq0, t0, t1, t2, t3, t4⟩)
    · rw [eq0] at q
      simp (disch := omega) only [zC] at q
      have hil : i < znH g f := by omega
      have cv : zCB τ 3 (zgd g f m i (fun _ => -nI 1)) := zgd_cb hg hc hf t0 t1 t2 (fun k hk => by
        by_cases e : k < i
        · rw [if_pos e]; exact t3 k e
        · rw [if_neg e]; exact t5 k (by omega) (by omega)) t4
      have gv : zBG (zgd g f m i (fun _ => -nI 1)) := zgd_ok hg hf hm (Or.inl fun _ => rfl)
      have nv : zNG τ := zNG_co hN (fun a k p q _ => t4 a k (by omega) (by omega)) (fun a k p q => t4 a k (by omega) (by omega))
      refine zW_ob (x := zoI (zth (zcan g f i) (znW g) 0 0)) ?_ ?_
      · have := z_wordFor (f := f) (i := i) (k := 0) gv cv nv (by rw [zgd_nF]; exact hf) (by rw [zgd_nH]; exact hil) (by omega)
        rw [zgd_can f (by omega), zgd_nW] at this
        exact this
      · refine zW_ob (z_fill (F := 10) zl_c.2.2.2.2.2.1 (by omega)) ?_
        refine zW_oL ⟨hil, mw τ 11 i (zoI (zth (zcan g f i) (znW g) 0 0)), by simp only [zLT, zI], by simp (disch := omega) only [zM]; exact t0, by simp (disch := omega) only [zM]; exact t1, by simp (disch := omega) only [zM]; exact t2, fun k hk => ?_, fun x c p q => by simp (disch := omega) only [zM]; exact t4 x c p q, fun k p q => by simp (disch := omega) only [zM]; exact t5 k (by omega) q⟩
        by_cases e : k = i
        · subst e; simp only [zM]
        · simp (disch := omega) only [zM]
          exact t3 k (by omega)
  rintro ⟨r, τ⟩ ⟨x0, x1, x2, x3, x4, x5⟩
  simp only at x0 x1 x2 x3 x4 x5
  subst x0
  dsimp only
  -- the model
  have hMt : zMG τ g := fun k hk => by rw [x5 _ _ (by omega) (by omega)]; exact hM k hk
  unfold fX12_desk
  refine zW_ob (z_isFrame hg hMt hf) (zW_f zn01 ?_)
  refine zW_ob (by rw [show (3 : Int32) = nI 3 from rfl, zLT.1]; exact z_isIn (by omega) (by omega) (by omega)) (zW_f zn01 ?_)
  refine zW_gd (by simp (disch := omega) only [zLT, Nat.reduceAdd, zl_c, zI]) ?_
  refine zW_bv (mw τ 384 2 (nI f)) (by simp (disch := omega) only [zLT, Nat.reduceAdd, zI]) ?_
  refine zW_gd (by simp (disch := omega) only [zLT, Nat.reduceAdd, zl_c, zI]) ?_
  refine zW_bv (mw (mw τ 384 2 (nI f)) 384 3 (nI m)) (by simp (disch := omega) only [zLT, Nat.reduceAdd, zI]) ?_
  refine zW_lp (fun i a => ∃ υ, a = (nI i, υ) ∧ i ≤ 3 ∧ υ 384 2 = nI f ∧ υ 384 3 = nI m ∧ (∀ k, k < i → υ 384 (4 + k) = nI 0) ∧ (∀ k, k < 517 → (k < 2 ∨ 7 ≤ k) → υ 384 k = g k) ∧ ∀ x c, x ≠ 384 → υ x c = τ x c) 3 ?_ (by unfold FU; omega)
    ⟨_, rfl, by omega, by simp (disch := omega) only [zM], by simp (disch := omega) only [zM], fun k hk => absurd hk (by omega), fun k hk q => by simp (disch := omega) only [zM]; exact hMt k hk, fun x c p => by simp (disch := omega) only [zM]⟩
  rintro i a hi ⟨υ, rfl, -, u2, u3, u4, u5, u6⟩
  unfold sX12_desk_36
  dsimp only
  refine zW_if (fun q => ?_) (fun q => ?_)
  · simp (disch := omega) only [zLT, zC] at q
    have : i = 3 := by omega
    subst this
    refine zW_oR ?_
    refine zW_lp (fun i a => ∃ ω, a = (nI i, ω) ∧ i ≤ znH g f ∧ (∀ k, k < 517 → ω 384 k = zgd g f m i g k) ∧ ∀ x c, x ≠ 384 → ω x c = τ x c) (znH g f) ?_ (by unfold FU; omega) ⟨υ, rfl, by omega, fun k hk => ?_, u6⟩
    rotate_left
    · unfold zgd
      by_cases c1 : k < 2 ∨ 13 ≤ k
      · rw [if_pos c1]; exact u5 k hk (by omega)
      · rw [if_neg c1]
        by_cases c2 : k = 2
        · subst c2; rw [if_pos rfl]; exact u2
        · rw [if_neg c2]
          by_cases c3 : k = 3
          · subst c3; rw [if_pos rfl]; exact u3
          · rw [if_neg c3]
            by_cases c4 : k < 7
            · rw [if_pos c4]
              have := u4 (k - 4) (by omega)
              rw [show 4 + (k - 4) = k by omega] at this
              exact this
            · rw [if_neg c4, if_neg (by omega)]; exact u5 k hk (by omega)
    rintro i a hi ⟨ω, rfl, -, w1, w2⟩
    have hH : zMH ω g := fun k hk q => by rw [w1 k hk, zgd_o q]
    unfold sX12_desk_58
    dsimp only
    refine zW_ob (z_holesH hH f5) ?_
    refine zW_if (fun r => ?_) (fun r => ?_)
    · rw [en] at r
      simp (disch := omega) only [zC] at r
      have : i = znH g f := by omega
      subst this
      refine zW_oR (zW_ob (z_holesH hH f5) ?_)
      rw [en]
      refine zW_so ⟨rfl, zgd g f m (znH g f) g, ?_⟩
      have e' : ∀ x c, x ≠ 10 → x ≠ 11 → x ≠ 384 → ω x c = σ x c := fun x c a b d => by rw [w2 x c d, x5 x c a b]
      show zIv ω (zgd g f m (znH g f) g)
      refine zIv_bk h (fun x c p => e' x c (by omega) (by omega) (by omega)) w1 (zgd_ok hg hf hm (Or.inr rfl)) (zgd_cb hg (zCB_co (σ := σ) (τ := fun a b => if a = 10 ∨ a = 11 then σ a b else ω a b) hg hc (fun a k p q => by
        by_cases e : a = 10 ∨ a = 11
        · simp only [if_pos e]
        · simp only [if_neg e]
          exact e' a k (by omega) (by omega) (by omega))) hf (by rw [w2 _ _ (by omega)]; exact x1) (by rw [w2 _ _ (by omega)]; exact x2) (by rw [w2 _ _ (by omega)]; exact x3) (fun k hk => by rw [w2 _ _ (by omega), x4 k hk, if_pos hk]) (fun x c a b => by rw [if_neg (by omega)])) ?_ ?_
      · exact zNG_co hN (fun a k p q _ => e' a k (by omega) (by omega) (by omega)) (fun a k p q => e' a k (by omega) (by omega) (by omega))
      · exact zTP_co h.2.2.2.2.2.1 (fun k => e' _ _ (by omega) (by omega) (by omega)) (fun k => e' _ _ (by omega) (by omega) (by omega)) (e' _ _ (by omega) (by omega) (by omega)) (fun k => e' _ _ (by omega) (by omega) (by omega))
    · rw [en] at r
      simp (disch := omega) only [zC] at r
      have hil : i < znH g f := by omega
      refine zW_ob (by rw [zLT.1]; exact z_ableAtH (k := 0) hg hH hf hil (by omega)) ?_
      refine zW_gd (by simp (disch := omega) only [zLT, Nat.reduceAdd, zl_c, zI]) ?_
      refine zW_bv (mw ω 384 (7 + i) (zoI (zth (zcan g f i) (znW g) 0 0))) (by simp (disch := omega) only [zLT, Nat.reduceAdd, zI]) ?_
      refine zW_oL ⟨hil, mw ω 384 (7 + i) (zoI (zth (zcan g f i) (znW g) 0 0)), by simp only [zLT, zI], hil, fun k hk => ?_, fun x c p => by simp (disch := omega) only [zM]; exact w2 x c p⟩
      by_cases e : k = 7 + i
      · subst e
        simp only [zM]
        rw [zgd_w (by omega), if_pos (by omega)]
      · simp (disch := omega) only [zM]
        rw [w1 k hk]
        unfold zgd
        by_cases c1 : k < 2 ∨ 13 ≤ k
        · rw [if_pos c1, if_pos c1]
        · rw [if_neg c1, if_neg c1]
          by_cases c2 : k = 2
          · rw [if_pos c2, if_pos c2]
          · rw [if_neg c2, if_neg c2]
            by_cases c3 : k = 3
            · rw [if_pos c3, if_pos c3]
            · rw [if_neg c3, if_neg c3]
              by_cases c4 : k < 7
              · rw [if_pos c4, if_pos c4]
              · rw [if_neg c4, if_neg c4]
                by_cases c5 : k < 7 + i
                · rw [if_pos c5, if_pos (by omega)]
                · rw [if_neg c5, if_neg (by omega)]
  · simp (disch := omega) only [zLT, zC] at q
    refine zW_gd (by simp (disch := omega) only [zLT, Nat.reduceAdd, zl_c, zI]) ?_
    refine zW_bv (mw υ 384 (4 + i) (nI 0)) (by simp (disch := omega) only [zLT, Nat.reduceAdd, zI]) ?_
    refine zW_oL ⟨by omega, mw υ 384 (4 + i) (nI 0), by simp only [zLT, zI], by omega, by simp (disch := omega) only [zM]; exact u2, by simp (disch := omega) only [zM]; exact u3, fun k hk => ?_, fun k hk q => by simp (disch := omega) only [zM]; exact u5 k hk q, fun x c p => by simp (disch := omega) only [zM]; exact u6 x c p⟩
    by_cases e : k = i
    · subst e; simp only [zM]
    · simp (disch := omega) only [zM]
      exact u4 k (by omega)
