/-- the words of the desk in the law's frame -/
def yws (k : Nat) : Nat := if k = 0 then 1 else if k = 1 then 2 else if k = 2 then 4 else 0
/-- what the law has of its book: a frame of four holes, all filled, mood 1, numbers 0; no text; an ending that is empty -/
def yG (g : Nat → Int32) : Prop := znF g = 1 ∧ znH g 0 = 4 ∧ zFd g 0 yws ∧ zbt g = 0 ∧ g 3 = nI 1 ∧ g 13 = nI 0 ∧ g (zea 10) = nI 0 ∧ 6 ≤ znW g
/-- what is said -/
def ySay (g : Nat → Int32) : List Nat := zlc (zsi g 0 yws 0 1) 4
theorem ySay_ok {g : Nat → Int32} (hg : zBG g) (h : yG g) : ∀ k, k < 4 → zLs (zsi g 0 yws 0 1 k) ∧ 1 ≤ (zsi g 0 yws 0 1 k).length ∧ (zsi g 0 yws 0 1 k).length ≤ 10 := fun k hk =>
  zsi_len hg h.2.2.1.1 (by rw [h.2.1]; exact hk) (by omega) (fun k hk => (h.2.2.1.2.2 k hk).1)
theorem ySay_len {g : Nat → Int32} (hg : zBG g) (h : yG g) : (ySay g).length ≤ 44 := zlc_len (F := zsi g 0 yws 0 1) (n := 4) (fun k hk => (ySay_ok hg h k hk).2.2)
theorem y_sayDesk {σ : Mem} {g : Nat → Int32} (h : yB σ g) (hG : yG g) : ∃ τ, fX11_sayDesk σ 0 = some (nI 1, τ) ∧ zL τ 353 (ySay g) ∧ τ 350 3 = nI 4 ∧ (∀ k, k < 4 → τ 355 k = nI (zsi g 0 yws 0 1 k).length) ∧ zSy σ τ := by
  obtain ⟨hg, hc, hN⟩ := h
  obtain ⟨g1, g2, g3, g4, g5, -⟩ := hG
  obtain ⟨d1, d2, d3, d4⟩ := hc.2.2.2.2.2.2
  obtain ⟨τ, t1, t2, t3, t4, t5⟩ := z_deskX (nb := 0) (m := 1) hg hc hN g3 (by omega) (by omega)
  rw [g2] at t2 t3 t4
  refine ⟨τ, ?_, t2, t3, t4, t5⟩
  unfold fX11_sayDesk
  simp only [Nat.zero_add]
  rw [show σ (3 + 7) 1 = nI 1 from d2.trans g5, show σ (3 + 7) 2 = nI 0 from by rw [← g4]; exact d3, t1]
  rfl
theorem yB_sy {σ τ : Mem} {g : Nat → Int32} (h : yB σ g) (e : zSy σ τ) : yB τ g := yB_co h (fun a k p q => e a k (by omega))
theorem y_said {σ : Mem} {g : Nat → Int32} (h : yB σ g) (hG : yG g) (p : Int32) : ∃ τ, fX11_said σ 0 p = some (zsl (ySay g) p, τ) ∧ zSy σ τ := by
  obtain ⟨τ, t1, t2, t3, t4, t5⟩ := y_sayDesk h hG
  have := ySay_len h.1 hG
  refine ⟨τ, ?_, t5⟩
  refine zW_val ?_
  unfold fX11_said
  refine zW_ob t1 ?_
  exact zW_ob (z_sizeOrLetter (i := 353) t2 zl_354 (by omega) (by omega)) (zW_so rfl)
theorem y_count0 {σ : Mem} {g : Nat → Int32} (h : yB σ g) : fX11_count σ 0 (nI 0) = some (g 0, σ) := by
  unfold fX11_count
  simp only [zLT]
  rw [if_pos trivial]
  rw [Nat.zero_add, h.2.1.1.1]
theorem y_count1 {σ : Mem} {g : Nat → Int32} (h : yB σ g) : fX11_count σ 0 (nI 1) = some (g 1, σ) := by
  unfold fX11_count
  simp only [zLT]
  rw [if_neg (by decide +kernel), if_pos trivial]
  rw [Nat.zero_add, h.2.1.1.2]
theorem y_count2 {σ : Mem} {g : Nat → Int32} (h : yB σ g) (h0 : g 13 = nI 0) : fX11_count σ 0 (nI 2) = some (nI 0, σ) := by
  have e : ztt g = [] := by
    unfold ztt
    rw [h0]
    rfl
  have q := h.2.1.2.2.2.2.2.1
  rw [e] at q
  refine zW_val ?_
  unfold fX11_count
  refine zW_f (by decide +kernel) (zW_f (by decide +kernel) (zW_t rfl ?_))
  refine zW_ob (z_words (i := 8) q (zl_c.2.2.2.2.1) (by simp) (by omega)) ?_
  exact zW_so rfl
theorem y_count5 {σ : Mem} : fX11_count σ 0 (nI 5) = some (-nI 2, σ) := by
  unfold fX11_count
  simp only [zLT]
  rw [if_neg (by decide +kernel), if_neg (by decide +kernel), if_neg (by decide +kernel), if_neg (by decide +kernel), if_neg (by decide +kernel)]
theorem y_told2 {σ : Mem} {g : Nat → Int32} {w : Nat} (h : yB σ g) (hw : w < znW g) : fX11_told σ 0 (nI w) (nI 2) = some (g (zwa w + 2)) := by
  obtain ⟨b1, b2, b3, b4⟩ := h.2.1.2.2.1 w hw
  rw [show 3 + 9 + 3 * w = 12 + 3 * w by omega] at b3
  have xa : ∀ p2, fX11_told σ 0 (nI w) p2 = (if p2 = nI 0 then some (σ (12 + 3 * w) 2) else if p2 = nI 1 then some (σ (12 + 3 * w) 3) else if p2 = nI 2 then some (σ (12 + 3 * w) 4) else if p2 = nI 3 then some (σ (12 + 3 * w + 1) 1) else some (-nI 2)) := by
    intro p2
    unfold fX11_told
    rw [Nat.zero_add, z_wordAt h.1 h.2.1 hw]
    rfl
  rw [xa, if_neg (by decide +kernel), if_neg (by decide +kernel), if_pos rfl, b3]
theorem y_told4 {σ : Mem} {g : Nat → Int32} (h : yB σ g) (hw : 0 < znW g) : fX11_told σ 0 (nI 0) (nI 4) = some (-nI 2) := by
  unfold fX11_told
  rw [Nat.zero_add, z_wordAt h.1 h.2.1 hw]
  rfl
theorem y_toldN {σ : Mem} {g : Nat → Int32} {p : Int32} (h : yB σ g) : fX11_told σ 0 (nI (znW g)) p = some (-nI 2) := by
  have := h.1.1.2
  unfold fX11_told
  rw [Nat.zero_add, z_wordAtN h.1 h.2.1 (Or.inr (Int32.le_refl _))]
  rfl
theorem y_takenN {σ : Mem} {g : Nat → Int32} (h : yB σ g) (hw : 0 < znW g) : fX11_taken σ 0 (nI 0) (nI 6) = some (-nI 2, σ) := by
  unfold fX11_taken
  rw [Nat.zero_add, z_wordAt h.1 h.2.1 hw]
  simp only [zE, zLT]
  rw [z_belowN (Or.inr (Int32.le_refl _))]; rfl
/-- taken(w, k): the length of its form, or not of that kind -/
theorem y_taken {σ : Mem} {g : Nat → Int32} {w k : Nat} (h : yB σ g) (hw : w < znW g) (hk : k < 6) : (zund (ix (g (zwa w))) k = false ∧ fX11_taken σ 0 (nI w) (nI k) = some (-nI 13, σ)) ∨ (zund (ix (g (zwa w))) k = true ∧ ∃ τ, fX11_taken σ 0 (nI w) (nI k) = some (nI (zform g w 1 1 (ix (g (zwa w + 2))) 1).length, τ) ∧ ∀ x c, x ≠ 348 → x ≠ 349 → τ x c = σ x c) := by
  obtain ⟨hg, hc, hN⟩ := h
  have hW : znW g ≤ 20 := hg.1.2
  have w0 := (hg.2.2.1 w hw).1
  have w1 := w0.2
  have w4 := (hg.2.2.1 w hw).2.2.1
  have w5 := w4.2
  obtain ⟨b1, b2, b3, b4⟩ := hc.2.2.1 w hw
  rw [show 3 + 9 + 3 * w = 12 + 3 * w by omega] at b1 b2 b3 b4
  rw [w0.1] at b1
  rw [w4.1] at b3
  have pre : ∀ Q : Int32 × Mem → Prop, zW (if (if zund (ix (g (zwa w))) k then nI 1 else nI 0 : Int32) = 0 then (some ((-13 : Int32), σ)) else (obd (fX0_spell σ 3 (12 + 3 * w) (((1 : Int32) + (4 : Int32)) + (σ (12 + 3 * w) 4) * (8 : Int32) + (24 : Int32)) 348) (fun q => some ((q 348 1), q)))) Q → zW (fX11_taken σ 0 (nI w) (nI k)) Q := by
    intro Q hQ
    unfold fX11_taken
    rw [Nat.zero_add]
    refine zW_ob (z_wordAt hg hc hw) ?_
    rw [zE_ocss]
    refine zW_ob (z_below (b := 6) hk (by omega)) (zW_f zn01 ?_)
    refine zW_ob (z_isOf b1 w1 (by omega)) ?_
    exact hQ
  cases hz : zund (ix (g (zwa w))) k with
  | false =>
    refine Or.inl ⟨rfl, zW_val (pre _ ?_)⟩
    rw [hz]
    exact zW_t rfl (zW_so rfl)
  | true =>
    obtain ⟨τ, t1, t2, t3⟩ := z_spell (o := 348) (v := 5 + ix (g (zwa w + 2)) * 8 + 24) hg hc hN hw (by omega) (by omega) zl_348
    rw [show (5 + ix (g (zwa w + 2)) * 8 + 24) % 4 = 1 by omega, show (5 + ix (g (zwa w + 2)) * 8 + 24) / 4 % 2 = 1 by omega, show (5 + ix (g (zwa w + 2)) * 8 + 24) / 8 % 3 = ix (g (zwa w + 2)) by omega, show (5 + ix (g (zwa w + 2)) * 8 + 24) / 24 = 1 by omega] at t2
    refine Or.inr ⟨rfl, τ, zW_val (pre _ ?_), t3⟩
    rw [hz]
    refine zW_f zn01 (zW_ob (x := τ) (by rw [b3]; simp only [zLT, zI]; exact t1) (zW_so ?_))
    rw [t2.1]
theorem y_form {σ : Mem} {g : Nat → Int32} {w : Nat} (h : yB σ g) (hw : w < znW g) : ∃ τ, fX11_form σ 0 (nI w) (nI (5 + 8 * ix (g (zwa w + 2)) + 24)) (-nI 1) = some (nI (zform g w 1 1 (ix (g (zwa w + 2))) 1).length, τ) ∧ ∀ x c, x ≠ 348 → x ≠ 349 → τ x c = σ x c := by
  obtain ⟨hg, hc, hN⟩ := h
  have w5 := (hg.2.2.1 w hw).2.2.1.2
  generalize hv : 5 + 8 * ix (g (zwa w + 2)) + 24 = v
  have hv96 : v < 96 := by omega
  obtain ⟨τ, t1, t2, t3⟩ := z_spell (o := 348) (v := v) hg hc hN hw hv96 (by omega) zl_348
  have hok := zform_ok (c := v % 4) (n := v / 4 % 2) (d := v / 8 % 3) (m := v / 24) hg hw (by omega) (by omega) (by omega)
  refine ⟨τ, zW_val ?_, t3⟩
  unfold fX11_form
  rw [Nat.zero_add]
  refine zW_ob (z_wordAt hg hc hw) ?_
  rw [zE_ocss]
  refine zW_ob (z_below (b := 96) hv96 (by omega)) (zW_f zn01 ?_)
  refine zW_ob (x := τ) t1 ?_
  refine zW_ob (z_sizeOrLetter (i := 348) t2 zl_348 hok.2.2 (by omega)) (zW_so ?_)
  unfold zsl
  rw [if_pos rfl, show v % 4 = 1 by omega, show v / 4 % 2 = 1 by omega, show v / 8 % 3 = ix (g (zwa w + 2)) by omega, show v / 24 = 1 by omega]
/-- the desk anew -/
theorem y_desk {σ : Mem} {g : Nat → Int32} {f m : Nat} (h : yB σ g) (hf : f < znF g) (hm : m < 4) : ∃ τ, fX11_desk σ 0 (nI f) (nI m) = some (nI (znH g f), τ) ∧ yB τ (zgd g f m (znH g f) g) ∧ ∀ x c, x ≠ 10 → x ≠ 11 → τ x c = σ x c := by
  obtain ⟨hg, hc, hN⟩ := h
  have hF : znF g ≤ 5 := hg.2.1.2
  obtain ⟨f5, hFm, hB, q3, q4, q5⟩ := zF_n hg hc hf
  have en : g (zfa f) = nI (znH g f) := hFm.1.1
  have h6' : ix (g (zfa f)) ≤ 6 := hFm.1.2
  have hW : znW g ≤ 20 := hg.1.2
  obtain ⟨τ0, b1, b2, b3, b4, b5, b6⟩ := z_fillBegin (σ := σ) (F := 10) (a := nI f) (b := nI m) zl_c.2.2.2.2.2.1
  have key : zW (fX11_desk σ 0 (nI f) (nI m)) (fun r => r.1 = nI (znH g f) ∧ r.2 10 0 = nI f ∧ r.2 10 1 = nI m ∧ r.2 10 2 = nI 0 ∧ (∀ k, k < znH g f → r.2 11 k = zoI (zth (zcan g f k) (znW g) 0 0)) ∧ ∀ x c, x ≠ 10 → x ≠ 11 → r.2 x c = σ x c) := by
    unfold fX11_desk
    rw [Nat.zero_add]
    refine zW_ob (z_frameAt hg hc hf) ?_
    rw [zE_ocss]
    refine zW_ob (z_below (b := 4) hm (by omega)) (zW_f zn01 ?_)
    refine zW_ob b1 ?_
    refine zW_lp (fun i a => ∃ τ, a = (nI i, τ) ∧ τ 10 0 = nI f ∧ τ 10 1 = nI m ∧ τ 10 2 = nI 0 ∧ (∀ k, k < i → τ 11 k = zoI (zth (zcan g f k) (znW g) 0 0)) ∧ (∀ x c, x ≠ 10 → x ≠ 11 → τ x c = σ x c) ∧ ∀ k, i ≤ k → k < 6 → τ 11 k = -nI 1) (znH g f) ?_ (by unfold FU; omega) ⟨τ0, rfl, b2, b3, b4, fun k hk => absurd hk (by omega), b6, fun k _ q => b5 k q⟩
    rintro i a hi ⟨τ, rfl, t0, t1, t2, t3, t4, t5⟩
    have eq0 : τ (142 + 6 * f) 0 = nI (znH g f) := by rw [t4 _ _ (by omega) (by omega)]; exact q3
    unfold sX11_desk_39
    dsimp only
    refine zW_if (fun q => ?_) (fun q => ?_)
    · rw [eq0] at q
      simp (disch := omega) only [zC] at q
      have : i = znH g f := by omega
      subst this
      exact zW_oR (zW_so ⟨eq0, t0, t1, t2, t3, t4⟩)
    · rw [eq0] at q
      simp (disch := omega) only [zC] at q
      have hil : i < znH g f := by omega
      have cv : zCB τ 3 (zgd g f m i (fun _ => -nI 1)) := zgd_cb hg hc hf t0 t1 t2 (fun k hk => by
        by_cases e : k < i
        · rw [if_pos e]; exact t3 k e
        · rw [if_neg e]; exact t5 k (by omega) (by omega)) t4
      have gv : zBG (zgd g f m i (fun _ => -nI 1)) := zgd_ok hg hf hm (Or.inl fun _ => rfl)
      have nv : zNG τ := zNG_co hN (fun a k p q _ => t4 a k (by omega) (by omega)) (fun a k p q => t4 a k (by omega) (by omega))
      refine zW_ob (x := zoI (zth (zcan g f i) (znW g) 0 0)) ?_ ?_
      · have := z_wordFor (f := f) (i := i) (k := 0) gv cv nv (by rw [zgd_nF]; exact hf) (by rw [zgd_nH]; exact hil) (by omega)
        rw [zgd_can f (by omega), zgd_nW] at this
        exact this
      · refine zW_ob (z_fill (F := 10) zl_c.2.2.2.2.2.1 (by omega)) ?_
        refine zW_oL ⟨hil, mw τ 11 i (zoI (zth (zcan g f i) (znW g) 0 0)), by simp only [zLT, zI], by simp (disch := omega) only [zM]; exact t0, by simp (disch := omega) only [zM]; exact t1, by simp (disch := omega) only [zM]; exact t2, fun k hk => ?_, fun x c p q => by simp (disch := omega) only [zM]; exact t4 x c p q, fun k p q => by simp (disch := omega) only [zM]; exact t5 k (by omega) q⟩
        by_cases e : k = i
        · subst e; simp only [zM]
        · simp (disch := omega) only [zM]
          exact t3 k (by omega)
  obtain ⟨⟨r, τ⟩, er, x0, x1, x2, x3, x4, x5⟩ := key
  dsimp only at x0 x1 x2 x3 x4 x5
  subst x0
  refine ⟨τ, er, ⟨zgd_ok hg hf hm (Or.inr rfl), zgd_cb hg hc hf x1 x2 x3 (fun k hk => ?_) x5, zNG_co hN (fun a k p q _ => x5 a k (by omega) (by omega)) (fun a k p q => x5 a k (by omega) (by omega))⟩, x5⟩
  rw [if_pos hk]
  exact x4 k hk
/-- image and back -/
theorem y_image {σ : Mem} {g : Nat → Int32} (h : yB σ g) : ∃ τ, fX11_image σ 0 = some (g 0, τ) ∧ zCB τ 172 g ∧ τ 0 3 = nI 1 ∧ ∀ x k, ¬ (172 ≤ x ∧ x < 341) → x ≠ 0 → τ x k = σ x k := by
  obtain ⟨τ, t1, t2, t3, t4⟩ := z_bookCp (b := 172) (c := 3) (Or.inr ⟨rfl, rfl⟩) h.1 h.2.1
  refine ⟨mw τ 0 3 (nI 1), zW_val ?_, zCB_co h.1 t2 (fun a k p q => by simp (disch := omega) only [zM]), by simp only [zM], fun x k p q => ?_⟩
  · unfold fX11_image
    simp only [Nat.zero_add]
    refine zW_ob t1 (zW_bv (mw τ 0 3 (nI 1)) rfl (zW_so ?_))
    have r1 : (mw τ 0 3 (nI 1)) 172 1 = g 0 := by simp (disch := omega) only [zM]; exact t3
    rw [r1]
  · simp (disch := omega) only [zM]
    exact t4 x k (by omega) (by omega) (by omega) (by omega) (by omega)
theorem y_back {σ : Mem} {g g' : Nat → Int32} (hg : zBG g) (h : zCB σ 172 g) (h1 : σ 0 3 = nI 1) (hn : zNG σ) : ∃ τ, fX11_back σ 0 = some (g 0, τ) ∧ yB τ g ∧ ∀ x k, ¬ (3 ≤ x ∧ x < 172) → τ x k = σ x k := by
  obtain ⟨τ, t1, t2, t3, t4⟩ := z_bookCp (b := 3) (c := 172) (Or.inl ⟨rfl, rfl⟩) hg h
  refine ⟨τ, zW_val ?_, ⟨hg, t2, ?_⟩, fun x k p => t4 x k (by omega) (by omega) (by omega) (by omega) (by omega)⟩
  · unfold fX11_back
    simp only [Nat.zero_add]
    refine zW_f (by rw [h1]; exact zn01) (zW_ob t1 (zW_so ?_))
    rw [t3]
  · have o3 : ∀ a k, 136 ≤ a → a < 142 → τ a k = σ a k := fun a k p q => t4 a k (by omega) (by omega) (by omega) (by omega) (by omega)
    exact ⟨fun w hw => by rw [t4 (12 + 3 * w) 0 (by omega) (by omega) (by omega) (by omega) (by omega)]; exact hn.1 w hw, zL_cb hn.2.1 (fun a k p q => o3 a k (by omega) (by omega)), zL_cb hn.2.2.1 (fun a k p q => o3 a k (by omega) (by omega)), zL_cb hn.2.2.2 (fun a k p q => o3 a k (by omega) (by omega))⟩
