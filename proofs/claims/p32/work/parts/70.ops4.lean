theorem ztt_ok {g : Nat → Int32} (hg : zBG g) : (ztt g).length = ix (g 13) ∧ (ztt g).length ≤ 50 ∧ ∀ k, k < (ztt g).length → g (467 + k) = nI ((ztt g).getD k 0) ∧ (ztt g).getD k 0 ≤ 127 := by
  have e : (ztt g).length = ix (g 13) := ztx_len _ _ _
  have h13 := hg.2.2.2.2.2.1.1.2
  refine ⟨e, by omega, fun k hk => ?_⟩
  have q := hg.2.2.2.2.2.1.2 k (by omega)
  have : (ztt g).getD k 0 = ix (g (467 + k)) := by
    unfold ztt
    exact ztx_get (by omega)
  rw [this]
  exact q
theorem z_takesText {σ : Mem} {g : Nat → Int32} (hg : zBG g) (hM : zMG σ g) : ∃ τ, fX12_takesText σ 383 = some τ ∧ zLn τ (ztt g) ∧ ∀ x c, ¬ (x = 383 ∧ c = 13) → x ≠ 389 → τ x c = σ x c := by
  obtain ⟨t1, t2, t3⟩ := ztt_ok hg
  have e13 : g 13 = nI (ztt g).length := by rw [t1]; exact hg.2.2.2.2.2.1.1.1
  unfold fX12_takesText
  refine zW_gd (by simp (disch := omega) only [zLT, Nat.reduceAdd, zl_c, zI]) ?_
  refine zW_bv (mw σ 383 13 (nI (ztt g).length)) ?_ ?_
  · have : σ (383 + 1) (ix 13) = nI (ztt g).length := by simp (disch := omega) only [zLT, Nat.reduceAdd, zI]; exact (hM 13 (by omega)).trans e13
    rw [this]
  refine zW_lp (fun n a => ∃ τ, a = (nI n, τ) ∧ n ≤ (ztt g).length ∧ τ 383 13 = nI (ztt g).length ∧ (∀ k, k < n → τ 389 k = nI ((ztt g).getD k 0)) ∧ ∀ x c, ¬ (x = 383 ∧ c = 13) → x ≠ 389 → τ x c = σ x c) (ztt g).length ?_ (by unfold FU; omega) ⟨_, rfl, Nat.zero_le _, by simp only [zM], fun k hk => absurd hk (by omega), fun x c p q => by simp (disch := omega) only [zM]⟩
  rintro n a hn ⟨τ, rfl, -, u1, u2, u3⟩
  unfold sX12_takesText_13
  dsimp only
  refine zW_if (fun q => ?_) (fun q => ?_)
  · rw [u1] at q
    simp (disch := omega) only [zC] at q
    have : n = (ztt g).length := by omega
    subst this
    exact zW_oR (zW_so ⟨⟨u1, u2⟩, u3⟩)
  · rw [u1] at q
    simp (disch := omega) only [zC] at q
    refine zW_gd (by simp (disch := omega) only [zLT, Nat.reduceAdd, zl_c, zI]) (zW_gd (by simp (disch := omega) only [zLT, Nat.reduceAdd, zl_c, zI]) ?_)
    have e : τ 384 (467 + n) = nI ((ztt g).getD n 0) := by rw [u3 _ _ (by omega) (by omega), hM _ (by omega)]; exact (t3 n (by omega)).1
    refine zW_bv (mw τ 389 n (nI ((ztt g).getD n 0))) (by simp (disch := omega) only [zLT, Nat.reduceAdd, zI, e]) ?_
    refine zW_oL ⟨by omega, mw τ 389 n (nI ((ztt g).getD n 0)), by simp only [zLT, zI], by omega, by simp (disch := omega) only [zM]; exact u1, fun k hk => ?_, fun x c p q => by simp (disch := omega) only [zM]; exact u3 x c p q⟩
    by_cases q : k = n
    · subst q; simp only [zM]
    · simp (disch := omega) only [zM]
      exact u2 k (by omega)
theorem zRq_text {σ : Mem} {g : Nat → Int32} (h : zIv σ g) : zRq σ g 8 (ztt g) := by
  have t := ztt_ok h.2.1
  exact ⟨h.2.1, h.2.2.1, h.2.2.2.1, h.2.2.1.2.2.2.2.2.1, by omega, by rw [show ln (8 + 1) = 50 from zl_c.2.2.2.2.1]; omega, by rw [show ln (8 + 1) = 50 from zl_c.2.2.2.2.1]; exact t.2.1⟩
theorem zFr_rf {σ τ : Mem} (h : zRf σ τ) : zFr σ τ := fun x c p => h x c (fun q => p (by unfold zsc; omega))
theorem zFr_mc {σ τ : Mem} (h : zMc σ τ) : zFr σ τ := fun x c p => h x c (fun q => p (by unfold zsc; omega)) (fun q => p (by unfold zsc; omega)) (fun q => p (by unfold zsc; omega)) (fun q => p (by unfold zsc; omega)) (fun q => p (by unfold zsc; omega)) (fun q => p (by unfold zsc; omega))
theorem zFr_tx {σ τ : Mem} (h : ∀ x c, ¬ (x = 383 ∧ c = 13) → x ≠ 389 → τ x c = σ x c) : zFr σ τ := fun x c p => h x c (fun q => p (by unfold zsc; omega)) (fun q => p (by unfold zsc; omega))
theorem zFr_pm {σ τ : Mem} (h : zPm σ τ) : zFr σ τ := fun x c p => h x c (fun q => p (by unfold zsc; omega)) (fun q => p (by unfold zsc; omega)) (fun q => p (by unfold zsc; omega))
theorem zFr_m2 {σ τ : Mem} (h : zFm2 σ τ) : zFr σ τ := fun x c p => h x c (fun q => p (by unfold zsc; omega)) (fun q => p (by unfold zsc; omega)) (fun q => p (by unfold zsc; omega)) (fun q => p (by unfold zsc; omega))
theorem zQm_text {σ τ : Mem} {g : Nat → Int32} (hg : zBG g) (hM : zMG σ g) (hl : zLn τ (ztt g)) (e : ∀ x c, ¬ (x = 383 ∧ c = 13) → x ≠ 389 → τ x c = σ x c) : zQm τ g (ztt g) := by
  have t := ztt_ok hg
  exact ⟨hg, fun k hk => by rw [e _ _ (by omega) (by omega)]; exact hM k hk, hl, by omega, fun k hk => by have := (t.2.2 k hk).2; omega⟩
theorem z_op_readings {σ : Mem} {g : Nat → Int32} (h : zIv σ g) (p1 : Int32) : zOp σ (fun σ => fX11_readings σ 0 p1) (fun τ => fX12_readings τ 383 p1) := by
  rcases zrg p1 (n := 3) (by omega) with ⟨k, hk, rfl⟩ | h1
  rotate_left
  · refine zO_e (r := -nI 2) (τ := σ) (υ := σ) ?_ ?_ h
    · unfold fX11_readings
      rcases h1 with h1 | h1
      · rw [if_pos h1]; rfl
      · by_cases h0 : p1 < 0
        · rw [if_pos h0]; rfl
        · rw [if_neg h0, if_neg]; · rfl
          · obtain ⟨j, hj, rfl⟩ := nI_of h0
            simp (disch := omega) only [zLT, zC] at h1 ⊢
            omega
    · unfold fX12_readings
      rw [show (2 : Int32) = nI (3 - 1) from rfl, zLT.1, z_isInX (by omega) (by omega) h1]; rfl
  obtain ⟨τ, t1, t5, t6, t7, tf⟩ := z_countReadings (zRq_text h)
  have fr := zFr_rf tf
  refine zO_op ?_
  show zW (fX11_readings σ 0 (nI k)) _
  unfold fX11_readings
  refine zW_f (nI_pos (by omega)) (zW_t (by simp (disch := omega) only [zLT, zC]; omega) ?_)
  refine zW_ob (x := τ) (by simp only [Nat.zero_add, Nat.reduceAdd]; exact t1) ?_
  simp only [Nat.zero_add]
  rw [t5, t6, t7]
  have mm : ∀ (Q : Int32 × Mem → Prop), (∀ ω, (∃ g, zIv ω g) → Q (if (nI k : Int32) = nI 0 then (zcr g (ztt g) (4 * znF g)).1 else if (nI k : Int32) = nI 1 then (zcr g (ztt g) (4 * znF g)).2.1 else (zcr g (ztt g) (4 * znF g)).2.2, ω)) → zW (fX12_readings τ 383 (nI k)) Q := by
    intro Q hQ
    unfold fX12_readings
    refine zW_ob (by rw [show (2 : Int32) = nI 2 from rfl, zLT.1]; exact z_isIn (by omega) (by omega) (by omega)) (zW_f zn01 ?_)
    obtain ⟨υ, u1, u2, u3⟩ := z_takesText h.2.1 (zMG_fr h.1 fr)
    refine zW_ob u1 ?_
    obtain ⟨ω, o1, o2, o3, o4⟩ := z_counted (zQm_text h.2.1 (zMG_fr h.1 fr) u2 u3)
    refine zW_ob o1 ?_
    have iv : ∃ g, zIv ω g := ⟨g, zIv_fr h (zFr_trans fr (zFr_trans (zFr_tx u3) (zFr_mc o4)))⟩
    have := hQ ω iv
    refine zW_if (fun q => zW_so ?_) (fun q => zW_if (fun q' => zW_so ?_) (fun q' => zW_so ?_))
    · have q : (nI k : Int32) = nI 0 := q
      rw [if_pos q] at this; exact this
    · have q : ¬ (nI k : Int32) = nI 0 := q
      have q' : (nI k : Int32) = nI 1 := q'
      rw [if_neg q, if_pos q'] at this
      dsimp only
      rw [o2]; exact this
    · have q : ¬ (nI k : Int32) = nI 0 := q
      have q' : ¬ (nI k : Int32) = nI 1 := q'
      rw [if_neg q, if_neg q'] at this
      dsimp only
      rw [o3]; exact this
  refine zW_if (fun q => zW_so (mm _ (fun ω iv => ⟨?_, iv⟩))) (fun q => zW_if (fun q' => zW_so (mm _ (fun ω iv => ⟨?_, iv⟩))) (fun q' => zW_so (mm _ (fun ω iv => ⟨?_, iv⟩))))
  · have q : (nI k : Int32) = nI 0 := q
    simp only [if_pos q]
  · have q : ¬ (nI k : Int32) = nI 0 := q
    have q' : (nI k : Int32) = nI 1 := q'
    simp only [if_neg q, if_pos q']
  · have q : ¬ (nI k : Int32) = nI 0 := q
    have q' : ¬ (nI k : Int32) = nI 1 := q'
    simp only [if_neg q, if_neg q']
theorem z_op_near {σ : Mem} {g : Nat → Int32} (h : zIv σ g) (p1 : Int32) : zOp σ (fun σ => fX11_near σ 0 p1) (fun τ => fX12_near τ 383 p1) := by
  rcases zrg p1 (n := 2) (by omega) with ⟨k, hk, rfl⟩ | h1
  rotate_left
  · refine zO_e (r := -nI 2) (τ := σ) (υ := σ) ?_ ?_ h
    · unfold fX11_near
      rcases h1 with h1 | h1
      · rw [if_pos h1]; rfl
      · by_cases h0 : p1 < 0
        · rw [if_pos h0]; rfl
        · rw [if_neg h0, if_neg]; · rfl
          · obtain ⟨j, hj, rfl⟩ := nI_of h0
            simp (disch := omega) only [zLT, zC] at h1 ⊢
            omega
    · unfold fX12_near
      rw [show (1 : Int32) = nI (2 - 1) from rfl, zLT.1, z_isInX (by omega) (by omega) h1]; rfl
  obtain ⟨τ, t1, t8, t9, tf⟩ := z_findNearest (zRq_text h)
  have fr := zFr_rf tf
  refine zO_op ?_
  show zW (fX11_near σ 0 (nI k)) _
  unfold fX11_near
  refine zW_f (nI_pos (by omega)) (zW_t (by simp (disch := omega) only [zLT, zC]; omega) ?_)
  refine zW_ob (x := τ) (by simp only [Nat.zero_add, Nat.reduceAdd]; exact t1) ?_
  simp only [Nat.zero_add]
  rw [t8, t9]
  have mm : ∀ (Q : Int32 × Mem → Prop), (∀ ω, (∃ g, zIv ω g) → Q (if (nI k : Int32) = nI 1 then (zne g (ztt g) (4 * znF g)).2 else if (zne g (ztt g) (4 * znF g)).2 = -nI 1 then -nI 1 else nI (zne g (ztt g) (4 * znF g)).1, ω)) → zW (fX12_near τ 383 (nI k)) Q := by
    intro Q hQ
    unfold fX12_near
    refine zW_ob (by rw [show (1 : Int32) = nI 1 from rfl, zLT.1]; exact z_isIn (by omega) (by omega) (by omega)) (zW_f zn01 ?_)
    obtain ⟨υ, u1, u2, u3⟩ := z_takesText h.2.1 (zMG_fr h.1 fr)
    refine zW_ob u1 ?_
    obtain ⟨ω0, a1, a2, a3⟩ := zQm_parts (zQm_text h.2.1 (zMG_fr h.1 fr) u2 u3)
    refine zW_ob a1 ?_
    obtain ⟨ω, o1, o2⟩ := z_nearLoop (p1 := nI k) a2
    refine zW_eq o1 ?_
    exact hQ ω ⟨g, zIv_fr h (zFr_trans fr (zFr_trans (zFr_tx u3) (zFr_trans (zFr_pm a3) (zFr_m2 o2))))⟩
  refine zW_if (fun q => zW_so (mm _ (fun ω iv => ⟨?_, iv⟩))) (fun q => zW_so (mm _ (fun ω iv => ⟨?_, iv⟩)))
  · have q' : ¬ (nI k : Int32) = nI 1 := by
      have q : (nI k : Int32) = nI 0 := q
      rw [q]; decide +kernel
    simp only [if_neg q']
  · have q' : (nI k : Int32) = nI 1 := by
      have q : ¬ (nI k : Int32) = nI 0 := q
      simp (disch := omega) only [zC] at q ⊢
      omega
    simp only [if_pos q']
theorem zcr_nil {g : Nat → Int32} (hg : zBG g) : ∀ i, i ≤ 4 * znF g → zcr g [] i = (nI 0, -nI 1, -nI 1) := by
  intro i
  induction i with
  | zero => intro _; rfl
  | succ i ih =>
    intro hi
    rw [zcr_s, if_neg, ih (by omega)]
    have := (hg.2.2.2.2.1 (i / 4) (by omega)).2.1
    show ¬ znH g (i / 4) = 0
    omega
/-- the text that is drawn -/
def zdl (g : Nat → Int32) (seed : Int32) : List Nat := if (List.range (znH g (zdf g seed))).all (fun k => (zdo g (zdf g seed) (zd5 seed) k).isSome) then zlc (zsi g (zdf g seed) (fun k => (zdo g (zdf g seed) (zd5 seed) k).getD 0) (zdn seed) (zdm seed)) (znH g (zdf g seed)) else []
theorem zdl_t {g : Nat → Int32} {seed : Int32} (h : ∀ k, k < znH g (zdf g seed) → ∃ w, zdo g (zdf g seed) (zd5 seed) k = some w) : zdl g seed = zlc (zsi g (zdf g seed) (fun k => (zdo g (zdf g seed) (zd5 seed) k).getD 0) (zdn seed) (zdm seed)) (znH g (zdf g seed)) := by
  unfold zdl
  rw [if_pos]
  rw [List.all_eq_true]
  intro k hk
  obtain ⟨w, hw⟩ := h k (List.mem_range.mp hk)
  rw [hw]; rfl
theorem zdl_f {g : Nat → Int32} {seed : Int32} {k : Nat} (hk : k < znH g (zdf g seed)) (h : zdo g (zdf g seed) (zd5 seed) k = none) : zdl g seed = [] := by
  unfold zdl
  rw [if_neg]
  rw [List.all_eq_true]
  intro q
  have := q k (List.mem_range.mpr hk)
  rw [h] at this
  cases this
/-- what is drawn, both sides -/
theorem z_drawBoth {σ : Mem} {g : Nat → Int32} {seed : Int32} (h : zIv σ g) (hF : 0 < znF g) : ∃ l r τ, l = zdl g seed ∧ l.length ≤ 66 ∧ (∀ b, b ∈ l → b < 256) ∧ fX11_sayDrawn σ 0 seed = some (r, τ) ∧ zFr σ τ ∧ ((r = nI 1 ∧ zL τ 353 l) ∨ (r = nI 0 ∧ l = [])) ∧ (∀ υ, zMG υ g → ∃ ω, fX12_drawsLine υ 383 seed = some ω ∧ zLn ω l ∧ zFr υ ω) := by
  have hg := h.2.1
  have hc := h.2.2.1
  have hN := h.2.2.2.1
  obtain ⟨r0, τ0, d1, d2, d3⟩ := z_draw (seed := seed) hg hc hN hF
  have hf : zdf g seed < znF g := zdr_lt hF
  have hmd : zdm seed < 4 := zdr_lt (by omega)
  have hnn := zdn_lt seed
  have fr0 : zFr σ τ0 := fun x c p => d2 x c (fun q => p (by unfold zsc; omega))
  have c0 : zCB τ0 3 g := zCB_co hg hc (fun a k p q => d2 a k (by omega))
  have n0 : zNG τ0 := zNG_co hN (fun a k p q _ => d2 a k (by omega)) (fun a k p q => d2 a k (by omega))
  have md : ∀ υ, zMG υ g → ∃ ω, fX12_drawsLine υ 383 seed = some ω ∧ zFr υ ω ∧ (((∀ k, k < znH g (zdf g seed) → ∃ w, zdo g (zdf g seed) (zd5 seed) k = some w) ∧ zLn ω (zlc (zsi g (zdf g seed) (fun k => (zdo g (zdf g seed) (zd5 seed) k).getD 0) (zdn seed) (zdm seed)) (znH g (zdf g seed))))
      ∨ ((∃ k, k < znH g (zdf g seed) ∧ zdo g (zdf g seed) (zd5 seed) k = none) ∧ zLn ω [])) := by
    intro υ hυ
    obtain ⟨ω, o1, o2, o3⟩ := z_drawsLine (seed := seed) hg hυ hF
    exact ⟨ω, o1, fun x c p => o2 x c (fun q => p (by unfold zsc; omega)) (fun q => p (by unfold zsc; omega)) (fun q => p (by unfold zsc; omega)) (fun q => p (by unfold zsc; omega)), o3⟩
  rcases d3 with ⟨e1, e2, e3, e4, e5⟩ | ⟨e1, k0, k1, k2⟩
  · have hall : ∀ k, k < znH g (zdf g seed) → (fun k => (zdo g (zdf g seed) (zd5 seed) k).getD 0) k < znW g ∧ zcan g (zdf g seed) k ((fun k => (zdo g (zdf g seed) (zd5 seed) k).getD 0) k) = true ∧ τ0 358 k = nI ((fun k => (zdo g (zdf g seed) (zd5 seed) k).getD 0) k) := fun k hk => by
      obtain ⟨w, hw, hw2⟩ := e5 k hk
      have q := zdo_in hw
      simp only [hw, Option.getD_some]
      exact ⟨q.1, q.2, hw2⟩
    obtain ⟨τ, t1, t2, t3, t4, t5⟩ := z_say (σ := τ0) (F := 357) (f := zdf g seed) (nb := zdn seed) (m := zdm seed) (ws := fun k => (zdo g (zdf g seed) (zd5 seed) k).getD 0) hg c0 n0 zl_c.2.2.2.2.2.2.2.2.2.2.2.1 (by omega) ⟨e2, hf, hall⟩ hnn hmd
    have hll := zlc_len (F := zsi g (zdf g seed) (fun k => (zdo g (zdf g seed) (zd5 seed) k).getD 0) (zdn seed) (zdm seed)) (n := znH g (zdf g seed)) (fun k hk => (zsi_len hg hf hk hmd (fun k hk => (hall k hk).1)).2.2)
    have h6 : znH g (zdf g seed) ≤ 6 := (hg.2.2.2.2.1 _ hf).1.2
    refine ⟨_, nI 1, τ, (zdl_t (fun k hk => (e5 k hk).imp (fun w q => q.1))).symm, Nat.le_trans hll (by omega), t2.2.2, ?_, zFr_trans fr0 (zFr_sy t5), Or.inl ⟨rfl, t2⟩, fun υ hυ => ?_⟩
    · refine zW_val ?_
      unfold fX11_sayDrawn
      simp only [Nat.zero_add, Nat.reduceAdd]
      refine zW_ob d1 ?_
      rw [e1]
      refine zW_f zn01 ?_
      dsimp only
      rw [e3, e4]
      exact zW_ob t1 (zW_f zn01 (zW_so rfl))
    · obtain ⟨ω, o1, o2, o3⟩ := md υ hυ
      refine ⟨ω, o1, ?_, o2⟩
      rcases o3 with ⟨_, o3⟩ | ⟨⟨k, a, b⟩, _⟩
      · exact o3
      · obtain ⟨w, hw, _⟩ := e5 k a
        rw [b] at hw; cases hw
  · refine ⟨[], nI 0, τ0, (zdl_f k1 k2).symm, by simp, by simp, ?_, fr0, Or.inr ⟨rfl, rfl⟩, fun υ hυ => ?_⟩
    · refine zW_val ?_
      unfold fX11_sayDrawn
      simp only [Nat.zero_add, Nat.reduceAdd]
      refine zW_ob d1 ?_
      rw [e1]
      exact zW_t rfl (zW_so rfl)
    · obtain ⟨ω, o1, o2, o3⟩ := md υ hυ
      refine ⟨ω, o1, ?_, o2⟩
      rcases o3 with ⟨o4, _⟩ | ⟨_, o3⟩
      · obtain ⟨w, hw⟩ := o4 k0 k1
        rw [k2] at hw; cases hw
      · exact o3
theorem zgdI {l : List Nat} (h : ∀ b, b ∈ l → b < 256) : ∀ k, k < l.length → l.getD k 0 < 256 := fun k hk => by
  have : l.getD k 0 = l[k] := by simp [List.getD_eq_getElem?_getD, List.getElem?_eq_getElem hk]
  rw [this]
  exact h _ (List.getElem_mem hk)
/-- how many readings what is drawn has -/
theorem z_drawCount {σ : Mem} {g : Nat → Int32} {seed : Int32} (h : zIv σ g) (hF : 0 < znF g) : ∃ l r τ, l = zdl g seed ∧ l.length ≤ 66 ∧ fX11_sayDrawn σ 0 seed = some (r, τ) ∧ zFr σ τ ∧ ((r = nI 1 ∧ zL τ 353 l ∧ ∃ τ', fX6_countReadings τ 359 3 353 = some τ' ∧ τ' 359 5 = (zcr g l (4 * znF g)).1 ∧ zFr σ τ') ∨ (r = nI 0 ∧ l = [] ∧ (zcr g l (4 * znF g)).1 = nI 0)) ∧ (∀ υ, zMG υ g → ∃ ω, fX12_drawsLine υ 383 seed = some ω ∧ ω 383 13 = nI l.length ∧ zFr υ ω ∧ ∃ ω', fX12_counted ω 383 = some ((zcr g l (4 * znF g)).1, ω') ∧ zFr υ ω') := by
  have hg := h.2.1
  obtain ⟨l, r, τ, l0, l1, l2, t1, tf, t2, t3⟩ := z_drawBoth (seed := seed) h hF
  have hI := zIv_fr h tf
  refine ⟨l, r, τ, l0, l1, t1, tf, ?_, fun υ hυ => ?_⟩
  · rcases t2 with ⟨a, b⟩ | ⟨a, b⟩
    · obtain ⟨τ', c1, c2, -, -, c5⟩ := z_countReadings (l := l) (i := 353) (σ := τ) (g := g) ⟨hg, hI.2.2.1, hI.2.2.2.1, b, by omega, by rw [zl_354]; omega, by rw [zl_354]; exact l1⟩
      exact Or.inl ⟨a, b, τ', c1, c2, zFr_trans tf (zFr_rf c5)⟩
    · exact Or.inr ⟨a, b, by rw [b, zcr_nil hg _ (Nat.le_refl _)]⟩
  · obtain ⟨ω, o1, o2, o3⟩ := t3 υ hυ
    obtain ⟨ω', p1, -, -, p4⟩ := z_counted (σ := ω) (g := g) (l := l) ⟨hg, zMG_fr hυ o3, o2, by omega, zgdI l2⟩
    exact ⟨ω, o1, o2.1, o3, ω', p1, zFr_trans o3 (zFr_mc p4)⟩
