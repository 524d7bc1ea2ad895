/-- the tape is emptied and what is scratch differs -/
theorem zIv_te {σ υ : Mem} {g : Nat → Int32} (h : zIv σ g) (e : ∀ x c, ¬ zsc x c → ¬ (x = 1 ∧ c = 1) → ¬ (x = 383 ∧ c = 4) → υ x c = σ x c) (t1 : υ 1 1 = nI 0) (t2 : υ 383 4 = nI 0) : zIv υ g := by
  obtain ⟨h1, h2, h3, h4, h5, h6, h7, h8⟩ := h
  have e' : ∀ i k, ¬ (341 ≤ i ∧ i ≤ 364) → i ≠ 383 → ¬ (387 ≤ i ∧ i ≤ 394) → i ≠ 401 → i ≠ 1 → υ i k = σ i k := fun i k p q r s t => e i k (zsc_no p q r s) (by omega) (by omega)
  refine ⟨fun k hk => by rw [e' _ _ (by omega) (by omega) (by omega) (by omega) (by omega)]; exact h1 k hk, h2, zCB_co h2 h3 (fun a k p q => e' a k (by omega) (by omega) (by omega) (by omega) (by omega)), zNG_co h4 (fun a k p q _ => e' a k (by omega) (by omega) (by omega) (by omega) (by omega)) (fun a k p q => e' a k (by omega) (by omega) (by omega) (by omega) (by omega)), ?_, zTP_e t1 t2, ?_, ?_⟩
  · exact zKP_co h5 (e' _ _ (by omega) (by omega) (by omega) (by omega) (by omega)) (e _ _ (by unfold zsc; omega) (by omega) (by omega)) (fun k => e' _ _ (by omega) (by omega) (by omega) (by omega) (by omega)) (fun a k p q => e' a k (by omega) (by omega) (by omega) (by omega) (by omega))
  · exact zTR_co h7 (fun a k p q => e' a k (by omega) (by omega) (by omega) (by omega) (by omega)) (fun a k p q => e' a k (by omega) (by omega) (by omega) (by omega) (by omega))
  · exact zSH_co h8 (fun a k p q => e' a k (by omega) (by omega) (by omega) (by omega) (by omega)) (fun a k p q => e' a k (by omega) (by omega) (by omega) (by omega) (by omega))
theorem z_op_frame {σ : Mem} {g : Nat → Int32} (h : zIv σ g) : zOp σ (fun σ => fX11_frame σ 0) (fun τ => fX12_frame τ 383) := by
  have hg := h.2.1
  have hcb := h.2.2.1
  obtain ⟨l, l1, l2, l3, l4⟩ := h.2.2.2.2.2.1
  have n5 : znF g ≤ 5 := hg.2.1.2
  have n20 : znW g ≤ 20 := hg.1.2
  have s35 : σ 3 5 = nI (znF g) := hcb.1.2.trans hg.2.1.1
  -- what the model does on any memory like this one
  have mm : ∀ τ : Mem, (∀ k, k < 517 → τ 384 k = g k) → τ 383 4 = nI l.length → (∀ k, k < l.length → τ 386 k = nI (l.getD k 0)) → _ := fun τ e1 e2 e3 => z_frameM (g := g) (τ := τ) (l := l) (n := znF g) ⟨hg, fun k hk => e1 k (by omega), e2, e3, l1, fun k hk => zL_get l2 hk⟩ n5 ((e1 1 (by omega)).trans hg.2.1.1)
  obtain ⟨⟨r, τ⟩, t1, t2⟩ := z_read (g := g) (σ := σ) (l := l) ⟨hg, hcb, l2, l1⟩
  have tf : ∀ x c, ¬ (341 ≤ x ∧ x ≤ 347) → τ x c = σ x c := by
    rcases t2 with ⟨e, -, -, -, q⟩ | ⟨hs, p, -, -, q, -⟩
    · exact q
    · exact q.2.2.2.2
  have mf : ∀ x c, ¬ (341 ≤ x ∧ x ≤ 347) → ¬ (x = 1 ∧ c = 1) → (mw τ 1 1 (nI 0)) x c = σ x c := fun x c p q => by
    simp (disch := omega) only [zM]
    exact tf x c p
  have mf1 : (mw τ 1 1 (nI 0)) 1 1 = nI 0 := by simp only [zM]
  have mfx : ∀ x c, 341 ≤ x → (mw τ 1 1 (nI 0)) x c = τ x c := fun x c p => by simp (disch := omega) only [zM]
  refine zO_op ?_
  show zW (fX11_frame σ 0) _
  unfold fX11_frame
  simp only [Nat.zero_add]
  refine zW_ob t1 (zW_ob (x := mw τ 1 1 (nI 0)) rfl ?_)
  dsimp only
  generalize mw τ 1 1 (nI 0) = m at *
  -- the tape's emptied and nothing else
  have same : ∀ υ, υ 383 4 = nI 0 → zFsr m υ → zIv υ g := fun υ a b => zIv_te h (fun x c p q r => by
    have p' := p
    unfold zsc at p'
    rw [b x c (by omega) (by omega), mf x c (by omega) q]) (by rw [b _ _ (by omega) (by omega)]; exact mf1) a
  have mk := mm m (fun k hk => by rw [mf _ _ (by omega) (by omega)]; exact h.1 k hk) (by rw [mf _ _ (by omega) (by omega)]; exact l3) (fun k hk => by rw [mf _ _ (by omega) (by omega)]; exact l4 k hk)
  rcases t2 with ⟨e, e1, e2, e3, -⟩ | ⟨hs, p, e1, e2, e3, e4, e5, e6⟩
  · dsimp only at e3
    rw [e3]
    refine zW_f (by show ¬ nI e = -nI 1; simp (disch := omega) only [zC]; exact id) (zW_so ?_)
    dsimp only
    refine zW_mono mk ?_
    rintro ⟨s, υ⟩ ⟨a, b⟩
    rcases b with ⟨e', b1, b2, b3⟩ | ⟨hs, b1, -⟩ | ⟨hs, b1, -⟩
    · rw [e1] at b1
      cases b1
      exact ⟨b2, g, same υ a b3⟩
    · rw [e1] at b1; cases b1
    · rw [e1] at b1; cases b1
  dsimp only at e2 e3
  rw [e2]
  refine zW_t rfl ?_
  have m35 : m 3 5 = nI (znF g) := by rw [mf _ _ (by omega) (by omega)]; exact s35
  have add : ∀ (Q : Int32 × Mem → Prop), (znF g = 5 → Q (-nI 4, m)) → (∀ n ω, znF g = n → n < 5 → ω 3 5 = nI (n + 1) → ω (142 + 6 * n) 0 = m 342 0 → (∀ a k, 1 ≤ a → a < 5 → k < 6 → ω (142 + 6 * n + a) k = m (342 + a) k) → (∀ k, k < 3 → ω (142 + 6 * n + 5) k = m 347 k) → (∀ x k, ¬ (x = 3 ∧ k = 5) → ¬ (142 + 6 * n ≤ x ∧ x < 148 + 6 * n) → ω x k = m x k) → Q (nI n, ω)) → zW (obd (fX0_addFrame m 3 (341 + 1)) (fun q6 => some (q6.1, q6.2))) Q := by
    intro Q q1 q2
    unfold fX0_addFrame
    by_cases hn : znF g < 5
    · generalize hnn : znF g = n at *
      obtain ⟨ω, o1, o2, o3, o4, o5⟩ := z_becFn (σ := m) hn
      have o35 : ω 3 5 = nI n := by rw [o5 _ _ (by omega)]; exact m35
      refine zW_ob (x := (nI n, mw ω 3 5 (nI (n + 1)))) ?_ (zW_so ?_)
      · refine zW_val ?_
        refine zW_t (by rw [m35]; simp (disch := omega) only [Nat.reduceAdd, zl_c, zC]; exact hn) (zW_gd (by rw [m35]; simp (disch := omega) only [Nat.reduceAdd, zl_c, zI]) (zW_ob (x := ω) ?_ (zW_bv (mw ω 3 5 (nI (n + 1))) (by rw [o35, zLT.2.1, zI.1]) (zW_so ?_))))
        · rw [m35, zi_ix (by omega), show 3 + 4 + 135 + 6 * n = 142 + 6 * n by omega]
          exact o1
        · have : (mw ω 3 5 (nI (n + 1))) 3 5 - (1 : Int32) = nI n := by
            simp only [zM]
            rw [zLT.2.1, zi_sub (by omega)]; rfl
          rw [this]
      · refine q2 n _ rfl hn (by simp only [zM]) (by simp (disch := omega) only [zM]; exact o2) (fun a k x y z => by simp (disch := omega) only [zM]; exact o3 a k x y z) (fun k hk => by simp (disch := omega) only [zM]; exact o4 k hk) (fun x k p1 p2 => by simp (disch := omega) only [zM]; exact o5 x k (by omega))
    · refine zW_ob (x := (-nI 4, m)) ?_ (zW_so (q1 (by omega)))
      rw [if_neg]
      · rfl
      · rw [m35]
        simp (disch := omega) only [Nat.reduceAdd, zl_c, zC]
        exact hn
  refine add _ (fun h5 => ?_) (fun n ω hn hn5 w1 w2 w3 w4 w5 => ?_)
  · dsimp only
    refine zW_mono mk ?_
    rintro ⟨s, υ⟩ ⟨a, b⟩
    rcases b with ⟨e', b1, -⟩ | ⟨hs', b1, b2, b3, b4⟩ | ⟨hs', b1, b2, -⟩
    · rw [e1] at b1; cases b1
    · exact ⟨b3, g, same υ a b4⟩
    · omega
  dsimp only
  have mk2 := mm ω (fun k hk => by rw [w5 _ _ (by omega) (by omega), mf _ _ (by omega) (by omega)]; exact h.1 k hk) (by rw [w5 _ _ (by omega) (by omega), mf _ _ (by omega) (by omega)]; exact l3) (fun k hk => by rw [w5 _ _ (by omega) (by omega), mf _ _ (by omega) (by omega)]; exact l4 k hk)
  refine zW_mono mk2 ?_
  rintro ⟨s, υ⟩ ⟨a, b⟩
  rcases b with ⟨e', b1, -⟩ | ⟨hs', b1, b2, -⟩ | ⟨hs', b1, b2, b3, b4, b5, b6, b7⟩
  · rw [e1] at b1; cases b1
  · omega
  rw [e1] at b1
  cases b1
  rw [hn] at b3 b4 b5 b6 b7
  dsimp only at a b3 b4 b5 b6 b7
  refine ⟨b3, fun k => if k < 517 then υ 384 k else g k, ?_⟩
  have gi : ∀ k, k < 517 → (fun k => if k < 517 then υ 384 k else g k) k = υ 384 k := fun k hk => if_pos hk
  have go : ∀ k, k ≠ 1 → ¬ (zfa n ≤ k ∧ k < zfa n + 25) → (fun k => if k < 517 then υ 384 k else g k) k = g k := fun k hk hk2 => by
    by_cases h5 : k < 517
    · rw [gi k h5, b7 _ _ (by omega) (by omega) (by unfold zfa at hk2; omega), w5 _ _ (by omega) (by omega), mf _ _ (by omega) (by omega)]
      exact h.1 k h5
    · exact if_neg h5
  generalize (fun k => if k < 517 then υ 384 k else g k) = g' at *
  show zIv υ g'
  have h6 := e4.1
  have ef : g' (zfa n) = nI hs.length := by rw [gi _ (by unfold zfa; omega)]; exact b5
  have enH : znH g' n = hs.length := by show ix (g' (zfa n)) = _; rw [ef, zi_ix (by omega)]
  have eh : ∀ k j, k < 6 → j < 4 → g' (zha n k + j) = υ 384 (342 + 25 * n + 1 + 4 * k + j) := fun k j hk hj => by rw [gi _ (by unfold zha; omega)]
  have eh0 : ∀ k, k < hs.length → g' (zha n k) = nI (hs.getD k zH0).1 := fun k hk => by rw [← (b6 k hk).1]; exact eh k 0 (by omega) (by omega)
  have eh1 : ∀ k, k < hs.length → g' (zha n k + 1) = (hs.getD k zH0).2.1 := fun k hk => by rw [← (b6 k hk).2.1]; exact eh k 1 (by omega) (by omega)
  have eh2 : ∀ k, k < hs.length → g' (zha n k + 2) = (hs.getD k zH0).2.2.1 := fun k hk => by rw [← (b6 k hk).2.2.1]; exact eh k 2 (by omega) (by omega)
  have eh3 : ∀ k, k < hs.length → g' (zha n k + 3) = (hs.getD k zH0).2.2.2 := fun k hk => by rw [← (b6 k hk).2.2.2]; exact eh k 3 (by omega) (by omega)
  have nW : znW g' = znW g := by show ix (g' 0) = ix (g 0); rw [go 0 (by omega) (by unfold zfa; omega)]
  have c256 : ∀ k, k < hs.length → (hs.getD k zH0).1 < 256 := fun k hk => (e4.2.1 k hk).2
  have is110 : ∀ k, k < hs.length → g' (zha n k) = nI 110 → (hs.getD k zH0).1 = 110 := fun k hk q => by
    have := c256 k hk
    rw [eh0 k hk] at q
    simp (disch := omega) only [zC] at q
    exact q
  have hFm : zFm g' n := by
    refine ⟨by rw [ef]; exact zNI_of h6 (by omega), by rw [enH]; omega, fun i hi => ?_, fun i gr hi hgr he => ?_, fun i j hi hj x y z => ?_⟩
    · rw [enH] at hi
      rw [eh0 i hi, eh1 i hi, eh2 i hi, eh3 i hi]
      exact zHo_cg (by rw [nW]; exact Nat.le_refl _) (fun w hw => go _ (by unfold zwa; omega) (by unfold zwa zfa; omega)) (e4.2.1 i hi).1
    · rw [enH] at hi
      rw [eh1 i hi] at he
      obtain ⟨k, k1, k2, k3⟩ := zN2_iff.mp (zwh_iff.mp e6 gr hgr (zG2_iff.mpr ⟨i, hi, he⟩))
      exact ⟨k, by rw [enH]; exact k1, by rw [eh0 k k1, k2], by rw [eh1 k k1, k3]⟩
    · rw [enH] at hi hj
      rw [eh1 i hi, eh1 j hj] at z
      exact e4.2.2 i j hi hj (is110 i hi x) (is110 j hj y) z
  -- the class's frame as it stands at the end
  have υc : ∀ x k, x < 341 → υ x k = ω x k := fun x k q => b7 x k (by omega) (by omega) (by omega)
  have hFB : zFB υ (142 + 6 * n) g' n := by
    obtain ⟨x1, x2, x3, x4, x5⟩ := e3
    refine ⟨?_, fun k hk => ?_, fun gr hgr => ?_⟩
    · rw [υc _ _ (by omega), w2, mfx _ _ (by omega), x2, ef]
    · rw [enH] at hk
      rw [υc _ _ (by omega), υc _ _ (by omega), υc _ _ (by omega), υc _ _ (by omega), w3 1 k (by omega) (by omega) (by omega), w3 2 k (by omega) (by omega) (by omega), w3 3 k (by omega) (by omega) (by omega), w3 4 k (by omega) (by omega) (by omega), mfx _ _ (by omega), mfx _ _ (by omega), mfx _ _ (by omega), mfx _ _ (by omega), eh0 k hk, eh1 k hk, eh2 k hk, eh3 k hk, zi_ix (by have := c256 k hk; omega)]
      exact x3 k hk
    · rw [υc _ _ (by omega), w4 gr hgr, mfx _ _ (by omega)]
      rcases x4 gr hgr with ⟨k, k1, k2, k3, k4⟩ | ⟨k1, k2⟩
      · exact Or.inl ⟨k, by rw [enH]; exact k1, by rw [eh0 k k1, k2], by rw [eh1 k k1, k3], k4⟩
      · refine Or.inr ⟨fun k hk x y => ?_, k2⟩
        rw [enH] at hk
        rw [eh1 k hk] at y
        rw [zN2_iff.mpr ⟨k, hk, is110 k hk x, y⟩] at k1
        cases k1
  have u1 : ∀ x k, x < 341 → ¬ (x = 3 ∧ k = 5) → ¬ (142 + 6 * n ≤ x ∧ x < 148 + 6 * n) → ¬ (x = 1 ∧ k = 1) → υ x k = σ x k := fun x k p1 p2 p3 p4 => by
    rw [υc x k p1, w5 x k p2 p3, mf x k (by omega) p4]
  have u2 : ∀ x k, 348 ≤ x → ¬ (x = 383 ∧ (k = 4 ∨ k = 7 ∨ k = 8)) → x ≠ 388 → x ≠ 384 → υ x k = σ x k := fun x k p1 p2 p3 p4 => by
    rw [b7 x k p2 p3 (by omega), w5 x k (by omega) (by omega), mf x k (by omega) (by omega)]
  refine zIv_bk h (fun x c p => ?_) (fun k hk => (gi k hk).symm) (zBG_fr hg hn hn5 (by rw [gi _ (by omega)]; exact b4) go hFm) ?_ ?_ (zTP_e ?_ a)
  · by_cases hx : x < 341
    · exact u1 x c hx (by omega) (by omega) (by omega)
    · exact u2 x c (by omega) (by omega) (by omega) (by omega)
  · exact zCB_fr hg hn hn5 (by rw [gi _ (by omega)]; exact b4) go hcb (by rw [υc _ _ (by omega)]; exact w1) hFB (fun x k p1 p2 p3 p4 => u1 x k (by omega) p3 p4 (by omega))
  · exact zNG_co h.2.2.2.1 (fun x k p q r => u1 x k (by omega) (by omega) (by omega) (by omega)) (fun x k p q => u1 x k (by omega) (by omega) (by omega) (by omega))
  · rw [υc _ _ (by omega), w5 _ _ (by omega) (by omega)]
    exact mf1
