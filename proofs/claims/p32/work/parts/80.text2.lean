theorem zBG_tx {g g' : Nat → Int32} (hg : zBG g) (o : ∀ k, k ≠ 13 → k < 467 → g' k = g k) (h13 : zNI (g' 13) 50) (ht : ∀ k, k < ix (g' 13) → zNI (g' (467 + k)) 127) : zBG g' := by
  have nW : znW g' = znW g := by show ix (g' 0) = ix (g 0); rw [o 0 (by omega) (by omega)]
  have nF : znF g' = znF g := by show ix (g' 1) = ix (g 1); rw [o 1 (by omega) (by omega)]
  have n20 : znW g ≤ 20 := hg.1.2
  have n5 : znF g ≤ 5 := hg.2.1.2
  have ow : ∀ w, w < znW g → ∀ k, k < 10 → g' (zwa w + k) = g (zwa w + k) := fun w hw k hk => o _ (by unfold zwa; omega) (by unfold zwa; omega)
  have of : ∀ f, f < znF g → ∀ k, k < 25 → g' (zfa f + k) = g (zfa f + k) := fun f hf k hk => o _ (by unfold zfa; omega) (by unfold zfa; omega)
  refine ⟨by rw [o 0 (by omega) (by omega)]; exact hg.1, by rw [o 1 (by omega) (by omega)]; exact hg.2.1, fun w h => ?_, fun e he => zEd_cg (fun k hk => o _ (by unfold zea; omega) (by unfold zea; omega)) (hg.2.2.2.1 e he), fun f hf => ?_, ⟨h13, ht⟩, ?_⟩
  · rw [nW] at h
    exact zWd_cg (ow w h) (hg.2.2.1 w h)
  · rw [nF] at hf
    exact zFm_cg (of f hf) (by rw [nW]; exact Nat.le_refl _) (fun w h => ow w h 0 (by omega)) (hg.2.2.2.2.1 f hf)
  · exact zDk_cg (fun k h1 h2 => o k (by omega) (by omega)) (by rw [nF]; exact Nat.le_refl _) of (by rw [nW]; exact Nat.le_refl _) (fun w h => ow w h 0 (by omega)) hg
theorem zCB_tx {σ τ : Mem} {g g' : Nat → Int32} (hg : zBG g) (o : ∀ k, k ≠ 13 → k < 467 → g' k = g k) (hc : zCB σ 3 g) (cw : zL τ 8 (ztt g'))
    (e : ∀ a k, 3 ≤ a → a < 172 → a ≠ 8 → a ≠ 9 → τ a k = σ a k) : zCB τ 3 g' := by
  have nW : znW g' = znW g := by show ix (g' 0) = ix (g 0); rw [o 0 (by omega) (by omega)]
  have nF : znF g' = znF g := by show ix (g' 1) = ix (g 1); rw [o 1 (by omega) (by omega)]
  have n20 : znW g ≤ 20 := hg.1.2
  have n5 : znF g ≤ 5 := hg.2.1.2
  have ow : ∀ w, w < znW g → ∀ k, k < 10 → g' (zwa w + k) = g (zwa w + k) := fun w hw k hk => o _ (by unfold zwa; omega) (by unfold zwa; omega)
  have of : ∀ f, f < znF g → ∀ k, k < 25 → g' (zfa f + k) = g (zfa f + k) := fun f hf k hk => o _ (by unfold zfa; omega) (by unfold zfa; omega)
  obtain ⟨⟨c1, c2⟩, c3, c4, c5, c6, c7, c8⟩ := hc
  refine ⟨⟨by rw [e _ _ (by omega) (by omega) (by omega) (by omega), o 0 (by omega) (by omega)]; exact c1, by rw [e _ _ (by omega) (by omega) (by omega) (by omega), o 1 (by omega) (by omega)]; exact c2⟩, fun w hw => ?_, fun w hw => ?_, fun k hk => ?_, fun f hf => ?_, cw, ?_⟩
  · rw [e _ _ (by omega) (by omega) (by omega) (by omega)]; exact c3 w hw
  · rw [nW] at hw
    exact zWB_co (zWB_cg (ow w (by omega)) (hg.2.2.1 w hw) (c4 w hw)) (fun a k p q => e a k (by omega) (by omega) (by omega) (by omega))
  · rw [zen_cg (fun j _ => o _ (by unfold zea; omega) (by unfold zea; omega)) (hg.2.2.2.1 k hk)]
    exact zL_cb (c5 k hk) (fun a k p q => e a k (by omega) (by omega) (by omega) (by omega))
  · rw [nF] at hf
    exact zFB_co (zFB_cg (of f hf) (hg.2.2.2.2.1 f hf).1.2 (c6 f hf)) (fun a k p q => e a k (by omega) (by omega) (by omega) (by omega))
  · exact zDB_cg (fun k h1 h2 => o k (by omega) (by omega)) (fun f hf => of f hf 0 (by omega)) (by rw [nF]; exact n5) hg (zDB_co c8 (fun a k p q => e a k (by omega) (by omega) (by omega) (by omega)))
theorem z_op_text {σ : Mem} {g : Nat → Int32} (h : zIv σ g) : zOp σ (fun σ => fX11_text σ 0) (fun τ => fX12_text τ 383) := by
  obtain ⟨l, l1, l2, l3, l4⟩ := h.2.2.2.2.2.1
  have hg := h.2.1
  have hcb := h.2.2.1
  -- the class
  have hx : ∀ (Q : Int32 × Mem → Prop), (¬ zaw l → Q (-nI 3, mw σ 1 1 (nI 0))) → (zaw l → ∀ τ, zL τ 8 l → (∀ x k, x ≠ 8 → x ≠ 9 → τ x k = σ x k) → Q (nI (zps l).length, mw τ 1 1 (nI 0))) → zW (fX11_text σ 0) Q := by
    intro Q r1 r2
    unfold fX11_text
    simp only [Nat.zero_add, Nat.reduceAdd]
    refine zW_ob (z_allWords (R := 50) l2 zl_c.2.2.2.2.2.2.1 (by omega) (by omega)) ?_
    refine zW_jn (fun y : Int32 × Mem => Q (y.1, mw y.2 1 1 (nI 0))) ?_ ?_
    · rintro ⟨r, τ⟩ hr
      exact zW_ob z_clear (zW_so hr)
    · intro k hk
      by_cases hz : zaw l
      · rw [if_pos hz]
        refine zW_f zn01 ?_
        obtain ⟨τ, t1, t2, t3⟩ := z_become (i := 8) (j := 1) (R := 50) (S := 50) (by omega) zl_c.2.2.2.2.1 zl_c.2.2.2.2.2.2.1 (by omega) (by omega) l2 l1 l1
        exact zW_ob t1 (zW_ob (z_words t2 zl_c.2.2.2.2.1 l1 (by omega)) (hk _ (r2 hz τ t2 t3)))
      · rw [if_neg hz]
        exact zW_t rfl (hk _ (r1 hz))
  refine zO_op ?_
  have hm := fun (τ : Mem) (e : ∀ x c, x ≠ 1 → x ≠ 2 → ¬ (3 ≤ x ∧ x < 172) → τ x c = σ x c) => z_textM (σ := τ) (l := l) l1 (by rw [e _ _ (by omega) (by omega) (by omega)]; exact l3) (fun k hk => by rw [e _ _ (by omega) (by omega) (by omega)]; exact l4 k hk) (fun k hk => zL_get l2 hk)
  refine hx _ (fun hz => ?_) (fun hz τ t1 t2 => ?_)
  · rcases hm (mw σ 1 1 (nI 0)) (fun x c p q r => by simp (disch := omega) only [zM]) with ⟨-, b⟩ | ⟨a, -⟩
    · exact zW_eq b ⟨rfl, g, zIv_tp h (fun x c p q r s => by simp (disch := omega) only [zM]) (zTP_e (by simp (disch := omega) only [zM]) (by simp only [zM]))⟩
    · exact absurd a hz
  rcases hm (mw τ 1 1 (nI 0)) (fun x c p q r => by simp (disch := omega) only [zM]; exact t2 _ _ (by omega) (by omega)) with ⟨a, -⟩ | ⟨-, υ, u0, u1, u2, u3, u4, u5⟩
  · exact absurd hz a
  refine zW_eq u0 ⟨rfl, fun k => if k < 517 then υ 384 k else g k, ?_⟩
  have w1 : ∀ x k, ¬ (x = 1 ∧ k = 1) → x ≠ 8 → x ≠ 9 → x ≠ 384 → ¬ (x = 383 ∧ k = 4) → υ x k = σ x k := fun x k p1 p2 p3 p4 p5 => by
    rw [u5 x k p4 p5]
    simp (disch := omega) only [zM]
    exact t2 x k p2 p3
  have w2 : zL υ 8 l := zL_cb t1 (fun x k p q => by rw [u5 _ _ (by omega) (by omega)]; simp (disch := omega) only [zM])
  have w3 : υ 1 1 = nI 0 := by rw [u5 _ _ (by omega) (by omega)]; simp only [zM]
  have gi : ∀ k, k < 517 → (fun k => if k < 517 then υ 384 k else g k) k = υ 384 k := fun k hk => if_pos hk
  have go : ∀ k, k ≠ 13 → k < 467 → (fun k => if k < 517 then υ 384 k else g k) k = g k := fun k hk hk2 => by
    rw [gi k (by omega), u4 k hk hk2]
    simp (disch := omega) only [zM]
    rw [t2 _ _ (by omega) (by omega)]
    exact h.1 k (by omega)
  generalize (fun k => if k < 517 then υ 384 k else g k) = g' at *
  have a4 : g' 13 = nI l.length := by rw [gi _ (by omega), u1]
  have a5 : ∀ k, k < l.length → g' (467 + k) = nI (l.getD k 0) := fun k hk => by rw [gi _ (by omega), u2 k hk]
  have hst : ztt g' = l := by
    unfold ztt
    rw [a4, zi_ix (by omega)]
    exact ztx_eq a5 (fun k hk => zL_get l2 hk)
  show zIv υ g'
  refine zIv_bk h (fun x c p => w1 x c (by omega) (by omega) (by omega) (by omega) (by omega)) (fun k hk => (gi k hk).symm) (zBG_tx hg go ?_ ?_) ?_ ?_ (zTP_e w3 u3)
  · rw [a4]; exact zNI_of l1 (by omega)
  · rw [a4, zi_ix (by omega)]
    intro k hk
    rw [a5 k hk]
    refine zNI_of ?_ (by omega)
    rcases hz.2 k hk with ⟨q, -⟩ | q
    · omega
    · unfold zlt at q
      simp only [Bool.and_eq_true, decide_eq_true_eq] at q
      omega
  · exact zCB_tx hg go hcb (by rw [hst]; exact w2) (fun x k p1 p2 p3 p4 => w1 x k (by omega) (by omega) (by omega) (by omega) (by omega))
  · exact zNG_co h.2.2.2.1 (fun a k p q r => w1 a k (by omega) (by omega) (by omega) (by omega) (by omega)) (fun a k p q => w1 a k (by omega) (by omega) (by omega) (by omega) (by omega))
