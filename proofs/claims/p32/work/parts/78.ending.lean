theorem z_endAtX {σ : Mem} {a b c : Nat} (ha : a < 4) (hb : b < 4) (hc : c < 2) : fX0_endingAt σ 3 (nI a) (nI b) (nI c) = some (some (72 + 2 * ((a * 4 + b) * 2 + c))) := by
  refine zW_val ?_
  unfold fX0_endingAt
  refine zW_ob (z_below (b := 4) ha (by omega)) ?_
  refine zW_jn (fun y : Int32 => y = nI 1) ?_ ?_
  · rintro y rfl
    refine zW_f zn01 (zW_gd (by simp (disch := omega) only [zLT, zI, Nat.reduceAdd, zl_c]) (zW_so ?_))
    simp (disch := omega) only [zLT, zI]
  · intro k hk
    refine zW_jn (fun _ : Unit => False) (fun _ q => q.elim) (fun k2 _ => zW_f zn01 (zW_ob (z_below (b := 4) hb (by omega)) (zW_f zn01 (zW_ob (z_below (b := 2) hc (by omega)) (zW_f zn01 (hk _ rfl))))))
theorem z_endAtN {σ : Mem} {p1 p2 p3 : Int32} (h : ¬ ∃ a b c, a < 4 ∧ b < 4 ∧ c < 2 ∧ p1 = nI a ∧ p2 = nI b ∧ p3 = nI c) : fX0_endingAt σ 3 p1 p2 p3 = some none := by
  have dec : ∀ (x : Int32) (n : Nat), n < 2 ^ 30 → (∃ j, j < n ∧ x = nI j ∧ fX11_isBelow σ x (nI n) = some (nI 1)) ∨ fX11_isBelow σ x (nI n) = some (nI 0) := fun x n hn => by
    rcases zrg x (n := n) (by omega) with ⟨j, hj, rfl⟩ | q
    · exact Or.inl ⟨j, hj, rfl, z_below hj (by omega)⟩
    · exact Or.inr (z_belowN q)
  refine zW_val ?_
  unfold fX0_endingAt
  rcases dec p1 4 (by omega) with ⟨a, a1, a2, a3⟩ | a3
  all_goals
    refine zW_ob a3 (zW_jn (fun y : Int32 => y = nI 0) (fun y hy => by subst hy; exact zW_t rfl (zW_so rfl)) (fun k hk => zW_jn (fun _ : Unit => True) (fun _ _ => hk _ rfl) (fun k2 hk2 => ?_)))
  · refine zW_f zn01 ?_
    rcases dec p2 4 (by omega) with ⟨b, b1, b2, b3⟩ | b3
    · refine zW_ob b3 (zW_f zn01 ?_)
      rcases dec p3 2 (by omega) with ⟨c, c1, c2, c3⟩ | c3
      · exact absurd ⟨a, b, c, a1, b1, c1, a2, b2, c2⟩ h
      · exact zW_ob c3 (zW_t rfl (hk2 _ trivial))
    · exact zW_ob b3 (zW_t rfl (hk2 _ trivial))
  · exact zW_t rfl (hk2 _ trivial)
theorem z_endN {τ : Mem} {p1 p2 p3 : Int32} (h : ¬ ∃ a b c, a < 4 ∧ b < 4 ∧ c < 2 ∧ p1 = nI a ∧ p2 = nI b ∧ p3 = nI c) : fX12_ending τ 383 p1 p2 p3 = some (-nI 2, τ) := by
  have dec : ∀ (x : Int32) (n : Nat), 0 < n → n < 2 ^ 30 → (∃ j, j < n ∧ x = nI j ∧ fX12_isIn τ x (nI 0) (nI (n - 1)) = some (nI 1)) ∨ fX12_isIn τ x (nI 0) (nI (n - 1)) = some (nI 0) := fun x n h0 hn => by
    rcases zrg x (n := n) (by omega) with ⟨j, hj, rfl⟩ | q
    · exact Or.inl ⟨j, hj, rfl, z_isIn (by omega) (by omega) (by omega)⟩
    · exact Or.inr (z_isInX h0 hn q)
  refine zW_val ?_
  unfold fX12_ending
  rcases dec p1 4 (by omega) (by omega) with ⟨a, a1, a2, a3⟩ | a3
  · refine zW_ob a3 (zW_f zn01 ?_)
    rcases dec p2 4 (by omega) (by omega) with ⟨b, b1, b2, b3⟩ | b3
    · refine zW_ob b3 (zW_f zn01 ?_)
      rcases dec p3 2 (by omega) (by omega) with ⟨c, c1, c2, c3⟩ | c3
      · exact absurd ⟨a, b, c, a1, b1, c1, a2, b2, c2⟩ h
      · exact zW_ob c3 (zW_t rfl (zW_so rfl))
    · exact zW_ob b3 (zW_t rfl (zW_so rfl))
  · exact zW_ob a3 (zW_t rfl (zW_so rfl))
/-- an ending is another -/
theorem zBG_ed {g g' : Nat → Int32} {n : Nat} (hg : zBG g) (hn : n < 32) (o : ∀ k, ¬ (zea n ≤ k ∧ k < zea n + 4) → g' k = g k) (hw : zEd g' n) : zBG g' := by
  have z1 : 214 ≤ zea n ∧ zea n + 4 ≤ 342 := by unfold zea; omega
  have o' : ∀ k, k < 214 ∨ 342 ≤ k → g' k = g k := fun k hk => o k (by omega)
  have nW : znW g' = znW g := by show ix (g' 0) = ix (g 0); rw [o' 0 (by omega)]
  have nF : znF g' = znF g := by show ix (g' 1) = ix (g 1); rw [o' 1 (by omega)]
  have n20 : znW g ≤ 20 := hg.1.2
  have ow : ∀ w, w < znW g → ∀ k, k < 10 → g' (zwa w + k) = g (zwa w + k) := fun w hw k hk => o' _ (by unfold zwa; omega)
  have of : ∀ f k, g' (zfa f + k) = g (zfa f + k) := fun f k => o' _ (by unfold zfa; omega)
  refine ⟨by rw [o' 0 (by omega)]; exact hg.1, by rw [o' 1 (by omega)]; exact hg.2.1, fun w h => ?_, fun e he => ?_, fun f hf => ?_, ?_, ?_⟩
  · rw [nW] at h
    exact zWd_cg (ow w h) (hg.2.2.1 w h)
  · by_cases hen : e = n
    · rw [hen]; exact hw
    · exact zEd_cg (fun k hk => o _ (by unfold zea; omega)) (hg.2.2.2.1 e he)
  · rw [nF] at hf
    exact zFm_cg (fun k _ => of f k) (by rw [nW]; exact Nat.le_refl _) (fun w h => ow w h 0 (by omega)) (hg.2.2.2.2.1 f hf)
  · rw [o' 13 (by omega)]
    exact ⟨hg.2.2.2.2.2.1.1, fun k hk => by rw [o' (467 + k) (by omega)]; exact hg.2.2.2.2.2.1.2 k hk⟩
  · exact zDk_cg (fun k h1 h2 => o' k (by omega)) (by rw [nF]; exact Nat.le_refl _) (fun f _ k _ => of f k) (by rw [nW]; exact Nat.le_refl _) (fun w h => ow w h 0 (by omega)) hg
theorem zCB_ed {σ τ : Mem} {g g' : Nat → Int32} {n : Nat} (hg : zBG g) (hn : n < 32) (o : ∀ k, ¬ (zea n ≤ k ∧ k < zea n + 4) → g' k = g k) (hc : zCB σ 3 g) (cw : zL τ (72 + 2 * n) (zen g' n))
    (e : ∀ a k, 3 ≤ a → a < 172 → ¬ (72 + 2 * n ≤ a ∧ a < 74 + 2 * n) → τ a k = σ a k) : zCB τ 3 g' := by
  have z1 : 214 ≤ zea n ∧ zea n + 4 ≤ 342 := by unfold zea; omega
  have o' : ∀ k, k < 214 ∨ 342 ≤ k → g' k = g k := fun k hk => o k (by omega)
  have nW : znW g' = znW g := by show ix (g' 0) = ix (g 0); rw [o' 0 (by omega)]
  have nF : znF g' = znF g := by show ix (g' 1) = ix (g 1); rw [o' 1 (by omega)]
  have n20 : znW g ≤ 20 := hg.1.2
  have n5 : znF g ≤ 5 := hg.2.1.2
  have ow : ∀ w, w < znW g → ∀ k, k < 10 → g' (zwa w + k) = g (zwa w + k) := fun w hw k hk => o' _ (by unfold zwa; omega)
  have of : ∀ f k, g' (zfa f + k) = g (zfa f + k) := fun f k => o' _ (by unfold zfa; omega)
  obtain ⟨⟨c1, c2⟩, c3, c4, c5, c6, c7, c8⟩ := hc
  refine ⟨⟨by rw [e _ _ (by omega) (by omega) (by omega), o' 0 (by omega)]; exact c1, by rw [e _ _ (by omega) (by omega) (by omega), o' 1 (by omega)]; exact c2⟩, fun w hw => ?_, fun w hw => ?_, fun k hk => ?_, fun f hf => ?_, ?_, ?_⟩
  · rw [e _ _ (by omega) (by omega) (by omega)]; exact c3 w hw
  · rw [nW] at hw
    exact zWB_co (zWB_cg (ow w (by omega)) (hg.2.2.1 w hw) (c4 w hw)) (fun a k p q => e a k (by omega) (by omega) (by omega))
  · by_cases hkn : k = n
    · rw [hkn]; exact cw
    · rw [zen_cg (fun j _ => o _ (by unfold zea; omega)) (hg.2.2.2.1 k hk)]
      exact zL_cb (c5 k hk) (fun a k p q => e a k (by omega) (by omega) (by omega))
  · rw [nF] at hf
    exact zFB_co (zFB_cg (fun k _ => of f k) (hg.2.2.2.2.1 f hf).1.2 (c6 f hf)) (fun a k p q => e a k (by omega) (by omega) (by omega))
  · rw [ztt_cg (o' 13 (by omega)) (fun k => o' _ (by omega))]
    exact zL_cb c7 (fun a k p q => e a k (by omega) (by omega) (by omega))
  · exact zDB_cg (fun k h1 h2 => o' k (by omega)) (fun f _ => of f 0) (by rw [nF]; exact n5) hg (zDB_co c8 (fun a k p q => e a k (by omega) (by omega) (by omega)))
theorem zlet_of {b : Nat} (h : zlt b = true) : zlet (nI b) := by
  unfold zlt at h
  simp only [Bool.and_eq_true, decide_eq_true_eq] at h
  unfold zlet
  rw [zi_ix (by omega)]
  exact ⟨rfl, h⟩
theorem ztx_eq {g : Nat → Int32} {a : Nat} {l : List Nat} (h : ∀ k, k < l.length → g (a + k) = nI (l.getD k 0)) (hb : ∀ k, k < l.length → l.getD k 0 < 256) : ztx g a l.length = l := by
  refine List.ext_getElem (by rw [ztx_len]) (fun k k1 k2 => ?_)
  have := ztx_get (g := g) (a := a) k2
  have q := hb k k2
  rw [h k k2, zi_ix (by omega)] at this
  simpa [List.getD_eq_getElem?_getD, List.getElem?_eq_getElem k1, List.getElem?_eq_getElem k2] using this
theorem z_op_ending {σ : Mem} {g : Nat → Int32} (h : zIv σ g) (p1 p2 p3 : Int32) : zOp σ (fun σ => fX11_ending σ 0 p1 p2 p3) (fun τ => fX12_ending τ 383 p1 p2 p3) := by
  by_cases hp : ∃ a b c, a < 4 ∧ b < 4 ∧ c < 2 ∧ p1 = nI a ∧ p2 = nI b ∧ p3 = nI c
  rotate_left
  · refine zO_e (r := -nI 2) (τ := σ) (υ := σ) ?_ (z_endN hp) h
    refine zW_val ?_
    unfold fX11_ending
    exact zW_ob (z_endAtN hp) (zW_so rfl)
  obtain ⟨a, b, c, ha, hb, hc, rfl, rfl, rfl⟩ := hp
  obtain ⟨l, l1, l2, l3, l4⟩ := h.2.2.2.2.2.1
  have hg := h.2.1
  have hcb := h.2.2.1
  obtain ⟨n, hnn⟩ : ∃ n, n = (a * 4 + b) * 2 + c := ⟨_, rfl⟩
  have hn : n < 32 := by omega
  have hL := hcb.2.2.2.1 n hn
  have hE := hg.2.2.2.1 n hn
  have he : σ (72 + 2 * n) 1 = g (zea n) := by
    have := hL.1
    unfold zen at this
    rw [ztx_len] at this
    exact this.trans hE.1.1.symm
  -- the class
  have hx : ∀ (Q : Int32 × Mem → Prop), (¬ (0 ≤ l.length ∧ l.length ≤ 3 ∧ zAl l) → Q (-nI 3, mw σ 1 1 (nI 0))) → ((0 ≤ l.length ∧ l.length ≤ 3 ∧ zAl l) → ∀ τ, zL τ (72 + 2 * n) l → (∀ x k, x ≠ 72 + 2 * n → x ≠ 73 + 2 * n → τ x k = σ x k) → Q (g (zea n), mw τ 1 1 (nI 0))) → zW (fX11_ending σ 0 (nI a) (nI b) (nI c)) Q := by
    intro Q r1 r2
    unfold fX11_ending
    refine zW_ob (z_endAtX ha hb hc) ?_
    rw [← hnn, zE_ocss]
    refine zW_jn (fun y : Int32 × Mem => Q (y.1, mw y.2 1 1 (nI 0))) ?_ ?_
    · rintro ⟨r, τ⟩ hr
      exact zW_ob z_clear (zW_so hr)
    · intro k hk
      simp only [Nat.zero_add]
      refine zW_if (fun q => hk _ (r1 ?_)) (fun q => ?_)
      · rw [l2.1] at q
        simp (disch := omega) only [zLT, zC] at q
        omega
      · rw [l2.1] at q
        simp (disch := omega) only [zLT, zC] at q
        refine zW_ob (z_allLetters (R := 50) l2 zl_c.2.2.2.2.2.2.1 (by omega) (by omega)) ?_
        by_cases hz : zAl l
        · rw [if_pos hz]
          refine zW_f zn01 (zW_bv _ he ?_)
          obtain ⟨τ, t1, t2, t3⟩ := z_become (i := 72 + 2 * n) (j := 1) (R := 3) (S := 50) (by omega) (zl_b.2.1 _ (by omega) (by omega) (by omega)) zl_c.2.2.2.2.2.2.1 (by omega) (by omega) l2 l1 (by omega)
          exact zW_ob t1 (hk _ (r2 ⟨by omega, by omega, hz⟩ τ t2 (fun x k p q => t3 x k p (by omega))))
        · rw [if_neg hz]
          exact zW_t rfl (hk _ (r1 (fun p => hz p.2.2)))
  -- the model
  have hm : ∀ (τ : Mem) (Q : Int32 × Mem → Prop), (∀ x c, x ≠ 1 → x ≠ 2 → ¬ (3 ≤ x ∧ x < 172) → τ x c = σ x c) → (¬ (0 ≤ l.length ∧ l.length ≤ 3 ∧ zAl l) → Q (-nI 3, mw τ 383 4 (nI 0)))
      → ((0 ≤ l.length ∧ l.length ≤ 3 ∧ zAl l) → ∀ υ, (∀ x c, x ≠ 384 → ¬ (x = 383 ∧ c = 4) → υ x c = τ x c) → υ 383 4 = nI 0 → υ 384 (zea n) = nI l.length → (∀ k, k < l.length → υ 384 (zea n + 1 + k) = nI (l.getD k 0)) → (∀ k, ¬ (zea n ≤ k ∧ k < zea n + 4) → υ 384 k = τ 384 k) → Q (g (zea n), υ))
      → zW (fX12_ending τ 383 (nI a) (nI b) (nI c)) Q := by
    intro τ Q hτ r1 r2
    unfold fX12_ending
    refine zW_ob (z_isIn (a := 0) (c := 3) (by omega) (by omega) (by omega)) (zW_f zn01 (zW_ob (z_isIn (a := 0) (c := 3) (by omega) (by omega) (by omega)) (zW_f zn01 (zW_ob (z_isIn (a := 0) (c := 1) (by omega) (by omega) (by omega)) (zW_f zn01 ?_)))))
    have l4' : ∀ k, k < l.length → τ 386 k = nI (l.getD k 0) := fun k hk => by rw [hτ _ _ (by omega) (by omega) (by omega)]; exact l4 k hk
    refine zW_ob (z_letters (a := 0) (b := 3) l1 (by rw [hτ _ _ (by omega) (by omega) (by omega)]; exact l3) l4' (fun k hk => zL_get l2 hk) (by omega) (by omega)) ?_
    dsimp only
    by_cases hz : 0 ≤ l.length ∧ l.length ≤ 3 ∧ zAl l
    rotate_left
    · rw [if_neg hz]
      exact zW_f (by decide +kernel) (zW_so (r1 hz))
    rw [if_pos hz]
    have z1 : 214 ≤ zea n ∧ zea n + 4 ≤ 342 := by unfold zea; omega
    have inb' : ∀ k, k < 500 → inb (nI k) (ln (383 + 1)) = true := fun k hk => by simp (disch := omega) only [Nat.reduceAdd, zl_c, zI]
    have ea : fX12_endAt (mw τ 383 4 (nI 0)) (nI a) (nI b) (nI c) = some (nI (zea n)) := by
      unfold fX12_endAt
      simp only [zLT, zI]
      congr 2
      unfold zea; omega
    refine zW_t (by simp (disch := omega) only [zLT, zC]; omega) (zW_ob ea (zW_gd (inb' _ (by omega)) (zW_bv (g (zea n)) ?_ (zW_gd (inb' _ (by omega)) ?_))))
    · rw [zi_ix (by omega)]
      simp (disch := omega) only [Nat.reduceAdd, zM]
      rw [hτ _ _ (by omega) (by omega) (by omega), h.1 _ (by omega)]
    refine zW_bv (mw (mw τ 383 4 (nI 0)) 384 (zea n) (nI l.length)) (by rw [zi_ix (by omega)]) ?_
    refine zW_lp (fun j s => j ≤ l.length ∧ ∃ υ, s = (nI j, υ) ∧ (∀ x c, x ≠ 384 → ¬ (x = 383 ∧ c = 4) → υ x c = τ x c) ∧ υ 383 4 = nI 0 ∧ υ 384 (zea n) = nI l.length ∧ (∀ k, k < j → υ 384 (zea n + 1 + k) = nI (l.getD k 0)) ∧ (∀ k, ¬ (zea n ≤ k ∧ k < zea n + 4) → υ 384 k = τ 384 k)) l.length ?_ (by unfold FU; omega)
      ⟨Nat.zero_le _, _, rfl, fun x c p q => by simp (disch := omega) only [zM], by simp (disch := omega) only [zM], by simp (disch := omega) only [zM], fun k hk => absurd hk (by omega), fun k hk => by simp (disch := omega) only [zM]⟩
    rintro j s hj ⟨-, υ, rfl, u1, u2, u3, u4, u5⟩
    unfold sX12_ending_75
    dsimp only
    refine zW_if (fun q => ?_) (fun q => ?_)
    · simp (disch := omega) only [zC] at q
      have : j = l.length := by omega
      subst this
      exact zW_oR (zW_so (r2 hz υ u1 u2 u3 u4 u5))
    · simp (disch := omega) only [zC] at q
      refine zW_gd (by simp (disch := omega) only [Nat.reduceAdd, zl_c, zI]) (zW_gd (by simp only [zLT, zI]; exact inb' _ (by omega)) ?_)
      have e : υ 386 j = nI (l.getD j 0) := by rw [u1 _ _ (by omega) (by omega)]; exact l4' j (by omega)
      refine zW_bv (mw υ 384 (zea n + 1 + j) (nI (l.getD j 0))) (by simp only [zLT, zI, Nat.reduceAdd]; rw [zi_ix (by omega), zi_ix (by omega), e]) (zW_bv _ rfl (zW_oL ⟨by omega, by omega, mw υ 384 (zea n + 1 + j) (nI (l.getD j 0)), by simp only [zLT, zI], fun x c p q => by simp (disch := omega) only [zM]; exact u1 x c p q, by simp (disch := omega) only [zM]; exact u2, by simp (disch := omega) only [zM]; exact u3, fun k hk => ?_, fun k hk => by simp (disch := omega) only [zM]; exact u5 k hk⟩))
      by_cases hkj : k = j
      · subst hkj; simp only [zM]
      · simp (disch := omega) only [zM]; exact u4 k (by omega)
  refine zO_op ?_
  refine hx _ (fun hz => ?_) (fun hz τ t1 t2 => ?_)
  · exact hm _ _ (fun x c p q r => by simp (disch := omega) only [zM]) (fun _ => ⟨rfl, g, zIv_tp h (fun x c p q r s => by simp (disch := omega) only [zM]) (zTP_e (by simp (disch := omega) only [zM]) (by simp only [zM]))⟩) (fun q => absurd q hz)
  refine hm _ _ (fun x c p q r => by simp (disch := omega) only [zM]; exact t2 _ _ (by omega) (by omega)) (fun q => absurd hz q) ?_
  intro _ υ u1 u2 u3 u4 u5
  have z1 : 214 ≤ zea n ∧ zea n + 4 ≤ 342 := by unfold zea; omega
  have w1 : ∀ x k, ¬ (x = 1 ∧ k = 1) → x ≠ 72 + 2 * n → x ≠ 73 + 2 * n → x ≠ 384 → ¬ (x = 383 ∧ k = 4) → υ x k = σ x k := fun x k p1 p2 p3 p4 p5 => by
    rw [u1 x k p4 p5]
    simp (disch := omega) only [zM]
    exact t2 x k p2 p3
  have w2 : zL υ (72 + 2 * n) l := zL_cb t1 (fun x k p q => by rw [u1 _ _ (by omega) (by omega)]; simp (disch := omega) only [zM])
  have w3 : υ 1 1 = nI 0 := by rw [u1 _ _ (by omega) (by omega)]; simp only [zM]
  have w5 : ∀ k, ¬ (zea n ≤ k ∧ k < zea n + 4) → υ 384 k = σ 384 k := fun k hk => by
    rw [u5 k hk]
    simp (disch := omega) only [zM]
    exact t2 _ _ (by omega) (by omega)
  refine ⟨rfl, fun k => if k < 517 then υ 384 k else g k, ?_⟩
  have gi : ∀ k, k < 517 → (fun k => if k < 517 then υ 384 k else g k) k = υ 384 k := fun k hk => if_pos hk
  have go : ∀ k, ¬ (zea n ≤ k ∧ k < zea n + 4) → (fun k => if k < 517 then υ 384 k else g k) k = g k := fun k hk => by
    by_cases h5 : k < 517
    · rw [gi k h5, w5 k hk]
      exact h.1 k h5
    · exact if_neg h5
  generalize (fun k => if k < 517 then υ 384 k else g k) = g' at *
  have a4 : g' (zea n) = nI l.length := by rw [gi _ (by omega), u3]
  have a5 : ∀ k, k < l.length → g' (zea n + 1 + k) = nI (l.getD k 0) := fun k hk => by rw [gi _ (by omega), u4 k hk]
  have hwd : zEd g' n := by
    unfold zEd
    rw [a4, zi_ix (by omega)]
    refine ⟨zNI_of hz.2.1 (by omega), fun k hk => ?_⟩
    rw [a5 k hk]
    exact zlet_of (hz.2.2 k hk)
  have hst : zen g' n = l := by
    unfold zen
    rw [a4, zi_ix (by omega)]
    exact ztx_eq a5 (fun k hk => zL_get l2 hk)
  show zIv υ g'
  refine zIv_bk h (fun x c p => w1 x c (by omega) (by omega) (by omega) (by omega) (by omega)) (fun k hk => (gi k hk).symm) (zBG_ed hg hn go hwd) ?_ ?_ (zTP_e w3 u2)
  · exact zCB_ed hg hn go hcb (by rw [hst]; exact w2) (fun x k p1 p2 p3 => w1 x k (by omega) (by omega) (by omega) (by omega) (by omega))
  · exact zNG_co h.2.2.2.1 (fun a k p q r => w1 a k (by omega) (by omega) (by omega) (by omega) (by omega)) (fun a k p q => w1 a k (by omega) (by omega) (by omega) (by omega) (by omega))
