theorem z_nFz {σ : Mem} {g : Nat → Int32} (h : zIv σ g) : σ 3 5 = nI (znF g) := h.2.2.1.1.2.trans h.2.1.2.1.1
theorem z_nFm {σ : Mem} {g : Nat → Int32} (hg : zBG g) (hM : zMG σ g) : σ (383 + 1) (ix 1) = nI (znF g) := by
  simp (disch := omega) only [zLT, Nat.reduceAdd, zI]
  exact (hM 1 (by omega)).trans hg.2.1.1
theorem zrgN {x : Int32} {n : Nat} (hn : n < 2 ^ 30) (h : x < 0 ∨ nI (n + 1) ≤ x) (h0 : ¬ x < 0) : ¬ x ≤ nI n := by
  obtain ⟨j, hj, rfl⟩ := nI_of h0
  rcases h with h | h
  · exact absurd h h0
  · simp (disch := omega) only [zC] at h ⊢
    omega
theorem z_op_drawn {σ : Mem} {g : Nat → Int32} (h : zIv σ g) (p1 p2 : Int32) : zOp σ (fun σ => fX11_drawn σ 0 p1 p2) (fun τ => fX12_drawn τ 383 p1 p2) := by
  have hg := h.2.1
  have hM := h.1
  have hnF : znF g ≤ 5 := hg.2.1.2
  have gd : inb (1 : Int32) (ln (383 + 1)) = true := by simp (disch := omega) only [zLT, Nat.reduceAdd, zl_c, zI]
  rcases zrg p2 (n := 2) (by omega) with ⟨k, hk, rfl⟩ | h1
  rotate_left
  · refine zO_e (r := -nI 2) (τ := σ) (υ := σ) ?_ ?_ h
    · unfold fX11_drawn
      by_cases h0 : p2 < 0
      · rw [if_pos h0]; rfl
      · rw [if_neg h0, if_neg (show ¬ p2 ≤ (1 : Int32) from zrgN (n := 1) (by omega) h1 h0)]; rfl
    · unfold fX12_drawn
      rw [show (1 : Int32) = nI (2 - 1) from rfl, zLT.1, z_isInX (by omega) (by omega) h1]; rfl
  have m0 : ∀ (τ : Mem) (Q : Int32 × Mem → Prop), zMG τ g → zW (if nI (znF g) = 0 then (some ((-3 : Int32), τ)) else (obd (fX12_drawsLine τ 383 p1) (fun q5 => if (nI k : Int32) = (1 : Int32) then (some ((q5 383 13), q5)) else (obd (fX12_counted q5 383) (fun q8 => some (q8.1, q8.2)))))) Q → zW (fX12_drawn τ 383 p1 (nI k)) Q := by
    intro τ Q hMt hQ
    unfold fX12_drawn
    refine zW_ob (by rw [show (1 : Int32) = nI 1 from rfl, zLT.1]; exact z_isIn (by omega) (by omega) (by omega)) (zW_f zn01 (zW_gd gd ?_))
    rw [z_nFm hg hMt]
    exact hQ
  refine zO_op ?_
  show zW (fX11_drawn σ 0 p1 (nI k)) _
  unfold fX11_drawn
  refine zW_f (nI_pos (by omega)) (zW_t (by simp (disch := omega) only [zLT, zC]; omega) ?_)
  simp only [Nat.zero_add]
  by_cases hF : znF g = 0
  · refine zW_t (by rw [z_nFz h, hF]; rfl) (zW_so (m0 _ _ hM (zW_t (by rw [hF]; rfl) (zW_so ⟨rfl, g, h⟩))))
  · refine zW_f (by rw [z_nFz h]; simp (disch := omega) only [zLT, zC]; exact hF) ?_
    obtain ⟨l, r, τ, -, l1, t1, tf, t2, t3⟩ := z_drawCount (seed := p1) h (Nat.pos_of_ne_zero hF)
    have m1 : ∀ (υ : Mem) (Q : Int32 × Mem → Prop), zFr σ υ → (∀ ω, (∃ g, zIv ω g) → Q (if (nI k : Int32) = nI 1 then nI l.length else (zcr g l (4 * znF g)).1, ω)) → zW (fX12_drawn υ 383 p1 (nI k)) Q := by
      intro υ Q hυ hQ
      have hMu := zMG_fr hM hυ
      refine m0 _ _ hMu (zW_f (by simp (disch := omega) only [zLT, zC]; exact hF) ?_)
      obtain ⟨ω, o1, o2, o3, ω', o4, o5⟩ := t3 υ hMu
      refine zW_ob o1 ?_
      refine zW_if (fun q => zW_so ?_) (fun q => ?_)
      · have q : (nI k : Int32) = nI 1 := q
        have := hQ ω ⟨g, zIv_fr h (zFr_trans hυ o3)⟩
        rw [if_pos q] at this
        rw [o2]; exact this
      · have q : ¬ (nI k : Int32) = nI 1 := q
        have := hQ ω' ⟨g, zIv_fr h (zFr_trans hυ o5)⟩
        rw [if_neg q] at this
        exact zW_ob o4 (zW_so this)
    refine zW_ob t1 ?_
    rcases t2 with ⟨a, b, τ', c1, c2, c3⟩ | ⟨a, b, c⟩
    · rw [a]
      refine zW_f zn01 ?_
      refine zW_if (fun q => zW_so (m1 _ _ tf (fun ω iv => ⟨?_, iv⟩))) (fun q => ?_)
      · have q : (nI k : Int32) = nI 1 := q
        simp only [if_pos q]
        exact b.1.symm
      · have q : ¬ (nI k : Int32) = nI 1 := q
        refine zW_ob (x := τ') c1 (zW_so (m1 _ _ c3 (fun ω iv => ⟨?_, iv⟩)))
        simp only [if_neg q]
        exact c2.symm
    · rw [a]
      refine zW_t rfl (zW_so (m1 _ _ tf (fun ω iv => ⟨?_, iv⟩)))
      simp only
      split
      · rw [b]; rfl
      · rw [c]; rfl
def zgc (n m : Nat) : Nat → Nat
  | 0 => 1
  | d + 1 => if n % (d + 1) = 0 ∧ m % (d + 1) = 0 then d + 1 else zgc n m d
theorem zgc_s (n m d : Nat) : zgc n m (d + 1) = if n % (d + 1) = 0 ∧ m % (d + 1) = 0 then d + 1 else zgc n m d := rfl
theorem z_common {σ : Mem} {n m : Nat} (hn : n ≤ 8) (hm : m ≤ 8) (hm1 : 1 ≤ m) : fX11_commonDivisor σ (nI n) (nI m) = some (nI (zgc n m m)) := by
  unfold fX11_commonDivisor
  have key : ∀ n m : Fin 9, 1 ≤ m.1 → zlpF (sX11_commonDivisor_4 (nI n.1) (nI m.1)) 10 (2, 1) = some (nI (zgc n.1 m.1 m.1)) := by decide +kernel
  exact zlpF_lp (key ⟨n, by omega⟩ ⟨m, by omega⟩ hm1) (by unfold FU; omega)
theorem z_comLoop {p3 : Int32} {a8 : Int32 × Int32 × Mem} {n m : Nat} (h8 : a8.2.1 = nI n) (hn : n ≤ 8) (hm : m ≤ 8) (hm1 : 1 ≤ m) :
    lp (sX12_chance_81 (nI m) p3 a8) FU (nI m) = some ((if p3 = nI 0 then nI (n / zgc n m m) else nI (m / zgc n m m)), a8.2.2) := by
  refine zW_val ?_
  refine zW_lp (fun j a => ∃ d, a = nI d ∧ d + j = m ∧ 1 ≤ d ∧ zgc n m m = zgc n m d) m ?_ (by unfold FU; omega) ⟨m, rfl, rfl, hm1, rfl⟩
  rintro j a hj ⟨d, rfl, e1, e2, e3⟩
  obtain ⟨d', rfl⟩ : ∃ d', d = d' + 1 := ⟨d - 1, by omega⟩
  rw [zgc_s] at e3
  have nz : (!decide ((nI (d' + 1) : Int32) = 0)) = true := by
    rw [Bool.not_eq_true', decide_eq_false_iff_not]
    simp (disch := omega) only [zLT, zC]; omega
  have nxt : ¬ (n % (d' + 1) = 0 ∧ m % (d' + 1) = 0) → zW (bnd (nI (d' + 1) + (-1 : Int32)) (fun x14 => oL x14)) (zS (fun a' => j < m ∧ ∃ d, a' = nI d ∧ d + (j + 1) = m ∧ 1 ≤ d ∧ zgc n m m = zgc n m d) (fun r => r = ((if p3 = nI 0 then nI (n / zgc n m m) else nI (m / zgc n m m)), a8.2.2))) := by
    intro hno
    have hd : 1 ≤ d' := by
      rcases Nat.eq_zero_or_pos d' with q | q
      · subst q
        exact absurd ⟨Nat.mod_one _, Nat.mod_one _⟩ hno
      · exact q
    rw [if_neg hno] at e3
    exact zW_oL ⟨by omega, d', by simp (disch := omega) only [zLT, zI]; rfl, by omega, hd, e3⟩
  have bn : n % (d' + 1) < 2 ^ 31 := Nat.lt_of_le_of_lt (Nat.mod_le _ _) (by omega)
  have bm : m % (d' + 1) < 2 ^ 31 := Nat.lt_of_le_of_lt (Nat.mod_le _ _) (by omega)
  unfold sX12_chance_81
  rw [h8]
  refine zW_gd nz ?_
  refine zW_if (fun q => ?_) (fun q => ?_)
  · simp (disch := omega) only [zLT, zI] at q
    rw [zi_eq bn (by omega)] at q
    refine zW_gd nz ?_
    refine zW_if (fun q' => ?_) (fun q' => ?_)
    · simp (disch := omega) only [zLT, zI] at q'
      rw [zi_eq bm (by omega)] at q'
      rw [if_pos ⟨q, q'⟩] at e3
      rw [e3]
      refine zW_oR (zW_if (fun r => zW_gd nz (zW_so ?_)) (fun r => zW_gd nz (zW_so ?_)))
      · have r : p3 = nI 0 := r
        rw [zS_inr, if_pos r]
        simp (disch := omega) only [zI]
      · have r : ¬ p3 = nI 0 := r
        rw [zS_inr, if_neg r]
        simp (disch := omega) only [zI]
    · simp (disch := omega) only [zLT, zI] at q'
      rw [zi_eq bm (by omega)] at q'
      exact nxt (fun h => q' h.2)
  · simp (disch := omega) only [zLT, zI] at q
    rw [zi_eq bn (by omega)] at q
    exact nxt (fun h => q h.1)
/-- how many of the first k seeds have just one reading -/
theorem z_op_chance {σ : Mem} {g : Nat → Int32} (h : zIv σ g) (p1 p2 p3 : Int32) : zOp σ (fun σ => fX11_chance σ 0 p1 p2 p3) (fun τ => fX12_chance τ 383 p1 p2 p3) := by
  have hg := h.2.1
  have hM := h.1
  have hnF : znF g ≤ 5 := hg.2.1.2
  have gd : inb (1 : Int32) (ln (383 + 1)) = true := by simp (disch := omega) only [zLT, Nat.reduceAdd, zl_c, zI]
  -- m
  by_cases hm : ∃ m, 1 ≤ m ∧ m ≤ 8 ∧ p2 = nI m
  rotate_left
  · have hlt : p2 < nI 1 ∨ nI 8 < p2 := by
      apply Classical.byContradiction
      intro q
      apply hm
      have q1 : ¬ p2 < nI 1 := fun x => q (Or.inl x)
      have q2 : ¬ nI 8 < p2 := fun x => q (Or.inr x)
      rw [Int32.lt_iff_toInt_lt] at q1 q2
      have e1 : (nI 1).toInt = 1 := rfl
      have e8 : (nI 8).toInt = 8 := rfl
      have h0 : ¬ p2 < 0 := by
        rw [Int32.lt_iff_toInt_lt]
        have : (0 : Int32).toInt = 0 := rfl
        omega
      obtain ⟨j, hj, rfl⟩ := nI_of h0
      rw [nI_toInt hj] at q1 q2
      exact ⟨j, by omega, by omega, rfl⟩
    refine zO_e (r := -nI 2) (τ := σ) (υ := σ) ?_ ?_ h
    · unfold fX11_chance
      rcases hlt with q | q
      · rw [if_pos (show p2 < (1 : Int32) from q)]; rfl
      · by_cases q' : p2 < (1 : Int32)
        · rw [if_pos q']; rfl
        · rw [if_neg q', if_pos (show (8 : Int32) < p2 from q)]; rfl
    · unfold fX12_chance
      rw [show (1 : Int32) = nI 1 from rfl, show (8 : Int32) = nI 8 from rfl, z_isInN hlt]; rfl
  obtain ⟨m, hm1, hm8, rfl⟩ := hm
  rcases zrg p3 (n := 2) (by omega) with ⟨k, hk, rfl⟩ | h1
  rotate_left
  · refine zO_e (r := -nI 2) (τ := σ) (υ := σ) ?_ ?_ h
    · unfold fX11_chance
      have a1 : ¬ (nI m : Int32) < 1 := by simp (disch := omega) only [zLT, zC]; omega
      have a2 : ¬ (8 : Int32) < nI m := by simp (disch := omega) only [zLT, zC]; omega
      rw [if_neg a1, if_neg a2]
      by_cases h0 : p3 < 0
      · rw [if_pos h0]; rfl
      · rw [if_neg h0, if_neg (show ¬ p3 ≤ (1 : Int32) from zrgN (n := 1) (by omega) h1 h0)]; rfl
    · unfold fX12_chance
      rw [show (1 : Int32) = nI 1 from rfl, show (8 : Int32) = nI 8 from rfl, z_isIn hm1 hm8 (by omega)]
      simp only [zE, zn01, zLT, if_false]
      rw [show (nI 1 : Int32) = nI (2 - 1) from rfl, z_isInX (by omega) (by omega) h1]; rfl
  have m0 : ∀ (τ : Mem) (Q : Int32 × Mem → Prop), zMG τ g → zW (if nI (znF g) = 0 then (some ((-3 : Int32), τ)) else (lp (sX12_chance_40 383 p1 (nI m) (nI k)) FU ((0 : Int32), (0 : Int32), τ))) Q → zW (fX12_chance τ 383 p1 (nI m) (nI k)) Q := by
    intro τ Q hMt hQ
    unfold fX12_chance
    refine zW_ob (by rw [show (1 : Int32) = nI 1 from rfl, show (8 : Int32) = nI 8 from rfl]; exact z_isIn hm1 hm8 (by omega)) (zW_f zn01 ?_)
    refine zW_ob (by rw [show (1 : Int32) = nI 1 from rfl, zLT.1]; exact z_isIn (by omega) (by omega) (by omega)) (zW_f zn01 (zW_gd gd ?_))
    rw [z_nFm hg hMt]
    exact hQ
  refine zO_op ?_
  show zW (fX11_chance σ 0 p1 (nI m) (nI k)) _
  unfold fX11_chance
  refine zW_f (by simp (disch := omega) only [zLT, zC]; omega) (zW_f (by simp (disch := omega) only [zLT, zC]; omega) ?_)
  refine zW_f (nI_pos (by omega)) (zW_t (by simp (disch := omega) only [zLT, zC]; omega) ?_)
  simp only [Nat.zero_add]
  by_cases hF : znF g = 0
  · refine zW_t (by rw [z_nFz h, hF]; rfl) (zW_so (m0 _ _ hM (zW_t (by rw [hF]; rfl) (zW_so ⟨rfl, g, h⟩))))
  · refine zW_f (by rw [z_nFz h]; simp (disch := omega) only [zLT, zC]; exact hF) ?_
    have hF' := Nat.pos_of_ne_zero hF
    let X : Int32 → Int32 := fun seed => (zcr g (zdl g seed) (4 * znF g)).1
    let P : Nat → Bool := fun i => decide (X (p1 + nI i) = nI 1)
    have one : ∀ (seed : Int32) (υ : Mem), zFr σ υ → (∃ r τ, fX11_sayDrawn υ 0 seed = some (r, τ) ∧ zFr σ τ ∧ ((r = nI 1 ∧ ∃ τ', fX6_countReadings τ 359 3 353 = some τ' ∧ τ' 359 5 = X seed ∧ zFr σ τ') ∨ (r = nI 0 ∧ X seed = nI 0)))
        ∧ ∃ ω ω', fX12_drawsLine υ 383 seed = some ω ∧ fX12_counted ω 383 = some (X seed, ω') ∧ zFr σ ω' := by
      intro seed υ hυ
      obtain ⟨l, r, τ, e, -, t1, tf, t2, t3⟩ := z_drawCount (seed := seed) (zIv_fr h hυ) hF'
      subst e
      refine ⟨⟨r, τ, t1, zFr_trans hυ tf, ?_⟩, ?_⟩
      · rcases t2 with ⟨a, b, τ', c1, c2, c3⟩ | ⟨a, b, c⟩
        · exact Or.inl ⟨a, τ', c1, c2, zFr_trans hυ c3⟩
        · exact Or.inr ⟨a, c⟩
      · obtain ⟨ω, o1, o2, o3, ω', o4, o5⟩ := t3 υ (zMG_fr hM hυ)
        exact ⟨ω, ω', o1, o4, zFr_trans hυ o5⟩
    have hcl := zct_le P m
    -- the class
    have xs : zW (lp (sX11_chance_42 0 p1 (nI m) (nI k)) FU ((0 : Int32), (0 : Int32), σ)) (fun r => r.1 = (if (nI k : Int32) = nI 0 then nI (zct P m / zgc (zct P m) m m) else nI (m / zgc (zct P m) m m)) ∧ zFr σ r.2) := by
      refine zW_lp (fun i a => ∃ τ, a = (nI i, nI (zct P i), τ) ∧ zFr σ τ) m ?_ (by unfold FU; omega) ⟨σ, rfl, zFr_refl σ⟩
      rintro i a hi ⟨τ, rfl, tf⟩
      unfold sX11_chance_42
      dsimp only
      refine zW_if (fun q => ?_) (fun q => ?_)
      · simp (disch := omega) only [zC] at q
        have : i = m := by omega
        subst this
        refine zW_oR (zW_ob (z_common (by omega) hm8 hm1) ?_)
        have hgc : 1 ≤ zgc (zct P i) i i ∧ zgc (zct P i) i i ≤ i := by
          have : ∀ d, 1 ≤ d → 1 ≤ zgc (zct P i) i d ∧ zgc (zct P i) i d ≤ d := by
            intro d
            induction d with
            | zero => intro q; omega
            | succ d ih =>
              intro _
              rw [zgc_s]
              split
              · omega
              · rcases Nat.eq_zero_or_pos d with q | q
                · subst q; exact ⟨Nat.le_refl _, Nat.le_refl _⟩
                · have := ih q; omega
          exact this i hm1
        have nz : (!decide ((nI (zgc (zct P i) i i) : Int32) = 0)) = true := by
          rw [Bool.not_eq_true', decide_eq_false_iff_not]
          simp (disch := omega) only [zLT, zC]; omega
        refine zW_if (fun r => zW_gd nz (zW_so ⟨?_, tf⟩)) (fun r => zW_gd nz (zW_so ⟨?_, tf⟩))
        · have r : (nI k : Int32) = nI 0 := r
          rw [if_pos r]
          simp (disch := omega) only [zI]
        · have r : ¬ (nI k : Int32) = nI 0 := r
          rw [if_neg r]
          simp (disch := omega) only [zI]
      · simp (disch := omega) only [zC] at q
        obtain ⟨⟨r, τ', t1, t2, t3⟩, -⟩ := one (p1 + nI i) τ tf
        refine zW_ob t1 ?_
        have n01 : ¬ (nI 0 : Int32) = nI 1 := by decide +kernel
        rcases t3 with ⟨a, τ2, c1, c2, c3⟩ | ⟨a, b⟩
        · rw [a]
          refine zW_f zn01 ?_
          refine zW_ob (x := τ2) (by simp only [Nat.zero_add, Nat.reduceAdd]; exact c1) ?_
          refine zW_if (fun r => ?_) (fun r => ?_)
          · have r : X (p1 + nI i) = nI 1 := by rw [← c2]; exact r
            have hp : P i = true := decide_eq_true r
            exact zW_oL ⟨by omega, τ2, by simp only [zLT, zI, zct, hp, if_true], c3⟩
          · have r : ¬ X (p1 + nI i) = nI 1 := by rw [← c2]; exact r
            have hp : P i = false := decide_eq_false r
            exact zW_oL ⟨by omega, τ2, by simp only [zLT, zI, zct, hp, Bool.false_eq_true, if_false], c3⟩
        · rw [a]
          refine zW_t rfl ?_
          have hp : P i = false := decide_eq_false (by rw [b]; exact n01)
          exact zW_oL ⟨by omega, τ', by simp only [zLT, zI, zct, hp, Bool.false_eq_true, if_false, Nat.add_zero], t2⟩
    refine zW_mono xs ?_
    rintro ⟨r, τ⟩ ⟨x1, x2⟩
    dsimp only at x1 x2 ⊢
    refine m0 _ _ (zMG_fr hM x2) (zW_f (by simp (disch := omega) only [zLT, zC]; exact hF) ?_)
    refine zW_lp (fun i a => ∃ υ, a = (nI i, nI (zct P i), υ) ∧ zFr σ υ) m ?_ (by unfold FU; omega) ⟨τ, rfl, x2⟩
    rintro i a hi ⟨υ, rfl, tf⟩
    unfold sX12_chance_40
    dsimp only
    refine zW_if (fun q => ?_) (fun q => ?_)
    · simp (disch := omega) only [zC] at q
      have : i = m := by omega
      subst this
      refine zW_oR (zW_eq (z_comLoop (n := zct P i) rfl (by omega) hm8 hm1) ⟨?_, g, zIv_fr h tf⟩)
      rw [x1]
    · simp (disch := omega) only [zC] at q
      obtain ⟨-, ω, ω', o1, o2, o3⟩ := one (p1 + nI i) υ tf
      refine zW_ob o1 (zW_ob o2 ?_)
      refine zW_if (fun r => ?_) (fun r => ?_)
      · have hp : P i = true := decide_eq_true r
        exact zW_oL ⟨by omega, ω', by simp only [zLT, zI, zct, hp, if_true], o3⟩
      · have hp : P i = false := decide_eq_false r
        exact zW_oL ⟨by omega, ω', by simp only [zLT, zI, zct, hp, Bool.false_eq_true, if_false], o3⟩
