/-- what a hole gives to its frame's count, as the model goes -/
def zMf (g : Nat → Int32) (l : List Nat) (f m i : Nat) : Nat := if ix (g (zha f i)) = 112 then zA g l f 0 0 i else if ix (g (zha f i)) = 110 then zWG g l f (ix (g (zha f i + 1))) m else 1
def zMn (g : Nat → Int32) (l : List Nat) (f m i : Nat) : Nat := if ix (g (zha f i)) = 112 then zAf g l f 0 0 i else if ix (g (zha f i)) = 110 then zFG g l f (ix (g (zha f i + 1))) m else 0
theorem zWQ_eq {g : Nat → Int32} {l : List Nat} {f m gr : Nat} (hF : zFm g f) : zpr (fun i => if g (zha f i) = nI 110 ∧ g (zha f i + 1) = nI gr then zWG g l f gr m else 1) (znH g f) = zWQ g l f m gr := by
  unfold zWQ
  cases hz : zhn g f gr with
  | true =>
    obtain ⟨j, j1, j2, j3⟩ := zhn_t hz
    rw [zpr_pick j1, if_pos ⟨j2, j3⟩, if_pos rfl]
    have : zpr (fun i => if i = j then 1 else if g (zha f i) = nI 110 ∧ g (zha f i + 1) = nI gr then zWG g l f gr m else 1) (znH g f) = zpr (fun _ => 1) (znH g f) := zpr_cg (fun i hi => by
      by_cases q : i = j
      · rw [if_pos q]
      · rw [if_neg q, if_neg]
        intro h
        exact q (hF.2.2.2.2 i j hi j1 h.1 j2 (h.2.trans j3.symm)))
    rw [this, zpr_1, Nat.mul_one]
  | false =>
    rw [if_neg (by decide)]
    have : zpr (fun i => if g (zha f i) = nI 110 ∧ g (zha f i + 1) = nI gr then zWG g l f gr m else 1) (znH g f) = zpr (fun _ => 1) (znH g f) := zpr_cg (fun i hi => by
      rw [if_neg]
      intro h
      exact zhn_f hz i hi h.1 h.2)
    rw [this, zpr_1]
theorem zFQ_eq {g : Nat → Int32} {l : List Nat} {f m gr : Nat} (hF : zFm g f) : zsm (fun i => if g (zha f i) = nI 110 ∧ g (zha f i + 1) = nI gr then zFG g l f gr m else 0) (znH g f) = zFQ g l f m gr := by
  unfold zFQ
  cases hz : zhn g f gr with
  | true =>
    obtain ⟨j, j1, j2, j3⟩ := zhn_t hz
    rw [zsm_pick j1, if_pos ⟨j2, j3⟩, if_pos rfl]
    have : zsm (fun i => if i = j then 0 else if g (zha f i) = nI 110 ∧ g (zha f i + 1) = nI gr then zFG g l f gr m else 0) (znH g f) = zsm (fun _ => 0) (znH g f) := zsm_cg (fun i hi => by
      by_cases q : i = j
      · rw [if_pos q]
      · rw [if_neg q, if_neg]
        intro h
        exact q (hF.2.2.2.2 i j hi j1 h.1 j2 (h.2.trans j3.symm)))
    rw [this, zsm_z, Nat.add_zero]
  | false =>
    rw [if_neg (by decide)]
    have : zsm (fun i => if g (zha f i) = nI 110 ∧ g (zha f i + 1) = nI gr then zFG g l f gr m else 0) (znH g f) = zsm (fun _ => 0) (znH g f) := zsm_cg (fun i hi => by
      rw [if_neg]
      intro h
      exact zhn_f hz i hi h.1 h.2)
    rw [this, zsm_z]
/-- of a hole: is it a p, what is its group -/
theorem zho_c {g : Nat → Int32} {f i : Nat} (hF : zFm g f) (hi : i < znH g f) : (g (zha f i) = nI 112 ∧ ix (g (zha f i)) = 112 ∧ g (zha f i + 1) = -nI 1) ∨ (g (zha f i) = nI 110 ∧ ix (g (zha f i)) = 110 ∧ ∃ gr, gr < 3 ∧ g (zha f i + 1) = nI gr ∧ ix (g (zha f i + 1)) = gr)
    ∨ (g (zha f i) ≠ nI 112 ∧ g (zha f i) ≠ nI 110 ∧ ix (g (zha f i)) ≠ 112 ∧ ix (g (zha f i)) ≠ 110 ∧ ∃ gr, gr < 3 ∧ g (zha f i + 1) = nI gr) := by
  have hH := hF.2.2.1 i hi
  obtain ⟨n, l1, l2, l3⟩ := zHo_l hH
  by_cases h1 : n = 112
  · subst h1
    exact Or.inl ⟨l1, l2, (zHo_p hH l1).1⟩
  · have hne : g (zha f i) ≠ nI 112 := by
      rw [l1]; simp (disch := omega) only [zC, ne_eq]; exact h1
    have g1 := (zHo_g hH hne).1
    have g1' := g1.2
    have ge : g (zha f i + 1) = nI (ix (g (zha f i + 1))) := g1.1
    by_cases h2 : n = 110
    · subst h2
      exact Or.inr (Or.inl ⟨l1, l2, _, by omega, ge, rfl⟩)
    · refine Or.inr (Or.inr ⟨hne, ?_, by omega, by omega, _, by omega, ge⟩)
      rw [l1]; simp (disch := omega) only [zC, ne_eq]; exact h2
theorem zMf_eq {g : Nat → Int32} {l : List Nat} {f m : Nat} (hF : zFm g f) : zpr (zMf g l f m) (znH g f) = zWF g l f m := by
  unfold zWF
  have e3 : zpr (zWQ g l f m) 3 = zWQ g l f m 0 * zWQ g l f m 1 * zWQ g l f m 2 := by
    show 1 * zWQ g l f m 0 * zWQ g l f m 1 * zWQ g l f m 2 = _
    rw [Nat.one_mul]
  rw [e3, ← zWQ_eq hF, ← zWQ_eq hF, ← zWQ_eq hF, ← zpr_mul, ← zpr_mul, ← zpr_mul]
  refine zpr_cg (fun i hi => ?_)
  unfold zMf zWP zgN
  rcases zho_c hF hi with ⟨a, b, c⟩ | ⟨a, b, gr, c, d, e⟩ | ⟨a, b, c, d, gr, e, h⟩
  · have n1 : ¬ (nI 112 : Int32) = nI 110 := by decide +kernel
    rw [if_pos b, c, a, if_pos (decide_eq_true rfl), if_neg (fun q => n1 q.1), if_neg (fun q => n1 q.1), if_neg (fun q => n1 q.1)]
    simp only [Nat.mul_one]
    unfold zA zWH
    congr 1
    funext w
    rw [zfit_o (by omega)]
  · rw [if_neg (by omega), if_pos b, e, d, a]
    have n0 : ¬ decide ((nI gr : Int32) = -nI 1) = true := by
      intro q
      have := of_decide_eq_true q
      simp (disch := omega) only [zC] at this
    rw [if_neg n0, Nat.one_mul]
    rcases (by omega : gr = 0 ∨ gr = 1 ∨ gr = 2) with q | q | q <;> subst q
    · rw [if_pos ⟨rfl, rfl⟩, if_neg (fun q => absurd q.2 (by decide +kernel)), if_neg (fun q => absurd q.2 (by decide +kernel))]
      simp only [Nat.mul_one, Nat.one_mul, Nat.add_zero, Nat.zero_add]
    · rw [if_neg (fun q => absurd q.2 (by decide +kernel)), if_pos ⟨rfl, rfl⟩, if_neg (fun q => absurd q.2 (by decide +kernel))]
      simp only [Nat.mul_one, Nat.one_mul, Nat.add_zero, Nat.zero_add]
    · rw [if_neg (fun q => absurd q.2 (by decide +kernel)), if_neg (fun q => absurd q.2 (by decide +kernel)), if_pos ⟨rfl, rfl⟩]
      simp only [Nat.mul_one, Nat.one_mul, Nat.add_zero, Nat.zero_add]
  · have n0 : ¬ decide ((nI gr : Int32) = -nI 1) = true := by
      intro q
      have := of_decide_eq_true q
      simp (disch := omega) only [zC] at this
    rw [if_neg c, if_neg d, h, if_neg n0, if_neg (fun q => b q.1), if_neg (fun q => b q.1), if_neg (fun q => b q.1)]
theorem zMn_eq {g : Nat → Int32} {l : List Nat} {f m : Nat} (hF : zFm g f) : zsm (zMn g l f m) (znH g f) = zFF g l f m := by
  unfold zFF
  have e3 : zsm (zFQ g l f m) 3 = zFQ g l f m 0 + zFQ g l f m 1 + zFQ g l f m 2 := by
    show 0 + zFQ g l f m 0 + zFQ g l f m 1 + zFQ g l f m 2 = _
    rw [Nat.zero_add]
  rw [e3, ← zFQ_eq hF, ← zFQ_eq hF, ← zFQ_eq hF, ← zsm_add, ← zsm_add, ← zsm_add]
  refine zsm_cg (fun i hi => ?_)
  unfold zMn zFP zgN
  rcases zho_c hF hi with ⟨a, b, c⟩ | ⟨a, b, gr, c, d, e⟩ | ⟨a, b, c, d, gr, e, h⟩
  · have n1 : ¬ (nI 112 : Int32) = nI 110 := by decide +kernel
    rw [if_pos b, c, a, if_pos (decide_eq_true rfl), if_neg (fun q => n1 q.1), if_neg (fun q => n1 q.1), if_neg (fun q => n1 q.1)]
    simp only [Nat.add_zero]
    unfold zAf zFH
    have : zfit g f i (0 % 2) (0 / 2) = zcan g f i := by
      funext w
      exact zfit_o (by omega)
    rw [this]
  · rw [if_neg (by omega), if_pos b, e, d, a]
    have n0 : ¬ decide ((nI gr : Int32) = -nI 1) = true := by
      intro q
      have := of_decide_eq_true q
      simp (disch := omega) only [zC] at this
    rw [if_neg n0, Nat.zero_add]
    rcases (by omega : gr = 0 ∨ gr = 1 ∨ gr = 2) with q | q | q <;> subst q
    · rw [if_pos ⟨rfl, rfl⟩, if_neg (fun q => absurd q.2 (by decide +kernel)), if_neg (fun q => absurd q.2 (by decide +kernel))]
      simp only [Nat.mul_one, Nat.one_mul, Nat.add_zero, Nat.zero_add]
    · rw [if_neg (fun q => absurd q.2 (by decide +kernel)), if_pos ⟨rfl, rfl⟩, if_neg (fun q => absurd q.2 (by decide +kernel))]
      simp only [Nat.mul_one, Nat.one_mul, Nat.add_zero, Nat.zero_add]
    · rw [if_neg (fun q => absurd q.2 (by decide +kernel)), if_neg (fun q => absurd q.2 (by decide +kernel)), if_pos ⟨rfl, rfl⟩]
      simp only [Nat.mul_one, Nat.one_mul, Nat.add_zero, Nat.zero_add]
  · have n0 : ¬ decide ((nI gr : Int32) = -nI 1) = true := by
      intro q
      have := of_decide_eq_true q
      simp (disch := omega) only [zC] at this
    rw [if_neg c, if_neg d, h, if_neg n0, if_neg (fun q => b q.1), if_neg (fun q => b q.1), if_neg (fun q => b q.1)]
theorem z_byFrame {σ : Mem} {g : Nat → Int32} {l : List Nat} {f m : Nat} (h : zRm σ g l) (hf : f < znF g) (hN : znH g f = (zps l).length) (hm : m < 4) :
    ∃ τ, fX12_byFrame σ 383 (nI f) (nI m) (nI 0) = some (nI (zWF g l f m), τ) ∧ zFa σ τ := by
  have hg := h.1
  have f5 : f < 5 := Nat.lt_of_lt_of_le hf hg.2.1.2
  have hFm := hg.2.2.2.2.1 f hf
  have h6 : znH g f ≤ 6 := hFm.1.2
  have h6' : ix (g (zfa f)) ≤ 6 := hFm.1.2
  rw [← zMf_eq hFm]
  have key : zW (fX12_byFrame σ 383 (nI f) (nI m) (nI 0)) (fun r => ∃ τ, r = (nI (zpr (zMf g l f m) (znH g f)), τ) ∧ zFa σ τ) := by
    unfold fX12_byFrame
    refine zW_jn (fun y => y = nI 1) ?_ (fun k hk => zW_t rfl (hk _ rfl))
    rintro y rfl
    refine zW_lp (fun k a => ∃ τ, a = (nI k, nI (zpr (zMf g l f m) k), τ) ∧ zFa σ τ) (znH g f) ?_ (by unfold FU; omega) ⟨σ, rfl, zFa_r σ⟩
    rintro k a hk ⟨τ, rfl, t1⟩
    have ht := zRm_a h t1
    unfold sX12_byFrame_14
    dsimp only
    refine zW_ob (z_holes ht.2.1 f5) ?_
    refine zW_if (fun q1 => ?_) (fun q1 => ?_)
    · rw [hFm.1.1] at q1
      simp (disch := omega) only [zC] at q1
      have : k = znH g f := by have : ix (g (zfa f)) ≤ k := q1; exact Nat.le_antisymm hk this
      subst this
      exact zW_oR (zW_so ⟨τ, rfl, t1⟩)
    · rw [hFm.1.1] at q1
      simp (disch := omega) only [zC] at q1
      have hkl : k < znH g f := Nat.lt_of_not_le q1
      refine zW_ob (z_ofHole (k := 0) ht.2.1 f5 (by omega) (by omega)) ?_
      rw [Nat.add_zero]
      refine zW_jn (fun _ => g (zha f k) = nI 110 ∨ g (zha f k) = nI 112) ?_ ?_
      · rintro - hl
        refine zW_ob (z_ofHole (k := 0) ht.2.1 f5 (by omega) (by omega)) ?_
        rw [Nat.add_zero]
        refine zW_jn (fun y => ∃ υ, y = (nI (zMf g l f m k), υ) ∧ zFa σ υ) ?_ ?_
        · rintro y ⟨υ, rfl, u1⟩
          refine zW_t rfl ?_
          exact zW_oL ⟨hkl, υ, by simp only [zLT, zI, zpr], u1⟩
        · intro kk hkk
          rcases zho_c hFm hkl with ⟨a, b, c⟩ | ⟨a, b, gr, c, d, e⟩ | ⟨a, b, -⟩
          · refine zW_t a ?_
            obtain ⟨ω, o1, o2⟩ := z_atHole (i := k) (n := 0) (d := 0) (m := 0) ht hf hkl (by omega) (by omega) (by omega) (by omega)
            refine zW_ob o1 (hkk _ ⟨ω, ?_, zFa_t t1 o2⟩)
            unfold zMf
            rw [if_pos b]
            rfl
          · refine zW_f (by rw [a]; decide +kernel) ?_
            refine zW_ob (z_ofHole (k := 1) ht.2.1 f5 (by omega) (by omega)) ?_
            rw [d]
            obtain ⟨ω, o1, o2⟩ := z_byGroup ht hf hN hkl a d hm
            refine zW_ob o1 (hkk _ ⟨ω, ?_, zFa_t t1 o2⟩)
            unfold zMf
            rw [if_neg (by omega), if_pos b, e]
          · exact absurd hl (fun q => q.elim b a)
      · intro kk hkk
        refine zW_if (fun q => hkk () (Or.inl q)) (fun q => ?_)
        refine zW_ob (z_ofHole (k := 0) ht.2.1 f5 (by omega) (by omega)) ?_
        rw [Nat.add_zero]
        refine zW_if (fun q' => hkk () (Or.inr q')) (fun q' => ?_)
        refine zW_oL ⟨hkl, τ, ?_, t1⟩
        have : zMf g l f m k = 1 := by
          unfold zMf
          rcases zho_c hFm hkl with ⟨a, b, c⟩ | ⟨a, b, gr, c, d, e⟩ | ⟨a, b, c, d, -⟩
          · exact absurd a q'
          · exact absurd a q
          · rw [if_neg c, if_neg d]
        simp only [zLT, zI, zpr, this, Nat.mul_one]
  obtain ⟨r, e, τ, rfl, q⟩ := key
  exact ⟨τ, e, q⟩
theorem z_byFrameF {σ : Mem} {g : Nat → Int32} {l : List Nat} {f m : Nat} (h : zRm σ g l) (hf : f < znF g) (hN : znH g f = (zps l).length) (hm : m < 4) :
    ∃ τ, fX12_byFrame σ 383 (nI f) (nI m) (nI 1) = some (nI (zFF g l f m), τ) ∧ zFa σ τ := by
  have hg := h.1
  have f5 : f < 5 := Nat.lt_of_lt_of_le hf hg.2.1.2
  have hFm := hg.2.2.2.2.1 f hf
  have h6 : znH g f ≤ 6 := hFm.1.2
  have h6' : ix (g (zfa f)) ≤ 6 := hFm.1.2
  rw [← zMn_eq hFm]
  have key : zW (fX12_byFrame σ 383 (nI f) (nI m) (nI 1)) (fun r => ∃ τ, r = (nI (zsm (zMn g l f m) (znH g f)), τ) ∧ zFa σ τ) := by
    unfold fX12_byFrame
    refine zW_jn (fun y => y = nI 0) ?_ (fun k hk => zW_f zn01 (hk _ rfl))
    rintro y rfl
    refine zW_lp (fun k a => ∃ τ, a = (nI k, nI (zsm (zMn g l f m) k), τ) ∧ zFa σ τ) (znH g f) ?_ (by unfold FU; omega) ⟨σ, rfl, zFa_r σ⟩
    rintro k a hk ⟨τ, rfl, t1⟩
    have ht := zRm_a h t1
    unfold sX12_byFrame_14
    dsimp only
    refine zW_ob (z_holes ht.2.1 f5) ?_
    refine zW_if (fun q1 => ?_) (fun q1 => ?_)
    · rw [hFm.1.1] at q1
      simp (disch := omega) only [zC] at q1
      have : k = znH g f := by have : ix (g (zfa f)) ≤ k := q1; exact Nat.le_antisymm hk this
      subst this
      exact zW_oR (zW_so ⟨τ, rfl, t1⟩)
    · rw [hFm.1.1] at q1
      simp (disch := omega) only [zC] at q1
      have hkl : k < znH g f := Nat.lt_of_not_le q1
      refine zW_ob (z_ofHole (k := 0) ht.2.1 f5 (by omega) (by omega)) ?_
      rw [Nat.add_zero]
      refine zW_jn (fun _ => g (zha f k) = nI 110 ∨ g (zha f k) = nI 112) ?_ ?_
      · rintro - hl
        refine zW_ob (z_ofHole (k := 0) ht.2.1 f5 (by omega) (by omega)) ?_
        rw [Nat.add_zero]
        refine zW_jn (fun y => ∃ υ, y = (nI (zMn g l f m k), υ) ∧ zFa σ υ) ?_ ?_
        · rintro y ⟨υ, rfl, u1⟩
          refine zW_f zn01 ?_
          exact zW_oL ⟨hkl, υ, by simp only [zLT, zI, zsm], u1⟩
        · intro kk hkk
          rcases zho_c hFm hkl with ⟨a, b, c⟩ | ⟨a, b, gr, c, d, e⟩ | ⟨a, b, -⟩
          · refine zW_t a ?_
            obtain ⟨ω, o1, o2⟩ := z_atHoleN (i := k) (n := 0) (d := 0) (m := 0) ht hf hkl (by omega) (by omega) (by omega) (by omega)
            refine zW_ob o1 (hkk _ ⟨ω, ?_, zFa_t t1 o2⟩)
            unfold zMn
            rw [if_pos b]
            rfl
          · refine zW_f (by rw [a]; decide +kernel) ?_
            refine zW_ob (z_ofHole (k := 1) ht.2.1 f5 (by omega) (by omega)) ?_
            rw [d]
            obtain ⟨ω, o1, o2⟩ := z_byGroupF ht hf hN hkl a d hm
            refine zW_ob o1 (hkk _ ⟨ω, ?_, zFa_t t1 o2⟩)
            unfold zMn
            rw [if_neg (by omega), if_pos b, e]
          · exact absurd hl (fun q => q.elim b a)
      · intro kk hkk
        refine zW_if (fun q => hkk () (Or.inl q)) (fun q => ?_)
        refine zW_ob (z_ofHole (k := 0) ht.2.1 f5 (by omega) (by omega)) ?_
        rw [Nat.add_zero]
        refine zW_if (fun q' => hkk () (Or.inr q')) (fun q' => ?_)
        refine zW_oL ⟨hkl, τ, ?_, t1⟩
        have : zMn g l f m k = 0 := by
          unfold zMn
          rcases zho_c hFm hkl with ⟨a, b, c⟩ | ⟨a, b, gr, c, d, e⟩ | ⟨a, b, c, d, -⟩
          · exact absurd a q'
          · exact absurd a q
          · rw [if_neg c, if_neg d]
        simp only [zLT, zI, zsm, this, Nat.add_zero]
  obtain ⟨r, e, τ, rfl, q⟩ := key
  exact ⟨τ, e, q⟩
