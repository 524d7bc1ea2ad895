def zpt (l : List Nat) : Nat → List (Nat × Nat) × Nat
  | 0 => ([], 0)
  | k + 1 => if l.getD k 0 = 32 then ((zpt l k).1 ++ [((zpt l k).2, k - (zpt l k).2)], k + 1) else zpt l k
/-- the words of a line: where they begin, how long they are -/
def zps (l : List Nat) : List (Nat × Nat) := if l.length = 0 then [] else (zpt l l.length).1 ++ [((zpt l l.length).2, l.length - (zpt l l.length).2)]
theorem zpt_le (l : List Nat) (k : Nat) : (zpt l k).2 ≤ k ∧ (zpt l k).1.length ≤ k ∧ ∀ p, p ∈ (zpt l k).1 → p.1 + p.2 ≤ k := by
  induction k with
  | zero => exact ⟨Nat.le_refl _, Nat.le_refl _, fun p hp => by cases hp⟩
  | succ k ih =>
    unfold zpt
    split
    · refine ⟨Nat.le_refl _, by simp; omega, fun p hp => ?_⟩
      rcases List.mem_append.mp hp with q | q
      · have := ih.2.2 p q; omega
      · rw [List.mem_singleton] at q
        subst q
        simp only
        omega
    · exact ⟨by omega, by omega, fun p hp => by have := ih.2.2 p hp; omega⟩
theorem zps_ok {l : List Nat} {i : Nat} (h : i < (zps l).length) : ((zps l).getD i (0, 0)).1 + ((zps l).getD i (0, 0)).2 ≤ l.length := by
  have hm : (zps l).getD i (0, 0) ∈ zps l := by
    rw [List.getD_eq_getElem?_getD, List.getElem?_eq_getElem h]
    exact List.getElem_mem h
  generalize (zps l).getD i (0, 0) = p at *
  unfold zps at hm
  split at hm
  · cases hm
  · have := zpt_le l l.length
    rcases List.mem_append.mp hm with q | q
    · exact this.2.2 p q
    · rw [List.mem_singleton] at q
      subst q
      simp only
      omega
theorem zps_len {l : List Nat} : (zps l).length ≤ l.length + 1 := by
  unfold zps
  split
  · simp
  · have := (zpt_le l l.length).2.1
    simp; omega
theorem zgp_app (a b : List (Nat × Nat)) (k : Nat) : (a ++ b).getD k (0, 0) = if k < a.length then a.getD k (0, 0) else b.getD (k - a.length) (0, 0) := by
  simp only [List.getD_eq_getElem?_getD, List.getElem?_append]
  split <;> rfl
/-- the class's split of l -/
def zSP (σ : Mem) (l : List Nat) : Prop := σ 359 3 = nI (zps l).length ∧ ∀ k, k < (zps l).length → k < 6 → σ 362 k = nI ((zps l).getD k (0, 0)).1 ∧ σ 363 k = nI ((zps l).getD k (0, 0)).2
/-- the model's -/
def zMP (σ : Mem) (l : List Nat) : Prop := zLn σ l ∧ σ 383 14 = nI (zps l).length ∧ ∀ k, k < (zps l).length → σ 390 k = nI ((zps l).getD k (0, 0)).1 ∧ σ 391 k = nI (((zps l).getD k (0, 0)).1 + ((zps l).getD k (0, 0)).2)
def zPr (σ τ : Mem) : Prop := ∀ x c, ¬ (x = 359 ∧ c = 3) → x ≠ 362 → x ≠ 363 → τ x c = σ x c
theorem z_split {σ : Mem} {i S : Nat} {l : List Nat} (h : zL σ i l) (hS : ln (i + 1) = S) (hl : l.length ≤ S) (hS2 : S ≤ 80) (hi : i + 1 < 359) : ∃ τ, fX6_split σ 359 i = some τ ∧ zSP τ l ∧ zPr σ τ := by
  unfold fX6_split
  refine zW_bv (mw σ 359 3 (nI 0)) rfl ?_
  -- what is recorded of a word
  have rcd : ∀ (τ : Mem) (ps : List (Nat × Nat)) (st ln' : Nat) (kk : Mem → Option ((Int32 × Int32 × Mem) ⊕ Mem)) (Q : (Int32 × Int32 × Mem) ⊕ Mem → Prop) (x1 x2 : Int32), τ 359 3 = nI ps.length → ps.length ≤ 80 → x1 = nI st → x2 = nI ln' → zPr σ τ →
      (∀ k, k < ps.length → k < 6 → τ 362 k = nI (ps.getD k (0, 0)).1 ∧ τ 363 k = nI (ps.getD k (0, 0)).2) →
      (∀ y, zPr σ y → y 359 3 = nI ps.length → (∀ k, k < ps.length + 1 → k < 6 → y 362 k = nI ((ps ++ [(st, ln')]).getD k (0, 0)).1 ∧ y 363 k = nI ((ps ++ [(st, ln')]).getD k (0, 0)).2) → zW (kk y) Q) →
      zW (if (6 : Int32) ≤ (τ 359 3) then (kk τ) else (grd (inb (τ 359 3) (ln (359 + 3))) (bnd (mw τ (359 + 3) (ix (τ 359 3)) x1) (fun m11 => grd (inb (m11 359 3) (ln (359 + 4))) (bnd (mw m11 (359 + 4) (ix (m11 359 3)) x2) (fun m12 => kk m12)))))) Q := by
    intro τ ps st ln' kk Q x1 x2 h1 h2 hx1 hx2 h3 h4 hk
    subst hx1 hx2
    refine zW_if (fun q => ?_) (fun q => ?_)
    · rw [h1] at q
      simp (disch := omega) only [zLT, zC] at q
      refine hk τ h3 h1 (fun k k1 k2 => ?_)
      rw [zgp_app, if_pos (by omega)]
      exact h4 k (by omega) k2
    · rw [h1] at q
      simp (disch := omega) only [zLT, zC] at q
      refine zW_gd (by simp (disch := omega) only [Nat.reduceAdd, zl_c, h1, zI]) ?_
      refine zW_bv (mw τ 362 ps.length (nI st)) (by simp (disch := omega) only [Nat.reduceAdd, h1, zI]) ?_
      refine zW_gd (by simp (disch := omega) only [Nat.reduceAdd, zl_c, zM, h1, zI]) ?_
      refine zW_bv (mw (mw τ 362 ps.length (nI st)) 363 ps.length (nI ln')) (by simp (disch := omega) only [Nat.reduceAdd, zM, h1, zI]) ?_
      refine hk _ (fun x c p1 p2 p3 => by simp (disch := omega) only [zM]; exact h3 x c p1 p2 p3) (by simp (disch := omega) only [zM]; exact h1) (fun k k1 k2 => ?_)
      rw [zgp_app]
      by_cases hkl : k < ps.length
      · rw [if_pos hkl]
        simp (disch := omega) only [zM]
        exact h4 k hkl k2
      · have : k = ps.length := by omega
        subst this
        rw [if_neg hkl, Nat.sub_self]
        simp (disch := omega) only [zM]
        exact ⟨rfl, rfl⟩
  refine zW_lp (fun n t => (n ≤ l.length ∧ ∃ τ, t = (nI n, nI (zpt l n).2, τ) ∧ τ 359 3 = nI (zpt l n).1.length ∧ (∀ k, k < (zpt l n).1.length → k < 6 → τ 362 k = nI ((zpt l n).1.getD k (0, 0)).1 ∧ τ 363 k = nI ((zpt l n).1.getD k (0, 0)).2) ∧ zPr σ τ) ∨ (n = l.length + 1 ∧ ∃ s τ, t = (nI n, s, τ) ∧ zSP τ l ∧ zPr σ τ)) (l.length + 1) ?_ (by unfold FU; omega)
    (Or.inl ⟨Nat.zero_le _, _, rfl, by simp only [zM]; rfl, fun k hk => absurd hk (by unfold zpt; simp), fun x c p q r => by simp (disch := omega) only [zM]⟩)
  rintro n t hn (⟨hnl, τ, rfl, t1, t2, t3⟩ | ⟨rfl, s, τ, rfl, t1, t2⟩)
  · have hz := zpt_le l n
    have hL : zL τ i l := zL_cb h (fun p q u v => t3 p q (by omega) (by omega) (by omega))
    unfold sX6_split_9
    dsimp only
    refine zW_f (by rw [hL.1]; simp (disch := omega) only [zC]; omega) ?_
    refine zW_if (fun h0 => ?_) (fun h0 => ?_)
    · rw [hL.1] at h0
      simp (disch := omega) only [zLT, zC] at h0
      refine zW_oR (zW_so ?_)
      refine ⟨⟨?_, fun k hk => ?_⟩, t3⟩
      · have e : l = [] := List.eq_nil_of_length_eq_zero (by omega)
        subst e
        have : n = 0 := by simp at hnl; exact hnl
        subst this
        rw [t1]
        rfl
      · have e : l = [] := List.eq_nil_of_length_eq_zero (by omega)
        subst e
        exact absurd hk (Nat.not_lt_zero k)
    · rw [hL.1] at h0
      simp (disch := omega) only [zLT, zC] at h0
      have hpos : ¬ l.length = 0 := by omega
      refine zW_jn (fun _ => n = l.length ∨ (n < l.length ∧ l.getD n 0 = 32)) ?_ ?_
      · rintro - hcase
        refine zW_jn (fun y : Mem => zPr σ y ∧ y 359 3 = nI (zpt l n).1.length ∧ (∀ k, k < (zpt l n).1.length + 1 → k < 6 → y 362 k = nI (((zpt l n).1 ++ [((zpt l n).2, n - (zpt l n).2)]).getD k (0, 0)).1 ∧ y 363 k = nI (((zpt l n).1 ++ [((zpt l n).2, n - (zpt l n).2)]).getD k (0, 0)).2)) ?_ ?_
        · rintro y ⟨y1, y2, y3⟩
          refine zW_bv (mw y 359 3 (nI ((zpt l n).1.length + 1))) (by simp only [y2, zLT, zI]) ?_
          refine zW_oL ⟨by omega, ?_⟩
          rcases hcase with hcase | ⟨hcase, h32⟩
          · subst hcase
            refine Or.inr ⟨rfl, _, _, by simp only [zLT, zI]; rfl, ⟨?_, fun k k1 k2 => ?_⟩, fun x c p q r => by simp (disch := omega) only [zM]; exact y1 x c p q r⟩
            · simp only [zM]
              unfold zps
              rw [if_neg hpos]
              simp
            · unfold zps at k1 ⊢
              rw [if_neg hpos] at k1 ⊢
              simp (disch := omega) only [zM]
              exact y3 k (by simpa using k1) k2
          · refine Or.inl ⟨hcase, _, by simp only [zLT, zI, zpt, h32, if_true]; rfl, ?_, ?_, fun x c p q r => by simp (disch := omega) only [zM]; exact y1 x c p q r⟩
            · simp only [zM, zpt, h32, if_true, List.length_append, List.length_singleton]
            · intro k k1 k2
              simp only [zpt, h32, if_true, List.length_append, List.length_singleton] at k1 ⊢
              simp (disch := omega) only [zM]
              exact y3 k k1 k2
        · intro kk hk
          refine rcd τ (zpt l n).1 (zpt l n).2 (n - (zpt l n).2) kk _ _ _ t1 (by omega) rfl (by simp (disch := omega) only [zI]) t3 t2 (fun y y1 y2 y3 => hk y ⟨y1, y2, y3⟩)
      · intro kk hk
        refine zW_if (fun h1 => ?_) (fun h1 => ?_)
        · rw [hL.1] at h1
          simp (disch := omega) only [zC] at h1
          exact hk () (Or.inl h1)
        · rw [hL.1] at h1
          simp (disch := omega) only [zC] at h1
          have hlt : n < l.length := by omega
          have g1 := zL_get h hlt
          refine zW_ob (x := nI (l.getD n 0)) (by rw [z_at hL hS hl (by omega) (by omega), if_pos hlt]) ?_
          refine zW_if (fun h2 => ?_) (fun h2 => ?_)
          · simp (disch := omega) only [zLT, zC] at h2
            exact hk () (Or.inr ⟨hlt, h2⟩)
          · simp (disch := omega) only [zLT, zC] at h2
            refine zW_oL ⟨by omega, Or.inl ⟨hlt, τ, ?_, ?_, ?_, t3⟩⟩
            · simp only [zLT, zI, zpt, h2, if_false]
            · simp only [zpt, h2, if_false]; exact t1
            · simp only [zpt, h2, if_false]; exact t2
  · have hL : zL τ i l := zL_cb h (fun p q u v => t2 p q (by omega) (by omega) (by omega))
    unfold sX6_split_9
    dsimp only
    refine zW_t (by rw [hL.1]; simp (disch := omega) only [zC]; omega) (zW_oR (zW_so ⟨t1, t2⟩))
def zPm (σ τ : Mem) : Prop := ∀ x c, ¬ (x = 383 ∧ c = 14) → x ≠ 390 → x ≠ 391 → τ x c = σ x c
theorem z_parts {σ : Mem} {l : List Nat} (h : zLn σ l) (hl : l.length ≤ 70) (hb : ∀ k, k < l.length → l.getD k 0 < 256) : ∃ τ, fX12_parts σ 383 = some τ ∧ zMP τ l ∧ zPm σ τ := by
  unfold fX12_parts
  refine zW_bv (mw σ 383 14 (nI 0)) rfl ?_
  have e13 : (mw σ 383 14 (nI 0)) 383 13 = nI l.length := by simp (disch := omega) only [zM]; exact h.1
  have hf0 : zPm σ (mw σ 383 14 (nI 0)) := fun x c p q r => by simp (disch := omega) only [zM]
  refine zW_if (fun h0 => ?_) (fun h0 => ?_)
  · rw [e13] at h0
    simp (disch := omega) only [zLT, zC] at h0
    have e : l = [] := List.eq_nil_of_length_eq_zero h0
    subst e
    exact zW_so ⟨⟨⟨e13, fun k hk => absurd hk (by simp)⟩, by simp only [zM]; rfl, fun k hk => absurd hk (Nat.not_lt_zero k)⟩, hf0⟩
  · rw [e13] at h0
    simp (disch := omega) only [zLT, zC] at h0
    refine zW_gd (by simp (disch := omega) only [zLT, Nat.reduceAdd, zl_c, zI]) ?_
    refine zW_bv (mw (mw σ 383 14 (nI 0)) 390 0 (nI 0)) (by simp (disch := omega) only [zLT, Nat.reduceAdd, zI]) ?_
    refine zW_lp (fun n t => ∃ τ, t = (nI n, τ) ∧ n ≤ l.length ∧ τ 383 14 = nI (zpt l n).1.length ∧ τ 390 (zpt l n).1.length = nI (zpt l n).2 ∧ (∀ k, k < (zpt l n).1.length → τ 390 k = nI ((zpt l n).1.getD k (0, 0)).1 ∧ τ 391 k = nI (((zpt l n).1.getD k (0, 0)).1 + ((zpt l n).1.getD k (0, 0)).2)) ∧ zPm σ τ) l.length ?_ (by unfold FU; omega)
      ⟨_, rfl, Nat.zero_le _, by simp (disch := omega) only [zM]; rfl, by simp only [zpt, List.length_nil, zM], fun k hk => absurd hk (by unfold zpt; simp), fun x c p q r => by simp (disch := omega) only [zM]⟩
    rintro n t hn ⟨τ, rfl, -, t1, t2, t3, t4⟩
    have hz := zpt_le l n
    have hL : zLn τ l := ⟨by rw [t4 _ _ (by omega) (by omega) (by omega)]; exact h.1, fun k hk => by rw [t4 _ _ (by omega) (by omega) (by omega)]; exact h.2 k hk⟩
    unfold sX12_parts_22
    dsimp only
    refine zW_if (fun h1 => ?_) (fun h1 => ?_)
    · rw [hL.1] at h1
      simp (disch := omega) only [zC] at h1
      have : n = l.length := by omega
      subst this
      refine zW_oR ?_
      refine zW_gd (by simp (disch := omega) only [Nat.reduceAdd, zl_c, t1, zI]) ?_
      refine zW_bv (mw τ 391 (zpt l l.length).1.length (nI l.length)) (by simp (disch := omega) only [Nat.reduceAdd, t1, zI, hL.1]) ?_
      refine zW_bv (mw (mw τ 391 (zpt l l.length).1.length (nI l.length)) 383 14 (nI ((zpt l l.length).1.length + 1))) (by simp (disch := omega) only [zLT, zM, t1, zI]) ?_
      refine zW_so ⟨⟨⟨by simp (disch := omega) only [zM]; exact hL.1, fun k hk => by simp (disch := omega) only [zM]; exact hL.2 k hk⟩, ?_, fun k hk => ?_⟩, fun x c p q r => by simp (disch := omega) only [zM]; exact t4 x c p q r⟩
      · simp only [zM]
        unfold zps
        rw [if_neg h0]
        simp
      · unfold zps at hk ⊢
        rw [if_neg h0] at hk ⊢
        rw [zgp_app]
        by_cases hkl : k < (zpt l l.length).1.length
        · rw [if_pos hkl]
          simp (disch := omega) only [zM]
          exact t3 k hkl
        · have : k = (zpt l l.length).1.length := by simp at hk; omega
          subst this
          rw [if_neg hkl, Nat.sub_self]
          simp (disch := omega) only [zM]
          refine ⟨t2, ?_⟩
          show nI l.length = nI ((zpt l l.length).2 + (l.length - (zpt l l.length).2))
          congr 1; omega
    · rw [hL.1] at h1
      simp (disch := omega) only [zC] at h1
      have hlt : n < l.length := by omega
      refine zW_gd (by simp (disch := omega) only [Nat.reduceAdd, zl_c, zI]) ?_
      have en : τ (383 + 6) (ix (nI n)) = nI (l.getD n 0) := by rw [zi_ix (by omega)]; exact hL.2 n hlt
      by_cases h2 : l.getD n 0 = 32
      · refine zW_t (by rw [en, h2]; rfl) ?_
        refine zW_gd (by simp (disch := omega) only [Nat.reduceAdd, zl_c, t1, zI]) ?_
        refine zW_bv (mw τ 391 (zpt l n).1.length (nI n)) (by simp (disch := omega) only [Nat.reduceAdd, t1, zI]) ?_
        refine zW_bv (mw (mw τ 391 (zpt l n).1.length (nI n)) 383 14 (nI ((zpt l n).1.length + 1))) (by simp (disch := omega) only [zLT, zM, t1, zI]) ?_
        refine zW_gd (by simp (disch := omega) only [Nat.reduceAdd, zl_c, zM, zI]) ?_
        refine zW_bv (mw (mw (mw τ 391 (zpt l n).1.length (nI n)) 383 14 (nI ((zpt l n).1.length + 1))) 390 ((zpt l n).1.length + 1) (nI (n + 1))) (by simp (disch := omega) only [Nat.reduceAdd, zLT, zM, zI]) ?_
        refine zW_oL ⟨hlt, _, by simp only [zLT, zI]; rfl, hlt, ?_, ?_, ?_, fun x c p q r => by simp (disch := omega) only [zM]; exact t4 x c p q r⟩
        · simp (disch := omega) only [zM, zpt, h2, if_true, List.length_append, List.length_singleton]
        · simp (disch := omega) only [zM, zpt, h2, if_true, List.length_append, List.length_singleton]
        · intro k hk
          simp only [zpt, h2, if_true, List.length_append, List.length_singleton] at hk ⊢
          rw [zgp_app]
          by_cases hkl : k < (zpt l n).1.length
          · rw [if_pos hkl]
            simp (disch := omega) only [zM]
            exact t3 k hkl
          · have : k = (zpt l n).1.length := by omega
            subst this
            rw [if_neg hkl, Nat.sub_self]
            simp (disch := omega) only [zM]
            refine ⟨t2, ?_⟩
            show nI n = nI ((zpt l n).2 + (n - (zpt l n).2))
            congr 1; omega
      · have g2 := hb n hlt
        refine zW_f (by rw [en]; simp (disch := omega) only [zLT, zC]; exact h2) ?_
        refine zW_oL ⟨hlt, τ, by simp only [zLT, zI], hlt, ?_, ?_, ?_, t4⟩
        · simp only [zpt, h2, if_false]; exact t1
        · simp only [zpt, h2, if_false]; exact t2
        · simp only [zpt, h2, if_false]; exact t3
