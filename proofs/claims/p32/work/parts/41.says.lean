def zLn (σ : Mem) (l : List Nat) : Prop := σ 383 13 = nI l.length ∧ ∀ k, k < l.length → σ 389 k = nI (l.getD k 0)
def zFs (σ τ : Mem) : Prop := ∀ x c, ¬ (x = 383 ∧ (c = 6 ∨ c = 13)) → x ≠ 387 → x ≠ 389 → τ x c = σ x c
theorem zFs_t {σ τ υ : Mem} (h : zFs σ τ) (h2 : zFs τ υ) : zFs σ υ := fun x c p q r => by rw [h2 x c p q r, h x c p q r]
theorem zFs_q {σ τ : Mem} (h : zFq σ τ) : zFs σ τ := fun x c p q r => h x c (by omega) q
theorem zMG_s {σ τ : Mem} {g : Nat → Int32} (h : zMG σ g) (e : zFs σ τ) : zMG τ g := fun k hk => by rw [e _ _ (by omega) (by omega) (by omega)]; exact h k hk
theorem zform_pl {g : Nat → Int32} {w c n d m : Nat} (h : ix (g (zwa w)) = 0) : zform g w c n d m = zst g w := by
  unfold zform
  rw [if_pos h]
/-- a p's word is plain -/
theorem zcan_p {g : Nat → Int32} {f i w : Nat} (hF : zFm g f) (hi : i < znH g f) (hp : ix (g (zha f i)) = 112) (h : zcan g f i w = true) : ix (g (zwa w)) = 0 ∧ w = ix (g (zha f i + 3)) := by
  obtain ⟨n, l1, l2, l3⟩ := zHo_l (hF.2.2.1 i hi)
  rw [l2] at hp
  subst hp
  have := zHo_p (hF.2.2.1 i hi) l1
  unfold zcan at h
  rw [l2] at h
  have h' : (w == ix (g (zha f i + 3))) = true := h
  rw [beq_iff_eq] at h'
  refine ⟨?_, h'⟩
  rw [h', this.2.2.2.2]
  exact zi_ix (by omega)
theorem z_formsAt {σ : Mem} {g : Nat → Int32} {f i nb m R fr S : Nat} {ws : Nat → Nat} (hg : zBG g) (hM : zMG σ g) (hf : f < znF g) (hi : i < znH g f) (hnb : nb < 8) (hm : m < 4) (hS : ln R = S) (hR : fr + 6 ≤ S) (hR2 : S ≤ 600)
    (hw : ∀ k, k < znH g f → ws k < znW g ∧ zcan g f k (ws k) = true ∧ σ R (fr + k) = nI (ws k)) : ∃ τ, fX12_formsAt σ 383 (nI f) (nI i) (nI fr) R (nI nb) (nI m) = some τ ∧ zR τ (zsi g f ws nb m i) ∧ zFq σ τ := by
  have f5 : f < 5 := Nat.lt_of_lt_of_le hf hg.2.1.2
  have hFm := hg.2.2.2.2.1 f hf
  have h6 : znH g f ≤ 6 := hFm.1.2
  have hH := hFm.2.2.1 i hi
  obtain ⟨n, l1, l2, l3⟩ := zHo_l hH
  obtain ⟨v1, v2, v3⟩ := hw i hi
  have hW : znW g ≤ 20 := hg.1.2
  unfold fX12_formsAt
  refine zW_gd (by simp (disch := omega) only [zI, hS]) ?_
  refine zW_bv (nI (ws i)) (by simp (disch := omega) only [zI, v3]) ?_
  refine zW_ob (z_ofHole (k := 1) hM f5 (by omega) (by omega)) ?_
  unfold zsi
  by_cases hp : n = 112
  · subst hp
    have e := (zHo_p hH l1).1
    have kd := zcan_p hFm hi l2 v2
    refine zW_f (by rw [e]; decide +kernel) ?_
    obtain ⟨τ, t1, t2, t3⟩ := z_forms (c := 0) (n := 0) (d := 0) (m := 0) hM hg v1 (by omega) (by omega) (by omega) (by omega)
    refine zW_ob t1 (zW_so ⟨?_, t3⟩)
    rw [zform_pl kd.1] at t2 ⊢
    exact t2
  · have hne : g (zha f i) ≠ nI 112 := by
      rw [l1]
      simp (disch := omega) only [zC, ne_eq]
      exact hp
    obtain ⟨g1, g2⟩ := zHo_g hH hne
    have g1' := g1.2
    have g1e : g (zha f i + 1) = nI (ix (g (zha f i + 1))) := g1.1
    have gz : zag g f ws nb i = zca (g (zha f i + 2)) + (if ix (g (zwa (ws (zno g f (ix (g (zha f i + 1))))))) = 3 then 0 else nb / 2 ^ ix (g (zha f i + 1)) % 2) * 4 + ix (g (zwa (ws (zno g f (ix (g (zha f i + 1))))) + 2)) * 8 := by
      unfold zag
      rw [l2, if_neg hp]
    have nh := zno_h hFm hi (by omega) g1.1
    generalize hgr : ix (g (zha f i + 1)) = gr at *
    refine zW_t (by rw [g1e]; exact nI_pos' (by omega)) ?_
    rw [g1e]
    refine zW_ob (z_holeOf hg hM hf nh.1 nh.2.1 nh.2.2) ?_
    generalize hnn : zno g f gr = no at *
    obtain ⟨u1, u2, u3⟩ := hw no nh.1
    refine zW_gd (by simp (disch := omega) only [zI, hS]) ?_
    refine zW_bv (nI (ws no)) (by simp (disch := omega) only [zI, u3]) ?_
    refine zW_ob (z_ofHole (k := 2) hM f5 (by omega) (by omega)) ?_
    refine zW_ob (z_kind hM (by omega)) ?_
    obtain ⟨⟨w0, w1⟩, -, ⟨w4, w5⟩, -⟩ := hg.2.2.1 _ u1
    obtain ⟨c1, c2, c3⟩ := zca_le g2
    refine zW_jn (fun y => y = nI (if ix (g (zwa (ws no))) = 3 then 0 else nb / 2 ^ gr % 2)) ?_ ?_
    · rintro y rfl
      refine zW_ob (z_gender hM (by omega)) ?_
      rw [zLT.1, c3, w4]
      have hlt : (if ix (g (zwa (ws no))) = 3 then 0 else nb / 2 ^ gr % 2) < 2 := by split <;> omega
      obtain ⟨τ, t1, t2, t3⟩ := z_forms (c := zca (g (zha f i + 2))) (n := if ix (g (zwa (ws no))) = 3 then 0 else nb / 2 ^ gr % 2) (d := ix (g (zwa (ws no) + 2))) (m := m) hM hg v1 (by omega) hlt (by omega) (by omega)
      refine zW_ob t1 (zW_so ⟨?_, t3⟩)
      have e1 : zag g f ws nb i % 4 = zca (g (zha f i + 2)) := by rw [gz]; omega
      have e2 : zag g f ws nb i / 4 % 2 = (if ix (g (zwa (ws no))) = 3 then 0 else nb / 2 ^ gr % 2) := by rw [gz]; omega
      have e3 : zag g f ws nb i / 8 = ix (g (zwa (ws no) + 2)) := by rw [gz]; omega
      rw [e1, e2, e3]
      exact t2
    · intro k hk
      refine zW_if (fun h => ?_) (fun h => ?_)
      · rw [w0] at h
        simp (disch := omega) only [zLT, zC] at h
        exact hk _ (by rw [if_pos h]; rfl)
      · rw [w0] at h
        simp (disch := omega) only [zLT, zC] at h
        refine hk _ ?_
        rw [if_neg h]
        exact z_bit nb gr hnb (by omega)
theorem z_isFilled {σ : Mem} {g : Nat → Int32} {f R fr S : Nat} (hg : zBG g) (hM : zMG σ g) (hf : f < znF g) (hS : ln R = S) (hR : fr + 6 ≤ S) (hR2 : S ≤ 600)
    (hw : ∀ k, k < znH g f → ∃ w, w < 20 ∧ σ R (fr + k) = nI w) : fX12_isFilled σ 383 (nI f) (nI fr) R = some (nI 1) := by
  have f5 : f < 5 := Nat.lt_of_lt_of_le hf hg.2.1.2
  have hFm := hg.2.2.2.2.1 f hf
  have h6 : znH g f ≤ 6 := hFm.1.2
  have hn : g (zfa f) = nI (znH g f) := hFm.1.1
  refine zW_val ?_
  unfold fX12_isFilled
  refine zW_lp (fun n s => s = nI n) (znH g f) ?_ (by unfold FU; omega) rfl
  rintro n s hn' rfl
  unfold sX12_isFilled_3
  refine zW_ob (z_holes hM f5) ?_
  refine zW_if (fun h => ?_) (fun h => ?_)
  · exact zW_oR (zW_so rfl)
  · rw [hn] at h
    simp (disch := omega) only [zC] at h
    obtain ⟨w, w1, w2⟩ := hw n (by omega)
    refine zW_gd (by simp (disch := omega) only [zI, hS]) ?_
    refine zW_t (by simp (disch := omega) only [zI, w2]; exact nI_pos' (by omega)) ?_
    exact zW_oL ⟨by omega, by simp only [zLT, zI]⟩
theorem z_isFilledN {σ : Mem} {g : Nat → Int32} {f R fr S j : Nat} (hg : zBG g) (hM : zMG σ g) (hf : f < znF g) (hS : ln R = S) (hR : fr + 6 ≤ S) (hR2 : S ≤ 600)
    (hw : ∀ k, k < znH g f → σ R (fr + k) = -nI 1 ∨ ∃ w, w < 20 ∧ σ R (fr + k) = nI w) (hj : j < znH g f) (hj2 : σ R (fr + j) = -nI 1) : fX12_isFilled σ 383 (nI f) (nI fr) R = some (nI 0) := by
  have f5 : f < 5 := Nat.lt_of_lt_of_le hf hg.2.1.2
  have hFm := hg.2.2.2.2.1 f hf
  have h6 : znH g f ≤ 6 := hFm.1.2
  have hn : g (zfa f) = nI (znH g f) := hFm.1.1
  refine zW_val ?_
  unfold fX12_isFilled
  refine zW_lp (fun n s => s = nI n ∧ n ≤ j) j ?_ (by unfold FU; omega) ⟨rfl, Nat.zero_le _⟩
  rintro n s hn' ⟨rfl, -⟩
  unfold sX12_isFilled_3
  refine zW_ob (z_holes hM f5) ?_
  refine zW_f (by rw [hn]; simp (disch := omega) only [zC]; omega) ?_
  refine zW_gd (by simp (disch := omega) only [zI, hS]) ?_
  rcases hw n (by omega) with e | ⟨w, w1, w2⟩
  · refine zW_f (by simp (disch := omega) only [zI, e]; decide +kernel) ?_
    exact zW_oR (zW_so rfl)
  · have hnj : n < j := by
      rcases Nat.eq_or_lt_of_le hn' with q | q
      · subst q
        rw [w2] at hj2
        simp (disch := omega) only [zC] at hj2
      · exact q
    refine zW_t (by simp (disch := omega) only [zI, w2]; exact nI_pos' (by omega)) ?_
    exact zW_oL ⟨hnj, by simp only [zLT, zI], hnj⟩
theorem zLn_put {σ : Mem} {a : List Nat} {b : Nat} (h : zLn σ a) (ha : a.length < 80) : zLn (mw (mw σ 389 a.length (nI b)) 383 13 (nI (a.length + 1))) (a ++ [b]) ∧ zFs σ (mw (mw σ 389 a.length (nI b)) 383 13 (nI (a.length + 1))) := by
  refine ⟨⟨?_, fun k hk => ?_⟩, fun x c p q r => ?_⟩
  · simp only [zM, List.length_append, List.length_singleton]
  · simp only [List.length_append, List.length_singleton] at hk
    rw [zgd_app]
    by_cases hc : k < a.length
    · simp (disch := omega) only [zM, if_pos hc, h.2 k hc]
    · simp (disch := omega) only [zM, if_neg hc]
      rw [show k - a.length = 0 by omega]
      rfl
  · simp (disch := omega) only [zM]
/-- what the row holds beside the line -/
theorem z_saysCopy {σ : Mem} {l s : List Nat} {a6 : Int32 × Mem} {i : Nat} {Q : (Int32 × Mem) ⊕ Mem → Prop} (ha6 : a6.1 = nI i) (hl : zLn σ l) (hs : zR σ s) (hb : l.length + s.length ≤ 80)
    (hq : ∀ τ, zLn τ (l ++ s) → (∀ x c, ¬ (x = 383 ∧ c = 13) → x ≠ 389 → τ x c = σ x c) → Q (.inl (nI (i + 1), τ))) : zW (lp (sX12_says_75 383 a6) FU (nI 0, σ)) Q := by
  refine zW_lp (fun n t => ∃ τ, t = (nI n, τ) ∧ n ≤ s.length ∧ (∀ k, k < l.length → τ 389 k = nI (l.getD k 0)) ∧ (∀ k, k < n → τ 389 (l.length + k) = nI (s.getD k 0)) ∧ ∀ x c, x ≠ 389 → τ x c = σ x c) s.length ?_ (by unfold FU; omega) ⟨σ, rfl, Nat.zero_le _, hl.2, fun k hk => absurd hk (by omega), fun _ _ _ => rfl⟩
  rintro n t hn ⟨τ, rfl, -, t1, t2, t3⟩
  unfold sX12_says_75
  dsimp only
  have e6 : τ 383 6 = nI s.length := by rw [t3 _ _ (by omega)]; exact hs.1
  have e13 : τ 383 13 = nI l.length := by rw [t3 _ _ (by omega)]; exact hl.1
  refine zW_if (fun h => ?_) (fun h => ?_)
  · rw [e6] at h
    simp (disch := omega) only [zC] at h
    have : n = s.length := by omega
    subst this
    refine zW_oR ?_
    refine zW_bv (mw τ 383 13 (nI (l.length + s.length))) (by simp only [e6, e13, zI]) ?_
    rw [ha6]
    have := hq (mw τ 383 13 (nI (l.length + s.length))) ⟨?_, fun k hk => ?_⟩ (fun x c p q => by simp (disch := omega) only [zM]; exact t3 x c q)
    · refine zW_bv (nI (i + 1)) (by simp only [zLT, zI]) (zW_oL this)
    · simp only [zM, List.length_append]
    · simp only [List.length_append] at hk
      rw [zgd_app]
      simp (disch := omega) only [zM]
      split
      · rename_i q; exact t1 k q
      · have := t2 (k - l.length) (by omega)
        rw [show l.length + (k - l.length) = k by omega] at this
        exact this
  · rw [e6] at h
    simp (disch := omega) only [zC] at h
    have e4 : τ 387 n = nI (s.getD n 0) := by rw [t3 _ _ (by omega)]; exact hs.2 n (by omega)
    refine zW_gd (by simp (disch := omega) only [Nat.reduceAdd, zl_c, zI]) ?_
    refine zW_gd (by simp (disch := omega) only [Nat.reduceAdd, zl_c, e13, zI]) ?_
    refine zW_bv (mw τ 389 (l.length + n) (nI (s.getD n 0))) (by simp (disch := omega) only [Nat.reduceAdd, e13, zI, e4]) ?_
    refine zW_oL ⟨by omega, _, by simp only [zLT, zI]; rfl, by omega, fun k hk => ?_, fun k hk => ?_, fun x c p => ?_⟩
    · simp (disch := omega) only [zM]
      exact t1 k hk
    · rcases Nat.lt_succ_iff_lt_or_eq.mp hk with q | q
      · simp (disch := omega) only [zM]
        exact t2 k q
      · rw [q]; simp only [zM]
    · simp (disch := omega) only [zM]
      exact t3 x c p
theorem zsi_len {g : Nat → Int32} {f : Nat} {ws : Nat → Nat} {nb m i : Nat} (hg : zBG g) (hf : f < znF g) (hi : i < znH g f) (hm : m < 4) (hw : ∀ k, k < znH g f → ws k < znW g) : zLs (zsi g f ws nb m i) ∧ 1 ≤ (zsi g f ws nb m i).length ∧ (zsi g f ws nb m i).length ≤ 10 :=
  zform_ok hg (hw i hi) (by omega) (by omega) hm
theorem z_says {σ : Mem} {g : Nat → Int32} {f nb m R fr S : Nat} {ws : Nat → Nat} (hg : zBG g) (hM : zMG σ g) (hf : f < znF g) (hnb : nb < 8) (hm : m < 4) (hS : ln R = S) (hR : fr + 6 ≤ S) (hR2 : S ≤ 600) (hRR : R ≠ 383 ∧ R ≠ 387 ∧ R ≠ 389)
    (hw : ∀ k, k < znH g f → ws k < znW g ∧ zcan g f k (ws k) = true ∧ σ R (fr + k) = nI (ws k)) : ∃ τ, fX12_says σ 383 (nI f) (nI fr) R (nI nb) (nI m) = some τ ∧ zLn τ (zlc (zsi g f ws nb m) (znH g f)) ∧ zFs σ τ := by
  have f5 : f < 5 := Nat.lt_of_lt_of_le hf hg.2.1.2
  have hFm := hg.2.2.2.2.1 f hf
  have h6 : znH g f ≤ 6 := hFm.1.2
  have hn : g (zfa f) = nI (znH g f) := hFm.1.1
  have hW : znW g ≤ 20 := hg.1.2
  unfold fX12_says
  have c3 : zFs σ (mw σ 383 13 (nI 0)) := fun x c p q r => by simp (disch := omega) only [zM]
  have c1 : zLn (mw σ 383 13 (nI 0)) [] := ⟨by simp only [zM]; rfl, fun k hk => by simp at hk⟩
  refine zW_bv (mw σ 383 13 (nI 0)) rfl ?_
  generalize mw σ 383 13 (nI 0) = σ0 at *
  refine zW_f (nI_pos (by omega)) ?_
  have hM0 := zMG_s hM c3
  have hws : ∀ (υ : Mem), zFs σ υ → ∀ k, k < znH g f → ws k < znW g ∧ zcan g f k (ws k) = true ∧ υ R (fr + k) = nI (ws k) := fun υ h k hk => ⟨(hw k hk).1, (hw k hk).2.1, by rw [h _ _ (by omega) hRR.2.1 hRR.2.2]; exact (hw k hk).2.2⟩
  refine zW_ob (z_isFilled hg hM0 hf hS hR hR2 (fun k hk => ⟨ws k, by have := (hw k hk).1; omega, (hws σ0 c3 k hk).2.2⟩)) ?_
  refine zW_f zn01 ?_
  have ln10 : ∀ k, k < znH g f → (zsi g f ws nb m k).length ≤ 10 := fun k hk => (zsi_len hg hf hk hm (fun k hk => (hw k hk).1)).2.2
  refine zW_lp (fun n t => ∃ τ, t = (nI n, τ) ∧ n ≤ znH g f ∧ zLn τ (zlc (zsi g f ws nb m) n) ∧ zFs σ τ) (znH g f) ?_ (by unfold FU; omega) ⟨σ0, rfl, Nat.zero_le _, c1, c3⟩
  rintro n t hn' ⟨τ, rfl, -, t1, t2⟩
  have hMt := zMG_s hM t2
  unfold sX12_says_23
  dsimp only
  refine zW_ob (z_holes hMt f5) ?_
  refine zW_if (fun h => ?_) (fun h => ?_)
  · rw [hn] at h
    simp (disch := omega) only [zC] at h
    have : n = znH g f := by omega
    subst this
    exact zW_oR (zW_so ⟨t1, t2⟩)
  · rw [hn] at h
    simp (disch := omega) only [zC] at h
    have hlt : n < znH g f := by omega
    have hll := zlc_len (F := zsi g f ws nb m) (n := n) (fun k hk => ln10 k (by omega))
    refine zW_jn (fun y : Mem => zLn y (zlc (zsi g f ws nb m) n ++ (if n = 0 then [] else [32])) ∧ zFs σ y) ?_ ?_
    · rintro y ⟨y1, y2⟩
      obtain ⟨υ, u1, u2, u3⟩ := z_formsAt hg (zMG_s hM y2) hf hlt hnb hm hS hR hR2 (hws y y2)
      refine zW_ob u1 ?_
      have hl1 := ln10 n hlt
      refine z_saysCopy (i := n) rfl (l := zlc (zsi g f ws nb m) n ++ (if n = 0 then [] else [32])) (s := zsi g f ws nb m n) ⟨by rw [u3 _ _ (by omega) (by omega)]; exact y1.1, fun k hk => by rw [u3 _ _ (by omega) (by omega)]; exact y1.2 k hk⟩ u2 (by simp only [List.length_append]; split <;> simp <;> omega) (fun ω o1 o2 => ?_)
      refine ⟨hlt, ω, rfl, hlt, ?_, fun x c p q r => by rw [o2 x c (by omega) (by omega), u3 x c (by omega) q, y2 x c p q r]⟩
      rw [List.append_assoc] at o1
      exact o1
    · intro k hk
      refine zW_if (fun h0 => ?_) (fun h0 => ?_)
      · simp (disch := omega) only [zLT, zC] at h0
        exact hk τ ⟨by rw [if_pos (by omega)]; simpa using t1, t2⟩
      · simp (disch := omega) only [zLT, zC] at h0
        obtain ⟨u1, u2⟩ := zLn_put (b := 32) t1 (by omega)
        refine zW_gd (by simp (disch := omega) only [Nat.reduceAdd, zl_c, t1.1, zI]) ?_
        refine zW_bv (mw τ 389 (zlc (zsi g f ws nb m) n).length (nI 32)) (by simp (disch := omega) only [zLT, Nat.reduceAdd, t1.1, zI]) ?_
        refine zW_bv (mw (mw τ 389 (zlc (zsi g f ws nb m) n).length (nI 32)) 383 13 (nI ((zlc (zsi g f ws nb m) n).length + 1))) (by simp (disch := omega) only [zLT, zM, t1.1, zI]) ?_
        exact hk _ ⟨by rw [if_neg (by omega)]; exact u1, zFs_t t2 u2⟩
theorem z_saysN {σ : Mem} {g : Nat → Int32} {nb m R fr S : Nat} {x : Int32} (hg : zBG g) (hM : zMG σ g) (hS : ln R = S) (hR : fr + 6 ≤ S) (hR2 : S ≤ 600) (hRR : R ≠ 383 ∧ R ≠ 387 ∧ R ≠ 389)
    (h0 : x = -nI 1 ∨ ∃ f, f < znF g ∧ x = nI f ∧ (∀ k, k < znH g f → σ R (fr + k) = -nI 1 ∨ ∃ w, w < 20 ∧ σ R (fr + k) = nI w) ∧ ∃ k, k < znH g f ∧ σ R (fr + k) = -nI 1) : ∃ τ, fX12_says σ 383 x (nI fr) R (nI nb) (nI m) = some τ ∧ zLn τ [] ∧ zFs σ τ := by
  unfold fX12_says
  have c3 : zFs σ (mw σ 383 13 (nI 0)) := fun x c p q r => by simp (disch := omega) only [zM]
  have c1 : zLn (mw σ 383 13 (nI 0)) [] := ⟨by simp only [zM]; rfl, fun k hk => by simp at hk⟩
  refine zW_bv (mw σ 383 13 (nI 0)) rfl ?_
  generalize mw σ 383 13 (nI 0) = σ0 at *
  rcases h0 with h0 | ⟨f, hf, rfl, hw, j, hj, hj2⟩
  · subst h0
    exact zW_t (by decide +kernel) (zW_so ⟨c1, c3⟩)
  · have f5 : f < 5 := Nat.lt_of_lt_of_le hf hg.2.1.2
    refine zW_f (nI_pos (by omega)) ?_
    refine zW_ob (z_isFilledN (j := j) hg (zMG_s hM c3) hf hS hR hR2 (fun k hk => by rw [c3 _ _ (by omega) hRR.2.1 hRR.2.2]; exact hw k hk) hj (by rw [c3 _ _ (by omega) hRR.2.1 hRR.2.2]; exact hj2)) ?_
    exact zW_t rfl (zW_so ⟨c1, c3⟩)
