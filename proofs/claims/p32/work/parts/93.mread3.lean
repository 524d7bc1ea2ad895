theorem zmrg_app {hs : List zHt} {h : zHt} {n : Nat} (hn : n < 3) (e : h.2.1 = nI n) : nI (zmrg hs) ||| ((1 : Int32) <<< (nI n &&& 31)) = nI (zmrg (hs ++ [h])) := by
  unfold zmrg
  rw [zG2_app, zG2_app, zG2_app, e]
  exact zmk_o _ _ _ ⟨n, hn⟩
theorem zmrg_no {hs : List zHt} {h : zHt} (e : h.2.1 = -nI 1) : zmrg (hs ++ [h]) = zmrg hs := by
  unfold zmrg
  have k : ∀ gr, gr < 3 → decide ((-nI 1 : Int32) = nI gr) = false := fun gr hg => by
    rw [decide_eq_false_iff_not]
    simp (disch := omega) only [zC]
    exact id
  rw [zG2_app, zG2_app, zG2_app, e, k 0 (by omega), k 1 (by omega), k 2 (by omega), Bool.or_false, Bool.or_false, Bool.or_false]
theorem zmrs_app {hs : List zHt} {h : zHt} {n : Nat} (hn : n < 3) (e : h.2.1 = nI n) (e1 : h.1 = 110) : nI (zmrs hs) ||| ((1 : Int32) <<< (nI n &&& 31)) = nI (zmrs (hs ++ [h])) := by
  unfold zmrs
  rw [zN2_app, zN2_app, zN2_app, e, decide_eq_true e1, Bool.true_and, Bool.true_and, Bool.true_and]
  exact zmk_o _ _ _ ⟨n, hn⟩
theorem zmrs_no {hs : List zHt} {h : zHt} (e1 : h.1 ≠ 110) : zmrs (hs ++ [h]) = zmrs hs := by
  unfold zmrs
  rw [zN2_app, zN2_app, zN2_app, decide_eq_false e1, Bool.false_and, Bool.false_and, Bool.false_and, Bool.or_false, Bool.or_false, Bool.or_false]
def zMfr (σ τ : Mem) (B : Nat) : Prop := ∀ y c, ¬ (y = 383 ∧ (c = 7 ∨ c = 8)) → ¬ (y = 384 ∧ B ≤ c ∧ c < B + 25) → τ y c = σ y c
def zMrw (τ : Mem) (B : Nat) (hs : List zHt) : Prop := ∀ k, k < hs.length → τ 384 (B + 1 + 4 * k) = nI (hs.getD k zH0).1 ∧ τ 384 (B + 1 + 4 * k + 1) = (hs.getD k zH0).2.1 ∧ τ 384 (B + 1 + 4 * k + 2) = (hs.getD k zH0).2.2.1 ∧ τ 384 (B + 1 + 4 * k + 3) = (hs.getD k zH0).2.2.2
def zMrq (g : Nat → Int32) (σ : Mem) (l : List Nat) (B : Nat) (r : Mem) : Prop := ((∃ e, zRr g l [] 0 = .inl e ∧ e ≤ 60 ∧ r 383 7 = nI e) ∨ ∃ hs, zRr g l [] 0 = .inr hs ∧ r 383 7 = -nI 1 ∧ zhs g hs ∧ hs.length ≠ 0 ∧ zwh hs = true ∧ r 384 B = nI hs.length ∧ zMrw r B hs) ∧ zMfr σ r B
theorem z_readsF {g : Nat → Int32} {σ : Mem} {l : List Nat} {B : Nat} (h : zMrc g σ l) (hB : 342 ≤ B) (hB2 : B + 25 ≤ 467) : zW (fX12_readsFrame σ 383 (nI B)) (zMrq g σ l B) := by
  have hg := h.1
  have hl50 := h.2.2.2.2.1
  have inb' : ∀ k, k < 517 → inb (nI k) (ln (383 + 1)) = true := fun k hk => by simp (disch := omega) only [Nat.reduceAdd, zl_c, zI]
  unfold fX12_readsFrame
  refine zW_bv (mw σ 383 7 (-nI 1)) rfl ?_
  have hs0 : zhs g [] := ⟨by simp, fun k hk => absurd hk (Nat.not_lt_zero k), fun i j hi => absurd hi (Nat.not_lt_zero i)⟩
  refine zW_lpm (fun a => ∃ hs p τ, a = (nI (zmrg hs), nI (zmrs hs), nI p, nI hs.length, τ) ∧ zhs g hs ∧ p ≤ l.length ∧ zRr g l [] 0 = zRr g l hs p ∧ τ 383 7 = -nI 1 ∧ zMrw τ B hs ∧ zMfr σ τ B) (fun a => l.length - ix a.2.2.1) ?_ (by dsimp only; unfold FU; omega) ⟨[], 0, _, rfl, hs0, Nat.zero_le _, rfl, by simp only [zM], fun k hk => absurd hk (Nat.not_lt_zero k), fun y c q1 q2 => by simp (disch := omega) only [zM]⟩
  rintro a ⟨hs, p, τ, rfl, r1, r2, r3, r4, r5, r6⟩
  have hτ : zMrc g τ l := zMrc_co h (fun k hk => r6 _ _ (by omega) (by omega)) (r6 _ _ (by omega) (by omega)) (fun k => r6 _ _ (by omega) (by omega))
  have h6 := r1.1
  have t4 : τ 383 4 = nI l.length := hτ.2.2.1
  unfold sX12_readsFrame_15
  dsimp only
  refine zW_jn (fun _ : Unit => p = l.length) (fun _ hp => ?_) (fun k hk => zW_if (fun e => hk _ ?_) (fun e => zW_f ?_ ?_))
  · have e0 := r3.trans (zRr_end hp)
    have m4 : ∀ y c, ¬ (y = 384 ∧ c = B) → (mw τ 384 B (nI hs.length)) y c = τ y c := fun y c q => by simp (disch := omega) only [zM]
    have m4B : (mw τ 384 B (nI hs.length)) 384 B = nI hs.length := by simp only [zM]
    refine zW_oR (zW_gd (inb' _ (by omega)) (zW_bv (mw τ 384 B (nI hs.length)) (by rw [zi_ix (by omega)]) ?_))
    generalize mw τ 384 B (nI hs.length) = m at *
    refine zW_jn (fun _ : Unit => ¬ (hs.length ≠ 0 ∧ zwh hs = true)) (fun _ hno => ?_) (fun k5 hk5 => zW_if (fun e => hk5 _ (fun q => ?_)) (fun e => zW_if (fun e2 => ?_) (fun e2 => hk5 _ (fun q => e2 (zms_e.mpr q.2)))))
    · rw [if_neg hno] at e0
      refine zW_bv (mw m 383 7 (nI l.length)) (by rw [m4 _ _ (by omega), t4]) (zW_so ⟨Or.inl ⟨_, e0, by omega, by simp only [zM]⟩, fun y c q1 q2 => ?_⟩)
      simp (disch := omega) only [zM]
      rw [m4 _ _ (by omega)]
      exact r6 y c q1 q2
    · simp (disch := omega) only [zLT, zC] at e
      exact q.1 e
    · simp (disch := omega) only [zLT, zC] at e
      have hw : hs.length ≠ 0 ∧ zwh hs = true := ⟨e, zms_e.mp e2⟩
      rw [if_pos hw] at e0
      refine zW_so ⟨Or.inr ⟨hs, e0, by rw [m4 _ _ (by omega)]; exact r4, r1, hw.1, hw.2, m4B, fun k hk => ?_⟩, fun y c q1 q2 => by rw [m4 _ _ (by omega)]; exact r6 y c q1 q2⟩
      rw [m4 _ _ (by omega), m4 _ _ (by omega), m4 _ _ (by omega), m4 _ _ (by omega)]
      exact r5 k hk
  · rw [t4] at e
    simp (disch := omega) only [zC] at e
    omega
  · rw [r4]; decide +kernel
  rw [t4] at e
  simp (disch := omega) only [zC] at e
  have hp : p < l.length := by omega
  have gb := h.2.2.2.2.2 p hp
  refine zW_ob (x := nI (l.getD p 0)) (by rw [zr_here hτ (by omega), if_pos hp]) ?_
  by_cases nb : l.getD p 0 = 32 ∨ l.getD p 0 = 10
  · have bl : fX12_isBlank τ (nI (l.getD p 0)) = some (nI 1) := by
      rcases nb with q | q <;> rw [q] <;> rfl
    refine zW_ob bl (zW_f zn01 (zW_bv (nI (p + 1)) (by rw [zLT.2.1, zI.1]) (zW_oL ⟨⟨hs, p + 1, τ, rfl, r1, by omega, by rw [r3]; exact zRr_blank hp nb, r4, r5, r6⟩, ?_⟩)))
    dsimp only
    rw [zi_ix (by omega), zi_ix (by omega)]
    omega
  have bl : fX12_isBlank τ (nI (l.getD p 0)) = some (nI 0) := by
    unfold fX12_isBlank
    rw [if_neg (by simp (disch := omega) only [zLT, zC]; omega), if_neg (by simp (disch := omega) only [zLT, zC]; omega)]
    rfl
  refine zW_ob bl (zW_t rfl ?_)
  refine zW_jn (fun _ : Unit => zRr g l hs p = .inl p) (fun _ he => ?_) (fun k16 hk16 => zW_if (fun e6 => hk16 _ (zRr_full hp nb ?_)) (fun e6 => ?_))
  · refine zW_oR (zW_bv _ rfl (zW_so ⟨Or.inl ⟨p, r3.trans he, by omega, by simp only [zM]⟩, fun y c q1 q2 => ?_⟩))
    simp (disch := omega) only [zM]
    exact r6 y c q1 q2
  · simp (disch := omega) only [zLT, zC] at e6
    exact e6
  simp (disch := omega) only [zLT, zC] at e6
  refine zW_jn (fun _ : Unit => l.getD p 0 = 110 ∨ l.getD p 0 = 118 ∨ l.getD p 0 = 102 ∨ l.getD p 0 = 112) (fun _ hl => ?_) (fun k19 hk19 => zW_if (fun q => hk19 _ (Or.inl ?_)) (fun q1 => zW_if (fun q => hk19 _ (Or.inr (Or.inl ?_))) (fun q2 => zW_if (fun q => hk19 _ (Or.inr (Or.inr (Or.inl ?_)))) (fun q3 => zW_if (fun q => hk19 _ (Or.inr (Or.inr (Or.inr ?_)))) (fun q4 => hk16 _ (zRr_bad hp nb e6 ?_))))))
  rotate_left
  · simp (disch := omega) only [zLT, zC] at q; exact q
  · simp (disch := omega) only [zLT, zC] at q; exact q
  · simp (disch := omega) only [zLT, zC] at q; exact q
  · simp (disch := omega) only [zLT, zC] at q; exact q
  · simp (disch := omega) only [zLT, zC] at q1 q2 q3 q4
    unfold zhr
    rw [if_neg q4, if_neg (by omega)]
  have hx : B + 1 + 4 * hs.length + 4 ≤ B + 25 := by omega
  refine zW_bv (nI (B + 1 + 4 * hs.length)) (by simp only [zLT, zI]) ?_
  obtain ⟨r, v1, v2, v3⟩ := z_reads (hs := hs) hτ (x := B + 1 + 4 * hs.length) (by omega) (by omega) hp hl
  refine zW_ob v1 ?_
  have fr : zMfr σ r B := fun y c q1 q2 => by rw [v3 y c q1 (by omega)]; exact r6 y c q1 q2
  rcases v2 with ⟨x, p', w1, w2, w3, w4, w5, w6, w7⟩ | ⟨e, w1, w2⟩
  rotate_left
  · have := zhr_le w1
    refine zW_f ?_ (zW_oR (zW_so ⟨Or.inl ⟨e, r3.trans (zRr_bad hp nb e6 w1), by omega, w2⟩, fr⟩))
    rw [w2]
    exact nI_pos (by omega)
  obtain ⟨p1, p2, ho, hc, -, -⟩ := zhr_ok hg w1
  refine zW_t (by rw [w2, r4]; decide +kernel) (zW_gd (by simp only [zLT, zI]; exact inb' _ (by omega)) (zW_bv x.2.1 ?_ ?_))
  · simp only [zLT, zI]
    rw [zi_ix (by omega)]
    exact w5
  have rw' : zMrw r B (hs ++ [x]) := by
    intro k hk
    rw [List.length_append, List.length_singleton] at hk
    by_cases hkl : k = hs.length
    · rw [hkl, zgH_app, if_neg (by omega), Nat.sub_self]
      exact ⟨w4, w5, w6, w7⟩
    · rw [zgH_app, if_pos (by omega), v3 _ _ (by omega) (by omega), v3 _ _ (by omega) (by omega), v3 _ _ (by omega) (by omega), v3 _ _ (by omega) (by omega)]
      exact r5 k (by omega)
  have done : ∀ G N, G = nI (zmrg (hs ++ [x])) → N = nI (zmrs (hs ++ [x])) → (∃ hs p τ, (G, N, r 383 8, nI hs.length, r) = (nI (zmrg hs), nI (zmrs hs), nI p, nI hs.length, τ) ∧ zhs g hs ∧ p ≤ l.length ∧ zRr g l [] 0 = zRr g l hs p ∧ τ 383 7 = -nI 1 ∧ zMrw τ B hs ∧ zMfr σ τ B ∧ hs.length = 0 + hs.length) := by
    intro G N hG hN
    exact ⟨hs ++ [x], p', r, by rw [hG, hN, w3], zhs_app hg r1 (by omega) w1, p2, by rw [r3]; exact zRr_hole hg hp nb e6 w1, by rw [w2]; exact r4, rw', fr, by omega⟩
  have ll : (hs ++ [x]).length = hs.length + 1 := by rw [List.length_append, List.length_singleton]
  have mes : l.length - ix (r 383 8) < l.length - ix (nI p) := by rw [w3, zi_ix (by omega), zi_ix (by omega)]; omega
  refine zW_jn (fun y : Int32 => y = nI (zmrs (hs ++ [x]))) ?_ ?_
  · rintro y rfl
    rcases zHo_gr ho with ⟨n, n1, n2⟩ | ⟨n2, -⟩
    · rw [n2]
      refine zW_f (nI_pos (by omega)) (zW_bv (nI (zmrg (hs ++ [x]))) (zmrg_app n1 n2) (zW_bv (nI (hs.length + 1)) (by rw [zLT.2.1, zI.1]) (zW_bv _ rfl (zW_oL ⟨⟨hs ++ [x], p', r, by rw [w3, ll], zhs_app hg r1 (by omega) w1, p2, by rw [r3]; exact zRr_hole hg hp nb e6 w1, by rw [w2]; exact r4, rw', fr⟩, mes⟩))))
    · rw [n2]
      refine zW_t (by decide +kernel) (zW_bv (nI (hs.length + 1)) (by rw [zLT.2.1, zI.1]) (zW_bv _ rfl (zW_oL ⟨⟨hs ++ [x], p', r, by rw [w3, ll, zmrg_no n2], zhs_app hg r1 (by omega) w1, p2, by rw [r3]; exact zRr_hole hg hp nb e6 w1, by rw [w2]; exact r4, rw', fr⟩, mes⟩)))
  · intro k hk
    refine zW_if (fun q => ?_) (fun q => hk _ ?_)
    · simp (disch := omega) only [zLT, zC] at q
      rcases zHo_gr ho with ⟨n, n1, n2⟩ | ⟨n2, n3⟩
      · rw [n2]
        exact zW_bv _ rfl (hk _ (zmrs_app n1 n2 (by rw [hc, q])))
      · rw [hc, q] at n3
        simp (disch := omega) only [zC] at n3
        omega
    · simp (disch := omega) only [zLT, zC] at q
      rw [zmrs_no (by rw [hc]; exact q)]
