theorem zth_ex {p : Nat → Bool} {m : Nat} : ∀ {i j : Nat}, i ≤ j → j < i + m → p j = true → ∃ w, zth p m i 0 = some w := by
  induction m with
  | zero => intro i j h1 h2 h3; omega
  | succ m ih =>
    intro i j h1 h2 h3
    rw [zth_s]
    split
    · exact ⟨i, rfl⟩
    · rename_i hp
      refine ih (j := j) ?_ (by omega) h3
      rcases Nat.eq_or_lt_of_le h1 with q | q
      · subst q; exact absurd h3 hp
      · exact q
def znp (g : Nat → Int32) (f gr j : Nat) : Bool := decide (g (zha f j) = nI 110) && decide (g (zha f j + 1) = nI gr)
/-- the hole of a group's n -/
def zno (g : Nat → Int32) (f gr : Nat) : Nat := (zth (znp g f gr) (znH g f) 0 0).getD 0
theorem zno_sp {g : Nat → Int32} {f gr j : Nat} (hj : j < znH g f) (h1 : g (zha f j) = nI 110) (h2 : g (zha f j + 1) = nI gr) : zno g f gr < znH g f ∧ g (zha f (zno g f gr)) = nI 110 ∧ g (zha f (zno g f gr) + 1) = nI gr := by
  have hp : znp g f gr j = true := by unfold znp; simp [h1, h2]
  obtain ⟨w, e⟩ := zth_ex (p := znp g f gr) (m := znH g f) (i := 0) (Nat.zero_le j) (by omega) hp
  have q := zth_in e
  have ew : zno g f gr = w := by unfold zno; rw [e]; rfl
  rw [ew]
  have q3 := q.2.2
  unfold znp at q3
  simp only [Bool.and_eq_true, decide_eq_true_eq] at q3
  exact ⟨by omega, q3.1, q3.2⟩
theorem zno_h {g : Nat → Int32} {f i gr : Nat} (hF : zFm g f) (hi : i < znH g f) (hg : gr < 3) (h : g (zha f i + 1) = nI gr) : zno g f gr < znH g f ∧ g (zha f (zno g f gr)) = nI 110 ∧ g (zha f (zno g f gr) + 1) = nI gr := by
  obtain ⟨j, h1, h2, h3⟩ := hF.2.2.2.1 i gr hi hg h
  exact zno_sp h1 h2 h3
def zca (x : Int32) : Nat := if x = -nI 1 then 0 else ix x
def zag (g : Nat → Int32) (f : Nat) (ws : Nat → Nat) (nb i : Nat) : Nat :=
  if ix (g (zha f i)) = 112 then 0
  else zca (g (zha f i + 2)) + (if ix (g (zwa (ws (zno g f (ix (g (zha f i + 1))))))) = 3 then 0 else nb / 2 ^ ix (g (zha f i + 1)) % 2) * 4 + ix (g (zwa (ws (zno g f (ix (g (zha f i + 1))))) + 2)) * 8
def zsi (g : Nat → Int32) (f : Nat) (ws : Nat → Nat) (nb m i : Nat) : List Nat :=
  zform g (ws i) (zag g f ws nb i % 4) (zag g f ws nb i / 4 % 2) (zag g f ws nb i / 8) m
def zlc (F : Nat → List Nat) : Nat → List Nat
  | 0 => []
  | k + 1 => zlc F k ++ ((if k = 0 then [] else [32]) ++ F k)
/-- F at FL is a frame all filled, by these words -/
def zFi (σ : Mem) (F : Nat) (g : Nat → Int32) (f : Nat) (ws : Nat → Nat) : Prop := σ F 0 = nI f ∧ f < znF g ∧ ∀ k, k < znH g f → ws k < znW g ∧ zcan g f k (ws k) = true ∧ σ (F + 1) k = nI (ws k)
theorem zca_le {x : Int32} (h : zNI x 3 ∨ x = -nI 1) : zca x ≤ 3 ∧ imx x (nI 0) = nI (zca x) ∧ imx (nI 0) x = nI (zca x) := by
  unfold zca
  rcases h with h | h
  · have : x ≠ -nI 1 := by
      rw [h.1]
      have := h.2
      simp (disch := omega) only [zC, ne_eq]
      exact fun h => h
    rw [if_neg this]
    have h2 := h.2
    refine ⟨h2, ?_, ?_⟩
    · conv => lhs; rw [h.1]
      rw [zi_max (by omega) (by omega)]
      rw [Nat.max_eq_left (by omega)]
    · conv => lhs; rw [h.1]
      rw [zi_max (by omega) (by omega)]
      rw [Nat.max_eq_right (by omega)]
  · rw [if_pos h]
    refine ⟨by omega, ?_, ?_⟩
    · rw [h]; decide +kernel
    · rw [h]; decide +kernel
theorem z_bit : ∀ nb gr, nb < 8 → gr < 3 → ((nI nb >>> (nI gr &&& 31)) &&& nI 1) = nI (nb / 2 ^ gr % 2) := by
  have h : ∀ nb : Fin 8, ∀ gr : Fin 3, ((nI nb.1 >>> (nI gr.1 &&& 31)) &&& nI 1) = nI (nb.1 / 2 ^ gr.1 % 2) := by decide +kernel
  exact fun nb gr h1 h2 => h ⟨nb, h1⟩ ⟨gr, h2⟩
theorem zag_lt {g : Nat → Int32} {f : Nat} {ws : Nat → Nat} {nb i : Nat} (hg : zBG g) (hf : f < znF g) (hi : i < znH g f) (hw : ∀ k, k < znH g f → ws k < znW g) : zag g f ws nb i < 24 := by
  unfold zag
  split
  · omega
  · rename_i hn
    have hF := hg.2.2.2.2.1 f hf
    have hH := hF.2.2.1 i hi
    obtain ⟨n, l1, l2, l3⟩ := zHo_l hH
    have hne : g (zha f i) ≠ nI 112 := by
      intro q
      rw [q] at hn
      exact hn (zi_ix (by omega))
    obtain ⟨g1, g2⟩ := zHo_g hH hne
    have g1' := g1.2
    have c1 := (zca_le g2).1
    have nh := zno_h hF hi (by omega) g1.1
    have hw2 := hw _ nh.1
    have hk := (hg.2.2.1 _ hw2).2.2.1.2
    generalize ix (g (zwa (ws (zno g f (ix (g (zha f i + 1))))) + 2)) = a at *
    split <;> omega
theorem z_wordIn {σ : Mem} {F k : Nat} (hF : ln (F + 1) = 6) (hk : k < 6) : fX2_wordIn σ F (nI k) = some (σ (F + 1) (ix (nI k))) := by
  unfold fX2_wordIn
  simp (disch := omega) only [zLT, z_below, zE, zn01, if_false, hF, zI]
theorem z_wordInN {σ : Mem} {F : Nat} {x : Int32} (h : x < 0 ∨ nI 6 ≤ x) : fX2_wordIn σ F x = some (-nI 1) := by
  unfold fX2_wordIn
  rw [zLT.2.2.2.2.2.2.1, z_belowN h]
  rfl
/-- what goes with a hole: whatever is filled -/
theorem z_agreeA {σ : Mem} {g : Nat → Int32} {F f i nb : Nat} (hg : zBG g) (hc : zCB σ 3 g) (hF : ln (F + 1) = 6) (h0 : σ F 0 = nI f) (hf : f < znF g) (hi : i < znH g f) (hnb : nb < 8)
    (hw : ∀ k, k < znH g f → σ (F + 1) k = -nI 1 ∨ ∃ w, w < znW g ∧ σ (F + 1) k = nI w) : zW (fX8_agreement σ 3 F (nI i) (nI nb)) (fun r => (∃ v, v < 24 ∧ r = nI v) ∧ ∀ ws, (∀ k, k < znH g f → ws k < znW g ∧ σ (F + 1) k = nI (ws k)) → r = nI (zag g f ws nb i)) := by
  obtain ⟨f5, hFm, hB, q3, q4, q5⟩ := zF_n hg hc hf
  have hH := hFm.2.2.1 i hi
  obtain ⟨n, l1, l2, l3⟩ := zHo_l hH
  unfold fX8_agreement
  rw [h0]
  refine zW_ob (z_frameAt hg hc hf) ?_
  rw [zE_ocss]
  refine zW_ob (z_groupOf hg hc hf hi) ?_
  rw [zLT.2.1]
  by_cases hp : n = 112
  · subst hp
    have e := (zHo_p hH l1).1
    refine zW_t e (zW_so ⟨⟨0, by omega, rfl⟩, fun ws _ => ?_⟩)
    unfold zag
    rw [l2, if_pos rfl]
    rfl
  · have hne : g (zha f i) ≠ nI 112 := by
      rw [l1]
      simp (disch := omega) only [zC, ne_eq]
      exact hp
    obtain ⟨g1, g2⟩ := zHo_g hH hne
    have g1' := g1.2
    have g1e : g (zha f i + 1) = nI (ix (g (zha f i + 1))) := g1.1
    have gz : ∀ ws, zag g f ws nb i = zca (g (zha f i + 2)) + (if ix (g (zwa (ws (zno g f (ix (g (zha f i + 1))))))) = 3 then 0 else nb / 2 ^ ix (g (zha f i + 1)) % 2) * 4 + ix (g (zwa (ws (zno g f (ix (g (zha f i + 1))))) + 2)) * 8 := by
      intro ws
      unfold zag
      rw [l2, if_neg hp]
    have nh := zno_h hFm hi (by omega) g1.1
    generalize hgr : ix (g (zha f i + 1)) = gr at *
    refine zW_f (by rw [g1e]; simp (disch := omega) only [zC]; exact fun h => h) ?_
    refine zW_ob (z_groupOf hg hc hf hi) ?_
    rw [g1e]
    refine zW_ob (z_nounOf f5 (by omega)) ?_
    have hno : σ (147 + 6 * f) gr = nI (zno g f gr) := by
      rcases hB.2.2 gr (by omega) with ⟨k, k1, k2, k3, k4⟩ | ⟨k1, -⟩
      · rw [show 142 + 6 * f + 5 = 147 + 6 * f by omega] at k4
        rw [k4, hFm.2.2.2.2 k _ k1 nh.1 k2 nh.2.1 (k3.trans nh.2.2.symm)]
      · exact absurd nh.2.2 (k1 _ nh.1 nh.2.1)
    rw [hno]
    generalize hnn : zno g f gr = no at *
    refine zW_ob (z_wordIn hF (by omega)) ?_
    rw [zi_ix (by omega)]
    rcases hw no nh.1 with e | ⟨w, hw1, e⟩
    · rw [e]
      refine zW_ob (z_wordAtN hg hc (Or.inl (by decide +kernel))) ?_
      rw [zE_ocsn]
      refine zW_so ⟨⟨0, by omega, rfl⟩, fun ws h => ?_⟩
      have := (h no nh.1).2
      have h1 : znW g ≤ 20 := hg.1.2
      have h2 := (h no nh.1).1
      rw [e] at this
      simp (disch := omega) only [zC] at this
    · rw [e]
      refine zW_ob (z_wordAt hg hc hw1) ?_
      rw [zE_ocss]
      have h1 : znW g ≤ 20 := hg.1.2
      obtain ⟨⟨w0, w1⟩, -, ⟨w4, w5⟩, -⟩ := hg.2.2.1 w hw1
      obtain ⟨b1, b2, b3, b4⟩ := hc.2.2.1 w hw1
      rw [show 3 + 9 + 3 * w = 12 + 3 * w by omega] at b1 b2 b3 b4
      obtain ⟨c1, c2, c3⟩ := zca_le g2
      refine zW_jn (fun y => y = nI (if ix (g (zwa w)) = 3 then 0 else nb / 2 ^ gr % 2)) ?_ ?_
      · rintro y rfl
        refine zW_ob (z_caseOf hg hc hf hi) ?_
        rw [zLT.1, c2, b3, w4]
        have hlt : (if ix (g (zwa w)) = 3 then 0 else nb / 2 ^ gr % 2) < 2 := by split <;> omega
        have hws : ∀ ws : Nat → Nat, (∀ k, k < znH g f → ws k < znW g ∧ σ (F + 1) k = nI (ws k)) → ws no = w := by
          intro ws h
          have := (h no nh.1).2
          have h2 := (h no nh.1).1
          rw [e] at this
          simp (disch := omega) only [zC] at this
          exact this.symm
        refine zW_so ⟨⟨zca (g (zha f i + 2)) + (if ix (g (zwa w)) = 3 then 0 else nb / 2 ^ gr % 2) * 4 + ix (g (zwa w + 2)) * 8, by omega, by simp only [zLT, zI]⟩, fun ws h => ?_⟩
        rw [gz ws, hws ws h]
        simp only [zLT, zI]
      · intro k hk
        rw [b1, w0]
        refine zW_if (fun h => ?_) (fun h => ?_)
        · simp (disch := omega) only [zLT, zC] at h
          exact hk _ (by rw [if_pos h]; rfl)
        · simp (disch := omega) only [zLT, zC] at h
          refine hk _ ?_
          rw [if_neg h]
          exact z_bit nb gr hnb (by omega)
