def zct (p : Nat → Bool) : Nat → Nat
  | 0 => 0
  | k + 1 => zct p k + if p k then 1 else 0
theorem zct_le (p : Nat → Bool) (n : Nat) : zct p n ≤ n := by
  induction n with
  | zero => exact Nat.le_refl _
  | succ n ih => unfold zct; split <;> omega
def zth (p : Nat → Bool) : Nat → Nat → Nat → Option Nat
  | 0, _, _ => none
  | m + 1, i, k => if p i then (if k = 0 then some i else zth p m (i + 1) (k - 1)) else zth p m (i + 1) k
theorem zth_s (p : Nat → Bool) (m i k : Nat) : zth p (m + 1) i k = if p i then (if k = 0 then some i else zth p m (i + 1) (k - 1)) else zth p m (i + 1) k := rfl
def zoI (o : Option Nat) : Int32 := match o with
  | none => -nI 1
  | some w => nI w
theorem zth_in {p : Nat → Bool} {m : Nat} : ∀ {i k w : Nat}, zth p m i k = some w → i ≤ w ∧ w < i + m ∧ p w = true := by
  induction m with
  | zero => intro i k w h; cases h
  | succ m ih =>
    intro i k w h
    unfold zth at h
    split at h
    · rename_i hp
      split at h
      · cases h; exact ⟨by omega, by omega, hp⟩
      · have := ih h; exact ⟨by omega, by omega, this.2.2⟩
    · have := ih h; exact ⟨by omega, by omega, this.2.2⟩
theorem zW_val {α : Type} {o : Option α} {v : α} (h : zW o (fun r => r = v)) : o = some v := by
  obtain ⟨r, e, q⟩ := h
  rw [e, q]
theorem z_wordsFor {σ : Mem} {g : Nat → Int32} {f i : Nat} (hg : zBG g) (hc : zCB σ 3 g) (hn : zNG σ) (hf : f < znF g) (hi : i < znH g f) : fX0_wordsFor σ 3 (142 + 6 * f) (nI i) = some (nI (zct (zcan g f i) (znW g))) := by
  have h2 : znW g ≤ 20 := hg.1.2
  have e : σ 3 1 = nI (znW g) := hc.1.1.trans hg.1.1
  refine zW_val ?_
  unfold fX0_wordsFor
  refine zW_lp (fun n s => s = (nI n, nI (zct (zcan g f i) n))) (znW g) ?_ (by unfold FU; omega) rfl
  rintro n s hn' rfl
  unfold sX0_wordsFor_5
  dsimp only
  refine zW_if (fun h => ?_) (fun h => ?_)
  · simp (disch := omega) only [zLT, zC, e] at h
    have : n = znW g := by omega
    subst this
    exact zW_oR (zW_so rfl)
  · simp (disch := omega) only [zLT, zC, e] at h
    have hlt : n < znW g := by omega
    refine zW_gd (by simp (disch := omega) only [Nat.reduceAdd, zl_c, zI]) ?_
    rw [zi_ix (by omega)]
    refine zW_ob (z_takes hg hc hn hf hi hlt) ?_
    cases hp : zcan g f i n with
    | true =>
      refine zW_f zn01 ?_
      refine zW_oL ⟨hlt, ?_⟩
      simp only [zLT, zI, zct, hp, if_true]
    | false =>
      refine zW_t rfl ?_
      refine zW_oL ⟨hlt, ?_⟩
      simp only [zLT, zI, zct, hp, Bool.false_eq_true, if_false]
theorem z_able {σ : Mem} {g : Nat → Int32} {f i : Nat} (hg : zBG g) (hM : zMG σ g) (hf : f < znF g) (hi : i < znH g f) : fX12_able σ 383 (nI f) (nI i) = some (nI (zct (zcan g f i) (znW g))) := by
  have h2 : znW g ≤ 20 := hg.1.2
  have e : σ 384 0 = nI (znW g) := (hM 0 (by omega)).trans hg.1.1
  refine zW_val ?_
  unfold fX12_able
  refine zW_lp (fun n s => s = (nI n, nI (zct (zcan g f i) n))) (znW g) ?_ (by unfold FU; omega) rfl
  rintro n s hn' rfl
  unfold sX12_able_5
  dsimp only
  refine zW_gd (by simp (disch := omega) only [zLT, Nat.reduceAdd, zl_c, zI]) ?_
  have e' : σ (383 + 1) (ix 0) = nI (znW g) := by simp (disch := omega) only [zLT, Nat.reduceAdd, zI, e]
  rw [e']
  refine zW_if (fun h => ?_) (fun h => ?_)
  · simp (disch := omega) only [zLT, zC] at h
    have : n = znW g := by omega
    subst this
    exact zW_oR (zW_so rfl)
  · simp (disch := omega) only [zLT, zC] at h
    have hlt : n < znW g := by omega
    refine zW_ob (z_canBe hg hM hf hi hlt) ?_
    cases hp : zcan g f i n with
    | true =>
      refine zW_f zn01 ?_
      refine zW_oL ⟨hlt, ?_⟩
      simp only [zLT, zI, zct, hp, if_true]
    | false =>
      refine zW_t rfl ?_
      refine zW_oL ⟨hlt, ?_⟩
      simp only [zLT, zI, zct, hp, Bool.false_eq_true, if_false]
theorem z_wordFor {σ : Mem} {g : Nat → Int32} {f i k : Nat} (hg : zBG g) (hc : zCB σ 3 g) (hn : zNG σ) (hf : f < znF g) (hi : i < znH g f) (hk : k < 2 ^ 30) : fX0_wordFor σ 3 (142 + 6 * f) (nI i) (nI k) = some (zoI (zth (zcan g f i) (znW g) 0 k)) := by
  have h2 : znW g ≤ 20 := hg.1.2
  have e : σ 3 1 = nI (znW g) := hc.1.1.trans hg.1.1
  refine zW_val ?_
  unfold fX0_wordFor
  refine zW_lp (fun n s => ∃ k', k' < 2 ^ 30 ∧ s = (nI n, nI k') ∧ n ≤ znW g ∧ zth (zcan g f i) (znW g) 0 k = zth (zcan g f i) (znW g - n) n k') (znW g) ?_ (by unfold FU; omega) ⟨k, hk, rfl, Nat.zero_le _, rfl⟩
  rintro n s hn' ⟨k', hk', rfl, -, hz⟩
  unfold sX0_wordFor_6
  dsimp only
  refine zW_if (fun h => ?_) (fun h => ?_)
  · simp (disch := omega) only [zLT, zC, e] at h
    have : n = znW g := by omega
    subst this
    rw [Nat.sub_self] at hz
    rw [hz]
    exact zW_oR (zW_so rfl)
  · simp (disch := omega) only [zLT, zC, e] at h
    have hlt : n < znW g := by omega
    have hs : znW g - n = (znW g - (n + 1)) + 1 := by omega
    rw [hs, zth_s] at hz
    refine zW_gd (by simp (disch := omega) only [Nat.reduceAdd, zl_c, zI]) ?_
    rw [zi_ix (by omega)]
    refine zW_ob (z_takes hg hc hn hf hi hlt) ?_
    cases hp : zcan g f i n with
    | true =>
      rw [hp, if_pos rfl] at hz
      refine zW_f zn01 ?_
      refine zW_if (fun h0 => ?_) (fun h0 => ?_)
      · simp (disch := omega) only [zLT, zC] at h0
        rw [if_pos h0] at hz
        rw [hz]
        exact zW_oR (zW_so rfl)
      · simp (disch := omega) only [zLT, zC] at h0
        rw [if_neg h0] at hz
        refine zW_oL ⟨hlt, k' - 1, by omega, ?_, hlt, hz⟩
        simp (disch := omega) only [zLT, zI]
    | false =>
      rw [hp, if_neg (by decide)] at hz
      refine zW_t rfl ?_
      refine zW_oL ⟨hlt, k', hk', ?_, hlt, hz⟩
      simp only [zLT, zI]
theorem z_ableAt {σ : Mem} {g : Nat → Int32} {f i k : Nat} (hg : zBG g) (hM : zMG σ g) (hf : f < znF g) (hi : i < znH g f) (hk : k < 2 ^ 30) : fX12_ableAt σ 383 (nI f) (nI i) (nI k) = some (zoI (zth (zcan g f i) (znW g) 0 k)) := by
  have h2 : znW g ≤ 20 := hg.1.2
  have e : σ 384 0 = nI (znW g) := (hM 0 (by omega)).trans hg.1.1
  refine zW_val ?_
  unfold fX12_ableAt
  refine zW_lp (fun n s => ∃ k', k' < 2 ^ 30 ∧ s = (nI n, nI k') ∧ n ≤ znW g ∧ zth (zcan g f i) (znW g) 0 k = zth (zcan g f i) (znW g - n) n k') (znW g) ?_ (by unfold FU; omega) ⟨k, hk, rfl, Nat.zero_le _, rfl⟩
  rintro n s hn' ⟨k', hk', rfl, -, hz⟩
  unfold sX12_ableAt_6
  dsimp only
  refine zW_gd (by simp (disch := omega) only [zLT, Nat.reduceAdd, zl_c, zI]) ?_
  have e' : σ (383 + 1) (ix 0) = nI (znW g) := by simp (disch := omega) only [zLT, Nat.reduceAdd, zI, e]
  rw [e']
  refine zW_if (fun h => ?_) (fun h => ?_)
  · simp (disch := omega) only [zLT, zC] at h
    have : n = znW g := by omega
    subst this
    rw [Nat.sub_self] at hz
    rw [hz]
    exact zW_oR (zW_so rfl)
  · simp (disch := omega) only [zLT, zC] at h
    have hlt : n < znW g := by omega
    have hs : znW g - n = (znW g - (n + 1)) + 1 := by omega
    rw [hs, zth_s] at hz
    refine zW_f (by simp (disch := omega) only [zLT, zC]; omega) ?_
    refine zW_ob (z_canBe hg hM hf hi hlt) ?_
    cases hp : zcan g f i n with
    | true =>
      rw [hp, if_pos rfl] at hz
      refine zW_f zn01 ?_
      refine zW_if (fun h0 => ?_) (fun h0 => ?_)
      · simp (disch := omega) only [zLT, zC] at h0
        rw [if_pos h0] at hz
        rw [hz]
        exact zW_oR (zW_so rfl)
      · simp (disch := omega) only [zLT, zC] at h0
        rw [if_neg h0] at hz
        refine zW_oL ⟨hlt, k' - 1, by omega, ?_, hlt, hz⟩
        simp (disch := omega) only [zLT, zI]
    | false =>
      rw [hp, if_neg (by decide)] at hz
      refine zW_t rfl ?_
      refine zW_oL ⟨hlt, k', hk', ?_, hlt, hz⟩
      simp only [zLT, zI]
theorem z_ableAtN {σ : Mem} {g : Nat → Int32} {f i : Nat} (hg : zBG g) (hM : zMG σ g) : fX12_ableAt σ 383 (nI f) (nI i) (-nI 1) = some (-nI 1) := by
  have h2 : znW g ≤ 20 := hg.1.2
  have e : σ 384 0 = nI (znW g) := (hM 0 (by omega)).trans hg.1.1
  refine zW_val ?_
  unfold fX12_ableAt
  refine zW_lp (fun n s => s = (nI 0, -nI 1)) 0 ?_ (by unfold FU; omega) rfl
  rintro n s hn' rfl
  unfold sX12_ableAt_6
  dsimp only
  refine zW_gd (by simp (disch := omega) only [zLT, Nat.reduceAdd, zl_c, zI]) ?_
  refine zW_if (fun h => zW_oR (zW_so rfl)) (fun h => ?_)
  exact zW_t (by decide +kernel) (zW_oR (zW_so rfl))
theorem z_holeOf {σ : Mem} {g : Nat → Int32} {f j gr : Nat} (hg : zBG g) (hM : zMG σ g) (hf : f < znF g) (hj : j < znH g f) (h1 : g (zha f j) = nI 110) (h2 : g (zha f j + 1) = nI gr) : fX12_holeOf σ 383 (nI f) (nI gr) = some (nI j) := by
  have h0 : f < 5 := Nat.lt_of_lt_of_le hf hg.2.1.2
  have hF := hg.2.2.2.2.1 f hf
  have h4 : ix (g (zfa f)) ≤ 6 := hF.1.2
  have h4' : j < ix (g (zfa f)) := hj
  refine zW_val ?_
  unfold fX12_holeOf
  refine zW_lp (fun n s => s = nI n ∧ n ≤ j) j ?_ (by unfold FU; omega) ⟨rfl, Nat.zero_le _⟩
  rintro n s hn' ⟨rfl, -⟩
  unfold sX12_holeOf_2
  refine zW_ob (z_holes hM h0) ?_
  rw [hF.1.1]
  refine zW_f (by simp (disch := omega) only [zC]; omega) ?_
  refine zW_ob (z_ofHole (k := 0) hM h0 (by omega) (by omega)) ?_
  have on : n ≠ j → zW (bnd (nI n + (1 : Int32)) (fun x11 => oL x11)) (zS (fun a' => n < j ∧ a' = nI (n + 1) ∧ n + 1 ≤ j) (fun r => r = nI j)) := fun hne => zW_oL ⟨by omega, by simp only [zLT, zI], by omega⟩
  refine zW_if (fun h => ?_) (fun h => ?_)
  · simp only [zLT, Nat.add_zero] at h
    refine zW_ob (z_ofHole (k := 1) hM h0 (by omega) (by omega)) ?_
    refine zW_if (fun h' => ?_) (fun h' => ?_)
    · have : n = j := hF.2.2.2.2 n j (show n < ix (g (zfa f)) by omega) hj h h1 (h'.trans h2.symm)
      subst this
      exact zW_oR (zW_so rfl)
    · exact on (fun q => h' (by rw [q]; exact h2))
  · simp only [zLT, Nat.add_zero] at h
    exact on (fun q => h (by rw [q]; exact h1))
