def zMrc (g : Nat → Int32) (σ : Mem) (l : List Nat) : Prop := zBG g ∧ (∀ k, k < 342 → σ 384 k = g k) ∧ σ 383 4 = nI l.length ∧ (∀ k, k < l.length → σ 386 k = nI (l.getD k 0)) ∧ l.length ≤ 50 ∧ ∀ k, k < l.length → l.getD k 0 < 256
theorem zMrc_co {g : Nat → Int32} {σ τ : Mem} {l : List Nat} (h : zMrc g σ l) (e : ∀ k, k < 342 → τ 384 k = σ 384 k) (e1 : τ 383 4 = σ 383 4) (e2 : ∀ k, τ 386 k = σ 386 k) : zMrc g τ l := ⟨h.1, fun k hk => by rw [e k hk]; exact h.2.1 k hk, by rw [e1]; exact h.2.2.1, fun k hk => by rw [e2]; exact h.2.2.2.1 k hk, h.2.2.2.2⟩
theorem zr_here {g : Nat → Int32} {σ : Mem} {l : List Nat} {i : Nat} (h : zMrc g σ l) (hi : i < 2 ^ 30) : fX12_here σ 383 (nI i) = some (if i < l.length then nI (l.getD i 0) else -nI 1) := by
  obtain ⟨-, -, h1, h2, h3, -⟩ := h
  refine zW_val ?_
  unfold fX12_here
  refine zW_if (fun q => zW_so ?_) (fun q => ?_)
  · rw [h1] at q
    simp (disch := omega) only [zC] at q
    show -nI 1 = _
    rw [if_neg (by omega)]
  · rw [h1] at q
    simp (disch := omega) only [zC] at q
    refine zW_gd (by simp (disch := omega) only [Nat.reduceAdd, zl_c, zI]) (zW_so ?_)
    rw [if_pos (by omega), zi_ix (by omega)]
    exact h2 i (by omega)
theorem z_mdg {g : Nat → Int32} {σ : Mem} {l : List Nat} {i m : Nat} (h : zMrc g σ l) (hi : i < 2 ^ 30) (hm : m < 10) : fX12_isDigit σ 383 (nI i) (nI m) = some (match zdg l i (m + 1) with | none => nI 0 | some _ => nI 1) := by
  refine zW_val ?_
  unfold fX12_isDigit
  refine zW_ob (zr_here h hi) ?_
  rw [show (48 : Int32) = nI 48 from rfl, zI.1]
  by_cases hc : i < l.length
  · rw [if_pos hc]
    have gb := h.2.2.2.2.2 i hc
    by_cases hd : 48 ≤ l.getD i 0 ∧ l.getD i 0 < 48 + (m + 1)
    · refine zW_ob (z_isIn hd.1 (by omega) (by omega)) (zW_so ?_)
      unfold zdg
      rw [if_pos ⟨hc, hd⟩]
    · refine zW_ob (z_isInN (by simp (disch := omega) only [zC]; omega)) (zW_so ?_)
      unfold zdg
      rw [if_neg (fun q => hd q.2)]
  · rw [if_neg hc]
    refine zW_ob (z_isInN (Or.inl (by simp (disch := omega) only [zC]))) (zW_so ?_)
    unfold zdg
    rw [if_neg (fun q => hc q.1)]
theorem z_mdg' {g : Nat → Int32} {σ : Mem} {l : List Nat} {i m : Nat} (h : zMrc g σ l) (hi : i < 2 ^ 30) (hm : m < 10) : (zdg l i (m + 1) = none ∧ fX12_isDigit σ 383 (nI i) (nI m) = some (nI 0)) ∨ ∃ a, zdg l i (m + 1) = some a ∧ fX12_isDigit σ 383 (nI i) (nI m) = some (nI 1) ∧ fX12_here σ 383 (nI i) = some (nI (48 + a)) ∧ a < m + 1 := by
  have e := z_mdg h hi hm
  cases hz : zdg l i (m + 1) with
  | none => rw [hz] at e; exact Or.inl ⟨rfl, e⟩
  | some a =>
    rw [hz] at e
    obtain ⟨a1, a2, a3⟩ := zdg_s hz
    exact Or.inr ⟨a, rfl, e, by rw [zr_here h hi, if_pos a1, a2], a3⟩
def zmrk (a b c : Bool) : Nat := a.toNat + 2 * b.toNat + 4 * c.toNat
def zmrs (hs : List zHt) : Nat := zmrk (zhN2 hs 0) (zhN2 hs 1) (zhN2 hs 2)
def zmrg (hs : List zHt) : Nat := zmrk (zhG2 hs 0) (zhG2 hs 1) (zhG2 hs 2)
theorem zmk_t : ∀ (a b c : Bool) (n : Fin 3), (((nI (zmrk a b c) >>> (nI n.1 &&& 31)) &&& (1 : Int32)) = (1 : Int32)) ↔ (if n.1 = 0 then a else if n.1 = 1 then b else c) = true := by decide +kernel
theorem zmk_o : ∀ (a b c : Bool) (n : Fin 3), nI (zmrk a b c) ||| ((1 : Int32) <<< (nI n.1 &&& 31)) = nI (zmrk (a || decide (nI n.1 = nI 0)) (b || decide (nI n.1 = nI 1)) (c || decide (nI n.1 = nI 2))) := by decide +kernel
theorem zmk_e : ∀ (a b c a' b' c' : Bool), nI (zmrk a b c) = nI (zmrk a' b' c') ↔ a = a' ∧ b = b' ∧ c = c' := by decide +kernel
theorem zms_t {hs : List zHt} {n : Nat} (hn : n < 3) : (((nI (zmrs hs) >>> (nI n &&& 31)) &&& (1 : Int32)) = (1 : Int32)) ↔ zhN2 hs n = true := by
  have := zmk_t (zhN2 hs 0) (zhN2 hs 1) (zhN2 hs 2) ⟨n, hn⟩
  rcases (show n = 0 ∨ n = 1 ∨ n = 2 by omega) with rfl | rfl | rfl <;> exact this
theorem zNG2 {hs : List zHt} {gr : Nat} (h : zhN2 hs gr = true) : zhG2 hs gr = true := by
  obtain ⟨k, k1, -, k3⟩ := zN2_iff.mp h
  exact zG2_iff.mpr ⟨k, k1, k3⟩
theorem zms_e {hs : List zHt} : nI (zmrg hs) = nI (zmrs hs) ↔ zwh hs = true := by
  unfold zmrg zmrs
  rw [zmk_e, zwh_iff]
  constructor
  · rintro ⟨a, b, c⟩ gr hg q
    rcases (show gr = 0 ∨ gr = 1 ∨ gr = 2 by omega) with rfl | rfl | rfl
    · rw [← a]; exact q
    · rw [← b]; exact q
    · rw [← c]; exact q
  · intro h
    have k : ∀ gr, gr < 3 → zhG2 hs gr = zhN2 hs gr := fun gr hg => by
      cases hz : zhG2 hs gr with
      | true => rw [h gr hg hz]
      | false => cases hy : zhN2 hs gr with
        | false => rfl
        | true => rw [zNG2 hy] at hz; cases hz
    exact ⟨k 0 (by omega), k 1 (by omega), k 2 (by omega)⟩
/-- what the model's reading of one hole gives -/
def zMrr (g : Nat → Int32) (τ : Mem) (l : List Nat) (hs : List zHt) (p x : Nat) (r : Mem) : Prop := ((∃ h p', zhr g l hs p = .inr (h, p') ∧ r 383 7 = τ 383 7 ∧ r 383 8 = nI p' ∧ r 384 x = nI h.1 ∧ r 384 (x + 1) = h.2.1 ∧ r 384 (x + 2) = h.2.2.1 ∧ r 384 (x + 3) = h.2.2.2) ∨ ∃ e, zhr g l hs p = .inl e ∧ r 383 7 = nI e) ∧ ∀ y c, ¬ (y = 383 ∧ (c = 7 ∨ c = 8)) → ¬ (y = 384 ∧ x ≤ c ∧ c < x + 4) → r y c = τ y c
theorem z_isWdM {g : Nat → Int32} {σ : Mem} {l : List Nat} {w : Nat} (h : zMrc g σ l) (hw : w < 200) : fX12_isWord σ 383 (nI w) = some (if w < znW g then nI 1 else nI 0) := by
  have n20 : znW g ≤ 20 := h.1.1.2
  have e : σ 384 0 = nI (znW g) := (h.2.1 0 (by omega)).trans h.1.1.1
  refine zW_val ?_
  unfold fX12_isWord
  refine zW_gd (by decide +kernel) ?_
  have e' : σ (383 + 1) (ix (0 : Int32)) = nI (znW g) := e
  rw [e']
  by_cases c : w < znW g
  · rw [if_pos c]
    refine zW_ob (x := nI 1) ?_ (zW_so rfl)
    rw [zLT.2.1, zi_sub (by omega)]
    exact z_isIn (a := 0) (by omega) (by omega) (by omega)
  · rw [if_neg c]
    refine zW_ob (x := nI 0) ?_ (zW_so rfl)
    refine z_isInN (Or.inr ?_)
    by_cases h0 : znW g = 0
    · rw [h0]
      have : nI 0 - (1 : Int32) = -nI 1 := rfl
      rw [this]
      simp (disch := omega) only [zC]
    · rw [zLT.2.1, zi_sub (by omega)]
      simp (disch := omega) only [zC]
      omega
