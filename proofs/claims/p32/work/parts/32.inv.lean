def ztx (g : Nat → Int32) (a n : Nat) : List Nat := (List.range n).map (fun k => ix (g (a + k)))
theorem ztx_len (g : Nat → Int32) (a n : Nat) : (ztx g a n).length = n := by simp [ztx]
theorem ztx_get {g : Nat → Int32} {a n k : Nat} (hk : k < n) : (ztx g a n).getD k 0 = ix (g (a + k)) := by
  simp [ztx, List.getD_eq_getElem?_getD, hk]
def zNI (x : Int32) (n : Nat) : Prop := x = nI (ix x) ∧ ix x ≤ n
def zlet (x : Int32) : Prop := x = nI (ix x) ∧ 97 ≤ ix x ∧ ix x ≤ 122
theorem zNI_of {a n : Nat} (h : a ≤ n) (hn : n < 2 ^ 31) : zNI (nI a) n := by
  have e : ix (nI a) = a := zi_ix (by omega)
  exact ⟨by rw [e], by rw [e]; exact h⟩
abbrev zwa (w : Nat) : Nat := 14 + 10 * w
abbrev zea (e : Nat) : Nat := 214 + 4 * e
abbrev zfa (f : Nat) : Nat := 342 + 25 * f
abbrev zha (f i : Nat) : Nat := 342 + 25 * f + 1 + 4 * i
def zst (g : Nat → Int32) (w : Nat) : List Nat := ztx g (zwa w + 4) (ix (g (zwa w + 3)))
def zen (g : Nat → Int32) (e : Nat) : List Nat := ztx g (zea e + 1) (ix (g (zea e)))
def ztt (g : Nat → Int32) : List Nat := ztx g 467 (ix (g 13))
abbrev znW (g : Nat → Int32) : Nat := ix (g 0)
abbrev znF (g : Nat → Int32) : Nat := ix (g 1)
abbrev znH (g : Nat → Int32) (f : Nat) : Nat := ix (g (zfa f))
def zWd (g : Nat → Int32) (w : Nat) : Prop := zNI (g (zwa w)) 5 ∧ zNI (g (zwa w + 1)) 3 ∧ zNI (g (zwa w + 2)) 2 ∧ zNI (g (zwa w + 3)) 6 ∧ 1 ≤ ix (g (zwa w + 3)) ∧ ∀ k, k < ix (g (zwa w + 3)) → zlet (g (zwa w + 4 + k))
def zEd (g : Nat → Int32) (e : Nat) : Prop := zNI (g (zea e)) 3 ∧ ∀ k, k < ix (g (zea e)) → zlet (g (zea e + 1 + k))
/-- a hole of an n, v, f, p: letter, group, case, word -/
def zHo (g : Nat → Int32) (c gr ca wo : Int32) : Prop :=
  (c = nI 110 ∧ zNI gr 2 ∧ zNI ca 3 ∧ wo = -nI 1) ∨ (c = nI 118 ∧ zNI gr 2 ∧ ca = -nI 1 ∧ wo = -nI 1) ∨ (c = nI 102 ∧ zNI gr 2 ∧ zNI ca 3 ∧ wo = -nI 1)
  ∨ (c = nI 112 ∧ gr = -nI 1 ∧ ca = -nI 1 ∧ zNI wo 19 ∧ ix wo < znW g ∧ g (zwa (ix wo)) = nI 0)
def zFm (g : Nat → Int32) (f : Nat) : Prop := zNI (g (zfa f)) 6 ∧ 1 ≤ znH g f ∧ (∀ i, i < znH g f → zHo g (g (zha f i)) (g (zha f i + 1)) (g (zha f i + 2)) (g (zha f i + 3)))
  ∧ (∀ i gr, i < znH g f → gr < 3 → g (zha f i + 1) = nI gr → ∃ j, j < znH g f ∧ g (zha f j) = nI 110 ∧ g (zha f j + 1) = nI gr)
  ∧ (∀ i j, i < znH g f → j < znH g f → g (zha f i) = nI 110 → g (zha f j) = nI 110 → g (zha f i + 1) = g (zha f j + 1) → i = j)
def zcan (g : Nat → Int32) (f i w : Nat) : Bool :=
  if ix (g (zha f i)) = 110 then ix (g (zwa w)) == 1 || ix (g (zwa w)) == 3
  else if ix (g (zha f i)) = 118 then ix (g (zwa w)) == 2 || ix (g (zwa w)) == 5
  else if ix (g (zha f i)) = 102 then ix (g (zwa w)) == 4
  else w == ix (g (zha f i + 3))
def zDk (g : Nat → Int32) : Prop := (g 2 = -nI 1 ∨ ∃ f, f < znF g ∧ g 2 = nI f ∧ ∀ i, i < znH g f → (g (7 + i) = -nI 1 ∨ ∃ w, w < znW g ∧ zcan g f i w = true ∧ g (7 + i) = nI w)) ∧ zNI (g 3) 3 ∧ zNI (g 4) 1 ∧ zNI (g 5) 1 ∧ zNI (g 6) 1
def zBG (g : Nat → Int32) : Prop := zNI (g 0) 20 ∧ zNI (g 1) 5 ∧ (∀ w, w < znW g → zWd g w) ∧ (∀ e, e < 32 → zEd g e) ∧ (∀ f, f < znF g → zFm g f)
  ∧ (zNI (g 13) 50 ∧ ∀ k, k < ix (g 13) → zNI (g (467 + k)) 127) ∧ zDk g
def zso (c : Nat) : Nat := if c = 110 then 0 else if c = 118 then 1 else if c = 102 then 2 else 3
def zFB (σ : Mem) (i : Nat) (g : Nat → Int32) (f : Nat) : Prop := σ i 0 = g (zfa f)
  ∧ (∀ k, k < znH g f → σ (i + 1) k = nI (zso (ix (g (zha f k)))) ∧ σ (i + 2) k = g (zha f k + 1) ∧ σ (i + 3) k = g (zha f k + 2) ∧ σ (i + 4) k = g (zha f k + 3))
  ∧ (∀ gr, gr < 3 → (∃ k, k < znH g f ∧ g (zha f k) = nI 110 ∧ g (zha f k + 1) = nI gr ∧ σ (i + 5) gr = nI k) ∨ ((∀ k, k < znH g f → g (zha f k) = nI 110 → g (zha f k + 1) ≠ nI gr) ∧ σ (i + 5) gr = -nI 1))
def zbt (g : Nat → Int32) : Nat := ix (g 4) + 2 * ix (g 5) + 4 * ix (g 6)
def zDB (σ : Mem) (i : Nat) (g : Nat → Int32) : Prop := σ i 0 = g 2 ∧ σ i 1 = g 3 ∧ σ i 2 = nI (zbt g) ∧ ∀ f, f < znF g → g 2 = nI f → ∀ k, k < znH g f → σ (i + 1) k = g (7 + k)
def zWB (σ : Mem) (i : Nat) (g : Nat → Int32) (w : Nat) : Prop := σ i 2 = g (zwa w) ∧ σ i 3 = g (zwa w + 1) ∧ σ i 4 = g (zwa w + 2) ∧ zL σ (i + 1) (zst g w)
/-- the class's book at b is what the model's row g tells -/
def zCB (σ : Mem) (b : Nat) (g : Nat → Int32) : Prop := (σ b 1 = g 0 ∧ σ b 5 = g 1) ∧ (∀ w, w < 20 → zNI (σ (b + 10 + 3 * w) 1) 6) ∧ (∀ w, w < znW g → zWB σ (b + 9 + 3 * w) g w)
  ∧ (∀ e, e < 32 → zL σ (b + 69 + 2 * e) (zen g e)) ∧ (∀ f, f < znF g → zFB σ (b + 139 + 6 * f) g f) ∧ zL σ (b + 5) (ztt g) ∧ zDB σ (b + 7) g
def zNG (σ : Mem) : Prop := (∀ w, w < 20 → σ (12 + 3 * w) 0 = nI w) ∧ zL σ 136 [111] ∧ zL σ 138 [97] ∧ zL σ 140 [101]
def zTP (σ : Mem) : Prop := ∃ l : List Nat, l.length ≤ 50 ∧ zL σ 1 l ∧ σ 383 4 = nI l.length ∧ ∀ k, k < l.length → σ 386 k = nI (l.getD k 0)
def zTR (σ : Mem) : Prop := ∀ t, t < 4 → σ (375 + 2 * t) 0 = σ 395 t ∧ (σ 395 t = -nI 1 ∨ (zNI (σ 395 t) 5 ∧ σ (375 + 2 * t) 1 = σ 396 t ∧ zNI (σ 396 t) 20 ∧ ∀ k, k < ix (σ 396 t) → σ (376 + 2 * t) k = σ 397 (20 * t + k)))
def zSH (σ : Mem) : Prop := ∀ t, t < 4 → σ (367 + 2 * t) 0 = σ 398 t ∧ (σ 398 t = -nI 1 ∨ zNI (σ 398 t) 1) ∧ σ (367 + 2 * t) 1 = σ 399 t ∧ zNI (σ 399 t) 40 ∧ ∀ k, k < ix (σ 399 t) → σ (368 + 2 * t) k = σ 400 (40 * t + k)
def zKP (σ : Mem) : Prop := σ 0 3 = σ 383 2 ∧ (σ 0 3 = nI 0 ∨ (σ 0 3 = nI 1 ∧ ∃ h, (∀ k, k < 517 → σ 385 k = h k) ∧ zBG h ∧ zCB σ 172 h))
def zMG (σ : Mem) (g : Nat → Int32) : Prop := ∀ k, k < 517 → σ 384 k = g k
def zIv (σ : Mem) (g : Nat → Int32) : Prop := zMG σ g ∧ zBG g ∧ zCB σ 3 g ∧ zNG σ ∧ zKP σ ∧ zTP σ ∧ zTR σ ∧ zSH σ
def zsc (i k : Nat) : Prop := (341 ≤ i ∧ i ≤ 364) ∨ (i = 383 ∧ (k = 6 ∨ k = 7 ∨ k = 8 ∨ k = 13 ∨ k = 14 ∨ k = 17 ∨ k = 18 ∨ k = 20)) ∨ (387 ≤ i ∧ i ≤ 394) ∨ i = 401
def zFr (σ τ : Mem) : Prop := ∀ i k, ¬ zsc i k → τ i k = σ i k
theorem zFB_co {σ τ : Mem} {i : Nat} {g : Nat → Int32} {f : Nat} (h : zFB σ i g f) (e : ∀ a k, i ≤ a → a < i + 6 → τ a k = σ a k) : zFB τ i g f := by
  obtain ⟨h1, h2, h3⟩ := h
  refine ⟨by rw [e _ _ (by omega) (by omega)]; exact h1, fun k hk => ?_, fun gr hg => ?_⟩
  · have := h2 k hk
    rw [e (i + 1) _ (by omega) (by omega), e (i + 2) _ (by omega) (by omega), e (i + 3) _ (by omega) (by omega), e (i + 4) _ (by omega) (by omega)]
    exact this
  · rw [e (i + 5) _ (by omega) (by omega)]
    exact h3 gr hg
theorem zDB_co {σ τ : Mem} {i : Nat} {g : Nat → Int32} (h : zDB σ i g) (e : ∀ a k, i ≤ a → a < i + 2 → τ a k = σ a k) : zDB τ i g := by
  obtain ⟨h1, h2, h3, h4⟩ := h
  refine ⟨by rw [e _ _ (by omega) (by omega)]; exact h1, by rw [e _ _ (by omega) (by omega)]; exact h2, by rw [e _ _ (by omega) (by omega)]; exact h3, fun f hf hg k hk => ?_⟩
  rw [e _ _ (by omega) (by omega)]
  exact h4 f hf hg k hk
theorem zL_cb {σ τ : Mem} {i : Nat} {l : List Nat} (h : zL σ i l) (e : ∀ a k, i ≤ a → a < i + 2 → τ a k = σ a k) : zL τ i l := zL_co h (e _ _ (by omega) (by omega)) (fun k => e _ _ (by omega) (by omega))
theorem zWB_co {σ τ : Mem} {i : Nat} {g : Nat → Int32} {w : Nat} (h : zWB σ i g w) (e : ∀ a k, i ≤ a → a < i + 3 → τ a k = σ a k) : zWB τ i g w := by
  obtain ⟨h1, h2, h3, h4⟩ := h
  exact ⟨by rw [e _ _ (by omega) (by omega)]; exact h1, by rw [e _ _ (by omega) (by omega)]; exact h2, by rw [e _ _ (by omega) (by omega)]; exact h3, zL_cb h4 (fun a k p q => e a k (by omega) (by omega))⟩
theorem zCB_co {σ τ : Mem} {b : Nat} {g : Nat → Int32} (h0 : zBG g) (h : zCB σ b g) (e : ∀ a k, b ≤ a → a < b + 169 → τ a k = σ a k) : zCB τ b g := by
  obtain ⟨⟨h1, h2⟩, h3, h4, h5, h6, h7, h8⟩ := h
  have n0 := h0.1.2
  have n1 := h0.2.1.2
  refine ⟨⟨by rw [e _ _ (by omega) (by omega)]; exact h1, by rw [e _ _ (by omega) (by omega)]; exact h2⟩, fun w hw => ?_, fun w hw => ?_, fun k hk => ?_, fun f hf => ?_, ?_, ?_⟩
  · rw [e _ _ (by omega) (by omega)]; exact h3 w hw
  · have hw2 : w < 20 := Nat.lt_of_lt_of_le hw n0
    exact zWB_co (h4 w hw) (fun a k p q => e a k (by omega) (by omega))
  · exact zL_cb (h5 k hk) (fun a k p q => e a k (by omega) (by omega))
  · have hf2 : f < 5 := Nat.lt_of_lt_of_le hf n1
    exact zFB_co (h6 f hf) (fun a k p q => e a k (by omega) (by omega))
  · exact zL_cb h7 (fun a k p q => e a k (by omega) (by omega))
  · exact zDB_co h8 (fun a k p q => e a k (by omega) (by omega))
theorem zNG_co {σ τ : Mem} (h : zNG σ) (e : ∀ a k, 12 ≤ a → a < 72 → k = 0 → τ a k = σ a k) (e2 : ∀ a k, 136 ≤ a → a < 142 → τ a k = σ a k) : zNG τ :=
  ⟨fun w hw => by rw [e _ _ (by omega) (by omega) rfl]; exact h.1 w hw, zL_cb h.2.1 (fun a k p q => e2 a k (by omega) (by omega)), zL_cb h.2.2.1 (fun a k p q => e2 a k (by omega) (by omega)), zL_cb h.2.2.2 (fun a k p q => e2 a k (by omega) (by omega))⟩
theorem zTP_co {σ τ : Mem} (h : zTP σ) (e : ∀ k, τ 1 k = σ 1 k) (e1 : ∀ k, τ 2 k = σ 2 k) (e2 : τ 383 4 = σ 383 4) (e3 : ∀ k, τ 386 k = σ 386 k) : zTP τ := by
  obtain ⟨l, h1, h2, h3, h4⟩ := h
  exact ⟨l, h1, zL_co h2 (e 1) e1, by rw [e2]; exact h3, fun k hk => by rw [e3]; exact h4 k hk⟩
theorem zTR_co {σ τ : Mem} (h : zTR σ) (e : ∀ a k, 375 ≤ a → a < 383 → τ a k = σ a k) (e2 : ∀ a k, 395 ≤ a → a < 398 → τ a k = σ a k) : zTR τ := by
  intro t ht
  have q := h t ht
  rw [e _ _ (by omega) (by omega), e2 395 _ (by omega) (by omega), e _ 1 (by omega) (by omega), e2 396 _ (by omega) (by omega)]
  refine ⟨q.1, q.2.imp id (fun p => ⟨p.1, p.2.1, p.2.2.1, fun k hk => ?_⟩)⟩
  rw [e _ _ (by omega) (by omega), e2 397 _ (by omega) (by omega)]
  exact p.2.2.2 k hk
theorem zSH_co {σ τ : Mem} (h : zSH σ) (e : ∀ a k, 367 ≤ a → a < 375 → τ a k = σ a k) (e2 : ∀ a k, 398 ≤ a → a < 401 → τ a k = σ a k) : zSH τ := by
  intro t ht
  have q := h t ht
  rw [e _ _ (by omega) (by omega), e2 398 _ (by omega) (by omega), e _ 1 (by omega) (by omega), e2 399 _ (by omega) (by omega)]
  refine ⟨q.1, q.2.1, q.2.2.1, q.2.2.2.1, fun k hk => ?_⟩
  rw [e _ _ (by omega) (by omega), e2 400 _ (by omega) (by omega)]
  exact q.2.2.2.2 k hk
theorem zKP_co {σ τ : Mem} (h : zKP σ) (e : τ 0 3 = σ 0 3) (e1 : τ 383 2 = σ 383 2) (e2 : ∀ k, τ 385 k = σ 385 k) (e3 : ∀ a k, 172 ≤ a → a < 341 → τ a k = σ a k) : zKP τ := by
  obtain ⟨h1, h2⟩ := h
  refine ⟨by rw [e, e1]; exact h1, h2.imp (fun p => by rw [e]; exact p) (fun p => ⟨by rw [e]; exact p.1, ?_⟩)⟩
  obtain ⟨-, x, p1, p2, p3⟩ := p
  exact ⟨x, fun k hk => by rw [e2]; exact p1 k hk, p2, zCB_co p2 p3 (fun a k q r => e3 a k q r)⟩
theorem zFr_refl (σ : Mem) : zFr σ σ := fun _ _ _ => rfl
theorem zFr_trans {σ τ υ : Mem} (h : zFr σ τ) (h2 : zFr τ υ) : zFr σ υ := fun i k hk => by rw [h2 i k hk, h i k hk]
theorem zsc_no {i k : Nat} (h : ¬ (341 ≤ i ∧ i ≤ 364)) (h2 : i ≠ 383) (h3 : ¬ (387 ≤ i ∧ i ≤ 394)) (h4 : i ≠ 401) : ¬ zsc i k := by
  unfold zsc; omega
theorem zIv_fr {σ τ : Mem} {g : Nat → Int32} (h : zIv σ g) (e : zFr σ τ) : zIv τ g := by
  obtain ⟨h1, h2, h3, h4, h5, h6, h7, h8⟩ := h
  have e' : ∀ i k, ¬ (341 ≤ i ∧ i ≤ 364) → i ≠ 383 → ¬ (387 ≤ i ∧ i ≤ 394) → i ≠ 401 → τ i k = σ i k := fun i k p q r s => e i k (zsc_no p q r s)
  refine ⟨fun k hk => by rw [e' _ _ (by omega) (by omega) (by omega) (by omega)]; exact h1 k hk, h2, zCB_co h2 h3 (fun a k p q => e' a k (by omega) (by omega) (by omega) (by omega)), zNG_co h4 (fun a k p q _ => e' a k (by omega) (by omega) (by omega) (by omega)) (fun a k p q => e' a k (by omega) (by omega) (by omega) (by omega)), ?_, ?_, ?_, ?_⟩
  · exact zKP_co h5 (e' _ _ (by omega) (by omega) (by omega) (by omega)) (e _ _ (by unfold zsc; omega)) (fun k => e' _ _ (by omega) (by omega) (by omega) (by omega)) (fun a k p q => e' a k (by omega) (by omega) (by omega) (by omega))
  · exact zTP_co h6 (fun k => e' _ _ (by omega) (by omega) (by omega) (by omega)) (fun k => e' _ _ (by omega) (by omega) (by omega) (by omega)) (e _ _ (by unfold zsc; omega)) (fun k => e' _ _ (by omega) (by omega) (by omega) (by omega))
  · exact zTR_co h7 (fun a k p q => e' a k (by omega) (by omega) (by omega) (by omega)) (fun a k p q => e' a k (by omega) (by omega) (by omega) (by omega))
  · exact zSH_co h8 (fun a k p q => e' a k (by omega) (by omega) (by omega) (by omega)) (fun a k p q => e' a k (by omega) (by omega) (by omega) (by omega))
