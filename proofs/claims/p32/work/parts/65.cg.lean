theorem ztx_cg {g g' : Nat → Int32} {a n : Nat} (h : ∀ k, k < n → g' (a + k) = g (a + k)) : ztx g' a n = ztx g a n := by
  unfold ztx
  refine List.map_congr_left (fun k hk => ?_)
  rw [h k (List.mem_range.mp hk)]
theorem zWd_cg {g g' : Nat → Int32} {w : Nat} (h : ∀ k, k < 10 → g' (zwa w + k) = g (zwa w + k)) (q : zWd g w) : zWd g' w := by
  obtain ⟨q1, q2, q3, q4, q5, q6⟩ := q
  have q4' := q4.2
  unfold zWd
  rw [show g' (zwa w) = g (zwa w) from h 0 (by omega), h 1 (by omega), h 2 (by omega), h 3 (by omega)]
  refine ⟨q1, q2, q3, q4, q5, fun k hk => ?_⟩
  rw [show zwa w + 4 + k = zwa w + (4 + k) by omega, h (4 + k) (by omega), show zwa w + (4 + k) = zwa w + 4 + k by omega]
  exact q6 k hk
theorem zst_cg {g g' : Nat → Int32} {w : Nat} (h : ∀ k, k < 10 → g' (zwa w + k) = g (zwa w + k)) (q : zWd g w) : zst g' w = zst g w := by
  have q4' := q.2.2.2.1.2
  unfold zst
  rw [h 3 (by omega)]
  refine ztx_cg (fun k hk => ?_)
  rw [show zwa w + 4 + k = zwa w + (4 + k) by omega]
  exact h _ (by omega)
theorem zEd_cg {g g' : Nat → Int32} {e : Nat} (h : ∀ k, k < 4 → g' (zea e + k) = g (zea e + k)) (q : zEd g e) : zEd g' e := by
  obtain ⟨q1, q2⟩ := q
  have q1' := q1.2
  unfold zEd
  rw [show g' (zea e) = g (zea e) from h 0 (by omega)]
  refine ⟨q1, fun k hk => ?_⟩
  rw [show zea e + 1 + k = zea e + (1 + k) by omega, h (1 + k) (by omega), show zea e + (1 + k) = zea e + 1 + k by omega]
  exact q2 k hk
theorem zen_cg {g g' : Nat → Int32} {e : Nat} (h : ∀ k, k < 4 → g' (zea e + k) = g (zea e + k)) (q : zEd g e) : zen g' e = zen g e := by
  have q1' := q.1.2
  unfold zen
  rw [show g' (zea e) = g (zea e) from h 0 (by omega)]
  refine ztx_cg (fun k hk => ?_)
  rw [show zea e + 1 + k = zea e + (1 + k) by omega]
  exact h _ (by omega)
theorem zHo_cg {g g' : Nat → Int32} {c gr ca wo : Int32} (h1 : znW g ≤ znW g') (h2 : ∀ w, w < znW g → g' (zwa w) = g (zwa w)) (q : zHo g c gr ca wo) : zHo g' c gr ca wo := by
  rcases q with q | q | q | ⟨a, b, d, e, f, i⟩
  · exact Or.inl q
  · exact Or.inr (Or.inl q)
  · exact Or.inr (Or.inr (Or.inl q))
  · exact Or.inr (Or.inr (Or.inr ⟨a, b, d, e, Nat.lt_of_lt_of_le f h1, by rw [h2 _ f]; exact i⟩))
theorem zFm_cg {g g' : Nat → Int32} {f : Nat} (h : ∀ k, k < 25 → g' (zfa f + k) = g (zfa f + k)) (h1 : znW g ≤ znW g') (h2 : ∀ w, w < znW g → g' (zwa w) = g (zwa w)) (q : zFm g f) : zFm g' f := by
  have e0 : g' (zfa f) = g (zfa f) := h 0 (by omega)
  have eh : ∀ i j, i < 6 → j < 4 → g' (zha f i + j) = g (zha f i + j) := fun i j hi hj => by
    have := h (1 + 4 * i + j) (by omega)
    rw [show zfa f + (1 + 4 * i + j) = zha f i + j by show 342 + 25 * f + (1 + 4 * i + j) = 342 + 25 * f + 1 + 4 * i + j; omega] at this
    exact this
  have eh0 : ∀ i, i < 6 → g' (zha f i) = g (zha f i) := fun i hi => eh i 0 hi (by omega)
  have en : znH g' f = znH g f := by show ix (g' (zfa f)) = ix (g (zfa f)); rw [e0]
  obtain ⟨q1, q2, q3, q4, q5⟩ := q
  have q1' : znH g f ≤ 6 := q1.2
  refine ⟨by rw [e0]; exact q1, by rw [en]; exact q2, fun i hi => ?_, fun i gr hi hg he => ?_, fun i j hi hj a b c => ?_⟩
  · rw [en] at hi
    rw [eh0 i (by omega), eh i 1 (by omega) (by omega), eh i 2 (by omega) (by omega), eh i 3 (by omega) (by omega)]
    exact zHo_cg h1 h2 (q3 i hi)
  · rw [en] at hi
    rw [eh i 1 (by omega) (by omega)] at he
    obtain ⟨j, j1, j2, j3⟩ := q4 i gr hi hg he
    exact ⟨j, by rw [en]; exact j1, by rw [eh0 j (by omega)]; exact j2, by rw [eh j 1 (by omega) (by omega)]; exact j3⟩
  · rw [en] at hi hj
    rw [eh0 i (by omega)] at a
    rw [eh0 j (by omega)] at b
    rw [eh i 1 (by omega) (by omega), eh j 1 (by omega) (by omega)] at c
    exact q5 i j hi hj a b c
theorem zFB_cg {σ : Mem} {i : Nat} {g g' : Nat → Int32} {f : Nat} (h : ∀ k, k < 25 → g' (zfa f + k) = g (zfa f + k)) (hn : znH g f ≤ 6) (q : zFB σ i g f) : zFB σ i g' f := by
  have e0 : g' (zfa f) = g (zfa f) := h 0 (by omega)
  have eh : ∀ i j, i < 6 → j < 4 → g' (zha f i + j) = g (zha f i + j) := fun i j hi hj => by
    have := h (1 + 4 * i + j) (by omega)
    rw [show zfa f + (1 + 4 * i + j) = zha f i + j by show 342 + 25 * f + (1 + 4 * i + j) = 342 + 25 * f + 1 + 4 * i + j; omega] at this
    exact this
  have eh0 : ∀ i, i < 6 → g' (zha f i) = g (zha f i) := fun i hi => eh i 0 hi (by omega)
  have en : znH g' f = znH g f := by show ix (g' (zfa f)) = ix (g (zfa f)); rw [e0]
  obtain ⟨q1, q2, q3⟩ := q
  refine ⟨by rw [e0]; exact q1, fun k hk => ?_, fun gr hg => ?_⟩
  · rw [en] at hk
    rw [eh0 k (by omega), eh k 1 (by omega) (by omega), eh k 2 (by omega) (by omega), eh k 3 (by omega) (by omega)]
    exact q2 k hk
  · rcases q3 gr hg with ⟨k, k1, k2, k3, k4⟩ | ⟨k1, k2⟩
    · exact Or.inl ⟨k, by rw [en]; exact k1, by rw [eh0 k (by omega)]; exact k2, by rw [eh k 1 (by omega) (by omega)]; exact k3, k4⟩
    · refine Or.inr ⟨fun k hk a b => ?_, k2⟩
      rw [en] at hk
      rw [eh0 k (by omega)] at a
      rw [eh k 1 (by omega) (by omega)] at b
      exact k1 k hk a b
theorem zcan_cg {g g' : Nat → Int32} {f i w : Nat} (h : ∀ k, k < 25 → g' (zfa f + k) = g (zfa f + k)) (hi : i < 6) (hw : g' (zwa w) = g (zwa w)) : zcan g' f i w = zcan g f i w := by
  have eh : ∀ i j, i < 6 → j < 4 → g' (zha f i + j) = g (zha f i + j) := fun i j hi hj => by
    have := h (1 + 4 * i + j) (by omega)
    rw [show zfa f + (1 + 4 * i + j) = zha f i + j by show 342 + 25 * f + (1 + 4 * i + j) = 342 + 25 * f + 1 + 4 * i + j; omega] at this
    exact this
  unfold zcan
  rw [show g' (zha f i) = g (zha f i) from eh i 0 hi (by omega), hw, eh i 3 hi (by omega)]
theorem zWB_cg {σ : Mem} {i : Nat} {g g' : Nat → Int32} {w : Nat} (h : ∀ k, k < 10 → g' (zwa w + k) = g (zwa w + k)) (hw : zWd g w) (q : zWB σ i g w) : zWB σ i g' w := by
  obtain ⟨q1, q2, q3, q4⟩ := q
  unfold zWB
  rw [zst_cg h hw, show g' (zwa w) = g (zwa w) from h 0 (by omega), h 1 (by omega), h 2 (by omega)]
  exact ⟨q1, q2, q3, q4⟩
/-- only the desk's numbers of the row differ -/
theorem zBG_dk {g g' : Nat → Int32} (h : ∀ k, k < 2 ∨ 13 ≤ k → g' k = g k) (hg : zBG g) (hd : zDk g') : zBG g' := by
  obtain ⟨b1, b2, b3, b4, b5, b6, b7⟩ := hg
  have e0 : g' 0 = g 0 := h 0 (by omega)
  have e1 : g' 1 = g 1 := h 1 (by omega)
  have ew : ∀ w k, g' (zwa w + k) = g (zwa w + k) := fun w k => h _ (by right; show 13 ≤ 14 + 10 * w + k; omega)
  have ee : ∀ e k, g' (zea e + k) = g (zea e + k) := fun e k => h _ (by right; show 13 ≤ 214 + 4 * e + k; omega)
  have ef : ∀ f k, g' (zfa f + k) = g (zfa f + k) := fun f k => h _ (by right; show 13 ≤ 342 + 25 * f + k; omega)
  have nW : znW g' = znW g := by show ix (g' 0) = _; rw [e0]
  have nF : znF g' = znF g := by show ix (g' 1) = _; rw [e1]
  refine ⟨by rw [e0]; exact b1, by rw [e1]; exact b2, fun w hw => ?_, fun e he => ?_, fun f hf => ?_, ?_, hd⟩
  · rw [nW] at hw; exact zWd_cg (fun k _ => ew w k) (b3 w hw)
  · exact zEd_cg (fun k _ => ee e k) (b4 e he)
  · rw [nF] at hf; exact zFm_cg (fun k _ => ef f k) (by rw [nW]; exact Nat.le_refl _) (fun w _ => ew w 0) (b5 f hf)
  · rw [h 13 (by omega)]
    exact ⟨b6.1, fun k hk => by rw [h _ (by omega)]; exact b6.2 k hk⟩
theorem zCB_dk {σ τ : Mem} {b : Nat} {g g' : Nat → Int32} (h : ∀ k, k < 2 ∨ 13 ≤ k → g' k = g k) (hg : zBG g) (q : zCB σ b g) (e : ∀ a k, b ≤ a → a < b + 169 → a ≠ b + 7 → a ≠ b + 8 → τ a k = σ a k) (hd : zDB τ (b + 7) g') : zCB τ b g' := by
  obtain ⟨⟨c1, c2⟩, c3, c4, c5, c6, c7, c8⟩ := q
  have e0 : g' 0 = g 0 := h 0 (by omega)
  have e1 : g' 1 = g 1 := h 1 (by omega)
  have ew : ∀ w k, g' (zwa w + k) = g (zwa w + k) := fun w k => h _ (by right; show 13 ≤ 14 + 10 * w + k; omega)
  have ee : ∀ e k, g' (zea e + k) = g (zea e + k) := fun e k => h _ (by right; show 13 ≤ 214 + 4 * e + k; omega)
  have ef : ∀ f k, g' (zfa f + k) = g (zfa f + k) := fun f k => h _ (by right; show 13 ≤ 342 + 25 * f + k; omega)
  have nW : znW g' = znW g := by show ix (g' 0) = _; rw [e0]
  have nF : znF g' = znF g := by show ix (g' 1) = _; rw [e1]
  have n20 : znW g ≤ 20 := hg.1.2
  have n5 : znF g ≤ 5 := hg.2.1.2
  refine ⟨⟨by rw [e _ _ (by omega) (by omega) (by omega) (by omega), e0]; exact c1, by rw [e _ _ (by omega) (by omega) (by omega) (by omega), e1]; exact c2⟩, fun w hw => ?_, fun w hw => ?_, fun k hk => ?_, fun f hf => ?_, ?_, hd⟩
  · rw [e _ _ (by omega) (by omega) (by omega) (by omega)]; exact c3 w hw
  · rw [nW] at hw
    exact zWB_co (zWB_cg (fun k _ => ew w k) (hg.2.2.1 w hw) (c4 w hw)) (fun a k p q => e a k (by omega) (by omega) (by omega) (by omega))
  · rw [zen_cg (fun j _ => ee k j) (hg.2.2.2.1 k hk)]
    exact zL_cb (c5 k hk) (fun a k p q => e a k (by omega) (by omega) (by omega) (by omega))
  · rw [nF] at hf
    exact zFB_co (zFB_cg (fun k _ => ef f k) (hg.2.2.2.2.1 f hf).1.2 (c6 f hf)) (fun a k p q => e a k (by omega) (by omega) (by omega) (by omega))
  · have : ztt g' = ztt g := by
      unfold ztt
      rw [h 13 (by omega)]
      exact ztx_cg (fun k _ => h _ (by omega))
    rw [this]
    exact zL_cb c7 (fun a k p q => e a k (by omega) (by omega) (by omega) (by omega))
/-- all but the book, the row and what is scratch is the same -/
theorem zIv_bk {σ τ : Mem} {g g' : Nat → Int32} (h : zIv σ g) (e : ∀ x c, (172 ≤ x ∧ x < 341) ∨ (365 ≤ x ∧ x < 383) ∨ (x = 383 ∧ c = 2) ∨ x = 385 ∨ (395 ≤ x ∧ x < 401) ∨ (x = 0 ∧ c = 3) → τ x c = σ x c) (hM : zMG τ g') (hg : zBG g') (hc : zCB τ 3 g') (hn : zNG τ) (ht : zTP τ) : zIv τ g' := by
  obtain ⟨h1, h2, h3, h4, h5, h6, h7, h8⟩ := h
  exact ⟨hM, hg, hc, hn, zKP_co h5 (e _ _ (by omega)) (e _ _ (by omega)) (fun k => e _ _ (by omega)) (fun a k p q => e a k (by omega)), ht, zTR_co h7 (fun a k p q => e a k (by omega)) (fun a k p q => e a k (by omega)), zSH_co h8 (fun a k p q => e a k (by omega)) (fun a k p q => e a k (by omega))⟩
