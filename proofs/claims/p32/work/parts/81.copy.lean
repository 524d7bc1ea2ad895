theorem z_becN {σ : Mem} {i j m R S : Nat} (hij : i + 1 < j ∨ j + 1 < i) (hm : σ j 1 = nI m) (hr : ln (i + 1) = R) (hs : ln (j + 1) = S) (hR : R < 1000) (hS : S < 1000) (hmR : m ≤ R) (hmS : m ≤ S) :
    ∃ τ, fX5_become σ i j = some τ ∧ τ i 1 = nI m ∧ (∀ k, k < m → τ (i + 1) k = σ (j + 1) k) ∧ ∀ x c, ¬ (x = i ∧ c = 1) → x ≠ i + 1 → τ x c = σ x c := by
  unfold fX5_become
  simp (disch := omega) only [zLT, hm, hr, hs, zI, zM, zE]
  refine ⟨_, rfl, ?_, ?_, ?_⟩
  · simp (disch := omega) only [zM]
    rw [Nat.min_eq_left hmR]
  · intro k hk
    simp (disch := omega) only [zM]
    rw [show 0 + (k - 0) = k by omega]
  · intro x c h1 h2
    simp (disch := omega) only [zM]
def zDw (σ τ : Mem) (b c w : Nat) : Prop := τ (b + 9 + 3 * w) 2 = σ (c + 9 + 3 * w) 2 ∧ τ (b + 9 + 3 * w) 3 = σ (c + 9 + 3 * w) 3 ∧ τ (b + 9 + 3 * w) 4 = σ (c + 9 + 3 * w) 4 ∧ τ (b + 10 + 3 * w) 1 = σ (c + 10 + 3 * w) 1 ∧ ∀ k, k < ix (σ (c + 10 + 3 * w) 1) → τ (b + 11 + 3 * w) k = σ (c + 11 + 3 * w) k
def zDe (σ τ : Mem) (b c e : Nat) : Prop := τ (b + 69 + 2 * e) 1 = σ (c + 69 + 2 * e) 1 ∧ ∀ k, k < ix (σ (c + 69 + 2 * e) 1) → τ (b + 70 + 2 * e) k = σ (c + 70 + 2 * e) k
def zDf (σ τ : Mem) (b c f : Nat) : Prop := τ (b + 139 + 6 * f) 0 = σ (c + 139 + 6 * f) 0 ∧ (∀ a k, 1 ≤ a → a < 5 → k < 6 → τ (b + 139 + 6 * f + a) k = σ (c + 139 + 6 * f + a) k) ∧ ∀ k, k < 3 → τ (b + 139 + 6 * f + 5) k = σ (c + 139 + 6 * f + 5) k
/-- the tail: frames' number, text, desk -/
def zDt (σ τ : Mem) (b c : Nat) : Prop := τ b 5 = σ c 5 ∧ (τ (b + 5) 1 = σ (c + 5) 1 ∧ ∀ k, k < ix (σ (c + 5) 1) → τ (b + 6) k = σ (c + 6) k) ∧ (∀ k, k < 3 → τ (b + 7) k = σ (c + 7) k) ∧ ∀ k, k < 6 → τ (b + 8) k = σ (c + 8) k
def zbc (b c : Nat) : Prop := (b = 3 ∧ c = 172) ∨ (b = 172 ∧ c = 3)
theorem zl_k : (∀ x, 311 ≤ x → x < 341 → ¬ (x - 311) % 6 = 0 → ¬ (x - 311) % 6 = 5 → ln x = 6) ∧ (∀ x, 311 ≤ x → x < 341 → (x - 311) % 6 = 5 → ln x = 3) ∧ ln 173 = 20 ∧ ln 174 = 32 ∧ ln 176 = 5 ∧ ln 178 = 50 ∧ ln 180 = 6 := by
  have k1 : ∀ x : Fin 402, 311 ≤ x.1 → x.1 < 341 → ¬ (x.1 - 311) % 6 = 0 → ¬ (x.1 - 311) % 6 = 5 → ln x.1 = 6 := by decide +kernel
  have k2 : ∀ x : Fin 402, 311 ≤ x.1 → x.1 < 341 → (x.1 - 311) % 6 = 5 → ln x.1 = 3 := by decide +kernel
  exact ⟨fun x h1 h2 h3 h4 => k1 ⟨x, by omega⟩ h1 h2 h3 h4, fun x h1 h2 h3 => k2 ⟨x, by omega⟩ h1 h2 h3, by decide +kernel⟩
theorem zl_bc {b c : Nat} (h : zbc b c) : (∀ w, w < 20 → ln (b + 11 + 3 * w) = 6 ∧ ln (c + 11 + 3 * w) = 6) ∧ (∀ e, e < 32 → ln (b + 70 + 2 * e) = 3 ∧ ln (c + 70 + 2 * e) = 3) ∧ (∀ f a, f < 5 → 1 ≤ a → a < 5 → ln (b + 139 + 6 * f + a) = 6 ∧ ln (c + 139 + 6 * f + a) = 6) ∧ (∀ f, f < 5 → ln (b + 139 + 6 * f + 5) = 3 ∧ ln (c + 139 + 6 * f + 5) = 3)
    ∧ ln (b + 1) = 20 ∧ ln (c + 1) = 20 ∧ ln (b + 2) = 32 ∧ ln (c + 2) = 32 ∧ ln (b + 4) = 5 ∧ ln (c + 4) = 5 ∧ ln (b + 6) = 50 ∧ ln (c + 6) = 50 ∧ ln (b + 8) = 6 ∧ ln (c + 8) = 6 := by
  have q1 : ∀ w, w < 20 → ln (3 + 11 + 3 * w) = 6 ∧ ln (172 + 11 + 3 * w) = 6 := fun w hw => ⟨zl_b.1 _ (by omega) (by omega) (by omega), zl_b.2.2.2.1 _ (by omega) (by omega) (by omega)⟩
  have q2 : ∀ e, e < 32 → ln (3 + 70 + 2 * e) = 3 ∧ ln (172 + 70 + 2 * e) = 3 := fun w hw => ⟨zl_b.2.1 _ (by omega) (by omega) (by omega), zl_b.2.2.2.2 _ (by omega) (by omega) (by omega)⟩
  have q3 : ∀ f a, f < 5 → 1 ≤ a → a < 5 → ln (3 + 139 + 6 * f + a) = 6 ∧ ln (172 + 139 + 6 * f + a) = 6 := fun f a hf h1 h2 => ⟨zl_f.1 _ (by omega) (by omega) (by omega) (by omega), zl_k.1 _ (by omega) (by omega) (by omega) (by omega)⟩
  have q4 : ∀ f, f < 5 → ln (3 + 139 + 6 * f + 5) = 3 ∧ ln (172 + 139 + 6 * f + 5) = 3 := fun f hf => ⟨zl_f.2.1 _ (by omega) (by omega) (by omega), zl_k.2.1 _ (by omega) (by omega) (by omega)⟩
  obtain ⟨-, -, r1, r2, r3, r4, r5⟩ := zl_k
  obtain ⟨s1, s2, -, s3, s4, s5, -⟩ := zl_c
  rcases h with ⟨rfl, rfl⟩ | ⟨rfl, rfl⟩
  · exact ⟨q1, q2, q3, q4, s1, r1, s2, r2, s3, r3, s4, r4, s5, r5⟩
  · exact ⟨fun w hw => (q1 w hw).symm, fun w hw => (q2 w hw).symm, fun f a x y z => (q3 f a x y z).symm, fun f hf => (q4 f hf).symm, r1, s1, r2, s2, r3, s3, r4, s4, r5, s5⟩
theorem z_becFr {σ : Mem} {b c f : Nat} (h : zbc b c) (hf : f < 5) : ∃ τ, fX3_become σ (b + 139 + 6 * f) (c + 139 + 6 * f) = some τ ∧ zDf σ τ b c f ∧ ∀ x k, ¬ (b + 139 + 6 * f ≤ x ∧ x < b + 139 + 6 * f + 6) → τ x k = σ x k := by
  obtain ⟨-, -, l3, l4, -⟩ := zl_bc h
  obtain ⟨a1, b1⟩ := l3 f 1 hf (by omega) (by omega)
  obtain ⟨a2, b2⟩ := l3 f 2 hf (by omega) (by omega)
  obtain ⟨a3, b3⟩ := l3 f 3 hf (by omega) (by omega)
  obtain ⟨a4, b4⟩ := l3 f 4 hf (by omega) (by omega)
  obtain ⟨a5, b5⟩ := l4 f hf
  have hbc : b + 169 ≤ c ∨ c + 169 ≤ b := by unfold zbc at h; omega
  unfold fX3_become
  rw [a1, a2, a3, a4, a5, b1, b2, b3, b4, b5]
  generalize hB : b + 139 + 6 * f = B
  generalize hC : c + 139 + 6 * f = C
  have hBC : B + 6 ≤ C ∨ C + 6 ≤ B := by omega
  simp (disch := omega) only [zLT, zI, zE]
  refine ⟨_, rfl, ⟨?_, ?_, ?_⟩, ?_⟩
  · rw [hB, hC]
    simp (disch := omega) only [zM]
  · intro a k h1 h2 hk
    rw [hB, hC]
    rcases (show a = 1 ∨ a = 2 ∨ a = 3 ∨ a = 4 by omega) with rfl | rfl | rfl | rfl
    all_goals
      simp (disch := omega) only [zM]
      rw [show 0 + (k - 0) = k by omega]
  · intro k hk
    rw [hB, hC]
    simp (disch := omega) only [zM]
    rw [show 0 + (k - 0) = k by omega]
  · intro x k hx
    simp (disch := omega) only [zM]
theorem z_becDk {σ : Mem} {b c : Nat} (h : zbc b c) : ∃ τ, fX2_become σ (b + 7) (c + 7) = some τ ∧ (∀ k, k < 3 → τ (b + 7) k = σ (c + 7) k) ∧ (∀ k, k < 6 → τ (b + 8) k = σ (c + 8) k) ∧ ∀ x k, x ≠ b + 7 → x ≠ b + 8 → τ x k = σ x k := by
  obtain ⟨-, -, -, -, -, -, -, -, -, -, -, -, l1, l2⟩ := zl_bc h
  have hbc : b + 169 ≤ c ∨ c + 169 ≤ b := by unfold zbc at h; omega
  unfold fX2_become
  simp only [Nat.add_assoc, Nat.reduceAdd]
  rw [l1, l2]
  simp (disch := omega) only [zLT, zI, zE]
  refine ⟨_, rfl, ?_, ?_, ?_⟩
  · intro k hk
    rcases (show k = 0 ∨ k = 1 ∨ k = 2 by omega) with rfl | rfl | rfl <;> simp (disch := omega) only [zM]
  · intro k hk
    simp (disch := omega) only [zM]
    rw [show 0 + (k - 0) = k by omega]
  · intro x k h1 h2
    simp (disch := omega) only [zM]
/-- frames, text, desk -/
theorem z_bkF {σ : Mem} {b c m : Nat} (h : zbc b c) (hm : σ (c + 5) 1 = nI m) (hm5 : m ≤ 50) : ∃ τ, lp (sX0_become_74 b c) FU (nI 0, σ) = some τ ∧ (∀ f, f < 5 → zDf σ τ b c f) ∧ zDt σ τ b c ∧ ∀ x k, ¬ (x = b ∧ k = 5) → ¬ (b + 5 ≤ x ∧ x < b + 9) → ¬ (b + 139 ≤ x ∧ x < b + 169) → τ x k = σ x k := by
  obtain ⟨-, -, -, -, -, -, -, -, l4, k4, l6, k6, -, -⟩ := zl_bc h
  have hbc : b + 169 ≤ c ∨ c + 169 ≤ b := by unfold zbc at h; omega
  refine zW_lp (fun j a => j ≤ 5 ∧ ∃ τ, a = (nI j, τ) ∧ (∀ f, f < j → zDf σ τ b c f) ∧ ∀ x k, ¬ (b + 139 ≤ x ∧ x < b + 169) → τ x k = σ x k) 5 ?_ (by unfold FU; omega) ⟨Nat.zero_le _, σ, rfl, fun f hf => absurd hf (by omega), fun _ _ _ => rfl⟩
  rintro j a hj ⟨-, τ, rfl, t1, t2⟩
  unfold sX0_become_74
  dsimp only
  rw [l4, k4]
  refine zW_if (fun q => ?_) (fun q => ?_)
  · simp (disch := omega) only [zC] at q
    have : j = 5 := by omega
    subst this
    refine zW_oR (zW_bv (mw τ b 5 (σ c 5)) (by rw [t2 c 5 (by omega)]) ?_)
    obtain ⟨υ, u1, u2, u3, u4⟩ := z_becN (σ := mw τ b 5 (σ c 5)) (i := b + 5) (j := c + 5) (m := m) (R := 50) (S := 50) (by omega) (by simp (disch := omega) only [zM]; rw [t2 _ _ (by omega)]; exact hm) l6 k6 (by omega) (by omega) hm5 hm5
    obtain ⟨ω, o1, o2, o3, o4⟩ := z_becDk (σ := υ) h
    refine zW_ob u1 (zW_ob o1 (zW_so ⟨fun f hf => ?_, ⟨?_, ⟨?_, fun k hk => ?_⟩, fun k hk => ?_, fun k hk => ?_⟩, fun x k p1 p2 p3 => ?_⟩))
    · have fr : ∀ x k, b + 139 ≤ x → x < b + 169 → ω x k = τ x k := fun x k p q => by
        rw [o4 x k (by omega) (by omega), u4 x k (by omega) (by omega)]
        simp (disch := omega) only [zM]
      obtain ⟨d1, d2, d3⟩ := t1 f hf
      exact ⟨by rw [fr _ _ (by omega) (by omega)]; exact d1, fun a k p q r => by rw [fr _ _ (by omega) (by omega)]; exact d2 a k p q r, fun k p => by rw [fr _ _ (by omega) (by omega)]; exact d3 k p⟩
    · rw [o4 _ _ (by omega) (by omega), u4 _ _ (by omega) (by omega)]
      simp only [zM]
    · rw [o4 _ _ (by omega) (by omega), u2, hm]
    · rw [hm, zi_ix (by omega)] at hk
      rw [o4 _ _ (by omega) (by omega), u3 k hk]
      simp (disch := omega) only [zM]
      exact t2 _ _ (by omega)
    · rw [o2 k hk, u4 _ _ (by omega) (by omega)]
      simp (disch := omega) only [zM]
      exact t2 _ _ (by omega)
    · rw [o3 k hk, u4 _ _ (by omega) (by omega)]
      simp (disch := omega) only [zM]
      exact t2 _ _ (by omega)
    · rw [o4 _ _ (by omega) (by omega), u4 _ _ (by omega) (by omega)]
      simp (disch := omega) only [zM]
      exact t2 _ _ p3
  · simp (disch := omega) only [zC] at q
    refine zW_gd (by simp (disch := omega) only [zI]) (zW_gd (by simp (disch := omega) only [zI]) ?_)
    obtain ⟨υ, u1, ⟨d1, d2, d3⟩, u3⟩ := z_becFr (σ := τ) h (f := j) (by omega)
    rw [zi_ix (by omega), show b + 4 + 135 + 6 * j = b + 139 + 6 * j by omega, show c + 4 + 135 + 6 * j = c + 139 + 6 * j by omega]
    refine zW_ob u1 (zW_bv _ rfl (zW_oL ⟨by omega, by omega, υ, by simp only [zLT, zI], fun f hf => ?_, fun x k p => by rw [u3 x k (by omega)]; exact t2 x k p⟩))
    by_cases hfj : f = j
    · subst hfj
      exact ⟨by rw [d1]; exact t2 _ _ (by omega), fun a k p q r => by rw [d2 a k p q r]; exact t2 _ _ (by omega), fun k p => by rw [d3 k p]; exact t2 _ _ (by omega)⟩
    · obtain ⟨e1, e2, e3⟩ := t1 f (by omega)
      exact ⟨by rw [u3 _ _ (by omega)]; exact e1, fun a k p q r => by rw [u3 _ _ (by omega)]; exact e2 a k p q r, fun k p => by rw [u3 _ _ (by omega)]; exact e3 k p⟩
/-- endings and then those -/
theorem z_bkE {σ : Mem} {b c m : Nat} (h : zbc b c) (hm : σ (c + 5) 1 = nI m) (hm5 : m ≤ 50) (he : ∀ e, e < 32 → ∃ n, n ≤ 3 ∧ σ (c + 69 + 2 * e) 1 = nI n) : ∃ τ, lp (sX0_become_42 b c) FU (nI 0, σ) = some τ ∧ (∀ e, e < 32 → zDe σ τ b c e) ∧ (∀ f, f < 5 → zDf σ τ b c f) ∧ zDt σ τ b c ∧ ∀ x k, ¬ (x = b ∧ k = 5) → ¬ (b + 5 ≤ x ∧ x < b + 9) → ¬ (b + 139 ≤ x ∧ x < b + 169) → ¬ (b + 69 ≤ x ∧ x < b + 133) → τ x k = σ x k := by
  obtain ⟨-, l2, -, -, -, -, l4, k4, -⟩ := zl_bc h
  have hbc : b + 169 ≤ c ∨ c + 169 ≤ b := by unfold zbc at h; omega
  refine zW_lp (fun j a => j ≤ 32 ∧ ∃ τ, a = (nI j, τ) ∧ (∀ f, f < j → zDe σ τ b c f) ∧ ∀ x k, ¬ (b + 69 ≤ x ∧ x < b + 133) → τ x k = σ x k) 32 ?_ (by unfold FU; omega) ⟨Nat.zero_le _, σ, rfl, fun f hf => absurd hf (by omega), fun _ _ _ => rfl⟩
  rintro j a hj ⟨-, τ, rfl, t1, t2⟩
  unfold sX0_become_42
  dsimp only
  rw [l4, k4]
  refine zW_if (fun q => ?_) (fun q => ?_)
  · simp (disch := omega) only [zC] at q
    have : j = 32 := by omega
    subst this
    obtain ⟨υ, u1, u2, u3, u4⟩ := z_bkF (σ := τ) h (by rw [t2 _ _ (by omega)]; exact hm) hm5
    refine zW_oR (zW_eq u1 ⟨fun e he => ?_, fun f hf => ?_, ?_, fun x k p1 p2 p3 p4 => by rw [u4 x k p1 p2 p3]; exact t2 x k p4⟩)
    · obtain ⟨d1, d2⟩ := t1 e he
      exact ⟨by rw [u4 _ _ (by omega) (by omega) (by omega)]; exact d1, fun k hk => by rw [u4 _ _ (by omega) (by omega) (by omega)]; exact d2 k hk⟩
    · obtain ⟨d1, d2, d3⟩ := u2 f hf
      exact ⟨by rw [d1]; exact t2 _ _ (by omega), fun a k p q r => by rw [d2 a k p q r]; exact t2 _ _ (by omega), fun k p => by rw [d3 k p]; exact t2 _ _ (by omega)⟩
    · obtain ⟨d1, ⟨d2, d3⟩, d4, d5⟩ := u3
      rw [t2 (c + 5) _ (by omega)] at d2 d3
      exact ⟨by rw [d1]; exact t2 _ _ (by omega), ⟨d2, fun k hk => by rw [d3 k hk]; exact t2 _ _ (by omega)⟩, fun k p => by rw [d4 k p]; exact t2 _ _ (by omega), fun k p => by rw [d5 k p]; exact t2 _ _ (by omega)⟩
  · simp (disch := omega) only [zC] at q
    refine zW_gd (by simp (disch := omega) only [zI]) (zW_gd (by simp (disch := omega) only [zI]) ?_)
    obtain ⟨n, n1, n2⟩ := he j (by omega)
    rw [zi_ix (by omega), show b + 2 + 67 + 2 * j = b + 69 + 2 * j by omega, show c + 2 + 67 + 2 * j = c + 69 + 2 * j by omega]
    obtain ⟨υ, u1, u2, u3, u4⟩ := z_becN (σ := τ) (i := b + 69 + 2 * j) (j := c + 69 + 2 * j) (m := n) (R := 3) (S := 3) (by omega) (by rw [t2 _ _ (by omega)]; exact n2) (by rw [← (l2 j (by omega)).1]; congr 1; omega) (by rw [← (l2 j (by omega)).2]; congr 1; omega) (by omega) (by omega) n1 n1
    refine zW_ob u1 (zW_bv _ rfl (zW_oL ⟨by omega, by omega, υ, by simp only [zLT, zI], fun f hf => ?_, fun x k p => by rw [u4 x k (by omega) (by omega)]; exact t2 x k p⟩))
    by_cases hfj : f = j
    · subst hfj
      refine ⟨by rw [u2, n2], fun k hk => ?_⟩
      rw [n2, zi_ix (by omega)] at hk
      rw [show b + 70 + 2 * f = b + 69 + 2 * f + 1 by omega, show c + 70 + 2 * f = c + 69 + 2 * f + 1 by omega, u3 k hk]
      exact t2 _ _ (by omega)
    · obtain ⟨e1, e2⟩ := t1 f (by omega)
      exact ⟨by rw [u4 _ _ (by omega) (by omega)]; exact e1, fun k p => by rw [u4 _ _ (by omega) (by omega)]; exact e2 k p⟩
/-- the whole book -/
theorem z_bkW {σ : Mem} {b c m : Nat} (h : zbc b c) (hm : σ (c + 5) 1 = nI m) (hm5 : m ≤ 50) (he : ∀ e, e < 32 → ∃ n, n ≤ 3 ∧ σ (c + 69 + 2 * e) 1 = nI n) (hw : ∀ w, w < 20 → ∃ n, n ≤ 6 ∧ σ (c + 10 + 3 * w) 1 = nI n) : ∃ τ, fX0_become σ b c = some τ ∧ τ b 1 = σ c 1 ∧ (∀ w, w < 20 → zDw σ τ b c w) ∧ (∀ e, e < 32 → zDe σ τ b c e) ∧ (∀ f, f < 5 → zDf σ τ b c f) ∧ zDt σ τ b c
    ∧ ∀ x k, ¬ (x = b ∧ (k = 1 ∨ k = 5)) → ¬ (b + 5 ≤ x ∧ x < b + 9) → ¬ (b + 139 ≤ x ∧ x < b + 169) → ¬ (b + 69 ≤ x ∧ x < b + 133) → ¬ (b + 9 ≤ x ∧ x < b + 69 ∧ ¬ ((x - b) % 3 = 0 ∧ k = 0)) → τ x k = σ x k := by
  obtain ⟨l2, -, -, -, l4, k4, -⟩ := zl_bc h
  have hbc : b + 169 ≤ c ∨ c + 169 ≤ b := by unfold zbc at h; omega
  unfold fX0_become
  refine zW_lp (fun j a => j ≤ 20 ∧ ∃ τ, a = (nI j, τ) ∧ (∀ f, f < j → zDw σ τ b c f) ∧ ∀ x k, ¬ (b + 9 ≤ x ∧ x < b + 69 ∧ ¬ ((x - b) % 3 = 0 ∧ k = 0)) → τ x k = σ x k) 20 ?_ (by unfold FU; omega) ⟨Nat.zero_le _, σ, rfl, fun f hf => absurd hf (by omega), fun _ _ _ => rfl⟩
  rintro j a hj ⟨-, τ, rfl, t1, t2⟩
  unfold sX0_become_2
  dsimp only
  rw [l4, k4]
  refine zW_if (fun q => ?_) (fun q => ?_)
  · simp (disch := omega) only [zC] at q
    have : j = 20 := by omega
    subst this
    have m1 : ∀ x k, ¬ (x = b ∧ k = 1) → ¬ (b + 9 ≤ x ∧ x < b + 69 ∧ ¬ ((x - b) % 3 = 0 ∧ k = 0)) → (mw τ b 1 (σ c 1)) x k = σ x k := fun x k p q => by
      simp (disch := omega) only [zM]
      exact t2 x k q
    have m2 : ∀ x k, ¬ (x = b ∧ k = 1) → (mw τ b 1 (σ c 1)) x k = τ x k := fun x k p => by
      simp (disch := omega) only [zM]
    have m3 : (mw τ b 1 (σ c 1)) b 1 = σ c 1 := by simp only [zM]
    refine zW_oR (zW_bv (mw τ b 1 (σ c 1)) (by rw [t2 c 1 (by omega)]) ?_)
    generalize mw τ b 1 (σ c 1) = τ' at *
    obtain ⟨υ, u1, u2, u3, u4, u5⟩ := z_bkE (σ := τ') h (by rw [m1 _ _ (by omega) (by omega)]; exact hm) hm5 (fun e p => by obtain ⟨n, n1, n2⟩ := he e p; exact ⟨n, n1, by rw [m1 _ _ (by omega) (by omega)]; exact n2⟩)
    refine zW_eq u1 ⟨by rw [u5 _ _ (by omega) (by omega) (by omega) (by omega)]; exact m3, fun w hw => ?_, fun e he => ?_, fun f hf => ?_, ?_, fun x k p1 p2 p3 p4 p5 => by rw [u5 x k (by omega) p2 p3 p4]; exact m1 x k (by omega) p5⟩
    · have fr : ∀ x k, b + 9 ≤ x → x < b + 69 → υ x k = τ x k := fun x k p q => by rw [u5 x k (by omega) (by omega) (by omega) (by omega)]; exact m2 x k (by omega)
      obtain ⟨d1, d2, d3, d4, d5⟩ := t1 w hw
      exact ⟨by rw [fr _ _ (by omega) (by omega)]; exact d1, by rw [fr _ _ (by omega) (by omega)]; exact d2, by rw [fr _ _ (by omega) (by omega)]; exact d3, by rw [fr _ _ (by omega) (by omega)]; exact d4, fun k hk => by rw [fr _ _ (by omega) (by omega)]; exact d5 k hk⟩
    · obtain ⟨d1, d2⟩ := u2 e he
      rw [m1 (c + 69 + 2 * e) _ (by omega) (by omega)] at d1 d2
      exact ⟨d1, fun k hk => by rw [d2 k hk]; exact m1 _ _ (by omega) (by omega)⟩
    · obtain ⟨d1, d2, d3⟩ := u3 f hf
      exact ⟨by rw [d1]; exact m1 _ _ (by omega) (by omega), fun a k p q r => by rw [d2 a k p q r]; exact m1 _ _ (by omega) (by omega), fun k p => by rw [d3 k p]; exact m1 _ _ (by omega) (by omega)⟩
    · obtain ⟨d1, ⟨d2, d3⟩, d4, d5⟩ := u4
      rw [m1 (c + 5) _ (by omega) (by omega)] at d2 d3
      exact ⟨by rw [d1]; exact m1 _ _ (by omega) (by omega), ⟨d2, fun k hk => by rw [d3 k hk]; exact m1 _ _ (by omega) (by omega)⟩, fun k p => by rw [d4 k p]; exact m1 _ _ (by omega) (by omega), fun k p => by rw [d5 k p]; exact m1 _ _ (by omega) (by omega)⟩
  · simp (disch := omega) only [zC] at q
    refine zW_gd (by simp (disch := omega) only [zI]) (zW_gd (by simp (disch := omega) only [zI]) ?_)
    obtain ⟨n, n1, n2⟩ := hw j (by omega)
    rw [zi_ix (by omega), show b + 1 + 8 + 3 * j = b + 9 + 3 * j by omega, show c + 1 + 8 + 3 * j = c + 9 + 3 * j by omega]
    have v : ∀ k, τ (c + 9 + 3 * j) k = σ (c + 9 + 3 * j) k := fun k => t2 _ _ (by omega)
    obtain ⟨υ, u1, u2, u3, u4⟩ := z_becN (σ := τ) (i := b + 9 + 3 * j + 1) (j := c + 9 + 3 * j + 1) (m := n) (R := 6) (S := 6) (by omega) (by rw [t2 _ _ (by omega), show c + 9 + 3 * j + 1 = c + 10 + 3 * j by omega]; exact n2) (by rw [← (l2 j (by omega)).1]; congr 1; omega) (by rw [← (l2 j (by omega)).2]; congr 1; omega) (by omega) (by omega) n1 n1
    refine zW_ob (x := mw (mw (mw υ (b + 9 + 3 * j) 2 (σ (c + 9 + 3 * j) 2)) (b + 9 + 3 * j) 3 (σ (c + 9 + 3 * j) 3)) (b + 9 + 3 * j) 4 (σ (c + 9 + 3 * j) 4)) (by unfold fX10_become fX10_begin; rw [u1, v, v, v]; rfl) ?_
    refine zW_bv _ rfl (zW_oL ⟨by omega, by omega, mw (mw (mw υ (b + 9 + 3 * j) 2 (σ (c + 9 + 3 * j) 2)) (b + 9 + 3 * j) 3 (σ (c + 9 + 3 * j) 3)) (b + 9 + 3 * j) 4 (σ (c + 9 + 3 * j) 4), by simp only [zLT, zI], fun f hf => ?_, fun x k p => ?_⟩)
    · by_cases hfj : f = j
      · subst hfj
        refine ⟨by simp (disch := omega) only [zM], by simp (disch := omega) only [zM], by simp (disch := omega) only [zM], ?_, fun k hk => ?_⟩
        · simp (disch := omega) only [zM]
          rw [show b + 10 + 3 * f = b + 9 + 3 * f + 1 by omega, u2, n2]
        · rw [n2, zi_ix (by omega)] at hk
          simp (disch := omega) only [zM]
          rw [show b + 11 + 3 * f = b + 9 + 3 * f + 1 + 1 by omega, show c + 11 + 3 * f = c + 9 + 3 * f + 1 + 1 by omega, u3 k hk]
          exact t2 _ _ (by omega)
      · have fr : ∀ x k, b + 9 + 3 * f ≤ x → x < b + 12 + 3 * f → (mw (mw (mw υ (b + 9 + 3 * j) 2 (σ (c + 9 + 3 * j) 2)) (b + 9 + 3 * j) 3 (σ (c + 9 + 3 * j) 3)) (b + 9 + 3 * j) 4 (σ (c + 9 + 3 * j) 4)) x k = τ x k := fun x k p q => by
          simp (disch := omega) only [zM]
          exact u4 x k (by omega) (by omega)
        obtain ⟨d1, d2, d3, d4, d5⟩ := t1 f (by omega)
        exact ⟨by rw [fr _ _ (by omega) (by omega)]; exact d1, by rw [fr _ _ (by omega) (by omega)]; exact d2, by rw [fr _ _ (by omega) (by omega)]; exact d3, by rw [fr _ _ (by omega) (by omega)]; exact d4, fun k hk => by rw [fr _ _ (by omega) (by omega)]; exact d5 k hk⟩
    · simp (disch := omega) only [zM]
      rw [u4 x k (by omega) (by omega)]
      exact t2 x k p
