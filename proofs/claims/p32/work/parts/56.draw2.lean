theorem zdo_in {g : Nat → Int32} {f : Nat} {z : Int32} {i w : Nat} (h : zdo g f z i = some w) : w < znW g ∧ zcan g f i w = true := by
  unfold zdo at h
  split at h
  · have := zth_in h; exact ⟨by omega, this.2.2⟩
  · split at h
    · cases h
    · have := zth_in h; exact ⟨by omega, this.2.2⟩
def zit (seed : Int32) : Nat → Int32
  | 0 => seed
  | k + 1 => znx (zit seed k)
theorem zit_s (seed : Int32) (k : Nat) : znx (zit seed k) = zit seed (k + 1) := rfl
def zdf (g : Nat → Int32) (seed : Int32) : Nat := zdr (zit seed 1) (znF g)
def zdm (seed : Int32) : Nat := zdr (zit seed 2) 4
def zdb (seed : Int32) (k : Nat) : Nat := zdr (zit seed (k + 3)) 2
def zdn (seed : Int32) : Nat := zdb seed 0 + 2 * zdb seed 1 + 4 * zdb seed 2
def zd5 (seed : Int32) : Int32 := zit seed 5
theorem zdb_lt (seed : Int32) (k : Nat) : zdb seed k < 2 := zdr_lt (by omega)
theorem zdn_lt (seed : Int32) : zdn seed < 8 := by
  have h0 := zdb_lt seed 0
  have h1 := zdb_lt seed 1
  have h2 := zdb_lt seed 2
  unfold zdn
  omega
/-- the numbers drawn, by names alone -/
theorem zd_names (g : Nat → Int32) (seed : Int32) : ∃ Z1 Z2 Z3 Z4 : Int32, znx seed = Z1 ∧ znx Z1 = Z2 ∧ znx Z2 = Z3 ∧ znx Z3 = Z4 ∧ znx Z4 = zd5 seed ∧ zdr Z1 (znF g) = zdf g seed ∧ zdr Z2 4 = zdm seed ∧ zdr Z3 2 = zdb seed 0 ∧ zdr Z4 2 = zdb seed 1 ∧ zdr (zd5 seed) 2 = zdb seed 2 :=
  ⟨zit seed 1, zit seed 2, zit seed 3, zit seed 4, zit_s seed 0, zit_s seed 1, zit_s seed 2, zit_s seed 3, zit_s seed 4, rfl, rfl, rfl, rfl, rfl⟩
theorem z_or : ∀ k a b, k < 3 → a < 2 ^ k → b < 2 → nI a ||| (nI b <<< (nI k &&& 31)) = nI (a + 2 ^ k * b) := by
  have h : ∀ k : Fin 3, ∀ a : Fin 4, ∀ b : Fin 2, a.1 < 2 ^ k.1 → nI a.1 ||| (nI b.1 <<< (nI k.1 &&& 31)) = nI (a.1 + 2 ^ k.1 * b.1) := by decide +kernel
  intro k a b h1 h2 h3
  have h4 : a < 4 := by
    rcases (by omega : k = 0 ∨ k = 1 ∨ k = 2) with q | q | q <;> subst q <;> omega
  exact h ⟨k, h1⟩ ⟨a, h4⟩ ⟨b, h3⟩ h2
theorem z_fillN {σ : Mem} {i N : Nat} {v : Int32} (hN : ln i = N) (hN2 : N < 900) : ∃ τ, fJ7_fill_53178 σ i v = some τ ∧ (∀ k, k < N → τ i k = v) ∧ ∀ x c, x ≠ i → τ x c = σ x c := by
  unfold fJ7_fill_53178
  refine zW_bv (nI N) (by rw [hN]) ?_
  refine zW_lp (fun n t => ∃ τ, t = (nI n, τ) ∧ n ≤ N ∧ (∀ k, k < n → τ i k = v) ∧ ∀ x c, x ≠ i → τ x c = σ x c) N ?_ (by unfold FU; omega) ⟨σ, rfl, Nat.zero_le _, fun k hk => absurd hk (by omega), fun _ _ _ => rfl⟩
  rintro n t hn ⟨τ, rfl, -, t1, t2⟩
  unfold sJ7_fill_53178_5
  dsimp only
  refine zW_if (fun h => ?_) (fun h => ?_)
  · simp (disch := omega) only [zC] at h
    have : n = N := by omega
    subst this
    exact zW_oR (zW_so ⟨t1, t2⟩)
  · simp (disch := omega) only [zC] at h
    refine zW_gd (by simp (disch := omega) only [hN, zI]) ?_
    refine zW_bv (mw τ i n v) (by simp (disch := omega) only [zI]) ?_
    refine zW_oL ⟨by omega, mw τ i n v, by simp only [zLT, zI], by omega, fun k hk => ?_, fun x c p => by simp (disch := omega) only [zM]; exact t2 x c p⟩
    by_cases q : k = n
    · subst q; simp only [zM]
    · simp (disch := omega) only [zM]
      exact t1 k (by omega)
theorem z_fillBegin {σ : Mem} {F : Nat} {a b : Int32} (hF : ln (F + 1) = 6) : ∃ τ, fX2_begin σ F a b = some τ ∧ τ F 0 = a ∧ τ F 1 = b ∧ τ F 2 = nI 0 ∧ (∀ k, k < 6 → τ (F + 1) k = -nI 1) ∧ ∀ x c, x ≠ F → x ≠ F + 1 → τ x c = σ x c := by
  unfold fX2_begin
  refine zW_bv (mw σ F 0 a) rfl (zW_bv (mw (mw σ F 0 a) F 1 b) rfl (zW_bv (mw (mw (mw σ F 0 a) F 1 b) F 2 (nI 0)) rfl ?_))
  obtain ⟨τ, t1, t2, t3⟩ := z_fillN (σ := mw (mw (mw σ F 0 a) F 1 b) F 2 (nI 0)) (v := -nI 1) hF (by omega)
  refine zW_ob t1 (zW_so ⟨?_, ?_, ?_, t2, fun x c p q => ?_⟩)
  · rw [t3 _ _ (by omega)]; simp (disch := omega) only [zM]
  · rw [t3 _ _ (by omega)]; simp (disch := omega) only [zM]
  · rw [t3 _ _ (by omega)]; simp (disch := omega) only [zM]
  · rw [t3 _ _ q]; simp (disch := omega) only [zM]
theorem z_fill {σ : Mem} {F k : Nat} {v : Int32} (hF : ln (F + 1) = 6) (hk : k < 6) : fX2_fill σ F (nI k) v = some (mw σ (F + 1) k v) := by
  unfold fX2_fill
  simp (disch := omega) only [zLT, z_below, zE, zn01, if_false, hF, zI]
def zDd (σ τ : Mem) : Prop := ∀ x c, ¬ (356 ≤ x ∧ x ≤ 358) → τ x c = σ x c
theorem z_drawHoles {τ : Mem} {g : Nat → Int32} {f m nb : Nat} {z : Int32} (hg : zBG g) (hc : zCB τ 3 g) (hn : zNG τ) (hf : f < znF g) (h0 : τ 357 0 = nI f) (h1 : τ 357 1 = nI m) (h2 : τ 357 2 = nI nb) (hz : τ 356 1 = z) :
    zW (lp (sX1_draw_79 356 3 (142 + 6 * f)) FU (nI 0, τ)) (fun x => zDd τ x.2 ∧ ((x.1 = nI 1 ∧ x.2 357 0 = nI f ∧ x.2 357 1 = nI m ∧ x.2 357 2 = nI nb ∧ ∀ k, k < znH g f → ∃ w, zdo g f z k = some w ∧ x.2 358 k = nI w)
      ∨ (x.1 = nI 0 ∧ ∃ k, k < znH g f ∧ zdo g f z k = none))) := by
  have cb : ∀ (υ : Mem), zDd τ υ → zCB υ 3 g ∧ zNG υ := fun υ hυ => ⟨zCB_co hg hc (fun a k p q => hυ a k (by omega)), zNG_co hn (fun a k p q _ => hυ a k (by omega)) (fun a k p q => hυ a k (by omega))⟩
  have hFm := hg.2.2.2.2.1 f hf
  have h6 : znH g f ≤ 6 := hFm.1.2
  refine zW_lp (fun i a => ∃ υ, a = (nI i, υ) ∧ zDd τ υ ∧ υ 357 0 = nI f ∧ υ 357 1 = nI m ∧ υ 357 2 = nI nb ∧ υ 356 1 = zdz g f z i ∧ ∀ k, k < i → ∃ w, zdo g f z k = some w ∧ υ 358 k = nI w) (znH g f) ?_ (by unfold FU; omega)
    ⟨τ, rfl, fun _ _ _ => rfl, h0, h1, h2, hz, fun k hk => absurd hk (by omega)⟩
  rintro i a hi ⟨υ, rfl, uf, u0, u1, u2, uz, uw⟩
  obtain ⟨cu, nu⟩ := cb υ uf
  obtain ⟨f5, -, hB, q3, q4, q5⟩ := zF_n hg cu hf
  unfold sX1_draw_79
  dsimp only
  refine zW_if (fun h => ?_) (fun h => ?_)
  · rw [q3] at h
    simp (disch := omega) only [zC] at h
    have : i = znH g f := by omega
    subst this
    exact zW_oR (zW_so ⟨uf, Or.inl ⟨rfl, u0, u1, u2, uw⟩⟩)
  · rw [q3] at h
    simp (disch := omega) only [zC] at h
    have hil : i < znH g f := by omega
    obtain ⟨ll, l1, l2, l3⟩ := zHo_l (hFm.2.2.1 i hil)
    have hs : zso ll = 3 ↔ ll = 112 := by rcases l3 with q | q | q | q <;> subst q <;> decide
    have hcl := zct_le (zcan g f i) (znW g)
    have hW : znW g ≤ 20 := hg.1.2
    refine zW_ob (z_wordsFor hg cu nu hf hil) ?_
    refine zW_if (fun h0 => ?_) (fun h0 => ?_)
    · simp (disch := omega) only [zLT, zC] at h0
      refine zW_oR (zW_so ⟨uf, Or.inr ⟨rfl, i, hil, ?_⟩⟩)
      unfold zdo
      by_cases hp : ix (g (zha f i)) = 112
      · have := (zct_p hFm hil hp).2; omega
      · rw [if_neg hp, if_pos h0]
    · simp (disch := omega) only [zLT, zC] at h0
      refine zW_ob (z_sortOf hg cu hf hil) ?_
      rw [l2]
      have hso := (zso_n l3).2
      refine zW_jn (fun y => ∃ nth υ', nth < zct (zcan g f i) (znW g) ∧ y = (nI nth, υ') ∧ zDd τ υ' ∧ υ' 357 0 = nI f ∧ υ' 357 1 = nI m ∧ υ' 357 2 = nI nb ∧ υ' 356 1 = zdz g f z (i + 1) ∧ (∀ k, υ' 358 k = υ 358 k) ∧ zdo g f z i = zth (zcan g f i) (znW g) 0 nth) ?_ ?_
      · rintro y ⟨nth, υ', y1, rfl, yf, y0, y1', y2, yz, yw, yd⟩
        obtain ⟨cu', nu'⟩ := cb υ' yf
        dsimp only
        refine zW_ob (z_wordFor hg cu' nu' hf hil (by omega)) ?_
        obtain ⟨w, hw⟩ := zct_nz y1
        rw [hw]
        refine zW_ob (z_fill (F := 357) zl_c.2.2.2.2.2.2.2.2.2.2.2.1 (by omega)) ?_
        refine zW_oL ⟨hil, mw υ' 358 i (nI w), by simp only [zLT, zI, zoI], fun x c p => by simp (disch := omega) only [zM]; exact yf x c p, by simp (disch := omega) only [zM]; exact y0, by simp (disch := omega) only [zM]; exact y1', by simp (disch := omega) only [zM]; exact y2, by simp (disch := omega) only [zM]; exact yz, fun k hk => ?_⟩
        by_cases q : k = i
        · subst q
          exact ⟨w, by rw [yd, hw], by simp only [zM]⟩
        · simp (disch := omega) only [zM]
          rw [yw]
          exact uw k (by omega)
      · intro kk hkk
        refine zW_if (fun h3 => ?_) (fun h3 => ?_)
        · simp (disch := omega) only [zLT, zC] at h3
          have hp : ix (g (zha f i)) = 112 := by rw [l2]; exact hs.mp h3
          refine hkk _ ⟨0, υ, by omega, rfl, uf, u0, u1, u2, ?_, fun _ => rfl, ?_⟩
          · rw [uz, zdz_s, if_pos hp]
          · unfold zdo; rw [if_pos hp]
        · simp (disch := omega) only [zLT, zC] at h3
          have hp : ¬ ix (g (zha f i)) = 112 := by rw [l2]; exact fun q => h3 (hs.mpr q)
          refine zW_ob (z_next (by omega)) ?_
          refine hkk _ ⟨zdr (znx (zdz g f z i)) (zct (zcan g f i) (znW g)), mw υ 356 1 (znx (zdz g f z i)), zdr_lt (by omega), ?_, fun x c p => by simp (disch := omega) only [zM]; exact uf x c p, by simp (disch := omega) only [zM]; exact u0, by simp (disch := omega) only [zM]; exact u1, by simp (disch := omega) only [zM]; exact u2, ?_, fun k => by simp (disch := omega) only [zM], ?_⟩
          · rw [uz, if_neg h0]
          · simp only [zM]
            rw [zdz_s, if_neg hp]
          · unfold zdo; rw [if_neg hp, if_neg h0]
