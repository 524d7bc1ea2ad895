def zk3 (g : Nat → Int32) (w : Nat) : Bool := ix (g (zwa w)) == 3
def zge2 (g : Nat → Int32) (w : Nat) : Nat := ix (g (zwa w + 2))
theorem zfit_n {g : Nat → Int32} {f j t w : Nat} (h : g (zha f j) = nI 110) : zfit g f j (t % 2) (t / 2) w = zpt6 (zcan g f j) (zge2 g) (zk3 g) t w := by
  unfold zfit zpt6
  rw [if_pos (by rw [h]; exact zi_ix (by omega))]
  rfl
theorem zge2_lt {g : Nat → Int32} (hg : zBG g) : ∀ w, w < znW g → zge2 g w < 3 := fun w hw => by
  have := (hg.2.2.1 w hw).2.2.1.2
  unfold zge2
  omega
def zb20 (b : Bool) : Nat := if b then 20 else 1
theorem zb20_le (b : Bool) : 1 ≤ zb20 b ∧ zb20 b ≤ 20 := by cases b <;> decide
def zUU (g : Nat → Int32) (f gr : Nat) : Nat := zpr (fun i => zb20 (zgi g f i gr)) (znH g f)
theorem zUU_pos {g : Nat → Int32} {f gr : Nat} : 1 ≤ zUU g f gr := zpr_pos (fun i _ => (zb20_le _).1)
theorem zsm_mulR (F : Nat → Nat) (c n : Nat) : zsm (fun i => F i * c) n = zsm F n * c := by
  induction n with
  | zero => simp [zsm]
  | succ n ih => unfold zsm; rw [ih, Nat.add_mul]
theorem zWG_le {g : Nat → Int32} {l : List Nat} {f gr m j : Nat} (hg : zBG g) (hj : j < znH g f) (h1 : g (zha f j) = nI 110) (h2 : g (zha f j + 1) = nI gr) : zWG g l f gr m ≤ 2 * zUU g f gr := by
  have hgj : zgi g f j gr = true := decide_eq_true h2
  have hR : ∀ t, zWg g l f gr m t ≤ zct (fun w => zpt6 (zcan g f j) (zge2 g) (zk3 g) t w && zlk g l f j (t % 2) (t / 2) m w) (znW g) * zpr (fun i => if i = j then 1 else zb20 (zgi g f i gr)) (znH g f) := by
    intro t
    unfold zWg
    rw [zpr_pick hj, if_pos hgj]
    refine Nat.mul_le_mul (Nat.le_of_eq ?_) (zpr_le (fun i _ => ?_))
    · unfold zWH
      congr 1
      funext w
      rw [zfit_n h1]
    · split
      · exact Nat.le_refl _
      · unfold zb20
        split
        · exact zWH_le hg
        · exact Nat.le_refl _
  have h3 := zsm_le (n := 6) (fun t _ => hR t)
  rw [zsm_mulR] at h3
  have h4 := zgroup_le (zcan g f j) (zge2 g) (zk3 g) (fun t w => zlk g l f j (t % 2) (t / 2) m w) (znW g) (zge2_lt hg)
  have hW : znW g ≤ 20 := hg.1.2
  have h5 : zUU g f gr = 20 * zpr (fun i => if i = j then 1 else zb20 (zgi g f i gr)) (znH g f) := by
    unfold zUU
    rw [zpr_pick hj]
    congr 1
    rw [hgj]; rfl
  have h6 : zWG g l f gr m ≤ 40 * zpr (fun i => if i = j then 1 else zb20 (zgi g f i gr)) (znH g f) := Nat.le_trans h3 (Nat.mul_le_mul (by omega) (Nat.le_refl _))
  rw [h5]
  omega
theorem zWQ_le {g : Nat → Int32} {l : List Nat} {f gr m : Nat} (hg : zBG g) : zWQ g l f m gr ≤ 2 * zUU g f gr := by
  unfold zWQ
  split
  · rename_i h
    obtain ⟨j, j1, j2, j3⟩ := zhn_t h
    exact zWG_le hg j1 j2 j3
  · have := zUU_pos (g := g) (f := f) (gr := gr)
    omega
theorem zWF_b {g : Nat → Int32} {l : List Nat} {f m k : Nat} (hg : zBG g) (h6 : znH g f ≤ 6) (hk : k ≤ 3) : zpr (zWP g l f) (znH g f) * zpr (zWQ g l f m) k ≤ 512000000 := by
  have p1 : zpr (zWP g l f) (znH g f) ≤ zpr (fun i => zb20 (zgN g f i)) (znH g f) := zpr_le (fun i _ => by
    unfold zWP zb20
    split
    · exact zWH_le hg
    · exact Nat.le_refl _)
  have u0 := zUU_pos (g := g) (f := f) (gr := 0)
  have u1 := zUU_pos (g := g) (f := f) (gr := 1)
  have u2 := zUU_pos (g := g) (f := f) (gr := 2)
  have q0 := zWQ_le (l := l) (f := f) (gr := 0) (m := m) hg
  have q1 := zWQ_le (l := l) (f := f) (gr := 1) (m := m) hg
  have q2 := zWQ_le (l := l) (f := f) (gr := 2) (m := m) hg
  have hp : zpr (fun i => zb20 (zgN g f i)) (znH g f) * zUU g f 0 * zUU g f 1 * zUU g f 2 ≤ 64000000 := by
    unfold zUU
    rw [← zpr_mul, ← zpr_mul, ← zpr_mul]
    refine zpr_20 h6 (fun i _ => ?_)
    have e : ∀ x : Int32, zb20 (decide (x = -nI 1)) * zb20 (decide (x = nI 0)) * zb20 (decide (x = nI 1)) * zb20 (decide (x = nI 2)) ≤ 20 := by
      intro x
      by_cases a : x = -nI 1
      · subst a; decide +kernel
      · by_cases b : x = nI 0
        · subst b; decide +kernel
        · by_cases c : x = nI 1
          · subst c; decide +kernel
          · rw [decide_eq_false a, decide_eq_false b, decide_eq_false c]
            have := (zb20_le (decide (x = nI 2))).2
            show 1 * 1 * 1 * _ ≤ 20
            omega
    exact e (g (zha f i + 1))
  have hq : zpr (zWQ g l f m) k ≤ 8 * (zUU g f 0 * zUU g f 1 * zUU g f 2) := by
    have m0 : 1 ≤ zUU g f 0 * zUU g f 1 := Nat.mul_le_mul u0 u1
    have a1 : zUU g f 0 * 1 ≤ zUU g f 0 * zUU g f 1 := Nat.mul_le_mul (Nat.le_refl _) u1
    have a2 : zUU g f 0 * zUU g f 1 * 1 ≤ zUU g f 0 * zUU g f 1 * zUU g f 2 := Nat.mul_le_mul (Nat.le_refl _) u2
    rcases (by omega : k = 0 ∨ k = 1 ∨ k = 2 ∨ k = 3) with q | q | q | q <;> subst q
    · show 1 ≤ _
      omega
    · show 1 * zWQ g l f m 0 ≤ _
      omega
    · show 1 * zWQ g l f m 0 * zWQ g l f m 1 ≤ _
      have := Nat.mul_le_mul q0 q1
      have e : 2 * zUU g f 0 * (2 * zUU g f 1) = 4 * (zUU g f 0 * zUU g f 1) := by
        rw [Nat.mul_assoc, Nat.mul_left_comm (zUU g f 0), ← Nat.mul_assoc]
      rw [e] at this
      rw [Nat.one_mul]
      omega
    · show 1 * zWQ g l f m 0 * zWQ g l f m 1 * zWQ g l f m 2 ≤ _
      have := Nat.mul_le_mul (Nat.mul_le_mul q0 q1) q2
      have e : 2 * zUU g f 0 * (2 * zUU g f 1) * (2 * zUU g f 2) = 8 * (zUU g f 0 * zUU g f 1 * zUU g f 2) := by
        simp only [Nat.mul_assoc, Nat.mul_left_comm, Nat.mul_comm]
        omega
      rw [e] at this
      rw [Nat.one_mul]
      exact this
  have := Nat.mul_le_mul p1 hq
  have e : zpr (fun i => zb20 (zgN g f i)) (znH g f) * (8 * (zUU g f 0 * zUU g f 1 * zUU g f 2)) = 8 * (zpr (fun i => zb20 (zgN g f i)) (znH g f) * zUU g f 0 * zUU g f 1 * zUU g f 2) := by
    rw [Nat.mul_left_comm]
    simp only [Nat.mul_assoc]
  rw [e] at this
  omega
theorem z_waysOfFrame {σ : Mem} {g : Nat → Int32} {l : List Nat} {i1 f m : Nat} (h : zRd σ g i1 l) (hf : f < znF g) (hN : znH g f = (zps l).length) (hm : m < 4) :
    ∃ τ, fX6_waysOfFrame σ 359 3 i1 (142 + 6 * f) (nI m) = some (nI (zWF g l f m), τ) ∧ zFw σ τ := by
  have hg := h.1
  have hFm := hg.2.2.2.2.1 f hf
  have h6 : znH g f ≤ 6 := hFm.1.2
  have key : zW (fX6_waysOfFrame σ 359 3 i1 (142 + 6 * f) (nI m)) (fun r => ∃ τ, r = (nI (zWF g l f m), τ) ∧ zFw σ τ) := by
    unfold fX6_waysOfFrame
    refine zW_lp (fun k a => ∃ τ, a = (nI k, nI (zpr (zWP g l f) k), τ) ∧ zFw σ τ) (znH g f) ?_ (by unfold FU; omega) ⟨σ, rfl, zFw_r σ⟩
    rintro k a hk ⟨τ, rfl, t1⟩
    have hu := zRd_w h t1
    obtain ⟨f5, -, hB, q3, q4, q5⟩ := zF_n hg hu.2.1 hf
    unfold sX6_waysOfFrame_6
    dsimp only
    refine zW_if (fun h1 => ?_) (fun h1 => ?_)
    · rw [q3] at h1
      simp (disch := omega) only [zC] at h1
      have : k = znH g f := by omega
      refine zW_oR ?_
      rw [this]
      refine zW_lp (fun gr a => ∃ υ, a = (nI gr, nI (zpr (zWP g l f) (znH g f) * zpr (zWQ g l f m) gr), υ) ∧ zFw σ υ) 3 ?_ (by unfold FU; omega) ⟨τ, by simp only [zpr, Nat.mul_one, zLT], t1⟩
      rintro gr a hgr ⟨υ, rfl, u1⟩
      have hu := zRd_w h u1
      have hb := zWF_b (l := l) (f := f) (m := m) hg h6 hgr
      unfold sX6_waysOfFrame_53
      dsimp only
      refine zW_if (fun h2 => ?_) (fun h2 => ?_)
      · simp (disch := omega) only [zLT, zC] at h2
        have : gr = 3 := by omega
        subst this
        exact zW_oR (zW_so ⟨υ, rfl, u1⟩)
      · simp (disch := omega) only [zLT, zC] at h2
        have hg3 : gr < 3 := by omega
        refine zW_if (fun h4 => ?_) (fun h4 => ?_)
        · simp (disch := omega) only [zLT, zC] at h4
          refine zW_oR (zW_so ⟨υ, ?_, u1⟩)
          have hz : zpr (zWP g l f) (znH g f) * zpr (zWQ g l f m) gr = 0 := by omega
          have : zWF g l f m = 0 := by
            unfold zWF
            rcases Nat.mul_eq_zero.mp hz with q | q
            · rw [q, Nat.zero_mul]
            · rw [zpr_0 q hgr, Nat.mul_zero]
          rw [this, hz]
        · obtain ⟨x, x1, x2, x3⟩ := z_nounOfE (gr := gr) hg hu.2.1 hf hg3
          refine zW_ob x1 ?_
          cases hz : zhn g f gr with
          | false =>
            refine zW_t (x3 hz) ?_
            refine zW_oL ⟨hg3, υ, ?_, u1⟩
            simp only [zLT, zI, zpr, zWQ, hz, Bool.false_eq_true, if_false, Nat.mul_assoc]
          | true =>
            obtain ⟨k', k1, k2⟩ := x2 hz
            refine zW_f (by rw [k2]; simp (disch := omega) only [zLT, zC]; exact fun h => h) ?_
            obtain ⟨ω, o1, o2⟩ := z_waysOfGroup (gr := gr) (m := m) hu hf hN hm
            refine zW_ob o1 ?_
            refine zW_oL ⟨hg3, ω, ?_, zFw_t u1 o2⟩
            simp only [zLT, zI, zpr, zWQ, hz, if_true, Nat.mul_assoc]
    · rw [q3] at h1
      simp (disch := omega) only [zC] at h1
      have hkl : k < znH g f := by omega
      refine zW_ob (z_groupOf hg hu.2.1 hf hkl) ?_
      by_cases hgk : g (zha f k + 1) = -nI 1
      · refine zW_t hgk ?_
        have e1 : zgN g f k = true := decide_eq_true hgk
        obtain ⟨ω, o1, o2⟩ := z_waysOfHole (m := 0) (n := 0) (d := 0) hu hf hkl (by omega) (by omega) (by omega) (by omega)
        refine zW_ob (x := (nI (zWH g l f 0 0 k), ω)) o1 ?_
        refine zW_oL ⟨hkl, ω, ?_, zFw_t t1 o2⟩
        simp only [zLT, zI, zpr, zWP, e1, if_true]
      · refine zW_f hgk ?_
        have e1 : zgN g f k = false := decide_eq_false hgk
        refine zW_oL ⟨hkl, τ, ?_, t1⟩
        simp only [zLT, zI, zpr, zWP, e1, Bool.false_eq_true, if_false]
  obtain ⟨r, e, τ, rfl, q⟩ := key
  exact ⟨τ, e, q⟩
