def zWH (g : Nat → Int32) (l : List Nat) (f m t i : Nat) : Nat := zct (fun w => zfit g f i (t % 2) (t / 2) w && zlk g l f i (t % 2) (t / 2) m w) (znW g)
def zgi (g : Nat → Int32) (f i gr : Nat) : Bool := decide (g (zha f i + 1) = nI gr)
def zgN (g : Nat → Int32) (f i : Nat) : Bool := decide (g (zha f i + 1) = -nI 1)
def zWg (g : Nat → Int32) (l : List Nat) (f gr m t : Nat) : Nat := zpr (fun i => if zgi g f i gr then zWH g l f m t i else 1) (znH g f)
def zWG (g : Nat → Int32) (l : List Nat) (f gr m : Nat) : Nat := zsm (zWg g l f gr m) 6
def zhn (g : Nat → Int32) (f gr : Nat) : Bool := (zth (znp g f gr) (znH g f) 0 0).isSome
def zWP (g : Nat → Int32) (l : List Nat) (f i : Nat) : Nat := if zgN g f i then zWH g l f 0 0 i else 1
def zWQ (g : Nat → Int32) (l : List Nat) (f m gr : Nat) : Nat := if zhn g f gr then zWG g l f gr m else 1
def zWF (g : Nat → Int32) (l : List Nat) (f m : Nat) : Nat := zpr (zWP g l f) (znH g f) * zpr (zWQ g l f m) 3
def zFH (g : Nat → Int32) (l : List Nat) (f m t i : Nat) : Nat := zmn (zfit g f i (t % 2) (t / 2)) (zaa g l f i (t % 2) (t / 2) m) (znW g)
def zFg (g : Nat → Int32) (l : List Nat) (f gr m t : Nat) : Nat := zsm (fun i => if zgi g f i gr then zFH g l f m t i else 0) (znH g f)
def zFG (g : Nat → Int32) (l : List Nat) (f gr m : Nat) : Nat := zgm (zFg g l f gr m) 6
def zFP (g : Nat → Int32) (l : List Nat) (f i : Nat) : Nat := if zgN g f i then zFH g l f 0 0 i else 0
def zFQ (g : Nat → Int32) (l : List Nat) (f m gr : Nat) : Nat := if zhn g f gr then zFG g l f gr m else 0
def zFF (g : Nat → Int32) (l : List Nat) (f m : Nat) : Nat := zsm (zFP g l f) (znH g f) + zsm (zFQ g l f m) 3
theorem zWH_le {g : Nat → Int32} {l : List Nat} {f m t i : Nat} (hg : zBG g) : zWH g l f m t i ≤ 20 := Nat.le_trans (zct_le _ _) hg.1.2
theorem zFH_le {g : Nat → Int32} {l : List Nat} {f m t i : Nat} : zFH g l f m t i ≤ 1000000 := zmn_le _ _ _
theorem zhn_t {g : Nat → Int32} {f gr : Nat} (h : zhn g f gr = true) : ∃ j, j < znH g f ∧ g (zha f j) = nI 110 ∧ g (zha f j + 1) = nI gr := by
  unfold zhn at h
  cases e : zth (znp g f gr) (znH g f) 0 0 with
  | none => rw [e] at h; cases h
  | some w =>
    have q := zth_in e
    have q3 := q.2.2
    unfold znp at q3
    simp only [Bool.and_eq_true, decide_eq_true_eq] at q3
    exact ⟨w, by omega, q3.1, q3.2⟩
theorem zhn_f {g : Nat → Int32} {f gr : Nat} (h : zhn g f gr = false) : ∀ j, j < znH g f → g (zha f j) = nI 110 → g (zha f j + 1) ≠ nI gr := by
  intro j hj h1 h2
  have hp : znp g f gr j = true := by unfold znp; simp [h1, h2]
  obtain ⟨w, e⟩ := zth_ex (p := znp g f gr) (m := znH g f) (i := 0) (Nat.zero_le j) (by omega) hp
  unfold zhn at h
  rw [e] at h
  cases h
theorem z_nounOfE {σ : Mem} {g : Nat → Int32} {f gr : Nat} (hg : zBG g) (hc : zCB σ 3 g) (hf : f < znF g) (hgr : gr < 3) : ∃ x, fX3_nounOf σ (142 + 6 * f) (nI gr) = some x ∧ (zhn g f gr = true → ∃ k, k < 6 ∧ x = nI k) ∧ (zhn g f gr = false → x = -nI 1) := by
  obtain ⟨f5, hFm, hB, q3, q4, q5⟩ := zF_n hg hc hf
  refine ⟨σ (147 + 6 * f) gr, z_nounOf f5 hgr, fun h => ?_, fun h => ?_⟩
  · obtain ⟨j, j1, j2, j3⟩ := zhn_t h
    rcases hB.2.2 gr hgr with ⟨k, k1, k2, k3, k4⟩ | ⟨k1, -⟩
    · rw [show 142 + 6 * f + 5 = 147 + 6 * f by omega] at k4
      exact ⟨k, by omega, k4⟩
    · exact absurd j3 (k1 _ j1 j2)
  · rcases hB.2.2 gr hgr with ⟨k, k1, k2, k3, k4⟩ | ⟨-, k1⟩
    · exact absurd k3 (zhn_f h k k1 k2)
    · rw [show 142 + 6 * f + 5 = 147 + 6 * f by omega] at k1
      exact k1
theorem z_waysOfGroup {σ : Mem} {g : Nat → Int32} {l : List Nat} {i1 f gr m : Nat} (h : zRd σ g i1 l) (hf : f < znF g) (hN : znH g f = (zps l).length) (hm : m < 4) :
    ∃ τ, fX6_waysOfGroup σ 359 3 i1 (142 + 6 * f) (nI gr) (nI m) = some (nI (zWG g l f gr m), τ) ∧ zFw σ τ := by
  have hg := h.1
  have hFm := hg.2.2.2.2.1 f hf
  have h6 : znH g f ≤ 6 := hFm.1.2
  have b20 : ∀ t i, (if zgi g f i gr then zWH g l f m t i else 1) ≤ 20 := fun t i => by
    split
    · exact zWH_le hg
    · omega
  have key : zW (fX6_waysOfGroup σ 359 3 i1 (142 + 6 * f) (nI gr) (nI m)) (fun r => ∃ τ, r = (nI (zWG g l f gr m), τ) ∧ zFw σ τ) := by
    unfold fX6_waysOfGroup
    refine zW_bv (nI (24 * m)) (by simp only [zLT, zI]; congr 1; omega) ?_
    refine zW_lp (fun t a => ∃ τ, a = (nI (24 * m + 4 * t), nI (zsm (zWg g l f gr m) t), τ) ∧ zFw σ τ) 6 ?_ (by unfold FU; omega) ⟨σ, rfl, zFw_r σ⟩
    rintro t a ht ⟨τ, rfl, t1⟩
    unfold sX6_waysOfGroup_10
    dsimp only
    refine zW_if (fun h0 => ?_) (fun h0 => ?_)
    · simp only [zLT, zI] at h0
      simp (disch := omega) only [zC] at h0
      have : t = 6 := by omega
      subst this
      exact zW_oR (zW_so ⟨τ, rfl, t1⟩)
    · simp only [zLT, zI] at h0
      simp (disch := omega) only [zC] at h0
      have ht6 : t < 6 := by omega
      have outz : ∀ (k : Nat) (υ : Mem), k ≤ znH g f → zFw σ υ → (k = znH g f ∨ zpr (fun i => if zgi g f i gr then zWH g l f m t i else 1) k = 0) →
          zW (oR (bnd (nI (zsm (zWg g l f gr m) t) + nI (zpr (fun i => if zgi g f i gr then zWH g l f m t i else 1) k)) (fun x6 => bnd (nI (24 * m + 4 * t) + (4 : Int32)) (fun x7 => (oL (x7, x6, υ) : Option ((Int32 × Int32 × Mem) ⊕ (Int32 × Mem))))))) (zS (fun a' => k < znH g f ∧ ∃ τ', a' = (nI (k + 1), nI (zpr (fun i => if zgi g f i gr then zWH g l f m t i else 1) (k + 1)), τ') ∧ zFw σ τ')
            (zS (fun a' => t < 6 ∧ ∃ τ', a' = (nI (24 * m + 4 * (t + 1)), nI (zsm (zWg g l f gr m) (t + 1)), τ') ∧ zFw σ τ') (fun r => ∃ τ', r = (nI (zWG g l f gr m), τ') ∧ zFw σ τ'))) := by
        intro k υ hk hυ hz
        have e : zpr (fun i => if zgi g f i gr then zWH g l f m t i else 1) k = zWg g l f gr m t := by
          rcases hz with hz | hz
          · rw [hz]; rfl
          · rw [hz]
            exact (zpr_0 hz hk).symm
        refine zW_oR (zW_bv (nI (zsm (zWg g l f gr m) (t + 1))) (by rw [e, nI_add]; rfl) ?_)
        refine zW_bv (nI (24 * m + 4 * (t + 1))) (by simp only [zLT, zI]; congr 1) ?_
        exact zW_oL ⟨ht6, υ, rfl, hυ⟩
      refine zW_lp (fun k a => ∃ τ', a = (nI k, nI (zpr (fun i => if zgi g f i gr then zWH g l f m t i else 1) k), τ') ∧ zFw σ τ') (znH g f) ?_ (by unfold FU; omega) ⟨τ, rfl, t1⟩
      rintro k a hk ⟨υ, rfl, u1⟩
      have hbk := zpr_20 (F := fun i => if zgi g f i gr then zWH g l f m t i else 1) (n := k) (by omega) (fun i _ => b20 t i)
      have hu := zRd_w h u1
      obtain ⟨f5, -, hB, q3, q4, q5⟩ := zF_n hg hu.2.1 hf
      unfold sX6_waysOfGroup_28
      dsimp only
      refine zW_if (fun h1 => ?_) (fun h1 => ?_)
      · rw [q3] at h1
        simp (disch := omega) only [zC] at h1
        exact outz k υ hk u1 (Or.inl (by omega))
      · rw [q3] at h1
        simp (disch := omega) only [zC] at h1
        have hkl : k < znH g f := by omega
        refine zW_if (fun h2 => ?_) (fun h2 => ?_)
        · simp (disch := omega) only [zLT, zC] at h2
          exact outz k υ hk u1 (Or.inr (by omega))
        · refine zW_ob (z_groupOf hg hu.2.1 hf hkl) ?_
          by_cases hgk : g (zha f k + 1) = nI gr
          · refine zW_t hgk ?_
            have e1 : zgi g f k gr = true := decide_eq_true hgk
            obtain ⟨ω, o1, o2⟩ := z_waysOfHole (m := m) (n := t % 2) (d := t / 2) hu hf hkl (by omega) (by omega) (by omega) hm
            refine zW_ob (x := (nI (zWH g l f m t k), ω)) ?_ ?_
            · rw [show 24 * m + 4 * t = 24 * m + 8 * (t / 2) + 4 * (t % 2) by omega]
              exact o1
            refine zW_bv (nI (zpr (fun i => if zgi g f i gr then zWH g l f m t i else 1) (k + 1))) (by simp only [zI, zpr, e1, if_true]) ?_
            exact zW_oL ⟨hkl, ω, by simp only [zLT, zI], zFw_t u1 o2⟩
          · refine zW_f hgk ?_
            have e1 : zgi g f k gr = false := decide_eq_false hgk
            refine zW_bv (nI (zpr (fun i => if zgi g f i gr then zWH g l f m t i else 1) (k + 1))) (by simp only [zLT, zI, zpr, e1, Bool.false_eq_true, if_false]) ?_
            exact zW_oL ⟨hkl, υ, by simp only [zLT, zI], u1⟩
  obtain ⟨r, e, τ, rfl, q⟩ := key
  exact ⟨τ, e, q⟩
theorem zFg_le {g : Nat → Int32} {l : List Nat} {f gr m t k : Nat} (h : k ≤ 6) : zsm (fun i => if zgi g f i gr then zFH g l f m t i else 0) k ≤ 6000000 := by
  have := zsm_cap (F := fun i => if zgi g f i gr then zFH g l f m t i else 0) (n := k) (c := 1000000) (fun i _ => by
    split
    · exact zFH_le
    · omega)
  omega
theorem z_farGroup {σ : Mem} {g : Nat → Int32} {l : List Nat} {i1 f gr m : Nat} (h : zRd σ g i1 l) (hf : f < znF g) (hN : znH g f = (zps l).length) (hm : m < 4) :
    ∃ τ, fX6_farnessOfGroup σ 359 3 i1 (142 + 6 * f) (nI gr) (nI m) = some (nI (zFG g l f gr m), τ) ∧ zFw σ τ := by
  have hg := h.1
  have hFm := hg.2.2.2.2.1 f hf
  have h6 : znH g f ≤ 6 := hFm.1.2
  have gle : ∀ k, zgm (zFg g l f gr m) k ≤ 1000000 := by
    intro k
    induction k with
    | zero => exact Nat.le_refl _
    | succ k ih => unfold zgm; omega
  have key : zW (fX6_farnessOfGroup σ 359 3 i1 (142 + 6 * f) (nI gr) (nI m)) (fun r => ∃ τ, r = (nI (zFG g l f gr m), τ) ∧ zFw σ τ) := by
    unfold fX6_farnessOfGroup
    refine zW_bv (nI (24 * m)) (by simp only [zLT, zI]; congr 1; omega) ?_
    refine zW_lp (fun t a => ∃ τ, a = (nI (24 * m + 4 * t), nI (zgm (zFg g l f gr m) t), τ) ∧ zFw σ τ) 6 ?_ (by unfold FU; omega) ⟨σ, rfl, zFw_r σ⟩
    rintro t a ht ⟨τ, rfl, t1⟩
    have gl := gle t
    unfold sX6_farnessOfGroup_11
    dsimp only
    refine zW_if (fun h0 => ?_) (fun h0 => ?_)
    · simp only [zLT, zI] at h0
      simp (disch := omega) only [zC] at h0
      have : t = 6 := by omega
      subst this
      exact zW_oR (zW_so ⟨τ, rfl, t1⟩)
    · simp only [zLT, zI] at h0
      simp (disch := omega) only [zC] at h0
      have ht6 : t < 6 := by omega
      refine zW_lp (fun k a => ∃ τ', a = (nI k, nI (zsm (fun i => if zgi g f i gr then zFH g l f m t i else 0) k), τ') ∧ zFw σ τ') (znH g f) ?_ (by unfold FU; omega) ⟨τ, rfl, t1⟩
      rintro k a hk ⟨υ, rfl, u1⟩
      have hbk := zFg_le (g := g) (l := l) (f := f) (gr := gr) (m := m) (t := t) (k := k) (by omega)
      have hu := zRd_w h u1
      obtain ⟨f5, -, hB, q3, q4, q5⟩ := zF_n hg hu.2.1 hf
      unfold sX6_farnessOfGroup_29
      dsimp only
      refine zW_jn (fun _ => k = znH g f ∨ zgm (zFg g l f gr m) t ≤ zsm (fun i => if zgi g f i gr then zFH g l f m t i else 0) k) ?_ ?_
      · rintro - hz
        have e : min (zgm (zFg g l f gr m) t) (zsm (fun i => if zgi g f i gr then zFH g l f m t i else 0) k) = zgm (zFg g l f gr m) (t + 1) := by
          show _ = min (zgm (zFg g l f gr m) t) (zsm (fun i => if zgi g f i gr then zFH g l f m t i else 0) (znH g f))
          rcases hz with hz | hz
          · rw [hz]
          · have := zsm_mono (F := fun i => if zgi g f i gr then zFH g l f m t i else 0) hk
            omega
        refine zW_oR (zW_bv (nI (zgm (zFg g l f gr m) (t + 1))) (by simp (disch := omega) only [zI]; rw [e]) ?_)
        refine zW_bv (nI (24 * m + 4 * (t + 1))) (by simp only [zLT, zI]; congr 1) ?_
        exact zW_oL ⟨ht6, υ, rfl, u1⟩
      · intro kk hkk
        refine zW_if (fun h1 => ?_) (fun h1 => ?_)
        · rw [q3] at h1
          simp (disch := omega) only [zC] at h1
          exact hkk () (Or.inl (by omega))
        · rw [q3] at h1
          simp (disch := omega) only [zC] at h1
          have hkl : k < znH g f := by omega
          refine zW_if (fun h2 => ?_) (fun h2 => ?_)
          · simp (disch := omega) only [zC] at h2
            exact hkk () (Or.inr h2)
          · refine zW_ob (z_groupOf hg hu.2.1 hf hkl) ?_
            by_cases hgk : g (zha f k + 1) = nI gr
            · refine zW_t hgk ?_
              have e1 : zgi g f k gr = true := decide_eq_true hgk
              obtain ⟨ω, o1, o2⟩ := z_farHole (m := m) (n := t % 2) (d := t / 2) hu hf hkl (by omega) (by omega) (by omega) hm
              refine zW_ob (x := (nI (zFH g l f m t k), ω)) ?_ ?_
              · rw [show 24 * m + 4 * t = 24 * m + 8 * (t / 2) + 4 * (t % 2) by omega]
                exact o1
              refine zW_bv (nI (zsm (fun i => if zgi g f i gr then zFH g l f m t i else 0) (k + 1))) (by simp only [zI, zsm, e1, if_true]) ?_
              exact zW_oL ⟨hkl, ω, by simp only [zLT, zI], zFw_t u1 o2⟩
            · refine zW_f hgk ?_
              have e1 : zgi g f k gr = false := decide_eq_false hgk
              refine zW_bv (nI (zsm (fun i => if zgi g f i gr then zFH g l f m t i else 0) (k + 1))) (by simp only [zLT, zI, zsm, e1, Bool.false_eq_true, if_false]) ?_
              exact zW_oL ⟨hkl, υ, by simp only [zLT, zI], u1⟩
  obtain ⟨r, e, τ, rfl, q⟩ := key
  exact ⟨τ, e, q⟩
theorem zFG_le {g : Nat → Int32} {l : List Nat} {f gr m : Nat} : zFG g l f gr m ≤ 1000000 := by
  unfold zFG
  rw [zgm6]; omega
theorem z_farFrame {σ : Mem} {g : Nat → Int32} {l : List Nat} {i1 f m : Nat} (h : zRd σ g i1 l) (hf : f < znF g) (hN : znH g f = (zps l).length) (hm : m < 4) :
    ∃ τ, fX6_farnessOfFrame σ 359 3 i1 (142 + 6 * f) (nI m) = some (nI (zFF g l f m), τ) ∧ zFw σ τ := by
  have hg := h.1
  have hFm := hg.2.2.2.2.1 f hf
  have h6 : znH g f ≤ 6 := hFm.1.2
  have key : zW (fX6_farnessOfFrame σ 359 3 i1 (142 + 6 * f) (nI m)) (fun r => ∃ τ, r = (nI (zFF g l f m), τ) ∧ zFw σ τ) := by
    unfold fX6_farnessOfFrame
    refine zW_lp (fun k a => ∃ τ, a = (nI k, nI (zsm (zFP g l f) k), τ) ∧ zFw σ τ) (znH g f) ?_ (by unfold FU; omega) ⟨σ, rfl, zFw_r σ⟩
    rintro k a hk ⟨τ, rfl, t1⟩
    have hu := zRd_w h t1
    obtain ⟨f5, -, hB, q3, q4, q5⟩ := zF_n hg hu.2.1 hf
    unfold sX6_farnessOfFrame_6
    dsimp only
    refine zW_if (fun h1 => ?_) (fun h1 => ?_)
    · rw [q3] at h1
      simp (disch := omega) only [zC] at h1
      have : k = znH g f := by omega
      refine zW_oR ?_
      rw [this]
      refine zW_lp (fun gr a => ∃ υ, a = (nI gr, nI (zsm (zFP g l f) (znH g f) + zsm (zFQ g l f m) gr), υ) ∧ zFw σ υ) 3 ?_ (by unfold FU; omega) ⟨τ, rfl, t1⟩
      rintro gr a hgr ⟨υ, rfl, u1⟩
      have hu := zRd_w h u1
      unfold sX6_farnessOfFrame_53
      dsimp only
      refine zW_if (fun h2 => ?_) (fun h2 => ?_)
      · simp (disch := omega) only [zLT, zC] at h2
        have : gr = 3 := by omega
        subst this
        exact zW_oR (zW_so ⟨υ, rfl, u1⟩)
      · simp (disch := omega) only [zLT, zC] at h2
        have hg3 : gr < 3 := by omega
        obtain ⟨x, x1, x2, x3⟩ := z_nounOfE (gr := gr) hg hu.2.1 hf hg3
        refine zW_ob x1 ?_
        cases hz : zhn g f gr with
        | false =>
          refine zW_t (x3 hz) ?_
          refine zW_oL ⟨hg3, υ, ?_, u1⟩
          simp only [zLT, zI, zsm, zFQ, hz, Bool.false_eq_true, if_false, Nat.add_assoc]
        | true =>
          obtain ⟨k', k1, k2⟩ := x2 hz
          refine zW_f (by rw [k2]; simp (disch := omega) only [zLT, zC]; exact fun h => h) ?_
          obtain ⟨ω, o1, o2⟩ := z_farGroup (gr := gr) (m := m) hu hf hN hm
          refine zW_ob o1 ?_
          refine zW_oL ⟨hg3, ω, ?_, zFw_t u1 o2⟩
          simp only [zLT, zI, zsm, zFQ, hz, if_true, Nat.add_assoc]
    · rw [q3] at h1
      simp (disch := omega) only [zC] at h1
      have hkl : k < znH g f := by omega
      refine zW_ob (z_groupOf hg hu.2.1 hf hkl) ?_
      by_cases hgk : g (zha f k + 1) = -nI 1
      · refine zW_t hgk ?_
        have e1 : zgN g f k = true := decide_eq_true hgk
        obtain ⟨ω, o1, o2⟩ := z_farHole (m := 0) (n := 0) (d := 0) hu hf hkl (by omega) (by omega) (by omega) (by omega)
        refine zW_ob (x := (nI (zFH g l f 0 0 k), ω)) o1 ?_
        refine zW_oL ⟨hkl, ω, ?_, zFw_t t1 o2⟩
        simp only [zLT, zI, zsm, zFP, e1, if_true]
      · refine zW_f hgk ?_
        have e1 : zgN g f k = false := decide_eq_false hgk
        refine zW_oL ⟨hkl, τ, ?_, t1⟩
        simp only [zLT, zI, zsm, zFP, e1, Bool.false_eq_true, if_false]
  obtain ⟨r, e, τ, rfl, q⟩ := key
  exact ⟨τ, e, q⟩
