theorem z_sizeR {σ : Mem} {g : Nat → Int32} {l : List Nat} (h : zRm σ g l) : σ (383 + 1) (ix 0) = nI (znW g) := by
  simp (disch := omega) only [zLT, Nat.reduceAdd, zI]
  exact (h.2.1 0 (by omega)).trans h.1.1.1
theorem zfit_o {g : Nat → Int32} {f i n d w : Nat} (h : ix (g (zha f i)) ≠ 110) : zfit g f i n d w = zcan g f i w := by
  unfold zfit
  rw [if_neg h, Bool.and_true]
def zA (g : Nat → Int32) (l : List Nat) (f m t i : Nat) : Nat := zct (fun w => zcan g f i w && zlk g l f i (t % 2) (t / 2) m w) (znW g)
def zAf (g : Nat → Int32) (l : List Nat) (f m t i : Nat) : Nat := zmn (zcan g f i) (zaa g l f i (t % 2) (t / 2) m) (znW g)
def zR1 (g : Nat → Int32) (l : List Nat) (f gr j m t : Nat) (k : Nat) : Nat := zpr (fun i => if i = j then 1 else if zgi g f i gr then zA g l f m t i else 1) k
def zR2 (g : Nat → Int32) (l : List Nat) (f gr j m t : Nat) (k : Nat) : Nat := zsm (fun i => if i = j then 0 else if zgi g f i gr then zAf g l f m t i else 0) k
theorem zA_le {g : Nat → Int32} {l : List Nat} {f m t i : Nat} (hg : zBG g) : zA g l f m t i ≤ 20 := Nat.le_trans (zct_le _ _) hg.1.2
theorem zAf_le {g : Nat → Int32} {l : List Nat} {f m t i : Nat} : zAf g l f m t i ≤ 1000000 := zmn_le _ _ _
/-- a noun's case is no NONE -/
theorem zHo_n {g : Nat → Int32} {c gr ca wo : Int32} (h : zHo g c gr ca wo) (hc : c = nI 110) : zNI ca 3 ∧ ca = nI (zca ca) := by
  have e : zNI ca 3 := by
    rcases h with h | h | h | h
    · exact h.2.2.1
    · rw [h.1] at hc; exact absurd hc (by decide +kernel)
    · rw [h.1] at hc; exact absurd hc (by decide +kernel)
    · rw [h.1] at hc; exact absurd hc (by decide +kernel)
  refine ⟨e, ?_⟩
  have ne : ca ≠ -nI 1 := by
    intro q
    have := e.2
    have h1 := e.1
    rw [q] at h1
    exact absurd h1 (by decide +kernel)
  unfold zca
  rw [if_neg ne]
  exact e.1
theorem z_byNoun {σ : Mem} {g : Nat → Int32} {l : List Nat} {f gr j w n m : Nat} (h : zRm σ g l) (hf : f < znF g) (hN : znH g f = (zps l).length) (hj : j < znH g f) (h1 : g (zha f j) = nI 110) (h2 : g (zha f j + 1) = nI gr) (hw : w < znW g) (hn : n < 2) (hm : m < 4) :
    ∃ τ, fX12_byNoun σ 383 (nI f) (nI gr) (nI w) (nI n) (nI m) (nI 0) = some (nI ((if zlk g l f j ((2 * zge2 g w + n) % 2) ((2 * zge2 g w + n) / 2) m w then 1 else 0) * zR1 g l f gr j m (2 * zge2 g w + n) (znH g f)), τ) ∧ zFa σ τ := by
  have hg := h.1
  have hW : znW g ≤ 20 := hg.1.2
  have f5 : f < 5 := Nat.lt_of_lt_of_le hf hg.2.1.2
  have hFm := hg.2.2.2.2.1 f hf
  have h6 : znH g f ≤ 6 := hFm.1.2
  have h6' : ix (g (zfa f)) ≤ 6 := hFm.1.2
  have hge := zge2_lt hg w hw
  obtain ⟨-, -, ⟨w4, w5⟩, -⟩ := hg.2.2.1 w hw
  have ew4 : g (zwa w + 2) = nI (zge2 g w) := w4
  obtain ⟨c1, c2⟩ := zHo_n (hFm.2.2.1 j hj) h1
  have c3 : zca (g (zha f j + 2)) < 4 := by have := (zca_h hFm hj).1; omega
  have et1 : (2 * zge2 g w + n) % 2 = n := by omega
  have et2 : (2 * zge2 g w + n) / 2 = zge2 g w := by omega
  rw [et1, et2]
  generalize hL : (if zlk g l f j n (zge2 g w) m w then 1 else 0) = L at *
  have hL1 : L ≤ 1 := by rw [← hL]; split <;> omega
  generalize hT : 2 * zge2 g w + n = T at *
  have key : zW (fX12_byNoun σ 383 (nI f) (nI gr) (nI w) (nI n) (nI m) (nI 0)) (fun r => ∃ τ, r = (nI (L * zR1 g l f gr j m T (znH g f)), τ) ∧ zFa σ τ) := by
    unfold fX12_byNoun
    refine zW_ob (z_holeOf hg h.2.1 hf hj h1 h2) ?_
    refine zW_ob (z_ofHole (k := 2) h.2.1 f5 (by omega) (by omega)) ?_
    refine zW_ob (z_gender h.2.1 (by omega)) ?_
    rw [c2, ew4]
    obtain ⟨υ, u1, u2, u3⟩ := z_forms h.2.1 hg hw c3 hn hge hm
    refine zW_ob u1 ?_
    have hu := zRm_a h (zFa_q u3)
    have hok := zform_ok (d := zge2 g w) hg hw c3 hn hm
    refine zW_jn (fun y => y = (nI L, υ)) ?_ ?_
    · rintro y rfl
      dsimp only
      refine zW_lp (fun k a => ∃ τ, a = (nI k, nI (L * zR1 g l f gr j m T k), τ) ∧ zFa σ τ) (znH g f) ?_ (by unfold FU; omega) ⟨υ, by rw [zLT.1]; unfold zR1 zpr; rw [Nat.mul_one], zFa_q u3⟩
      rintro k a hk ⟨τ, rfl, t1⟩
      have ht := zRm_a h t1
      have hb := zpr_20 (F := fun i => if i = j then 1 else if zgi g f i gr then zA g l f m T i else 1) (n := k) (by omega) (fun i _ => by
        split
        · omega
        · split
          · exact zA_le hg
          · omega)
      have hb2 : L * zR1 g l f gr j m T k ≤ 64000000 := Nat.le_trans (Nat.mul_le_mul hL1 hb) (by omega)
      have hs : k < znH g f → (zR1 g l f gr j m T (k + 1) = zR1 g l f gr j m T k * (if k = j then 1 else if zgi g f k gr then zA g l f m T k else 1)) := fun _ => rfl
      unfold sX12_byNoun_63
      dsimp only
      refine zW_ob (z_holes ht.2.1 f5) ?_
      refine zW_if (fun q1 => ?_) (fun q1 => ?_)
      · rw [hFm.1.1] at q1
        simp (disch := omega) only [zC] at q1
        have : k = znH g f := by have : ix (g (zfa f)) ≤ k := q1; exact Nat.le_antisymm hk this
        subst this
        exact zW_oR (zW_so ⟨τ, rfl, t1⟩)
      · rw [hFm.1.1] at q1
        simp (disch := omega) only [zC] at q1
        have hkl : k < znH g f := Nat.lt_of_not_le q1
        have hs := hs hkl
        refine zW_jn (fun _ => True) ?_ ?_
        · rintro - -
          by_cases hkj : k = j
          · refine zW_t (by rw [hkj]) ?_
            refine zW_oL ⟨hkl, τ, ?_, t1⟩
            rw [hs, if_pos hkj, Nat.mul_one]
            simp only [zLT, zI]
          · refine zW_f (by simp (disch := omega) only [zC]; exact hkj) ?_
            refine zW_ob (z_ofHole (k := 1) ht.2.1 f5 (by omega) (by omega)) ?_
            by_cases hgk : g (zha f k + 1) = nI gr
            · refine zW_t hgk ?_
              have e1 : zgi g f k gr = true := decide_eq_true hgk
              refine zW_ob (z_gender ht.2.1 (by omega)) ?_
              rw [ew4]
              obtain ⟨ω, o1, o2⟩ := z_atHole (i := k) ht hf hkl (by omega) hn hge hm
              refine zW_ob o1 (zW_t rfl ?_)
              refine zW_oL ⟨hkl, ω, ?_, zFa_t t1 o2⟩
              rw [hs, if_neg hkj, if_pos e1]
              unfold zA
              rw [et1, et2]
              simp only [zLT, zI, Nat.mul_assoc]
            · refine zW_f hgk ?_
              have e1 : ¬ zgi g f k gr = true := fun q => hgk (of_decide_eq_true q)
              refine zW_oL ⟨hkl, τ, ?_, t1⟩
              rw [hs, if_neg hkj, if_neg e1, Nat.mul_one]
              simp only [zLT, zI]
        · intro kk hkk
          refine zW_t rfl ?_
          refine zW_if (fun q2 => ?_) (fun q2 => hkk () trivial)
          simp (disch := omega) only [zLT, zC] at q2
          refine zW_oR (zW_so ⟨τ, ?_, t1⟩)
          have hz : L * zR1 g l f gr j m T k = 0 := by omega
          have : L * zR1 g l f gr j m T (znH g f) = 0 := by
            rcases Nat.mul_eq_zero.mp hz with q | q
            · rw [q, Nat.zero_mul]
            · unfold zR1 at q ⊢
              rw [zpr_0 q hk, Nat.mul_zero]
          rw [this, hz]
    · intro kk hkk
      refine zW_t rfl ?_
      refine zW_ob (z_isLike hu.2.2.1 hu.2.2.2.1 hu.2.2.2.2 u2 hok.2.2 (zLs_256 hok.1) (by omega)) ?_
      by_cases hlk : zform g w (zca (g (zha f j + 2))) n (zge2 g w) m = zwd l j
      · rw [if_pos hlk]
        have e4 : zlk g l f j n (zge2 g w) m w = true := decide_eq_true hlk
        rw [e4] at hL
        refine zW_f zn01 (hkk _ ?_)
        rw [← hL]; rfl
      · rw [if_neg hlk]
        have e4 : zlk g l f j n (zge2 g w) m w = false := decide_eq_false hlk
        rw [e4] at hL
        refine zW_t rfl (hkk _ ?_)
        rw [← hL]; rfl
  obtain ⟨r, e, τ, rfl, q⟩ := key
  exact ⟨τ, e, q⟩
theorem z_byNounF {σ : Mem} {g : Nat → Int32} {l : List Nat} {f gr j w n m : Nat} (h : zRm σ g l) (hf : f < znF g) (hN : znH g f = (zps l).length) (hj : j < znH g f) (h1 : g (zha f j) = nI 110) (h2 : g (zha f j + 1) = nI gr) (hw : w < znW g) (hn : n < 2) (hm : m < 4) :
    ∃ τ, fX12_byNoun σ 383 (nI f) (nI gr) (nI w) (nI n) (nI m) (nI 1) = some (nI (zaa g l f j ((2 * zge2 g w + n) % 2) ((2 * zge2 g w + n) / 2) m w + zR2 g l f gr j m (2 * zge2 g w + n) (znH g f)), τ) ∧ zFa σ τ := by
  have hg := h.1
  have hW : znW g ≤ 20 := hg.1.2
  have f5 : f < 5 := Nat.lt_of_lt_of_le hf hg.2.1.2
  have hFm := hg.2.2.2.2.1 f hf
  have h6 : znH g f ≤ 6 := hFm.1.2
  have h6' : ix (g (zfa f)) ≤ 6 := hFm.1.2
  have hge := zge2_lt hg w hw
  obtain ⟨-, -, ⟨w4, w5⟩, -⟩ := hg.2.2.1 w hw
  have ew4 : g (zwa w + 2) = nI (zge2 g w) := w4
  obtain ⟨c1, c2⟩ := zHo_n (hFm.2.2.1 j hj) h1
  have c3 : zca (g (zha f j + 2)) < 4 := by have := (zca_h hFm hj).1; omega
  have et1 : (2 * zge2 g w + n) % 2 = n := by omega
  have et2 : (2 * zge2 g w + n) / 2 = zge2 g w := by omega
  rw [et1, et2]
  generalize hL : zaa g l f j n (zge2 g w) m w = L at *
  generalize hT : 2 * zge2 g w + n = T at *
  have key : zW (fX12_byNoun σ 383 (nI f) (nI gr) (nI w) (nI n) (nI m) (nI 1)) (fun r => ∃ τ, r = (nI (L + zR2 g l f gr j m T (znH g f)), τ) ∧ zFa σ τ) := by
    unfold fX12_byNoun
    refine zW_ob (z_holeOf hg h.2.1 hf hj h1 h2) ?_
    refine zW_ob (z_ofHole (k := 2) h.2.1 f5 (by omega) (by omega)) ?_
    refine zW_ob (z_gender h.2.1 (by omega)) ?_
    rw [c2, ew4]
    obtain ⟨υ, u1, u2, u3⟩ := z_forms h.2.1 hg hw c3 hn hge hm
    refine zW_ob u1 ?_
    have hu := zRm_a h (zFa_q u3)
    have hok := zform_ok (d := zge2 g w) hg hw c3 hn hm
    obtain ⟨υ2, v1, v2⟩ := z_apart hu.2.2.1 hu.2.2.2.1 hu.2.2.2.2 u2 hok.2.2 (zLs_256 hok.1) (by omega : j < (zps l).length)
    have fr2 : zFa σ υ2 := zFa_t (zFa_q u3) (fun x c p q r s => v2 x c r s)
    refine zW_jn (fun y => y = (nI L, υ2)) ?_ (fun kk hkk => zW_f zn01 (zW_ob v1 (hkk _ ?_)))
    · rintro y rfl
      dsimp only
      refine zW_lp (fun k a => ∃ τ, a = (nI k, nI (L + zR2 g l f gr j m T k), τ) ∧ zFa σ τ) (znH g f) ?_ (by unfold FU; omega) ⟨υ2, rfl, fr2⟩
      rintro k a hk ⟨τ, rfl, t1⟩
      have ht := zRm_a h t1
      have hs : k < znH g f → (zR2 g l f gr j m T (k + 1) = zR2 g l f gr j m T k + (if k = j then 0 else if zgi g f k gr then zAf g l f m T k else 0)) := fun _ => rfl
      unfold sX12_byNoun_63
      dsimp only
      refine zW_ob (z_holes ht.2.1 f5) ?_
      refine zW_if (fun q1 => ?_) (fun q1 => ?_)
      · rw [hFm.1.1] at q1
        simp (disch := omega) only [zC] at q1
        have : k = znH g f := by have : ix (g (zfa f)) ≤ k := q1; exact Nat.le_antisymm hk this
        subst this
        exact zW_oR (zW_so ⟨τ, rfl, t1⟩)
      · rw [hFm.1.1] at q1
        simp (disch := omega) only [zC] at q1
        have hkl : k < znH g f := Nat.lt_of_not_le q1
        have hs := hs hkl
        refine zW_jn (fun _ => True) ?_ (fun kk hkk => zW_f zn01 (hkk () trivial))
        rintro - -
        by_cases hkj : k = j
        · refine zW_t (by rw [hkj]) ?_
          refine zW_oL ⟨hkl, τ, ?_, t1⟩
          rw [hs, if_pos hkj]
          simp only [zLT, zI, Nat.add_zero]
        · refine zW_f (by simp (disch := omega) only [zC]; exact hkj) ?_
          refine zW_ob (z_ofHole (k := 1) ht.2.1 f5 (by omega) (by omega)) ?_
          by_cases hgk : g (zha f k + 1) = nI gr
          · refine zW_t hgk ?_
            have e1 : zgi g f k gr = true := decide_eq_true hgk
            refine zW_ob (z_gender ht.2.1 (by omega)) ?_
            rw [ew4]
            obtain ⟨ω, o1, o2⟩ := z_atHoleN (i := k) ht hf hkl (by omega) hn hge hm
            refine zW_ob o1 (zW_f zn01 ?_)
            refine zW_oL ⟨hkl, ω, ?_, zFa_t t1 o2⟩
            rw [hs, if_neg hkj, if_pos e1]
            unfold zAf
            rw [et1, et2]
            simp only [zLT, zI, Nat.add_assoc]
          · refine zW_f hgk ?_
            have e1 : ¬ zgi g f k gr = true := fun q => hgk (of_decide_eq_true q)
            refine zW_oL ⟨hkl, τ, ?_, t1⟩
            rw [hs, if_neg hkj, if_neg e1]
            simp only [zLT, zI, Nat.add_zero]
    · rw [← hL]; rfl
  obtain ⟨r, e, τ, rfl, q⟩ := key
  exact ⟨τ, e, q⟩
