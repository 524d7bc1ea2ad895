def zfit (g : Nat → Int32) (f i n d w : Nat) : Bool := zcan g f i w && (if ix (g (zha f i)) = 110 then (ix (g (zwa w + 2)) == d && (ix (g (zwa w)) != 3 || n == 0)) else true)
/-- a word's form at a hole -/
def zfh (g : Nat → Int32) (f i n d m w : Nat) : List Nat := zform g w (zca (g (zha f i + 2))) n d m
theorem zso_n {n : Nat} (h : n = 110 ∨ n = 118 ∨ n = 102 ∨ n = 112) : (zso n = 0 ↔ n = 110) ∧ zso n ≤ 3 := by
  rcases h with h | h | h | h <;> subst h <;> decide
theorem zca_h {g : Nat → Int32} {f i : Nat} (hF : zFm g f) (hi : i < znH g f) : zca (g (zha f i + 2)) ≤ 3 ∧ imx (g (zha f i + 2)) (nI 0) = nI (zca (g (zha f i + 2))) ∧ imx (nI 0) (g (zha f i + 2)) = nI (zca (g (zha f i + 2))) := by
  have hH := hF.2.2.1 i hi
  obtain ⟨n, l1, l2, l3⟩ := zHo_l hH
  by_cases hp : g (zha f i) = nI 112
  · exact zca_le (Or.inr (zHo_p hH hp).2.1)
  · exact zca_le (zHo_g hH hp).2
theorem z_fits {σ : Mem} {g : Nat → Int32} {f i w v : Nat} (hg : zBG g) (hc : zCB σ 3 g) (hn : zNG σ) (hf : f < znF g) (hi : i < znH g f) (hw : w < znW g) (hv : v < 96) :
    fX6_fits σ (142 + 6 * f) (nI i) (12 + 3 * w) (nI v) = some (if zfit g f i (v / 4 % 2) (v / 8 % 3) w then nI 1 else nI 0) := by
  obtain ⟨f5, hFm, hB, q3, q4, q5⟩ := zF_n hg hc hf
  obtain ⟨n, l1, l2, l3⟩ := zHo_l (hFm.2.2.1 i hi)
  obtain ⟨⟨w0, w1⟩, -, ⟨w4, w5⟩, -⟩ := hg.2.2.1 w hw
  obtain ⟨b1, b2, b3, b4⟩ := hc.2.2.1 w hw
  rw [show 3 + 9 + 3 * w = 12 + 3 * w by omega] at b1 b2 b3 b4
  refine zW_val ?_
  unfold fX6_fits
  refine zW_ob (z_takes hg hc hn hf hi hw) ?_
  unfold zfit
  cases hcan : zcan g f i w with
  | false => exact zW_t rfl (zW_so rfl)
  | true =>
    refine zW_f zn01 ?_
    refine zW_bv (nI (v / 4 % 2)) (by simp (disch := omega) only [zLT, zI]) ?_
    refine zW_bv (nI (v / 8 % 3)) (by simp (disch := omega) only [zLT, zI]) ?_
    refine zW_ob (z_sortOf hg hc hf hi) ?_
    rw [l2, Bool.true_and]
    have hs := zso_n l3
    by_cases h110 : n = 110
    · refine zW_t (by rw [hs.1.mpr h110]; rfl) ?_
      rw [if_pos h110]
      by_cases hge : ix (g (zwa w + 2)) = v / 8 % 3
      · refine zW_t (by rw [b3, w4, hge]) ?_
        have e1 : (ix (g (zwa w + 2)) == v / 8 % 3) = true := by rw [beq_iff_eq]; exact hge
        rw [e1, Bool.true_and]
        by_cases hk : ix (g (zwa w)) = 3
        · refine zW_t (by rw [b1, w0, hk]; rfl) ?_
          have e2 : (ix (g (zwa w)) != 3) = false := by simp [hk]
          rw [e2, Bool.false_or]
          by_cases hz : v / 4 % 2 = 0
          · refine zW_t (by rw [hz]; rfl) (zW_so ?_)
            have e3 : (v / 4 % 2 == 0) = true := by rw [beq_iff_eq]; exact hz
            rw [e3]
            rfl
          · refine zW_f (by simp (disch := omega) only [zLT, zC]; exact hz) (zW_so ?_)
            have e3 : (v / 4 % 2 == 0) = false := by simp [hz]
            rw [e3]
            rfl
        · refine zW_f (by rw [b1, w0]; simp (disch := omega) only [zLT, zC]; exact hk) (zW_so ?_)
          have e2 : (ix (g (zwa w)) != 3) = true := by simp [hk]
          rw [e2, Bool.true_or]
          rfl
      · refine zW_f (by rw [b3, w4]; simp (disch := omega) only [zC]; exact hge) (zW_so ?_)
        have e1 : (ix (g (zwa w + 2)) == v / 8 % 3) = false := by simp [hge]
        rw [e1, Bool.false_and]
        rfl
    · refine zW_f (by simp (disch := omega) only [zLT, zC]; exact fun q => h110 (hs.1.mp q)) (zW_so ?_)
      rw [if_neg h110]
      rfl
def zFw (σ τ : Mem) : Prop := ∀ x c, x ≠ 360 → x ≠ 361 → x ≠ 364 → τ x c = σ x c
theorem zFw_t {σ τ υ : Mem} (h : zFw σ τ) (h2 : zFw τ υ) : zFw σ υ := fun x c p q r => by rw [h2 x c p q r, h x c p q r]
theorem zFw_r (σ : Mem) : zFw σ σ := fun _ _ _ _ _ => rfl
theorem zCB_w {σ τ : Mem} {g : Nat → Int32} (hg : zBG g) (h : zCB σ 3 g) (e : zFw σ τ) : zCB τ 3 g := zCB_co hg h (fun a k p q => e a k (by omega) (by omega) (by omega))
theorem zNG_w {σ τ : Mem} (h : zNG σ) (e : zFw σ τ) : zNG τ := zNG_co h (fun a k p q _ => e a k (by omega) (by omega) (by omega)) (fun a k p q => e a k (by omega) (by omega) (by omega))
theorem zSP_w {σ τ : Mem} {l : List Nat} (h : zSP σ l) (e : zFw σ τ) : zSP τ l := ⟨by rw [e _ _ (by omega) (by omega) (by omega)]; exact h.1, fun k k1 k2 => by rw [e _ _ (by omega) (by omega) (by omega), e _ _ (by omega) (by omega) (by omega)]; exact h.2 k k1 k2⟩
theorem zL_w {σ τ : Mem} {i : Nat} {l : List Nat} (hi : i + 1 < 359) (h : zL σ i l) (e : zFw σ τ) : zL τ i l := zL_cb h (fun a k p q => e a k (by omega) (by omega) (by omega))
/-- what the reader needs: book, line, split -/
def zRd (σ : Mem) (g : Nat → Int32) (i : Nat) (l : List Nat) : Prop := zBG g ∧ zCB σ 3 g ∧ zNG σ ∧ zL σ i l ∧ i + 1 < 359 ∧ ln (i + 1) ≤ 80 ∧ l.length ≤ ln (i + 1) ∧ zSP σ l
theorem zRd_w {σ τ : Mem} {g : Nat → Int32} {i : Nat} {l : List Nat} (h : zRd σ g i l) (e : zFw σ τ) : zRd τ g i l := ⟨h.1, zCB_w h.1 h.2.1 e, zNG_w h.2.2.1 e, zL_w h.2.2.2.2.1 h.2.2.2.1 e, h.2.2.2.2.1, h.2.2.2.2.2.1, h.2.2.2.2.2.2.1, zSP_w h.2.2.2.2.2.2.2 e⟩
def zlk (g : Nat → Int32) (l : List Nat) (f i n d m w : Nat) : Bool := decide (zfh g f i n d m w = zwd l i)
theorem z_waysOfHole {σ : Mem} {g : Nat → Int32} {l : List Nat} {i1 f i n d m : Nat} (h : zRd σ g i1 l) (hf : f < znF g) (hi : i < znH g f) (hil : i < (zps l).length) (hn : n < 2) (hd : d < 3) (hm : m < 4) :
    ∃ τ, fX6_waysOfHole σ 359 3 i1 (142 + 6 * f) (nI i) (nI (24 * m + 8 * d + 4 * n)) = some (nI (zct (fun w => zfit g f i n d w && zlk g l f i n d m w) (znW g)), τ) ∧ zFw σ τ := by
  have hg := h.1
  have hc := h.2.1
  have hN := h.2.2.1
  have hW : znW g ≤ 20 := hg.1.2
  have hFm := hg.2.2.2.2.1 f hf
  have h6 : znH g f ≤ 6 := hFm.1.2
  obtain ⟨c1, c2, c3⟩ := zca_h hFm hi
  have key : zW (fX6_waysOfHole σ 359 3 i1 (142 + 6 * f) (nI i) (nI (24 * m + 8 * d + 4 * n))) (fun r => ∃ τ, r = (nI (zct (fun w => zfit g f i n d w && zlk g l f i n d m w) (znW g)), τ) ∧ zFw σ τ) := by
    unfold fX6_waysOfHole
    refine zW_ob (z_caseOf hg hc hf hi) ?_
    refine zW_bv (nI (24 * m + 8 * d + 4 * n + zca (g (zha f i + 2)))) (by rw [zLT.1, c2, nI_add]) ?_
    refine zW_lp (fun w t => ∃ τ, t = (nI w, nI (zct (fun w => zfit g f i n d w && zlk g l f i n d m w) w), τ) ∧ zFw σ τ) (znW g) ?_ (by unfold FU; omega) ⟨σ, rfl, zFw_r σ⟩
    rintro w t hw ⟨τ, rfl, t1⟩
    obtain ⟨-, hcτ, hNτ, hLτ, hi1, hl1, hl2, hsp⟩ := zRd_w h t1
    have e : τ 3 1 = nI (znW g) := hcτ.1.1.trans hg.1.1
    unfold sX6_waysOfHole_21
    dsimp only
    refine zW_if (fun h0 => ?_) (fun h0 => ?_)
    · rw [e] at h0
      simp (disch := omega) only [zC] at h0
      have : w = znW g := by omega
      subst this
      exact zW_oR (zW_so ⟨τ, rfl, t1⟩)
    · rw [e] at h0
      simp (disch := omega) only [zC] at h0
      have hlt : w < znW g := by omega
      refine zW_ob (z_wordAt hg hcτ hlt) ?_
      rw [zE_ocss]
      refine zW_ob (z_fits (v := 24 * m + 8 * d + 4 * n) hg hcτ hNτ hf hi hlt (by omega)) ?_
      have ev1 : (24 * m + 8 * d + 4 * n) / 4 % 2 = n := by omega
      have ev2 : (24 * m + 8 * d + 4 * n) / 8 % 3 = d := by omega
      rw [ev1, ev2]
      cases hfi : zfit g f i n d w with
      | false =>
        refine zW_t rfl ?_
        refine zW_oL ⟨hlt, τ, ?_, t1⟩
        simp only [zct, hfi, Bool.false_and, Bool.false_eq_true, if_false, zLT, zI, Nat.add_zero]
      | true =>
        refine zW_f zn01 ?_
        obtain ⟨υ, u1, u2, u3⟩ := z_spell (o := 360) (v := 24 * m + 8 * d + 4 * n + zca (g (zha f i + 2))) hg hcτ hNτ hlt (by omega) (by omega) zl_c.2.2.2.2.2.2.2.2.2.2.2.2.1
        refine zW_ob u1 ?_
        have ea : (24 * m + 8 * d + 4 * n + zca (g (zha f i + 2))) % 4 = zca (g (zha f i + 2)) := by omega
        have eb : (24 * m + 8 * d + 4 * n + zca (g (zha f i + 2))) / 4 % 2 = n := by omega
        have ec : (24 * m + 8 * d + 4 * n + zca (g (zha f i + 2))) / 8 % 3 = d := by omega
        have ed : (24 * m + 8 * d + 4 * n + zca (g (zha f i + 2))) / 24 = m := by omega
        rw [ea, eb, ec, ed] at u2
        have t2 : zFw σ υ := zFw_t t1 (fun x c p q r => u3 x c p q)
        obtain ⟨-, hcυ, hNυ, hLυ, -, -, -, hspυ⟩ := zRd_w h t2
        have hok := zform_ok (d := d) hg hlt (show zca (g (zha f i + 2)) < 4 by omega) hn hm
        refine zW_ob (z_isSpelledAt hLυ rfl hl2 hl1 hspυ u2 hok.2.2 hil (by omega)) ?_
        by_cases hlk : zform g w (zca (g (zha f i + 2))) n d m = zwd l i
        · rw [if_pos hlk]
          have e4 : zlk g l f i n d m w = true := decide_eq_true hlk
          refine zW_f zn01 (zW_oL ⟨hlt, υ, ?_, t2⟩)
          simp only [zct, hfi, e4, Bool.true_and, if_true, zLT, zI]
        · rw [if_neg hlk]
          have e4 : zlk g l f i n d m w = false := decide_eq_false hlk
          refine zW_t rfl (zW_oL ⟨hlt, υ, ?_, t2⟩)
          simp only [zct, hfi, e4, Bool.true_and, Bool.false_eq_true, if_false, zLT, zI]
  obtain ⟨r, e, τ, rfl, q⟩ := key
  exact ⟨τ, e, q⟩
def zmn (p : Nat → Bool) (v : Nat → Nat) : Nat → Nat
  | 0 => 1000000
  | k + 1 => if p k then min (zmn p v k) (v k) else zmn p v k
theorem zmn_le (p : Nat → Bool) (v : Nat → Nat) (n : Nat) : zmn p v n ≤ 1000000 := by
  induction n with
  | zero => exact Nat.le_refl _
  | succ n ih => unfold zmn; split <;> omega
def zaa (g : Nat → Int32) (l : List Nat) (f i n d m w : Nat) : Nat := zap (zfh g f i n d m w) (zwd l i)
theorem zap_le (s w : List Nat) : zap s w ≤ s.length + w.length := zED_le _ _ _ _
theorem z_farHole {σ : Mem} {g : Nat → Int32} {l : List Nat} {i1 f i n d m : Nat} (h : zRd σ g i1 l) (hf : f < znF g) (hi : i < znH g f) (hil : i < (zps l).length) (hn : n < 2) (hd : d < 3) (hm : m < 4) :
    ∃ τ, fX6_farnessOfHole σ 359 3 i1 (142 + 6 * f) (nI i) (nI (24 * m + 8 * d + 4 * n)) = some (nI (zmn (zfit g f i n d) (zaa g l f i n d m) (znW g)), τ) ∧ zFw σ τ := by
  have hg := h.1
  have hc := h.2.1
  have hN := h.2.2.1
  have hW : znW g ≤ 20 := hg.1.2
  have hFm := hg.2.2.2.2.1 f hf
  have h6 : znH g f ≤ 6 := hFm.1.2
  obtain ⟨c1, c2, c3⟩ := zca_h hFm hi
  have key : zW (fX6_farnessOfHole σ 359 3 i1 (142 + 6 * f) (nI i) (nI (24 * m + 8 * d + 4 * n))) (fun r => ∃ τ, r = (nI (zmn (zfit g f i n d) (zaa g l f i n d m) (znW g)), τ) ∧ zFw σ τ) := by
    unfold fX6_farnessOfHole
    refine zW_ob (z_caseOf hg hc hf hi) ?_
    refine zW_bv (nI (24 * m + 8 * d + 4 * n + zca (g (zha f i + 2)))) (by rw [zLT.1, c2, nI_add]) ?_
    refine zW_lp (fun w t => ∃ τ, t = (nI w, nI (zmn (zfit g f i n d) (zaa g l f i n d m) w), τ) ∧ zFw σ τ) (znW g) ?_ (by unfold FU; omega) ⟨σ, rfl, zFw_r σ⟩
    rintro w t hw ⟨τ, rfl, t1⟩
    obtain ⟨-, hcτ, hNτ, hLτ, hi1, hl1, hl2, hsp⟩ := zRd_w h t1
    have e : τ 3 1 = nI (znW g) := hcτ.1.1.trans hg.1.1
    unfold sX6_farnessOfHole_22
    dsimp only
    refine zW_if (fun h0 => ?_) (fun h0 => ?_)
    · rw [e] at h0
      simp (disch := omega) only [zC] at h0
      have : w = znW g := by omega
      subst this
      exact zW_oR (zW_so ⟨τ, rfl, t1⟩)
    · rw [e] at h0
      simp (disch := omega) only [zC] at h0
      have hlt : w < znW g := by omega
      refine zW_ob (z_wordAt hg hcτ hlt) ?_
      rw [zE_ocss]
      refine zW_ob (z_fits (v := 24 * m + 8 * d + 4 * n) hg hcτ hNτ hf hi hlt (by omega)) ?_
      have ev1 : (24 * m + 8 * d + 4 * n) / 4 % 2 = n := by omega
      have ev2 : (24 * m + 8 * d + 4 * n) / 8 % 3 = d := by omega
      rw [ev1, ev2]
      cases hfi : zfit g f i n d w with
      | false =>
        refine zW_t rfl ?_
        refine zW_oL ⟨hlt, τ, ?_, t1⟩
        simp only [zmn, hfi, Bool.false_eq_true, if_false, zLT, zI]
      | true =>
        refine zW_f zn01 ?_
        obtain ⟨υ, u1, u2, u3⟩ := z_spell (o := 360) (v := 24 * m + 8 * d + 4 * n + zca (g (zha f i + 2))) hg hcτ hNτ hlt (by omega) (by omega) zl_c.2.2.2.2.2.2.2.2.2.2.2.2.1
        refine zW_ob u1 ?_
        have ea : (24 * m + 8 * d + 4 * n + zca (g (zha f i + 2))) % 4 = zca (g (zha f i + 2)) := by omega
        have eb : (24 * m + 8 * d + 4 * n + zca (g (zha f i + 2))) / 4 % 2 = n := by omega
        have ec : (24 * m + 8 * d + 4 * n + zca (g (zha f i + 2))) / 8 % 3 = d := by omega
        have ed : (24 * m + 8 * d + 4 * n + zca (g (zha f i + 2))) / 24 = m := by omega
        rw [ea, eb, ec, ed] at u2
        have t2 : zFw σ υ := zFw_t t1 (fun x c p q r => u3 x c p q)
        obtain ⟨-, hcυ, hNυ, hLυ, -, -, -, hspυ⟩ := zRd_w h t2
        have hok := zform_ok (d := d) hg hlt (show zca (g (zha f i + 2)) < 4 by omega) hn hm
        obtain ⟨ω, o1, o2⟩ := z_apartFrom hLυ hi1 rfl hl2 hl1 hspυ u2 hok.2.2 hil (by omega)
        refine zW_ob o1 ?_
        have a1 := zmn_le (zfit g f i n d) (zaa g l f i n d m) w
        have a2 := zap_le (zform g w (zca (g (zha f i + 2))) n d m) (zwd l i)
        have a3 := zwd_len hil
        have a4 := zps_ok hil
        refine zW_bv (nI (min (zmn (zfit g f i n d) (zaa g l f i n d m) w) (zap (zform g w (zca (g (zha f i + 2))) n d m) (zwd l i)))) (by simp (disch := omega) only [zI]) ?_
        refine zW_oL ⟨hlt, ω, ?_, zFw_t t2 (fun x c p q r => o2 x c r)⟩
        simp only [zmn, hfi, if_true, zLT, zI]
        rfl
  obtain ⟨r, e, τ, rfl, q⟩ := key
  exact ⟨τ, e, q⟩
