def zFa (σ τ : Mem) : Prop := ∀ x c, ¬ (x = 383 ∧ c = 6) → x ≠ 387 → x ≠ 392 → x ≠ 393 → τ x c = σ x c
theorem zFa_t {σ τ υ : Mem} (h : zFa σ τ) (h2 : zFa τ υ) : zFa σ υ := fun x c p q r s => by rw [h2 x c p q r s, h x c p q r s]
theorem zFa_r (σ : Mem) : zFa σ σ := fun _ _ _ _ _ _ => rfl
theorem zFa_q {σ τ : Mem} (h : zFq σ τ) : zFa σ τ := fun x c p q _ _ => h x c p q
theorem zMG_a {σ τ : Mem} {g : Nat → Int32} (h : zMG σ g) (e : zFa σ τ) : zMG τ g := fun k hk => by rw [e _ _ (by omega) (by omega) (by omega) (by omega)]; exact h k hk
theorem zMP_a {σ τ : Mem} {l : List Nat} (h : zMP σ l) (e : zFa σ τ) : zMP τ l :=
  ⟨⟨by rw [e _ _ (by omega) (by omega) (by omega) (by omega)]; exact h.1.1, fun k hk => by rw [e _ _ (by omega) (by omega) (by omega) (by omega)]; exact h.1.2 k hk⟩, by rw [e _ _ (by omega) (by omega) (by omega) (by omega)]; exact h.2.1, fun k hk => by rw [e _ _ (by omega) (by omega) (by omega) (by omega), e _ _ (by omega) (by omega) (by omega) (by omega)]; exact h.2.2 k hk⟩
/-- what the model's counting needs -/
def zRm (σ : Mem) (g : Nat → Int32) (l : List Nat) : Prop := zBG g ∧ zMG σ g ∧ zMP σ l ∧ l.length ≤ 70 ∧ ∀ k, k < l.length → l.getD k 0 < 256
theorem zRm_a {σ τ : Mem} {g : Nat → Int32} {l : List Nat} (h : zRm σ g l) (e : zFa σ τ) : zRm τ g l := ⟨h.1, zMG_a h.2.1 e, zMP_a h.2.2.1 e, h.2.2.2⟩
theorem z_atHole {σ : Mem} {g : Nat → Int32} {l : List Nat} {f i n d m : Nat} (h : zRm σ g l) (hf : f < znF g) (hi : i < znH g f) (hil : i < (zps l).length) (hn : n < 2) (hd : d < 3) (hm : m < 4) :
    ∃ τ, fX12_atHole σ 383 (nI f) (nI i) (nI n) (nI d) (nI m) (nI 0) = some (nI (zct (fun w => zcan g f i w && zlk g l f i n d m w) (znW g)), τ) ∧ zFa σ τ := by
  have hg := h.1
  have hW : znW g ≤ 20 := hg.1.2
  have f5 : f < 5 := Nat.lt_of_lt_of_le hf hg.2.1.2
  have hFm := hg.2.2.2.2.1 f hf
  have h6 : znH g f ≤ 6 := hFm.1.2
  obtain ⟨c1, c2, c3⟩ := zca_h hFm hi
  have key : zW (fX12_atHole σ 383 (nI f) (nI i) (nI n) (nI d) (nI m) (nI 0)) (fun r => ∃ τ, r = (nI (zct (fun w => zcan g f i w && zlk g l f i n d m w) (znW g)), τ) ∧ zFa σ τ) := by
    unfold fX12_atHole
    refine zW_jn (fun y => y = nI 0) ?_ (fun k hk => zW_t rfl (hk _ rfl))
    rintro y rfl
    refine zW_lp (fun w t => ∃ τ, t = (nI w, nI (zct (fun w => zcan g f i w && zlk g l f i n d m w) w), τ) ∧ zFa σ τ) (znW g) ?_ (by unfold FU; omega) ⟨σ, rfl, zFa_r σ⟩
    rintro w t hw ⟨τ, rfl, t1⟩
    have hM := zMG_a h.2.1 t1
    have e : τ (383 + 1) (ix 0) = nI (znW g) := by simp (disch := omega) only [zLT, Nat.reduceAdd, zI]; exact (hM 0 (by omega)).trans hg.1.1
    unfold sX12_atHole_16
    dsimp only
    refine zW_gd (by simp (disch := omega) only [zLT, Nat.reduceAdd, zl_c, zI]) ?_
    refine zW_if (fun h0 => ?_) (fun h0 => ?_)
    · rw [e] at h0
      simp (disch := omega) only [zC] at h0
      have : w = znW g := by omega
      subst this
      exact zW_oR (zW_so ⟨τ, rfl, t1⟩)
    · rw [e] at h0
      simp (disch := omega) only [zC] at h0
      have hlt : w < znW g := by omega
      refine zW_ob (z_canBe hg hM hf hi hlt) ?_
      cases hfi : zcan g f i w with
      | false =>
        refine zW_t rfl ?_
        refine zW_oL ⟨hlt, τ, ?_, t1⟩
        simp only [zct, hfi, Bool.false_and, Bool.false_eq_true, if_false, zLT, zI, Nat.add_zero]
      | true =>
        refine zW_f zn01 ?_
        refine zW_ob (z_ofHole (k := 2) hM f5 (by omega) (by omega)) ?_
        rw [zLT.1, c3]
        obtain ⟨υ, u1, u2, u3⟩ := z_forms hM hg hlt (show zca (g (zha f i + 2)) < 4 by omega) hn hd hm
        refine zW_ob u1 ?_
        have t2 : zFa σ υ := zFa_t t1 (zFa_q u3)
        have hok := zform_ok (d := d) hg hlt (show zca (g (zha f i + 2)) < 4 by omega) hn hm
        refine zW_t rfl ?_
        refine zW_ob (z_isLike (zMP_a h.2.2.1 t2) h.2.2.2.1 h.2.2.2.2 u2 hok.2.2 (zLs_256 hok.1) hil) ?_
        by_cases hlk : zform g w (zca (g (zha f i + 2))) n d m = zwd l i
        · rw [if_pos hlk]
          have e4 : zlk g l f i n d m w = true := decide_eq_true hlk
          refine zW_f zn01 (zW_oL ⟨hlt, υ, ?_, t2⟩)
          simp only [zct, hfi, e4, Bool.true_and, if_true, zLT, zI]
        · rw [if_neg hlk]
          have e4 : zlk g l f i n d m w = false := decide_eq_false hlk
          refine zW_t rfl (zW_oL ⟨hlt, υ, ?_, t2⟩)
          simp only [zct, hfi, e4, Bool.true_and, Bool.false_eq_true, if_false, zLT, zI, Nat.add_zero]
  obtain ⟨r, e, τ, rfl, q⟩ := key
  exact ⟨τ, e, q⟩
theorem z_atHoleN {σ : Mem} {g : Nat → Int32} {l : List Nat} {f i n d m : Nat} (h : zRm σ g l) (hf : f < znF g) (hi : i < znH g f) (hil : i < (zps l).length) (hn : n < 2) (hd : d < 3) (hm : m < 4) :
    ∃ τ, fX12_atHole σ 383 (nI f) (nI i) (nI n) (nI d) (nI m) (nI 1) = some (nI (zmn (zcan g f i) (zaa g l f i n d m) (znW g)), τ) ∧ zFa σ τ := by
  have hg := h.1
  have hW : znW g ≤ 20 := hg.1.2
  have f5 : f < 5 := Nat.lt_of_lt_of_le hf hg.2.1.2
  have hFm := hg.2.2.2.2.1 f hf
  have h6 : znH g f ≤ 6 := hFm.1.2
  obtain ⟨c1, c2, c3⟩ := zca_h hFm hi
  have key : zW (fX12_atHole σ 383 (nI f) (nI i) (nI n) (nI d) (nI m) (nI 1)) (fun r => ∃ τ, r = (nI (zmn (zcan g f i) (zaa g l f i n d m) (znW g)), τ) ∧ zFa σ τ) := by
    unfold fX12_atHole
    refine zW_jn (fun y => y = nI 1000000) ?_ (fun k hk => zW_f zn01 (hk _ rfl))
    rintro y rfl
    refine zW_lp (fun w t => ∃ τ, t = (nI w, nI (zmn (zcan g f i) (zaa g l f i n d m) w), τ) ∧ zFa σ τ) (znW g) ?_ (by unfold FU; omega) ⟨σ, rfl, zFa_r σ⟩
    rintro w t hw ⟨τ, rfl, t1⟩
    have hM := zMG_a h.2.1 t1
    have e : τ (383 + 1) (ix 0) = nI (znW g) := by simp (disch := omega) only [zLT, Nat.reduceAdd, zI]; exact (hM 0 (by omega)).trans hg.1.1
    unfold sX12_atHole_16
    dsimp only
    refine zW_gd (by simp (disch := omega) only [zLT, Nat.reduceAdd, zl_c, zI]) ?_
    refine zW_if (fun h0 => ?_) (fun h0 => ?_)
    · rw [e] at h0
      simp (disch := omega) only [zC] at h0
      have : w = znW g := by omega
      subst this
      exact zW_oR (zW_so ⟨τ, rfl, t1⟩)
    · rw [e] at h0
      simp (disch := omega) only [zC] at h0
      have hlt : w < znW g := by omega
      refine zW_ob (z_canBe hg hM hf hi hlt) ?_
      cases hfi : zcan g f i w with
      | false =>
        refine zW_t rfl ?_
        refine zW_oL ⟨hlt, τ, ?_, t1⟩
        simp only [zmn, hfi, Bool.false_eq_true, if_false, zLT, zI]
      | true =>
        refine zW_f zn01 ?_
        refine zW_ob (z_ofHole (k := 2) hM f5 (by omega) (by omega)) ?_
        rw [zLT.1, c3]
        obtain ⟨υ, u1, u2, u3⟩ := z_forms hM hg hlt (show zca (g (zha f i + 2)) < 4 by omega) hn hd hm
        refine zW_ob u1 ?_
        have t2 : zFa σ υ := zFa_t t1 (zFa_q u3)
        have hok := zform_ok (d := d) hg hlt (show zca (g (zha f i + 2)) < 4 by omega) hn hm
        refine zW_f zn01 ?_
        obtain ⟨ω, o1, o2⟩ := z_apart (zMP_a h.2.2.1 t2) h.2.2.2.1 h.2.2.2.2 u2 hok.2.2 (zLs_256 hok.1) hil
        refine zW_ob o1 ?_
        have a1 := zmn_le (zcan g f i) (zaa g l f i n d m) w
        have a2 := zap_le (zform g w (zca (g (zha f i + 2))) n d m) (zwd l i)
        have a3 := zwd_len hil
        have a4 := zps_ok hil
        have a5 := h.2.2.2.1
        refine zW_bv (nI (min (zmn (zcan g f i) (zaa g l f i n d m) w) (zap (zform g w (zca (g (zha f i + 2))) n d m) (zwd l i)))) (by simp (disch := omega) only [zI]) ?_
        refine zW_oL ⟨hlt, ω, ?_, zFa_t t2 (fun x c p q r s => o2 x c r s)⟩
        simp only [zmn, hfi, if_true, zLT, zI]
        rfl
  obtain ⟨r, e, τ, rfl, q⟩ := key
  exact ⟨τ, e, q⟩
