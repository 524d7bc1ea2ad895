def zR (σ : Mem) (l : List Nat) : Prop := σ 383 6 = nI l.length ∧ ∀ k, k < l.length → σ 387 k = nI (l.getD k 0)
def zFq (σ τ : Mem) : Prop := ∀ x c, ¬ (x = 383 ∧ c = 6) → x ≠ 387 → τ x c = σ x c
theorem zFq_t {σ τ υ : Mem} (h : zFq σ τ) (h2 : zFq τ υ) : zFq σ υ := fun x c p q => by rw [h2 x c p q, h x c p q]
theorem zFq_r (σ : Mem) : zFq σ σ := fun _ _ _ _ => rfl
theorem zMG_q {σ τ : Mem} {g : Nat → Int32} (h : zMG σ g) (e : zFq σ τ) : zMG τ g := fun k hk => by rw [e _ _ (by omega) (by omega)]; exact h k hk
theorem zR_put {σ : Mem} {a : List Nat} {b : Nat} (h : zR σ a) (ha : a.length < 80) : zR (mw (mw σ 387 a.length (nI b)) 383 6 (nI (a.length + 1))) (a ++ [b]) ∧ zFq σ (mw (mw σ 387 a.length (nI b)) 383 6 (nI (a.length + 1))) := by
  refine ⟨⟨?_, fun k hk => ?_⟩, fun x c p q => ?_⟩
  · simp only [zM, List.length_append, List.length_singleton]
  · simp only [List.length_append, List.length_singleton] at hk
    rw [zgd_app]
    by_cases hc : k < a.length
    · simp (disch := omega) only [zM, if_pos hc, h.2 k hc]
    · simp (disch := omega) only [zM, if_neg hc]
      rw [show k - a.length = 0 by omega]
      rfl
  · simp (disch := omega) only [zM]
theorem z_joinsE {σ : Mem} {a : List Nat} {b : Nat} {Q : Mem → Prop} (h : zR σ a) (ha : a.length < 80) (hq : ∀ τ, zR τ (a ++ [b]) → zFq σ τ → Q τ) :
    zW (grd (inb (σ 383 6) (ln (383 + 4))) (bnd (mw σ (383 + 4) (ix (σ 383 6)) (nI b)) (fun m2 => bnd (mw m2 383 6 ((m2 383 6) + (1 : Int32))) (fun m3 => some m3)))) Q := by
  obtain ⟨h1, h2⟩ := zR_put (b := b) h ha
  refine zW_gd (by rw [h.1]; exact zi_inb (by rw [zl_c.2.2.2.2.2.2.2.2.2.2.2.2.2.2.2.2.2.2.2.2.2.1]; omega) (by rw [zl_c.2.2.2.2.2.2.2.2.2.2.2.2.2.2.2.2.2.2.2.2.2.1]; omega)) ?_
  refine zW_so (hq _ ?_ ?_)
  · simp (disch := omega) only [zLT, h.1, zI, zM]
    exact h1
  · simp (disch := omega) only [zLT, h.1, zI, zM]
    exact h2
theorem z_joins {σ : Mem} {a : List Nat} {b f : Nat} (h : zR σ a) (ha : a.length < 80) (hb : b < 256) (hal : ∀ x, x ∈ a → x < 256) (hf : f < 2) :
    ∃ τ, fX12_joins σ 383 (nI b) (nI f) = some τ ∧ zR τ (if f = 1 then zjoin a [b] else a ++ [b]) ∧ zFq σ τ := by
  unfold fX12_joins
  refine zW_jn (fun y => ∃ a', zR y a' ∧ a'.length < 80 ∧ zFq σ y ∧ a' ++ [b] = (if f = 1 then zjoin a [b] else a ++ [b])) ?_ ?_
  · rintro y ⟨a', h1, h2, h3, h4⟩
    refine z_joinsE h1 h2 (fun τ p q => ⟨?_, zFq_t h3 q⟩)
    rw [← h4]
    exact p
  · intro k hk
    have g0 : ([b] : List Nat).getD 0 0 = b := rfl
    have no : (f = 1 → ¬ (zV (a.getD (a.length - 1) 0) = true ∧ zV b = true)) → zW (k σ) (fun τ => zR τ (if f = 1 then zjoin a [b] else a ++ [b]) ∧ zFq σ τ) := by
      intro hno
      refine hk σ ⟨a, h, ha, zFq_r σ, ?_⟩
      split
      · rename_i hf1
        unfold zjoin
        rw [if_neg]
        rw [Bool.and_eq_true, g0]
        exact hno hf1
      · rfl
    refine zW_if (fun h0 => ?_) (fun h0 => ?_)
    · simp (disch := omega) only [zLT, zC] at h0
      exact no (fun h1 => by omega)
    simp (disch := omega) only [zLT, zC] at h0
    have hf1 : f = 1 := by omega
    refine zW_if (fun h1 => ?_) (fun h1 => ?_)
    · simp (disch := omega) only [zLT, zC, h.1] at h1
      refine no (fun _ q => ?_)
      rw [List.eq_nil_of_length_eq_zero (by omega : a.length = 0)] at q
      exact absurd q.1 (by decide)
    simp (disch := omega) only [zLT, zC, h.1] at h1
    refine zW_ob (z_vowM (by omega)) ?_
    refine zW_if (fun h2 => ?_) (fun h2 => ?_)
    · refine no (fun _ q => ?_)
      rw [q.2] at h2
      exact zn01 h2
    have hv : zV b = true := by
      cases hv : zV b with
      | true => rfl
      | false => rw [hv] at h2; exact absurd rfl h2
    have g1 : a.getD (a.length - 1) 0 < 256 := by
      have hx : a.length - 1 < a.length := by omega
      have : a.getD (a.length - 1) 0 = a[a.length - 1] := by simp [List.getD_eq_getElem?_getD, List.getElem?_eq_getElem hx]
      rw [this]
      exact hal _ (List.getElem_mem hx)
    refine zW_gd (by simp (disch := omega) only [zLT, h.1, zI, Nat.reduceAdd, zl_c]) ?_
    refine zW_ob (x := if zV (a.getD (a.length - 1) 0) then nI 1 else nI 0) ?_ ?_
    · simp (disch := omega) only [zLT, h.1, zI, Nat.reduceAdd, h.2]
      exact z_vowM (by omega)
    refine zW_if (fun h3 => ?_) (fun h3 => ?_)
    · refine no (fun _ q => ?_)
      rw [q.1] at h3
      exact zn01 h3
    have hw : zV (a.getD (a.length - 1) 0) = true := by
      cases hv : zV (a.getD (a.length - 1) 0) with
      | true => rfl
      | false => rw [hv] at h3; exact absurd rfl h3
    refine zW_bv (mw σ 383 6 (nI (a.length - 1))) (by simp (disch := omega) only [zLT, h.1, zI]) ?_
    refine hk _ ⟨a.take (a.length - 1), ⟨?_, fun k hk => ?_⟩, by simp; omega, fun x c p q => by simp (disch := omega) only [zM], ?_⟩
    · simp only [zM, List.length_take]
      congr 1; omega
    · simp only [List.length_take] at hk
      rw [zgd_take, if_pos (by omega)]
      simp (disch := omega) only [zM]
      exact h.2 k (by omega)
    · rw [if_pos hf1]
      unfold zjoin
      rw [g0, hv, hw]
      rfl
theorem zjoin_nil (a : List Nat) : zjoin a [] = a := by
  unfold zjoin
  rw [if_neg]
  · simp
  · rw [Bool.and_eq_true]
    intro q
    exact absurd q.2 (by decide)
theorem ztake_succ {l : List Nat} {k : Nat} (hk : k < l.length) : l.take (k + 1) = l.take k ++ [l.getD k 0] := by
  rw [List.take_succ]
  simp [List.getD_eq_getElem?_getD, List.getElem?_eq_getElem hk]
theorem zjoin_take {a l : List Nat} {k : Nat} (hk : k < l.length) (h1 : 1 ≤ k) : zjoin a (l.take (k + 1)) = zjoin a (l.take k) ++ [l.getD k 0] := by
  have e : (l.take (k + 1)).getD 0 0 = (l.take k).getD 0 0 := by rw [zgd_take, zgd_take, if_pos (by omega), if_pos (by omega)]
  unfold zjoin
  rw [e, ztake_succ hk]
  split <;> simp
theorem zjoin_256 {a b : List Nat} (ha : ∀ x, x ∈ a → x < 256) (hb : ∀ x, x ∈ b → x < 256) : ∀ x, x ∈ zjoin a b → x < 256 := fun x h => (zjoin_mem h).elim (ha x) (hb x)
theorem zLs_256 {l : List Nat} (h : zLs l) : ∀ x, x ∈ l → x < 256 := fun x hx => by have := h x hx; omega
theorem z_ends {σ : Mem} {g : Nat → Int32} {e : Nat} {a : List Nat} (hM : zMG σ g) (hg : zBG g) (he : e < 32) (h : zR σ a) (ha : a.length ≤ 60) (hal : ∀ x, x ∈ a → x < 256) :
    ∃ τ, fX12_ends σ 383 (nI (zea e)) = some τ ∧ zR τ (zjoin a (zen g e)) ∧ zFq σ τ := by
  obtain ⟨⟨e0, e1⟩, e2⟩ := hg.2.2.2.1 e he
  have hl : (zen g e).length = ix (g (zea e)) := zen_len
  have hz : zea e = 214 + 4 * e := rfl
  have hls : zLs (zen g e) := ztx_ls e2
  unfold fX12_ends
  refine zW_lp (fun n s => s.1 = nI n ∧ n ≤ (zen g e).length ∧ zR s.2 (zjoin a ((zen g e).take n)) ∧ zFq σ s.2) (zen g e).length ?_ (by unfold FU; omega) ⟨rfl, Nat.zero_le _, by rw [List.take_zero, zjoin_nil]; exact h, zFq_r σ⟩
  rintro n ⟨x, τ⟩ hn ⟨hx, -, h1, h2⟩
  simp only at hx h1 h2
  subst hx
  have hMt := zMG_q hM h2
  unfold sX12_ends_2
  have k0 : τ 384 (zea e) = nI (zen g e).length := by rw [hMt _ (by omega), e0, hl]
  refine zW_gd (by simp (disch := omega) only [zI, Nat.reduceAdd, zl_c]) ?_
  refine zW_if (fun hc => ?_) (fun hc => ?_)
  · simp (disch := omega) only [zI, zC, Nat.reduceAdd, k0] at hc
    have : n = (zen g e).length := by omega
    subst this
    rw [List.take_length] at h1
    exact zW_oR (zW_so ⟨h1, h2⟩)
  · simp (disch := omega) only [zI, zC, Nat.reduceAdd, k0] at hc
    have hc' : n < (zen g e).length := by omega
    have hv : τ 384 (zea e + 1 + n) = nI ((zen g e).getD n 0) := by
      rw [hMt _ (by omega)]
      unfold zen
      rw [ztx_get (by omega)]
      exact (e2 n (by omega)).1
    have hb : (zen g e).getD n 0 < 256 := by
      unfold zen
      rw [ztx_get (by omega)]
      have := (e2 n (by omega)).2
      omega
    have tl := zjoin_le a ((zen g e).take n)
    simp only [List.length_take] at tl
    refine zW_gd (by simp (disch := omega) only [zLT, zI, Nat.reduceAdd, zl_c]) ?_
    refine zW_jn (fun y => y = nI (if n = 0 then 1 else 0)) ?_ ?_
    · rintro y rfl
      have hvx : τ (383 + 1) (ix (nI (zea e) + 1 + nI n)) = nI ((zen g e).getD n 0) := by
        simp (disch := omega) only [zLT, zI, Nat.reduceAdd]
        exact hv
      dsimp only
      rw [hvx]
      obtain ⟨υ, q1, q2, q3⟩ := z_joins (b := (zen g e).getD n 0) (f := if n = 0 then 1 else 0) h1 (by omega) hb (zjoin_256 hal (fun x hx => zLs_256 hls x (List.mem_of_mem_take hx))) (by split <;> omega)
      refine zW_ob q1 (zW_oL ⟨hc', ?_, hc', ?_, zFq_t h2 q3⟩)
      · simp only [zLT, zI]
      · have : zjoin a ((zen g e).take (n + 1)) = if (if n = 0 then 1 else 0) = 1 then zjoin (zjoin a ((zen g e).take n)) [(zen g e).getD n 0] else zjoin a ((zen g e).take n) ++ [(zen g e).getD n 0] := by
          by_cases hn0 : n = 0
          · subst hn0
            rw [if_pos rfl, if_pos rfl, List.take_zero, zjoin_nil, ztake_succ hc']
            rfl
          · rw [if_neg hn0, if_neg (by omega)]
            exact zjoin_take hc' (by omega)
        rw [this]
        exact q2
    · intro k hk
      refine zW_if (fun h0 => ?_) (fun h0 => ?_)
      · simp (disch := omega) only [zLT, zC] at h0
        exact hk _ (by rw [if_pos h0]; rfl)
      · simp (disch := omega) only [zLT, zC] at h0
        exact hk _ (by rw [if_neg h0]; rfl)
theorem z_endAt {σ : Mem} {a b c : Nat} (ha : a < 4) (hb : b < 4) (hc : c < 2) : fX12_endAt σ (nI a) (nI b) (nI c) = some (nI (zea (2 * (4 * a + b) + c))) := by
  unfold fX12_endAt
  simp only [zLT, zI]
theorem z_stemLoop {σ : Mem} {g : Nat → Int32} {w : Nat} (hM : zMG σ g) (hg : zBG g) (hw : w < znW g) {p2 p3 p4 p5 x2 : Int32} {Q : Mem → Prop}
    (hq : ∀ τ, zR τ (zst g w) → zFq σ τ → zW (sX12_forms_26 383 p2 p3 p4 p5 (nI (zwa w)) x2 (nI (zst g w).length, τ)) (zS (fun _ => False) Q)) :
    zW (lp (sX12_forms_26 383 p2 p3 p4 p5 (nI (zwa w)) x2) FU (nI 0, mw σ 383 6 (nI 0))) Q := by
  have hw20 : w < 20 := Nat.lt_of_lt_of_le hw hg.1.2
  have hz : zwa w = 14 + 10 * w := rfl
  obtain ⟨-, -, -, ⟨w6, w7⟩, w8, w9⟩ := hg.2.2.1 w hw
  have hl : (zst g w).length = ix (g (zwa w + 3)) := zst_len
  have hls : zLs (zst g w) := ztx_ls w9
  refine zW_lp (fun n s => s.1 = nI n ∧ n ≤ (zst g w).length ∧ zR s.2 ((zst g w).take n) ∧ zFq σ s.2) (zst g w).length ?_ (by unfold FU; omega) ⟨rfl, Nat.zero_le _, ⟨by simp (disch := omega) only [zM]; rfl, fun k hk => by simp at hk⟩, fun x c p q => by simp (disch := omega) only [zM]⟩
  rintro n ⟨x, τ⟩ hn ⟨hx, -, h1, h2⟩
  simp only at hx h1 h2
  subst hx
  by_cases hc' : n < (zst g w).length
  · have hMt := zMG_q hM h2
    have k0 : τ 384 (zwa w + 3) = nI (zst g w).length := by rw [hMt _ (by omega), w6, hl]
    have hv : τ 384 (zwa w + 4 + n) = nI ((zst g w).getD n 0) := by
      rw [hMt _ (by omega)]
      unfold zst
      rw [ztx_get (by omega)]
      exact (w9 n (by omega)).1
    have hb : (zst g w).getD n 0 < 256 := by
      unfold zst
      rw [ztx_get (by omega)]
      have := (w9 n (by omega)).2
      omega
    have tl : ((zst g w).take n).length = n := by simp; omega
    unfold sX12_forms_26
    refine zW_gd (by simp (disch := omega) only [zLT, zI, Nat.reduceAdd, zl_c]) ?_
    refine zW_if (fun hc => ?_) (fun hc => ?_)
    · simp (disch := omega) only [zLT, zI, zC, Nat.reduceAdd, k0] at hc
      omega
    · refine zW_gd (by simp (disch := omega) only [zLT, zI, Nat.reduceAdd, zl_c]) ?_
      obtain ⟨υ, q1, q2, q3⟩ := z_joins (b := (zst g w).getD n 0) (f := 0) h1 (by omega) hb (fun x hx => zLs_256 hls x (List.mem_of_mem_take hx)) (by omega)
      have e : fX12_joins τ 383 (τ (383 + 1) (ix (nI (zwa w) + 4 + nI n))) 0 = some υ := by
        simp (disch := omega) only [zLT, zI, Nat.reduceAdd, hv]
        exact q1
      refine zW_ob e (zW_oL ⟨hc', ?_, hc', ?_, zFq_t h2 q3⟩)
      · simp only [zLT, zI]
      · rw [ztake_succ hc']
        exact q2
  · have : n = (zst g w).length := by omega
    subst this
    rw [List.take_length] at h1
    exact zW_mono (hq τ h1 h2) (fun r hr => by
      cases r with
      | inl a => exact hr.elim
      | inr b => exact hr)
theorem z_forms {σ : Mem} {g : Nat → Int32} {w c n d m : Nat} (hM : zMG σ g) (hg : zBG g) (hw : w < znW g) (hc : c < 4) (hn : n < 2) (hd : d < 3) (hm : m < 4) :
    ∃ τ, fX12_forms σ 383 (nI w) (nI c) (nI n) (nI d) (nI m) = some τ ∧ zR τ (zform g w c n d m) ∧ zFq σ τ := by
  have hw20 : w < 20 := Nat.lt_of_lt_of_le hw hg.1.2
  have hz : zwa w = 14 + 10 * w := rfl
  obtain ⟨⟨w0, w1⟩, ⟨w2, w3⟩, ⟨w4, w5⟩, ⟨w6, w7⟩, w8, w9⟩ := hg.2.2.1 w hw
  have hl : (zst g w).length = ix (g (zwa w + 3)) := zst_len
  have hls : zLs (zst g w) := ztx_ls w9
  have hok := fun c n d m (hc : c < 4) (hn : n < 2) (hm : m < 4) => zform_ok (c := c) (n := n) (d := d) (m := m) hg hw hc hn hm
  unfold zform
  have k2 : σ 384 (zwa w) = nI (ix (g (zwa w))) := (hM _ (by omega)).trans w0
  generalize hkd : ix (g (zwa w)) = kd at *
  generalize htb : ix (g (zwa w + 1)) = tb at *
  unfold fX12_forms
  refine zW_bv (nI (zwa w)) (by simp (disch := omega) only [zLT, zI, hz]) ?_
  refine zW_gd (by simp (disch := omega) only [zLT, zI, Nat.reduceAdd, zl_c]) ?_
  refine zW_bv (nI kd) (by simp (disch := omega) only [zLT, zI, Nat.reduceAdd, k2]) ?_
  refine zW_bv (mw σ 383 6 (nI 0)) rfl ?_
  refine z_stemLoop hM hg hw (fun τ r1 f1 => ?_)
  have hMt := zMG_q hM f1
  have k0 : τ 384 (zwa w + 3) = nI (zst g w).length := by rw [hMt _ (by omega), w6, hl]
  unfold sX12_forms_26
  refine zW_gd (by simp (disch := omega) only [zLT, zI, Nat.reduceAdd, zl_c]) ?_
  refine zW_t (by simp (disch := omega) only [zLT, zI, zC, Nat.reduceAdd, k0]; omega) ?_
  refine zW_oR ?_
  let ro := if kd = 2 ∨ kd = 5 then m else c
  let nu := if kd = 3 then 0 else n
  have hro : ro < 4 := by show (if kd = 2 ∨ kd = 5 then m else c) < 4; split <;> omega
  have hnu : nu < 2 := by show (if kd = 3 then 0 else n) < 2; split <;> omega
  let ee := zjoin (zst g w) (zen g (2 * (4 * tb + ro) + nu))
  have hen : ∀ e, e < 32 → zLs (zen g e) ∧ (zen g e).length ≤ 3 := fun e he => ⟨ztx_ls (hg.2.2.2.1 e he).2, by rw [zen_len]; exact (hg.2.2.2.1 e he).1.2⟩
  obtain ⟨n1, n2⟩ := hen (2 * (4 * tb + ro) + nu) (by omega)
  have j1 : ee.length ≤ _ := zjoin_le (zst g w) (zen g (2 * (4 * tb + ro) + nu))
  have j2 : 1 ≤ ee.length := zjoin_pos (b := zen g (2 * (4 * tb + ro) + nu)) (show 1 ≤ (zst g w).length by omega)
  have j3 : ∀ x, x ∈ ee → x < 256 := zjoin_256 (zLs_256 hls) (zLs_256 n1)
  have tE : ∀ (υ : Mem), zMG υ g → υ 384 (zwa w + 1) = nI tb := fun υ h => (h _ (by omega)).trans w2
  -- an ending that is put behind the stem
  have app : ∀ (rr nn : Nat) (Q' : Mem → Prop) (k : Mem → Option Mem) (υ : Mem), rr < 4 → nn < 2 → zR υ (zst g w) → zFq σ υ → (∀ y, zR y (zjoin (zst g w) (zen g (2 * (4 * tb + rr) + nn))) → zFq σ y → zW (k y) Q') →
      zW (grd (inb (nI (zwa w) + (1 : Int32)) (ln (383 + 1))) (obd (fX12_endAt υ (υ (383 + 1) (ix (nI (zwa w) + (1 : Int32)))) (nI rr) (nI nn)) (fun q33 => obd (fX12_ends υ 383 q33) (fun q35 => k q35)))) Q' := by
    intro rr nn Q' k υ h1 h2 h3 h4 hk
    refine zW_gd (by simp (disch := omega) only [zLT, zI, Nat.reduceAdd, zl_c]) ?_
    have hMu := zMG_q hM h4
    refine zW_ob (x := nI (zea (2 * (4 * tb + rr) + nn))) ?_ ?_
    · simp (disch := omega) only [zLT, zI, Nat.reduceAdd, tE υ hMu]
      exact z_endAt (by omega) h1 h2
    obtain ⟨ω, q1, q2, q3⟩ := z_ends (e := 2 * (4 * tb + rr) + nn) hMu hg (by omega) h3 (by omega) (zLs_256 hls)
    exact zW_ob q1 (hk ω q2 (zFq_t h4 q3))
  have fin : ∀ x y : Nat, x < 2 ^ 31 → y < 2 ^ 31 → ((nI x = nI y) ↔ x = y) := fun x y h1 h2 => nI_eq h1 h2
  have kds : kd = 0 ∨ kd = 1 ∨ kd = 2 ∨ kd = 3 ∨ kd = 4 ∨ kd = 5 := by omega
  refine zW_jn (fun y => zFq σ y ∧ zR y (if kd = 1 ∨ kd = 4 then ee else zst g w)) ?_ ?_
  · rintro y6 ⟨y61, y62⟩
    refine zW_jn (fun y => zFq σ y ∧ zR y (if kd = 1 ∨ kd = 4 ∨ kd = 3 then ee else zst g w)) ?_ ?_
    · rintro y7 ⟨y71, y72⟩
      refine zW_jn (fun y => zFq σ y ∧ zR y (if kd = 0 then zst g w else ee)) ?_ ?_
      · rintro y8 ⟨y81, y82⟩
        refine zW_jn (fun y => zFq σ y ∧ zR y (if kd = 0 then zst g w else if kd = 4 then zjoin ee (zge d) else ee)) ?_ ?_
        · rintro y9 ⟨y91, y92⟩
          refine zW_if (fun h5 => ?_) (fun h5 => ?_)
          · simp (disch := omega) only [zLT, zC] at h5
            subst h5
            refine zW_if (fun h6 => ?_) (fun h6 => ?_)
            · simp (disch := omega) only [zLT, zC] at h6
              refine zW_so ⟨?_, y91⟩
              subst h6
              exact y92
            · simp (disch := omega) only [zLT, zC] at h6
              have y92' : zR y9 ee := y92
              have g1 : ee.getD (ee.length - 1) 0 < 256 := by
                have hx : ee.length - 1 < ee.length := by omega
                have : ee.getD (ee.length - 1) 0 = ee[ee.length - 1] := by simp [List.getD_eq_getElem?_getD, List.getElem?_eq_getElem hx]
                rw [this]
                exact j3 _ (List.getElem_mem hx)
              refine zW_gd (by simp (disch := omega) only [zLT, y92'.1, zI, Nat.reduceAdd, zl_c]) ?_
              obtain ⟨υ, q1, q2, q3⟩ := z_joins (b := ee.getD (ee.length - 1) 0) (f := 0) y92' (by omega) g1 j3 (by omega)
              have e : fX12_joins y9 383 (y9 (383 + 4) (ix (y9 383 6 - 1))) 0 = some υ := by
                simp (disch := omega) only [zLT, y92'.1, zI, Nat.reduceAdd, y92'.2]
                exact q1
              refine zW_ob e (zW_so ⟨?_, zFq_t y91 q3⟩)
              rw [if_neg (by omega)]
              unfold zfin
              rw [if_neg (by omega), if_pos ⟨rfl, h6⟩]
              exact q2
          · simp (disch := omega) only [zLT, zC] at h5
            refine zW_so ⟨?_, y91⟩
            unfold zfin
            rcases kds with q | q | q | q | q | q <;> first | (exact absurd q h5) | (subst q; exact y92)
        · intro k hk
          refine zW_if (fun h4 => ?_) (fun h4 => ?_)
          · simp (disch := omega) only [zLT, zC] at h4
            subst h4
            have y82' : zR y8 ee := y82
            refine zW_jn (fun y => y = nI (if d = 0 then 111 else if d = 1 then 97 else 101)) ?_ ?_
            · rintro y rfl
              obtain ⟨υ, q1, q2, q3⟩ := z_joins (b := if d = 0 then 111 else if d = 1 then 97 else 101) (f := 1) y82' (by omega) (by split <;> (try split) <;> omega) j3 (by omega)
              exact zW_ob q1 (hk υ ⟨zFq_t y81 q3, q2⟩)
            · intro k' hk'
              refine zW_if (fun h6 => ?_) (fun h6 => ?_)
              · simp (disch := omega) only [zLT, zC] at h6
                exact hk' _ (by rw [if_pos h6]; rfl)
              · simp (disch := omega) only [zLT, zC] at h6
                refine zW_if (fun h7 => ?_) (fun h7 => ?_)
                · simp (disch := omega) only [zLT, zC] at h7
                  exact hk' _ (by rw [if_neg h6, if_pos h7]; rfl)
                · simp (disch := omega) only [zLT, zC] at h7
                  exact hk' _ (by rw [if_neg h6, if_neg h7]; rfl)
          · simp (disch := omega) only [zLT, zC] at h4
            refine hk y8 ⟨y81, ?_⟩
            rw [if_neg h4]
            exact y82
      · intro k hk
        refine zW_jn (fun _ => kd = 2 ∨ kd = 5) ?_ ?_
        · rintro - hkd2
          have e1 : (if kd = 1 ∨ kd = 4 ∨ kd = 3 then ee else zst g w) = zst g w := by rw [if_neg (by omega)]
          rw [e1] at y72
          refine app m n _ k y7 hm hn y72 y71 (fun y p q => hk y ⟨q, ?_⟩)
          rw [if_neg (by omega)]
          show zR y (zjoin (zst g w) (zen g (2 * (4 * tb + (if kd = 2 ∨ kd = 5 then m else c)) + (if kd = 3 then 0 else n))))
          rw [if_pos hkd2, if_neg (by omega)]
          exact p
        · intro k' hk'
          refine zW_if (fun h6 => ?_) (fun h6 => ?_)
          · simp (disch := omega) only [zLT, zC] at h6
            exact hk' () (Or.inl h6)
          · simp (disch := omega) only [zLT, zC] at h6
            refine zW_if (fun h7 => ?_) (fun h7 => ?_)
            · simp (disch := omega) only [zLT, zC] at h7
              exact hk' () (Or.inr h7)
            · simp (disch := omega) only [zLT, zC] at h7
              refine hk y7 ⟨y71, ?_⟩
              rcases kds with q | q | q | q | q | q <;> first | (exact absurd q h6) | (exact absurd q h7) | (subst q; exact y72)
    · intro k hk
      refine zW_if (fun h3 => ?_) (fun h3 => ?_)
      · simp (disch := omega) only [zLT, zC] at h3
        have e1 : (if kd = 1 ∨ kd = 4 then ee else zst g w) = zst g w := by rw [if_neg (by omega)]
        rw [e1] at y62
        refine app c 0 _ k y6 hc (by omega) y62 y61 (fun y p q => hk y ⟨q, ?_⟩)
        rw [if_pos (by omega)]
        show zR y (zjoin (zst g w) (zen g (2 * (4 * tb + (if kd = 2 ∨ kd = 5 then m else c)) + (if kd = 3 then 0 else n))))
        rw [if_neg (by omega), if_pos h3]
        exact p
      · simp (disch := omega) only [zLT, zC] at h3
        refine hk y6 ⟨y61, ?_⟩
        rcases kds with q | q | q | q | q | q <;> first | (exact absurd q h3) | (subst q; exact y62)
  · intro k hk
    refine zW_jn (fun _ => kd = 1 ∨ kd = 4) ?_ ?_
    · rintro - hkd2
      refine app c n _ k τ hc hn r1 f1 (fun y p q => hk y ⟨q, ?_⟩)
      rw [if_pos hkd2]
      show zR y (zjoin (zst g w) (zen g (2 * (4 * tb + (if kd = 2 ∨ kd = 5 then m else c)) + (if kd = 3 then 0 else n))))
      rw [if_neg (by omega), if_neg (by omega)]
      exact p
    · intro k' hk'
      refine zW_if (fun h6 => ?_) (fun h6 => ?_)
      · simp (disch := omega) only [zLT, zC] at h6
        exact hk' () (Or.inl h6)
      · simp (disch := omega) only [zLT, zC] at h6
        refine zW_if (fun h7 => ?_) (fun h7 => ?_)
        · simp (disch := omega) only [zLT, zC] at h7
          exact hk' () (Or.inr h7)
        · simp (disch := omega) only [zLT, zC] at h7
          refine hk τ ⟨f1, ?_⟩
          rw [if_neg (by omega)]
          exact r1
