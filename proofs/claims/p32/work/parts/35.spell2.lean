theorem zjoin_pos {a b : List Nat} (h : 1 ≤ a.length) : 1 ≤ (zjoin a b).length := by
  unfold zjoin
  split
  · rename_i q
    rw [Bool.and_eq_true] at q
    have : 1 ≤ b.length := by
      rcases Nat.eq_zero_or_pos b.length with z | z
      · rw [List.eq_nil_of_length_eq_zero z] at q
        exact absurd q.2 (by decide)
      · exact z
    simp; omega
  · simp; omega
theorem zjoin_mem {a b : List Nat} {x : Nat} (h : x ∈ zjoin a b) : x ∈ a ∨ x ∈ b := by
  unfold zjoin at h
  split at h
  · exact (List.mem_append.mp h).imp List.mem_of_mem_take id
  · exact List.mem_append.mp h
def zLs (l : List Nat) : Prop := ∀ b, b ∈ l → 97 ≤ b ∧ b ≤ 122
theorem ztx_ls {g : Nat → Int32} {a n : Nat} (h : ∀ k, k < n → zlet (g (a + k))) : zLs (ztx g a n) := by
  intro b hb
  unfold ztx at hb
  obtain ⟨k, hk, e⟩ := List.mem_map.mp hb
  have := h k (List.mem_range.mp hk)
  rw [← e]
  exact this.2
theorem zform_ok {g : Nat → Int32} (hg : zBG g) {w c n d m : Nat} (hw : w < znW g) (hc : c < 4) (hn : n < 2) (hm : m < 4) : zLs (zform g w c n d m) ∧ 1 ≤ (zform g w c n d m).length ∧ (zform g w c n d m).length ≤ 10 := by
  obtain ⟨⟨w0, w1⟩, ⟨w2, w3⟩, ⟨w4, w5⟩, ⟨w6, w7⟩, w8, w9⟩ := hg.2.2.1 w hw
  have hst : zLs (zst g w) := ztx_ls w9
  have hsl : (zst g w).length = ix (g (zwa w + 3)) := zst_len
  have hE : ∀ e, e < 32 → zLs (zen g e) ∧ (zen g e).length ≤ 3 := fun e he => ⟨ztx_ls (hg.2.2.2.1 e he).2, by rw [zen_len]; exact (hg.2.2.2.1 e he).1.2⟩
  unfold zform
  split
  · exact ⟨hst, by omega, by omega⟩
  · rename_i hk0
    obtain ⟨hen, hel⟩ := hE (2 * (4 * ix (g (zwa w + 1)) + (if ix (g (zwa w)) = 2 ∨ ix (g (zwa w)) = 5 then m else c)) + (if ix (g (zwa w)) = 3 then 0 else n)) (by split <;> split <;> omega)
    generalize he : zen g (2 * (4 * ix (g (zwa w + 1)) + (if ix (g (zwa w)) = 2 ∨ ix (g (zwa w)) = 5 then m else c)) + (if ix (g (zwa w)) = 3 then 0 else n)) = en at hen hel
    have j1 := zjoin_le (zst g w) en
    have j2 := zjoin_pos (b := en) (show 1 ≤ (zst g w).length by omega)
    have j3 : zLs (zjoin (zst g w) en) := fun b hb => (zjoin_mem hb).elim (hst b) (hen b)
    generalize zjoin (zst g w) en = e at j1 j2 j3
    unfold zfin
    split
    · have k1 := zjoin_le e (zge d)
      have k2 := zjoin_pos (b := zge d) j2
      have k4 : (zge d).length = 1 := rfl
      refine ⟨fun b hb => (zjoin_mem hb).elim (j3 b) (fun q => ?_), k2, by omega⟩
      unfold zge at q
      rw [List.mem_singleton] at q
      rw [q]
      split
      · omega
      · split <;> omega
    · split
      · refine ⟨fun b hb => ?_, by simp, by simp; omega⟩
        rcases List.mem_append.mp hb with q | q
        · exact j3 b q
        · rw [List.mem_singleton] at q
          rw [q]
          have hx : e.length - 1 < e.length := by omega
          have : e.getD (e.length - 1) 0 = e[e.length - 1] := by simp [List.getD_eq_getElem?_getD, List.getElem?_eq_getElem hx]
          rw [this]
          exact j3 _ (List.getElem_mem hx)
      · exact ⟨j3, j2, by omega⟩
/-- what a modal word's end is, where mood isn't 0 -/
theorem z_modal {σ : Mem} {i o kd m : Nat} {e : List Nat} {Q : Mem → Prop} (hr : ln (o + 1) = 10) (hk : σ i 2 = nI kd) (hkd : kd ≤ 5) (hm : m < 4) (he : zL σ o e) (hl : 1 ≤ e.length) (hl9 : e.length ≤ 9 ∨ (kd ≠ 5 ∧ e.length ≤ 10))
    (hq : ∀ τ, zL τ o (if kd = 5 ∧ m ≠ 0 then e ++ [e.getD (e.length - 1) 0] else e) → (∀ x c, x ≠ o → x ≠ o + 1 → τ x c = σ x c) → Q τ) :
    zW (if (σ i 2) = (5 : Int32) then (if nI m = 0 then (some σ) else (obd (fX5_at σ o ((σ o 1) - (1 : Int32))) (fun q18 => obd (fX5_add σ o q18) (fun q20 => some q20)))) else (some σ)) Q := by
  rw [hk]
  refine zW_if (fun h => ?_) (fun h => ?_)
  · simp (disch := omega) only [zLT, zC] at h
    subst h
    refine zW_if (fun h => ?_) (fun h => ?_)
    · simp (disch := omega) only [zLT, zC] at h
      exact zW_so (hq σ (by rw [if_neg (by omega)]; exact he) (fun _ _ _ _ => rfl))
    · simp (disch := omega) only [zLT, zC] at h
      have g1 := zL_get he (k := e.length - 1) (by omega)
      obtain ⟨τ, e1, h1, h2⟩ := z_add (i := o) (R := 10) he hr (by omega) (by omega) g1
      refine zW_ob (x := nI (e.getD (e.length - 1) 0)) ?_ (zW_ob e1 (zW_so (hq τ (by rw [if_pos ⟨rfl, h⟩]; exact h1) h2)))
      simp (disch := omega) only [zLT, zI, he.1, z_at he hr, if_pos]
  · simp (disch := omega) only [zLT, zC] at h
    exact zW_so (hq σ (by rw [if_neg (fun r => h r.1)]; exact he) (fun _ _ _ _ => rfl))
theorem z_spell {σ : Mem} {g : Nat → Int32} {w v o : Nat} (hg : zBG g) (hc : zCB σ 3 g) (hn : zNG σ) (hw : w < znW g) (hb : v < 96) (ho : 341 ≤ o) (hr : ln (o + 1) = 10) :
    ∃ τ, fX0_spell σ 3 (12 + 3 * w) (nI v) o = some τ ∧ zL τ o (zform g w (v % 4) (v / 4 % 2) (v / 8 % 3) (v / 24)) ∧ ∀ x c, x ≠ o → x ≠ o + 1 → τ x c = σ x c := by
  have hw20 : w < 20 := Nat.lt_of_lt_of_le hw hg.1.2
  obtain ⟨⟨w0, w1⟩, ⟨w2, w3⟩, ⟨w4, w5⟩, ⟨w6, w7⟩, w8, w9⟩ := hg.2.2.1 w hw
  obtain ⟨b1, b2, b3, b4⟩ := hc.2.2.1 w hw
  rw [show 3 + 9 + 3 * w = 12 + 3 * w by omega] at b1 b2 b3 b4
  have hsl : (zst g w).length = ix (g (zwa w + 3)) := zst_len
  obtain ⟨τ1, e1, l1, f1⟩ := z_become (i := o) (j := 12 + 3 * w + 1) (R := 10) (S := 6) (by omega) hr (zl_b.1 _ (by omega) (by omega) (by omega)) (by omega) (by omega) b4 (by omega) (by omega)
  unfold zform
  generalize hkd : ix (g (zwa w)) = kd at *
  generalize htb : ix (g (zwa w + 1)) = tb at *
  have k1 : τ1 (12 + 3 * w) 2 = nI kd := by rw [f1 _ _ (by omega) (by omega), b1, w0]
  have t1 : τ1 (12 + 3 * w) 3 = nI tb := by rw [f1 _ _ (by omega) (by omega), b2, w2]
  have n1 : zNG τ1 := zNG_co hn (fun a k p q _ => f1 a k (by omega) (by omega)) (fun a k p q => f1 a k (by omega) (by omega))
  have c1 : zCB τ1 3 g := zCB_co hg hc (fun a k p q => f1 a k (by omega) (by omega))
  unfold fX0_spell
  refine zW_bv (nI (v % 4)) (by simp (disch := omega) only [zLT, zI]) ?_
  refine zW_bv (nI (v / 4 % 2)) (by simp (disch := omega) only [zLT, zI]) ?_
  refine zW_bv (nI (v / 8 % 3)) (by simp (disch := omega) only [zLT, zI]) ?_
  refine zW_bv (nI (v / 24)) (by simp (disch := omega) only [zLT, zI]) ?_
  refine zW_ob e1 ?_
  refine zW_if (fun h => ?_) (fun h => ?_)
  · simp (disch := omega) only [zLT, zC, k1] at h
    rw [if_pos h]
    exact zW_so ⟨l1, f1⟩
  simp (disch := omega) only [zLT, zC, k1] at h
  rw [if_neg h]
  refine zW_ob (z_isOf k1 (by omega) (q := 2) (by omega)) ?_
  refine zW_jn (fun y => y = nI (if kd = 2 ∨ kd = 5 then v / 24 else v % 4)) ?_ ?_
  · rintro y rfl
    generalize hro : (if kd = 2 ∨ kd = 5 then v / 24 else v % 4) = ro
    have hro4 : ro < 4 := by rw [← hro]; split <;> omega
    refine zW_jn (fun y => y = nI (if kd = 3 then 0 else v / 4 % 2)) ?_ ?_
    · rintro y rfl
      generalize hnu : (if kd = 3 then 0 else v / 4 % 2) = nu
      have hnu2 : nu < 2 := by rw [← hnu]; split <;> omega
      rw [t1]
      refine zW_ob (z_endingAt (by omega) hro4 hnu2) ?_
      have hen := c1.2.2.2.1 (2 * (4 * tb + ro) + nu) (by omega)
      have hel := (hg.2.2.2.1 (2 * (4 * tb + ro) + nu) (by omega)).1.2
      have hel2 : (zen g (2 * (4 * tb + ro) + nu)).length ≤ 3 := by rw [zen_len]; exact hel
      rw [show 3 + 69 + 2 * (2 * (4 * tb + ro) + nu) = 72 + 2 * (2 * (4 * tb + ro) + nu) by omega] at hen
      obtain ⟨τ2, e2, l2, f2⟩ := z_join (i := o) (j := 72 + 2 * (2 * (4 * tb + ro) + nu)) (R := 10) (S := 3) (by omega) hr (zl_b.2.1 _ (by omega) (by omega) (by omega)) (by omega) hel2 (by omega) l1 hen (by omega)
      have k2 : τ2 (12 + 3 * w) 2 = nI kd := by rw [f2 _ _ (by omega) (by omega), k1]
      have n2 : zNG τ2 := zNG_co n1 (fun a k p q _ => f2 a k (by omega) (by omega)) (fun a k p q => f2 a k (by omega) (by omega))
      have j1 := zjoin_le (zst g w) (zen g (2 * (4 * tb + ro) + nu))
      have j2 := zjoin_pos (b := zen g (2 * (4 * tb + ro) + nu)) (show 1 ≤ (zst g w).length by omega)
      generalize hee : zjoin (zst g w) (zen g (2 * (4 * tb + ro) + nu)) = ee at *
      rw [zE_ocss]
      refine zW_ob e2 ?_
      refine zW_jn (fun y : Mem => y (12 + 3 * w) 2 = nI kd ∧ zL y o (if kd = 4 then zjoin ee (zge (v / 8 % 3)) else ee) ∧ ∀ x c, x ≠ o → x ≠ o + 1 → y x c = σ x c) ?_ ?_
      · rintro y ⟨y1, y2, y3⟩
        have q1 := zjoin_le ee (zge (v / 8 % 3))
        have q2 := zjoin_pos (b := zge (v / 8 % 3)) j2
        have q3 : (zge (v / 8 % 3)).length = 1 := rfl
        refine z_modal hr y1 (by omega) (by omega) y2 (by split <;> omega) (by split <;> omega) (fun τ p1 p2 => ⟨?_, fun x c a b => by rw [p2 x c a b, y3 x c a b]⟩)
        unfold zfin
        by_cases hk4 : kd = 4
        · subst hk4; exact p1
        · rw [if_neg hk4] at p1 ⊢; exact p1
      · intro k hk
        refine zW_if (fun h4 => ?_) (fun h4 => ?_)
        · simp (disch := omega) only [zLT, zC, k2] at h4
          subst h4
          refine zW_ob (z_below (b := 3) (by omega) (by omega)) ?_
          refine zW_f zn01 ?_
          refine zW_gd (zi_inb (by rw [zl_c.2.2.1]; omega) (by rw [zl_c.2.2.1]; omega)) ?_
          obtain ⟨τ3, e3, l3, f3⟩ := z_join (i := o) (j := 136 + 2 * (v / 8 % 3)) (R := 10) (S := 1) (by omega) hr (zl_b.2.2.1 _ (by omega) (by omega) (by omega)) (by omega) (by unfold zge; simp) (by omega) l2 (z_gend n2 (by omega)) (by unfold zge; simp; omega)
          rw [zi_ix (by omega)]
          refine zW_ob e3 (hk τ3 ⟨?_, by rw [if_pos rfl]; exact l3, fun x c a b => by rw [f3 x c a b, f2 x c a b, f1 x c a b]⟩)
          rw [f3 _ _ (by omega) (by omega), k2]
        · simp (disch := omega) only [zLT, zC, k2] at h4
          exact hk τ2 ⟨k2, by rw [if_neg h4]; exact l2, fun x c a b => by rw [f2 x c a b, f1 x c a b]⟩
    · intro k hk
      refine zW_if (fun h3 => ?_) (fun h3 => ?_)
      · simp (disch := omega) only [zLT, zC, k1] at h3
        exact hk _ (by rw [if_pos h3]; rfl)
      · simp (disch := omega) only [zLT, zC, k1] at h3
        exact hk _ (by rw [if_neg h3])
  · intro k hk
    refine zW_if (fun h2 => ?_) (fun h2 => ?_)
    · refine hk _ (by rw [if_neg]; intro q; rcases q with q | q <;> subst q <;> exact absurd h2 (by decide +kernel))
    · refine hk _ (by rw [if_pos]; rcases (by omega : kd = 1 ∨ kd = 2 ∨ kd = 3 ∨ kd = 4 ∨ kd = 5) with q | q | q | q | q <;> subst q <;> first | (exact absurd h2 (by decide +kernel)) | decide)
