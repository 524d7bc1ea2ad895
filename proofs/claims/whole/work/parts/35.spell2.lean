theorem zjoin_pos {a b : List Nat} (h : 1 ≤ a.length) : 1 ≤ (zjoin a b).length := by
  unfold zjoin
  split
  · rename_i q
    rw [Bool.and_eq_true] at q
    have : 1 ≤ b.length := by
      rcases Nat.eq_zero_or_pos b.length with z | z
      · rw [List.eq_nil_of_length_eq_zero z] at q
        exact absurd q.2 (by decide)
      · exact z
    simp; omega
  · simp; omega
theorem zjoin_mem {a b : List Nat} {x : Nat} (h : x ∈ zjoin a b) : x ∈ a ∨ x ∈ b := by
  unfold zjoin at h
  split at h
  · exact (List.mem_append.mp h).imp List.mem_of_mem_take id
  · exact List.mem_append.mp h
def zLs (l : List Nat) : Prop := ∀ b, b ∈ l → 97 ≤ b ∧ b ≤ 122
theorem ztx_ls {g : Nat → Int32} {a n : Nat} (h : ∀ k, k < n → zlet (g (a + k))) : zLs (ztx g a n) := by
  intro b hb
  unfold ztx at hb
  obtain ⟨k, hk, e⟩ := List.mem_map.mp hb
  have := h k (List.mem_range.mp hk)
  rw [← e]
  exact this.2
theorem zform_ok {g : Nat → Int32} (hg : zBG g) {w c n d m : Nat} (hw : w < znW g) (hc : c < 4) (hn : n < 2) (hm : m < 4) : zLs (zform g w c n d m) ∧ 1 ≤ (zform g w c n d m).length ∧ (zform g w c n d m).length ≤ 10 := by
  obtain ⟨⟨w0, w1⟩, ⟨w2, w3⟩, ⟨w4, w5⟩, ⟨w6, w7⟩, w8, w9⟩ := hg.2.2.1 w hw
  have hst : zLs (zst g w) := ztx_ls w9
  have hsl : (zst g w).length = ix (g (zwa w + 3)) := zst_len
  have hE : ∀ e, e < 32 → zLs (zen g e) ∧ (zen g e).length ≤ 3 := fun e he => ⟨ztx_ls (hg.2.2.2.1 e he).2, by rw [zen_len]; exact (hg.2.2.2.1 e he).1.2⟩
  unfold zform
  split
  · exact ⟨hst, by omega, by omega⟩
  · rename_i hk0
    obtain ⟨hen, hel⟩ := hE (2 * (4 * ix (g (zwa w + 1)) + (if ix (g (zwa w)) = 2 ∨ ix (g (zwa w)) = 5 then m else c)) + (if ix (g (zwa w)) = 3 then 0 else n)) (by split <;> split <;> omega)
    generalize he : zen g (2 * (4 * ix (g (zwa w + 1)) + (if ix (g (zwa w)) = 2 ∨ ix (g (zwa w)) = 5 then m else c)) + (if ix (g (zwa w)) = 3 then 0 else n)) = en at hen hel
    have j1 := zjoin_le (zst g w) en
    have j2 := zjoin_pos (b := en) (show 1 ≤ (zst g w).length by omega)
    have j3 : zLs (zjoin (zst g w) en) := fun b hb => (zjoin_mem hb).elim (hst b) (hen b)
    generalize zjoin (zst g w) en = e at j1 j2 j3
    unfold zfin
    split
    · have k1 := zjoin_le e (zge d)
      have k2 := zjoin_pos (b := zge d) j2
      have k4 : (zge d).length = 1 := rfl
      refine ⟨fun b hb => (zjoin_mem hb).elim (j3 b) (fun q => ?_), k2, by omega⟩
      unfold zge at q
      rw [List.mem_singleton] at q
      rw [q]
      split
      · omega
      · split <;> omega
    · split
      · refine ⟨fun b hb => ?_, by simp, by simp; omega⟩
        rcases List.mem_append.mp hb with q | q
        · exact j3 b q
        · rw [List.mem_singleton] at q
          rw [q]
          have hx : e.length - 1 < e.length := by omega
          have : e.getD (e.length - 1) 0 = e[e.length - 1] := by simp [List.getD_eq_getElem?_getD, List.getElem?_eq_getElem hx]
          rw [this]
          exact j3 _ (List.getElem_mem hx)
      · exact ⟨j3, j2, by omega⟩
set_option maxHeartbeats 1000000 in
theorem z_spell {σ : Mem} {g : Nat → Int32} {w v o : Nat} (hg : zBG g) (hc : zCB σ 3 g) (hn : zNG σ) (hw : w < znW g) (hb : v < 96) (ho : 341 ≤ o) (hr : ln (o + 1) = 10) :
    ∃ τ, fX0_spell σ 3 (12 + 3 * w) (nI v) o = some τ ∧ zL τ o (zform g w (v % 4) (v / 4 % 2) (v / 8 % 3) (v / 24)) ∧ ∀ x c, x ≠ o → x ≠ o + 1 → τ x c = σ x c := by
  have hw20 : w < 20 := Nat.lt_of_lt_of_le hw hg.1.2
  have e01 : ¬ (nI 1 = nI 0) := by decide +kernel
  obtain ⟨⟨w0, w1⟩, ⟨w2, w3⟩, ⟨w4, w5⟩, ⟨w6, w7⟩, w8, w9⟩ := hg.2.2.1 w hw
  obtain ⟨b1, b2, b3, b4⟩ := hc.2.2.1 w hw
  rw [show 3 + 9 + 3 * w = 12 + 3 * w by omega] at b1 b2 b3 b4
  have hsl : (zst g w).length = ix (g (zwa w + 3)) := zst_len
  obtain ⟨τ1, e1, l1, f1⟩ := z_become (i := o) (j := 12 + 3 * w + 1) (R := 10) (S := 6) (by omega) hr (zl_b.1 _ (by omega) (by omega) (by omega)) (by omega) (by omega) b4 (by omega) (by omega)
  unfold zform
  generalize hkd : ix (g (zwa w)) = kd at *
  generalize htb : ix (g (zwa w + 1)) = tb at *
  have k1 : τ1 (12 + 3 * w) 2 = nI kd := by rw [f1 _ _ (by omega) (by omega), b1, w0]
  have t1 : τ1 (12 + 3 * w) 3 = nI tb := by rw [f1 _ _ (by omega) (by omega), b2, w2]
  have n1 : zNG τ1 := zNG_co hn (fun a k p q _ => f1 a k (by omega) (by omega)) (fun a k p q => f1 a k (by omega) (by omega))
  have c1 : zCB τ1 3 g := zCB_co hg hc (fun a k p q => f1 a k (by omega) (by omega))
  unfold fX0_spell
  simp (disch := omega) (maxSteps := 4000000) only [zLT, zI, zE, e1, k1]
  by_cases hk : kd = 0
  · subst hk
    simp only [if_true]
    exact ⟨τ1, rfl, l1, f1⟩
  · have hk0 : ¬ (nI kd = nI 0) := by rw [zi_eq (by omega) (by omega)]; exact hk
    rw [if_neg hk0, if_neg hk, z_isOf k1 (by omega) (by omega)]
    simp only [zE, t1, Nat.reduceAdd]
    have key : ∀ (ro nu : Nat), ro < 4 → nu < 2 → ∃ τ, (obd (fX0_endingAt τ1 3 (nI tb) (nI ro) (nI nu)) fun q12 =>
        ocs q12 (if nI kd = nI 4 then
            obd (fX11_isBelow τ1 (nI (v / 8 % 3)) (nI 3)) fun q23 => if q23 = nI 0 then
              (if τ1 (12 + 3 * w) 2 = nI 5 then (if nI (v / 24) = nI 0 then some τ1 else obd (fX5_at τ1 o (τ1 o 1 - nI 1)) fun q18 => obd (fX5_add τ1 o q18) fun q20 => some q20) else some τ1)
              else grd (inb (nI (v / 8 % 3)) (ln 6)) (obd (fX5_join τ1 o (136 + 2 * ix (nI (v / 8 % 3)))) fun q27 => if q27 (12 + 3 * w) 2 = nI 5 then (if nI (v / 24) = nI 0 then some q27 else obd (fX5_at q27 o (q27 o 1 - nI 1)) fun q18 => obd (fX5_add q27 o q18) fun q20 => some q20) else some q27)
          else (if τ1 (12 + 3 * w) 2 = nI 5 then (if nI (v / 24) = nI 0 then some τ1 else obd (fX5_at τ1 o (τ1 o 1 - nI 1)) fun q18 => obd (fX5_add τ1 o q18) fun q20 => some q20) else some τ1))
        fun w14 => obd (fX5_join τ1 o w14) fun q29 => if q29 (12 + 3 * w) 2 = nI 4 then
            obd (fX11_isBelow q29 (nI (v / 8 % 3)) (nI 3)) fun q39 => if q39 = nI 0 then
              (if q29 (12 + 3 * w) 2 = nI 5 then (if nI (v / 24) = nI 0 then some q29 else obd (fX5_at q29 o (q29 o 1 - nI 1)) fun q34 => obd (fX5_add q29 o q34) fun q36 => some q36) else some q29)
              else grd (inb (nI (v / 8 % 3)) (ln 6)) (obd (fX5_join q29 o (136 + 2 * ix (nI (v / 8 % 3)))) fun q43 => if q43 (12 + 3 * w) 2 = nI 5 then (if nI (v / 24) = nI 0 then some q43 else obd (fX5_at q43 o (q43 o 1 - nI 1)) fun q34 => obd (fX5_add q43 o q34) fun q36 => some q36) else some q43)
          else (if q29 (12 + 3 * w) 2 = nI 5 then (if nI (v / 24) = nI 0 then some q29 else obd (fX5_at q29 o (q29 o 1 - nI 1)) fun q34 => obd (fX5_add q29 o q34) fun q36 => some q36) else some q29)) = some τ
        ∧ zL τ o (zfin kd (v / 8 % 3) (v / 24) (zjoin (zst g w) (zen g (2 * (4 * tb + ro) + nu)))) ∧ ∀ x c, x ≠ o → x ≠ o + 1 → τ x c = σ x c := by
      intro ro nu hro hnu
      rw [z_endingAt (by omega) hro hnu]
      simp only [zE]
      have hen := c1.2.2.2.1 (2 * (4 * tb + ro) + nu) (by omega)
      have hel := (hg.2.2.2.1 (2 * (4 * tb + ro) + nu) (by omega)).1.2
      have hel2 : (zen g (2 * (4 * tb + ro) + nu)).length ≤ 3 := by rw [zen_len]; exact hel
      rw [show 3 + 69 + 2 * (2 * (4 * tb + ro) + nu) = 72 + 2 * (2 * (4 * tb + ro) + nu) by omega] at hen
      obtain ⟨τ2, e2, l2, f2⟩ := z_join (i := o) (j := 72 + 2 * (2 * (4 * tb + ro) + nu)) (R := 10) (S := 3) (by omega) hr (zl_b.2.1 _ (by omega) (by omega) (by omega)) (by omega) hel2 (by omega) l1 hen (by omega)
      have k2 : τ2 (12 + 3 * w) 2 = nI kd := by rw [f2 _ _ (by omega) (by omega), k1]
      have n2 : zNG τ2 := zNG_co n1 (fun a k p q _ => f2 a k (by omega) (by omega)) (fun a k p q => f2 a k (by omega) (by omega))
      have j1 := zjoin_le (zst g w) (zen g (2 * (4 * tb + ro) + nu))
      have j2 := zjoin_pos (b := zen g (2 * (4 * tb + ro) + nu)) (show 1 ≤ (zst g w).length by omega)
      obtain ⟨τ3, e3, l3, f3⟩ := z_tail (w := w) ho hr n2 hw20 (kd := kd) (d := v / 8 % 3) (m := v / 24) k2 (by omega) (by omega) (by omega) l2 j2 (by omega)
      simp only [e2, zE]
      refine ⟨τ3, ?_, l3, fun x c p q => by rw [f3 x c p q, f2 x c p q, f1 x c p q]⟩
      rw [← e3, k2]
    rcases (by omega : kd = 1 ∨ kd = 2 ∨ kd = 3 ∨ kd = 4 ∨ kd = 5) with q | q | q | q | q <;> subst q
    · have z1 : ¬ (nI 1 = nI 3) := by decide +kernel
      simp only [zund, Nat.reduceBEq, Bool.or_false, Bool.and_false, Bool.false_eq_true, if_false, if_true, z1]
      exact key _ _ (by omega) (by omega)
    · have z1 : ¬ (nI 2 = nI 3) := by decide +kernel
      simp only [zund, Nat.reduceBEq, Bool.true_or, if_true, e01, if_false, z1]
      exact key _ _ (by omega) (by omega)
    · simp only [zund, Nat.reduceBEq, Bool.or_false, Bool.and_false, Bool.false_and, Bool.false_eq_true, if_false, if_true]
      exact key _ _ (by omega) (by omega)
    · have z1 : ¬ (nI 4 = nI 3) := by decide +kernel
      simp only [zund, Nat.reduceBEq, Bool.or_false, Bool.and_false, Bool.false_and, Bool.false_eq_true, if_false, if_true, z1]
      exact key _ _ (by omega) (by omega)
    · have z1 : ¬ (nI 5 = nI 3) := by decide +kernel
      simp only [zund, Nat.reduceBEq, Bool.or_false, Bool.and_false, Bool.false_and, Bool.or_true, Bool.and_self, if_true, e01, if_false, z1]
      exact key _ _ (by omega) (by omega)
