/-- the text of the law's frame, and what is read of it -/
def yfl : List Nat := [110, 48, 49, 32, 118, 48, 32, 102, 48, 50, 32, 112, 48]
def yhs : List zHt := [(110, nI 0, nI 1, -nI 1), (118, nI 0, -nI 1, -nI 1), (102, nI 0, nI 2, -nI 1), (112, -nI 1, -nI 1, nI 0)]
theorem y_reads {g : Nat → Int32} (hg : zBG g) (hW : 0 < znW g) (hk : g (zwa 0) = nI 0) : zRr g yfl [] 0 = .inr yhs := by
  have hz : ∀ hs, zhr g yfl hs 11 = .inr ((112, -nI 1, -nI 1, nI 0), 13) := fun hs => (show zpl g 11 0 13 = _ from if_pos ⟨hW, hk⟩)
  rw [zRr_hole (p' := 3) (x := (110, nI 0, nI 1, -nI 1)) hg (by decide +kernel) (by decide +kernel) (by decide +kernel) rfl]
  rw [zRr_blank (by decide +kernel) (by decide +kernel)]
  rw [zRr_hole (p' := 6) (x := (118, nI 0, -nI 1, -nI 1)) hg (by decide +kernel) (by decide +kernel) (by decide +kernel) rfl]
  rw [zRr_blank (by decide +kernel) (by decide +kernel)]
  rw [zRr_hole (p' := 10) (x := (102, nI 0, nI 2, -nI 1)) hg (by decide +kernel) (by decide +kernel) (by decide +kernel) rfl]
  rw [zRr_blank (by decide +kernel) (by decide +kernel)]
  rw [zRr_hole (p' := 13) (x := (112, -nI 1, -nI 1, nI 0)) hg (by decide +kernel) (by decide +kernel) (by decide +kernel) (hz _)]
  rw [zRr_end (by decide +kernel), if_pos (by decide +kernel)]
  rfl
/-- the row with that frame -/
def yfr (g : Nat → Int32) (k : Nat) : Int32 := if k = 1 then nI 1 else if k = 342 then nI 4 else if 343 ≤ k ∧ k < 359 then (if (k - 343) % 4 = 0 then nI (yhs.getD ((k - 343) / 4) zH0).1 else if (k - 343) % 4 = 1 then (yhs.getD ((k - 343) / 4) zH0).2.1 else if (k - 343) % 4 = 2 then (yhs.getD ((k - 343) / 4) zH0).2.2.1 else (yhs.getD ((k - 343) / 4) zH0).2.2.2) else g k
theorem yfr_o {g : Nat → Int32} {k : Nat} (h : k ≠ 1) (h2 : ¬ (342 ≤ k ∧ k < 359)) : yfr g k = g k := by
  unfold yfr
  rw [if_neg h, if_neg (by omega), if_neg (by omega)]
theorem yfr_h {g : Nat → Int32} {k : Nat} (hk : k < 4) : yfr g (zha 0 k) = nI (yhs.getD k zH0).1 ∧ yfr g (zha 0 k + 1) = (yhs.getD k zH0).2.1 ∧ yfr g (zha 0 k + 2) = (yhs.getD k zH0).2.2.1 ∧ yfr g (zha 0 k + 3) = (yhs.getD k zH0).2.2.2 := by
  rcases (show k = 0 ∨ k = 1 ∨ k = 2 ∨ k = 3 by omega) with rfl | rfl | rfl | rfl <;> exact ⟨rfl, rfl, rfl, rfl⟩
set_option maxHeartbeats 1000000 in
theorem y_frame {σ : Mem} {g : Nat → Int32} (h : yB σ g) (l2 : zL σ 1 yfl) (hn : znF g = 0) (hW : 0 < znW g) (hk0 : g (zwa 0) = nI 0) :
    ∃ τ, fX11_frame σ 0 = some (nI 0, τ) ∧ yB τ (yfr g) ∧ zL τ 1 [] ∧ ∀ x c, ¬ (341 ≤ x ∧ x ≤ 347) → ¬ (x = 1 ∧ c = 1) → ¬ (x = 3 ∧ c = 5) → ¬ (142 ≤ x ∧ x < 148) → τ x c = σ x c := by
  obtain ⟨hg, hcb, hN⟩ := h
  have s35 : σ 3 5 = nI 0 := by rw [← hn]; exact hcb.1.2.trans hg.2.1.1
  obtain ⟨⟨r, τ⟩, t1, t2⟩ := z_read (g := g) (σ := σ) (l := yfl) ⟨hg, hcb, l2, by decide +kernel⟩
  have hr := y_reads hg hW hk0
  rcases t2 with ⟨e, e1, -⟩ | ⟨hs, p, e1, e2, e3, e4, e5, e6⟩
  · rw [hr] at e1; cases e1
  rw [hr] at e1
  injection e1 with e1
  subst e1
  dsimp only at e2 e3
  subst e2
  have tf : ∀ x c, ¬ (341 ≤ x ∧ x ≤ 347) → τ x c = σ x c := e3.2.2.2.2
  have mf : ∀ x c, ¬ (341 ≤ x ∧ x ≤ 347) → ¬ (x = 1 ∧ c = 1) → (mw τ 1 1 (nI 0)) x c = σ x c := fun x c p q => by
    simp (disch := omega) only [zM]
    exact tf x c p
  have mf1 : (mw τ 1 1 (nI 0)) 1 1 = nI 0 := by simp only [zM]
  have mfx : ∀ x c, 341 ≤ x → (mw τ 1 1 (nI 0)) x c = τ x c := fun x c p => by simp (disch := omega) only [zM]
  have x0 : zW (fX11_frame σ 0) (fun r => r.1 = nI 0 ∧ r.2 3 5 = nI 1 ∧ r.2 142 0 = τ 342 0 ∧ (∀ a k, 1 ≤ a → a < 5 → k < 6 → r.2 (142 + a) k = τ (342 + a) k) ∧ (∀ k, k < 3 → r.2 147 k = τ 347 k) ∧ r.2 1 1 = nI 0 ∧ ∀ x c, ¬ (341 ≤ x ∧ x ≤ 347) → ¬ (x = 1 ∧ c = 1) → ¬ (x = 3 ∧ c = 5) → ¬ (142 ≤ x ∧ x < 148) → r.2 x c = σ x c) := by
    unfold fX11_frame
    simp only [Nat.zero_add]
    refine zW_ob t1 (zW_ob (x := mw τ 1 1 (nI 0)) rfl ?_)
    dsimp only
    generalize mw τ 1 1 (nI 0) = m at *
    refine zW_t rfl ?_
    have m35 : m 3 5 = nI 0 := by rw [mf _ _ (by omega) (by omega)]; exact s35
    unfold fX0_addFrame
    obtain ⟨ω, o1, o2, o3, o4, o5⟩ := z_becFn (σ := m) (n := 0) (by omega)
    have o35 : ω 3 5 = nI 0 := by rw [o5 _ _ (by omega)]; exact m35
    refine zW_ob (x := (nI 0, mw ω 3 5 (nI (0 + 1)))) ?_ (zW_so ⟨rfl, by simp only [zM], ?_, fun a k a1 a2 a3 => ?_, fun k hk => ?_, ?_, fun x c p1 p2 p3 p4 => ?_⟩)
    · refine zW_val ?_
      refine zW_t (by rw [m35]; simp (disch := omega) only [Nat.reduceAdd, zl_c, zC]; omega) (zW_gd (by rw [m35]; simp (disch := omega) only [Nat.reduceAdd, zl_c, zI]) (zW_ob (x := ω) ?_ (zW_bv (mw ω 3 5 (nI (0 + 1))) (by rw [o35, zLT.2.1, zI.1]) (zW_so ?_))))
      · rw [m35, zi_ix (by omega)]
        exact o1
      · have : (mw ω 3 5 (nI (0 + 1))) 3 5 - (1 : Int32) = nI 0 := by
          simp only [zM]
          rfl
        rw [this]
    · simp (disch := omega) only [zM]
      rw [← mfx _ _ (by omega)]
      exact o2
    · simp (disch := omega) only [zM]
      rw [← mfx _ _ (by omega)]
      exact o3 a k a1 a2 a3
    · simp (disch := omega) only [zM]
      rw [← mfx _ _ (by omega)]
      exact o4 k hk
    · simp (disch := omega) only [zM]
      rw [o5 _ _ (by omega)]
      exact mf1
    · simp (disch := omega) only [zM]
      rw [o5 _ _ (by omega), mf x c p1 p2]
  obtain ⟨⟨r, υ⟩, er, w0, w1, w2, w3, w4, w6, w5⟩ := x0
  dsimp only at w0 w1 w2 w3 w4 w5 w6
  subst w0
  refine ⟨υ, er, ?_, y_nil w6, w5⟩
  have go : ∀ k, k ≠ 1 → ¬ (zfa 0 ≤ k ∧ k < zfa 0 + 25) → yfr g k = g k := fun k hk hk2 => yfr_o hk (by unfold zfa at hk2; omega)
  have eh : ∀ k, k < 4 → _ := fun k hk => yfr_h (g := g) hk
  have e1' : yfr g 1 = nI (0 + 1) := rfl
  have ef : yfr g (zfa 0) = nI 4 := rfl
  generalize yfr g = g' at *
  have enH : znH g' 0 = 4 := by show ix (g' (zfa 0)) = _; rw [ef, zi_ix (by omega)]
  have nW : znW g' = znW g := by show ix (g' 0) = ix (g 0); rw [go 0 (by omega) (by unfold zfa; omega)]
  have hlen : yhs.length = 4 := rfl
  have c256 : ∀ k, k < 4 → (yhs.getD k zH0).1 < 256 := fun k hk => (e4.2.1 k (by rw [hlen]; exact hk)).2
  have is110 : ∀ k, k < 4 → g' (zha 0 k) = nI 110 → (yhs.getD k zH0).1 = 110 := fun k hk q => by
    have := c256 k hk
    rw [(eh k hk).1] at q
    simp (disch := omega) only [zC] at q
    exact q
  have hFm : zFm g' 0 := by
    refine ⟨by rw [ef]; exact zNI_of (by omega) (by omega), by rw [enH]; omega, fun i hi => ?_, fun i gr hi hgr he => ?_, fun i j hi hj x y z => ?_⟩
    · rw [enH] at hi
      rw [(eh i hi).1, (eh i hi).2.1, (eh i hi).2.2.1, (eh i hi).2.2.2]
      exact zHo_cg (by rw [nW]; exact Nat.le_refl _) (fun w hw => go _ (by unfold zwa; omega) (by have n20 : znW g ≤ 20 := hg.1.2; unfold zwa zfa; omega)) (e4.2.1 i (by rw [hlen]; exact hi)).1
    · rw [enH] at hi
      rw [(eh i hi).2.1] at he
      obtain ⟨k, k1, k2, k3⟩ := zN2_iff.mp (zwh_iff.mp e6 gr hgr (zG2_iff.mpr ⟨i, by rw [hlen]; exact hi, he⟩))
      rw [hlen] at k1
      exact ⟨k, by rw [enH]; exact k1, by rw [(eh k k1).1, k2], by rw [(eh k k1).2.1, k3]⟩
    · rw [enH] at hi hj
      rw [(eh i hi).2.1, (eh j hj).2.1] at z
      exact e4.2.2 i j (by rw [hlen]; exact hi) (by rw [hlen]; exact hj) (is110 i hi x) (is110 j hj y) z
  have hFB : zFB υ (142 + 6 * 0) g' 0 := by
    obtain ⟨x1, x2, x3, x4, x5⟩ := e3
    rw [hlen] at x3
    refine ⟨?_, fun k hk => ?_, fun gr hgr => ?_⟩
    · rw [ef, ← hlen, ← x2]; exact w2
    · rw [enH] at hk
      have a1 := w3 1 k (by omega) (by omega) (by omega)
      have a2 := w3 2 k (by omega) (by omega) (by omega)
      have a3 := w3 3 k (by omega) (by omega) (by omega)
      have a4 := w3 4 k (by omega) (by omega) (by omega)
      show υ 143 k = _ ∧ υ 144 k = _ ∧ υ 145 k = _ ∧ υ 146 k = _
      rw [a1, a2, a3, a4, (eh k hk).1, (eh k hk).2.1, (eh k hk).2.2.1, (eh k hk).2.2.2, zi_ix (by have := c256 k hk; omega)]
      exact x3 k hk
    · show (∃ k, _ ∧ _ ∧ _ ∧ υ 147 gr = _) ∨ (_ ∧ υ 147 gr = _)
      rw [w4 gr hgr]
      rcases x4 gr hgr with ⟨k, k1, k2, k3, k4⟩ | ⟨k1, k2⟩
      · rw [hlen] at k1
        exact Or.inl ⟨k, by rw [enH]; exact k1, by rw [(eh k k1).1, k2], by rw [(eh k k1).2.1, k3], k4⟩
      · refine Or.inr ⟨fun k hk x y => ?_, k2⟩
        rw [enH] at hk
        rw [(eh k hk).2.1] at y
        rw [zN2_iff.mpr ⟨k, by rw [hlen]; exact hk, is110 k hk x, y⟩] at k1
        cases k1
  refine ⟨zBG_fr hg hn (by omega) e1' go hFm, zCB_fr hg hn (by omega) e1' go hcb w1 hFB (fun x k p1 p2 p3 p4 => w5 x k (by omega) (by omega) p3 (by omega)), ?_⟩
  exact zNG_co hN (fun x k p q r => w5 x k (by omega) (by omega) (by omega) (by omega)) (fun x k p q => w5 x k (by omega) (by omega) (by omega) (by omega))
/-- what is true of the row when the law's turns begin -/
theorem y_start {g : Nat → Int32} (hn : znF g = 0) (hW : znW g = 6) (hk : ∀ k, k < 6 → g (zwa k) = nI k) (h13 : g 13 = nI 0) (he : g (zea 10) = nI 0) : yG (zgd (yfr g) 0 1 (znH (yfr g) 0) (yfr g)) ∧ znH (yfr g) 0 = 4 ∧ znF (yfr g) = 1 ∧ znW (zgd (yfr g) 0 1 (znH (yfr g) 0) (yfr g)) = 6 ∧ ∀ k, k < 6 → zgd (yfr g) 0 1 (znH (yfr g) 0) (yfr g) (zwa k) = nI k := by
  have n4 : znH (yfr g) 0 = 4 := rfl
  have f1 : znF (yfr g) = 1 := rfl
  have w6 : znW (yfr g) = 6 := hW
  have ek : ∀ k, k < 6 → yfr g (zwa k) = nI k := fun k h => by rw [yfr_o (by unfold zwa; omega) (by unfold zwa; omega)]; exact hk k h
  have ec : ∀ k, k < 4 → ∀ w, w < 6 → zcan (yfr g) 0 k w = (if k = 0 then (w == 1 || w == 3) else if k = 1 then (w == 2 || w == 5) else if k = 2 then w == 4 else w == 0) := by
    intro k hk w hw
    have e1 : ix (yfr g (zwa w)) = w := by rw [ek w hw, zi_ix (by omega)]
    unfold zcan
    rw [e1, (yfr_h hk).1, (yfr_h hk).2.2.2]
    rcases (show k = 0 ∨ k = 1 ∨ k = 2 ∨ k = 3 by omega) with rfl | rfl | rfl | rfl <;> rfl
  have eth : ∀ k, k < 4 → zth (zcan (yfr g) 0 k) 6 0 0 = some (yws k) := by
    intro k hk
    have c := ec k hk
    generalize zcan (yfr g) 0 k = p at c
    have p0 := c 0 (by omega); have p1 := c 1 (by omega); have p2 := c 2 (by omega); have p3 := c 3 (by omega); have p4 := c 4 (by omega)
    rcases (show k = 0 ∨ k = 1 ∨ k = 2 ∨ k = 3 by omega) with rfl | rfl | rfl | rfl <;> simp [zth, p0, p1, p2, p3, p4, yws]
  have x : ∀ k, k < 6 → zgd (yfr g) 0 1 (znH (yfr g) 0) (yfr g) (zwa k) = nI k := fun k h => by
    rw [zgd_o (by right; unfold zwa; omega)]; exact ek k h
  refine ⟨⟨f1, ?_, ⟨?_, (zgd_2).1, fun k hk => ?_⟩, ?_, (zgd_2).2.1, ?_, ?_, ?_⟩, n4, f1, w6, x⟩
  · rw [zgd_nH, n4]
  · rw [zgd_nF, f1]; omega
  · rw [zgd_nH, n4] at hk
    refine ⟨?_, ?_, ?_⟩
    · rw [zgd_nW, w6]; unfold yws; split; omega; split; omega; split <;> omega
    · rw [zgd_can 0 (by omega), ec k hk _ (by unfold yws; split; omega; split; omega; split <;> omega)]
      rcases (show k = 0 ∨ k = 1 ∨ k = 2 ∨ k = 3 by omega) with rfl | rfl | rfl | rfl <;> rfl
    · rw [zgd_w (by omega), n4, if_pos hk, w6, eth k hk]
      rfl
  · show ix _ + 2 * ix _ + 4 * ix _ = 0
    rw [(zgd_2).2.2.1, (zgd_2).2.2.2.1, (zgd_2).2.2.2.2, zi_ix (by omega)]
  · rw [zgd_o (by omega), yfr_o (by omega) (by omega)]; exact h13
  · rw [zgd_o (by right; unfold zea; omega), yfr_o (by unfold zea; omega) (by unfold zea; omega)]; exact he
  · rw [zgd_nW, w6]; omega
theorem yform_cg {g g' : Nat → Int32} {w c n d m : Nat} (hg : zBG g) (hw : w < znW g) (hc : c < 4) (hn : n < 2) (hm : m < 4) (ew : ∀ k, k < 10 → g' (zwa w + k) = g (zwa w + k)) (ee : ∀ e, e < 32 → ∀ k, k < 4 → g' (zea e + k) = g (zea e + k)) : zform g' w c n d m = zform g w c n d m := by
  have wd := hg.2.2.1 w hw
  have e0 : g' (zwa w) = g (zwa w) := ew 0 (by omega)
  have w3 := wd.2.1.2
  have es : zst g' w = zst g w := zst_cg ew wd
  have en : ∀ e, e < 32 → zen g' e = zen g e := fun e he => zen_cg (ee e he) (hg.2.2.2.1 e he)
  unfold zform
  rw [e0, es, ew 1 (by omega)]
  by_cases h0 : ix (g (zwa w)) = 0
  · rw [if_pos h0, if_pos h0]
  · rw [if_neg h0, if_neg h0, en]
    have a1 : (if ix (g (zwa w)) = 2 ∨ ix (g (zwa w)) = 5 then m else c) ≤ 3 := by split <;> omega
    have a2 : (if ix (g (zwa w)) = 3 then 0 else n) ≤ 1 := by split <;> omega
    omega
/-- a word more changes nothing of what is said -/
theorem y_zsiW {g : Nat → Int32} {n a b c nb m i : Nat} {l : List Nat} (hg : zBG g) (h6 : 6 ≤ znW g) (hn6 : 6 ≤ n) (hn : n < 20) (hm : m < 4) : zsi (ywd g n a b c l) 0 yws nb m i = zsi g 0 yws nb m i := by
  have eh : ∀ k j, ywd g n a b c l (zha 0 k + j) = g (zha 0 k + j) := fun k j => ywd_o (by unfold zha; omega) (by unfold zha; omega)
  have eh0 : ∀ k, ywd g n a b c l (zha 0 k) = g (zha 0 k) := fun k => eh k 0
  have ew : ∀ w, w < 6 → ∀ k, k < 10 → ywd g n a b c l (zwa w + k) = g (zwa w + k) := fun w hw k hk => ywd_o (by unfold zwa; omega) (by unfold zwa; omega)
  have ew0 : ∀ w, w < 6 → ywd g n a b c l (zwa w) = g (zwa w) := fun w hw => ew w hw 0 (by omega)
  have ee : ∀ e k, ywd g n a b c l (zea e + k) = g (zea e + k) := fun e k => ywd_o (by unfold zea; omega) (by unfold zea; omega)
  have y6 : ∀ k, yws k < 6 := fun k => by unfold yws; split; omega; split; omega; split <;> omega
  have e1 : ∀ gr, zno (ywd g n a b c l) 0 gr = zno g 0 gr := fun gr => by
    unfold zno
    rw [show znp (ywd g n a b c l) 0 gr = znp g 0 gr from funext fun k => by unfold znp; rw [eh0, eh], show znH (ywd g n a b c l) 0 = znH g 0 from congrArg ix (ywd_o (by unfold zfa; omega) (by unfold zfa; omega))]
  have e2 : zag (ywd g n a b c l) 0 yws nb i = zag g 0 yws nb i := by
    unfold zag
    rw [eh0, eh, eh, e1, ew0 _ (y6 _), ew _ (y6 _) 2 (by omega)]
  unfold zsi
  rw [e2]
  exact yform_cg hg (by have := y6 i; omega) (by omega) (by omega) hm (ew _ (y6 i)) (fun e _ k _ => ee e k)
theorem yG_wd {g : Nat → Int32} {n a b c : Nat} {l : List Nat} (h : yG g) (h6 : 6 ≤ n) (hn : n < 20) : yG (ywd g n a b c l) ∧ znW (ywd g n a b c l) = n + 1 := by
  obtain ⟨g1, g2, ⟨g3, g4, g5⟩, g6, g7, g8, g9, g10⟩ := h
  have o : ∀ k, 1 ≤ k → (k < 74 ∨ 214 ≤ k) → ywd g n a b c l k = g k := fun k h1 h2 => ywd_o (by omega) (by omega)
  have y6 : ∀ k, yws k < 6 := fun k => by unfold yws; split; omega; split; omega; split <;> omega
  have nW : znW (ywd g n a b c l) = n + 1 := by show ix (nI (n + 1)) = _; rw [zi_ix (by omega)]
  have nF : znF (ywd g n a b c l) = znF g := congrArg ix (o 1 (by omega) (by omega))
  have nH : znH (ywd g n a b c l) 0 = znH g 0 := congrArg ix (o (zfa 0) (by unfold zfa; omega) (by unfold zfa; omega))
  refine ⟨⟨nF.trans g1, nH.trans g2, ⟨by rw [nF]; exact g3, by rw [o 2 (by omega) (by omega)]; exact g4, fun k hk => ?_⟩, ?_, ?_, ?_, ?_, by rw [nW]; omega⟩, nW⟩
  · rw [nH] at hk
    obtain ⟨h1, h2, h3⟩ := g5 k hk
    have := y6 k
    refine ⟨by rw [nW]; omega, ?_, by rw [o _ (by omega) (by omega)]; exact h3⟩
    rw [← h2]
    unfold zcan
    rw [o (zha 0 k) (by unfold zha; omega) (by unfold zha; omega), o (zha 0 k + 3) (by unfold zha; omega) (by unfold zha; omega), o (zwa (yws k)) (by unfold zwa; omega) (by unfold zwa; omega)]
  · unfold zbt
    rw [o 4 (by omega) (by omega), o 5 (by omega) (by omega), o 6 (by omega) (by omega)]
    exact g6
  · rw [o 3 (by omega) (by omega)]; exact g7
  · rw [o 13 (by omega) (by omega)]; exact g8
  · rw [o _ (by unfold zea; omega) (by unfold zea; omega)]; exact g9
theorem y_zlc {F G : Nat → List Nat} : ∀ {n : Nat}, (∀ k, k < n → F k = G k) → zlc F n = zlc G n := by
  intro n
  induction n with
  | zero => intro _; rfl
  | succ n ih =>
    intro h
    show zlc F n ++ ((if n = 0 then [] else [32]) ++ F n) = zlc G n ++ ((if n = 0 then [] else [32]) ++ G n)
    rw [ih (fun k hk => h k (by omega)), h n (by omega)]
theorem ySay_wd {g : Nat → Int32} {n a b c : Nat} {l : List Nat} (hg : zBG g) (h6 : 6 ≤ znW g) (hn6 : 6 ≤ n) (hn : n < 20) : ySay (ywd g n a b c l) = ySay g := by
  unfold ySay
  exact y_zlc (fun k _ => y_zsiW hg h6 hn6 hn (by omega))
