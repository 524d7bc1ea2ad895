/-- the class's book is what the row g tells -/
def yB (σ : Mem) (g : Nat → Int32) : Prop := zBG g ∧ zCB σ 3 g ∧ zNG σ
theorem yB_co {σ τ : Mem} {g : Nat → Int32} (h : yB σ g) (e : ∀ a k, 3 ≤ a → a < 172 → τ a k = σ a k) : yB τ g :=
  ⟨h.1, zCB_co h.1 h.2.1 (fun a k p q => e a k p (by omega)), zNG_co h.2.2 (fun a k p q _ => e a k (by omega) (by omega)) (fun a k p q => e a k (by omega) (by omega))⟩
theorem y_feed {σ : Mem} {l : List Nat} {n j2 j3 j4 j5 j6 : Nat} (h1 : 1 ≤ n) (hn : n ≤ 5) (hl : l.length + n ≤ 50) (l2 : zL σ 1 l) (b2 : j2 < 256) (b3 : j3 < 256) (b4 : j4 < 256) (b5 : j5 < 256) (b6 : j6 < 256) :
    ∃ τ, fX11_feed σ 0 (nI n) (nI j2) (nI j3) (nI j4) (nI j5) (nI j6) = some (nI (l.length + n), τ) ∧ zL τ 1 (l ++ [j2, j3, j4, j5, j6].take n) ∧ ∀ x c, x ≠ 1 → x ≠ 2 → τ x c = σ x c := by
  refine zW_pair (P := fun τ => zL τ 1 (l ++ [j2, j3, j4, j5, j6].take n) ∧ ∀ x c, x ≠ 1 → x ≠ 2 → τ x c = σ x c) ?_
  unfold fX11_feed
  refine zW_f (by simp (disch := omega) only [zLT, zC]; omega) (zW_f (by simp (disch := omega) only [zLT, zC]; omega) ?_)
  rcases z_areBytes (σ := σ) (nI j2) (nI j3) (nI j4) (nI j5) (nI j6) with ⟨a, b, c, d, f, r⟩ | ⟨a, r⟩
  rotate_left
  · exact absurd ⟨⟨j2, b2, rfl⟩, ⟨j3, b3, rfl⟩, ⟨j4, b4, rfl⟩, ⟨j5, b5, rfl⟩, ⟨j6, b6, rfl⟩⟩ a
  refine zW_ob r (zW_f zn01 ?_)
  simp only [Nat.zero_add]
  rw [l2.1]
  refine zW_t (by simp (disch := omega) only [zLT, zI, zC]; omega) ?_
  have hB : ∀ k, k < 5 → [j2, j3, j4, j5, j6].getD k 0 < 256 := by
    intro k hk
    rcases (show k = 0 ∨ k = 1 ∨ k = 2 ∨ k = 3 ∨ k = 4 by omega) with rfl | rfl | rfl | rfl | rfl <;> assumption
  have hlen : [j2, j3, j4, j5, j6].length = 5 := rfl
  generalize hbs : [j2, j3, j4, j5, j6] = bs at hB hlen
  refine zW_lp (fun k a => k ≤ n ∧ ∃ τ, a = (nI k, τ) ∧ zL τ 1 (l ++ bs.take k) ∧ ∀ x c, x ≠ 1 → x ≠ 2 → τ x c = σ x c) n ?_ (by unfold FU; omega) ⟨Nat.zero_le _, σ, rfl, by simpa using l2, fun _ _ _ _ => rfl⟩
  rintro k a hk ⟨-, τ, rfl, t1, t2⟩
  have tl : (l ++ bs.take k).length = l.length + k := by rw [List.length_append, List.length_take, hlen, Nat.min_eq_left (by omega)]
  unfold sX11_feed_47
  dsimp only
  refine zW_if (fun q => ?_) (fun q => ?_)
  · simp (disch := omega) only [zC] at q
    have : k = n := by omega
    subst this
    refine zW_oR (zW_so ⟨?_, t1, t2⟩)
    show τ 1 1 = _
    rw [t1.1, tl]
  · simp (disch := omega) only [zC] at q
    refine zW_jn (fun y => y = nI (bs.getD k 0)) ?_ ?_
    · rintro y rfl
      obtain ⟨υ, u1, u2, u3⟩ := z_add (R := 50) (b := bs.getD k 0) t1 (by decide +kernel) (by omega) (by omega) (hB k (by omega))
      refine zW_ob u1 (zW_bv _ rfl (zW_oL ⟨by omega, by omega, υ, by simp only [zLT, zI], ?_, fun x c p r => by rw [u3 x c p r]; exact t2 x c p r⟩))
      rw [ztk (by omega), ← List.append_assoc]
      exact u2
    · intro kk hkk
      refine z_pick (by omega) ?_
      rw [hbs]
      exact hkk _ rfl
/-- the row with one word more -/
def ywd (g : Nat → Int32) (n a b c : Nat) (l : List Nat) : Nat → Int32 := fun k => if k = 0 then nI (n + 1) else if k = 14 + 10 * n then nI a else if k = 14 + 10 * n + 1 then nI b else if k = 14 + 10 * n + 2 then nI c else if k = 14 + 10 * n + 3 then nI l.length else if 14 + 10 * n + 4 ≤ k ∧ k < 14 + 10 * n + 10 then nI (l.getD (k - (14 + 10 * n + 4)) 0) else g k
theorem ywd_o {g : Nat → Int32} {n a b c k : Nat} {l : List Nat} (h : k ≠ 0) (h2 : ¬ (14 + 10 * n ≤ k ∧ k < 14 + 10 * n + 10)) : ywd g n a b c l k = g k := by
  unfold ywd
  rw [if_neg h, if_neg (by omega), if_neg (by omega), if_neg (by omega), if_neg (by omega), if_neg (by omega)]
theorem y_wordPre {σ : Mem} {l : List Nat} {a b c : Nat} {Q : Int32 × Mem → Prop} (ha : a < 6) (hb : b < 4) (hc : c < 3) (l1 : l.length ≤ 50) (l2 : zL σ 1 l) (hz : 1 ≤ l.length ∧ l.length ≤ 6 ∧ zAl l) (r2 : zW (fX0_addWord σ 3 1 (nI a) (nI b) (nI c)) (fun r => Q (r.1, mw r.2 1 1 (nI 0)))) : zW (fX11_word σ 0 (nI a) (nI b) (nI c)) Q := by
  unfold fX11_word
  refine zW_ob (z_below (b := 6) ha (by omega)) (zW_f zn01 (zW_ob (z_below (b := 4) hb (by omega)) (zW_f zn01 (zW_ob (z_below (b := 3) hc (by omega)) (zW_f zn01 ?_)))))
  refine zW_jn (fun y : Int32 => y = nI 1) ?_ ?_
  · rintro y rfl
    refine zW_jn (fun y : Int32 × Mem => Q (y.1, mw y.2 1 1 (nI 0))) ?_ ?_
    · rintro ⟨r, τ⟩ hr
      exact zW_ob z_clear (zW_so hr)
    · intro k hk
      refine zW_f zn01 ?_
      obtain ⟨r, er, hr⟩ := r2
      exact zW_ob er (hk _ hr)
  · intro k hk
    refine zW_jn (fun _ : Unit => False) (fun _ hy => hy.elim) ?_
    intro k2 hk2
    simp only [Nat.zero_add]
    rw [l2.1]
    refine zW_if (fun q => ?_) (fun q => zW_if (fun q' => ?_) (fun q' => ?_))
    · simp (disch := omega) only [zLT, zC] at q
      omega
    · simp (disch := omega) only [zLT, zC] at q'
      omega
    · refine zW_ob (z_allLetters (R := 50) l2 zl_c.2.2.2.2.2.2.1 (by omega) (by omega)) ?_
      rw [if_pos hz.2.2]
      exact zW_f zn01 (hk _ rfl)
theorem y_nil {τ : Mem} (h : τ 1 1 = nI 0) : zL τ 1 [] := ⟨h, fun k hk => absurd hk (by simp), by simp⟩
theorem y_wordFull {σ : Mem} {g : Nat → Int32} {l : List Nat} {a b c : Nat} (h : yB σ g) (ha : a < 6) (hb : b < 4) (hc : c < 3) (l1 : l.length ≤ 50) (l2 : zL σ 1 l) (hz : 1 ≤ l.length ∧ l.length ≤ 6 ∧ zAl l) (hn : znW g = 20) : fX11_word σ 0 (nI a) (nI b) (nI c) = some (-nI 4, mw σ 1 1 (nI 0)) := by
  have s3 : σ 3 1 = nI (znW g) := h.2.1.1.1.trans h.1.1.1
  refine zW_val (y_wordPre ha hb hc l1 l2 hz ?_)
  unfold fX0_addWord
  refine zW_f ?_ (zW_so rfl)
  rw [s3, hn]
  simp (disch := omega) only [Nat.reduceAdd, zl_c, zC]
  omega
set_option maxHeartbeats 1000000 in
theorem y_word {σ : Mem} {g : Nat → Int32} {l : List Nat} {n a b c : Nat} (h : yB σ g) (ha : a < 6) (hb : b < 4) (hc : c < 3) (l1 : l.length ≤ 50) (l2 : zL σ 1 l) (hz : 1 ≤ l.length ∧ l.length ≤ 6 ∧ zAl l) (hnn : znW g = n) (hn : n < 20) :
    ∃ τ, fX11_word σ 0 (nI a) (nI b) (nI c) = some (nI n, τ) ∧ yB τ (ywd g n a b c l) ∧ zL τ 1 [] ∧ ∀ x k, x ≠ 1 → ¬ (x = 3 ∧ k = 1) → ¬ (12 + 3 * n ≤ x ∧ x < 15 + 3 * n) → τ x k = σ x k := by
  have hg := h.1
  have hcb := h.2.1
  have s3 : σ 3 1 = nI n := by rw [hcb.1.1, hg.1.1]; exact congrArg nI hnn
  refine zW_pair (P := fun τ => yB τ (ywd g n a b c l) ∧ zL τ 1 [] ∧ ∀ x k, x ≠ 1 → ¬ (x = 3 ∧ k = 1) → ¬ (12 + 3 * n ≤ x ∧ x < 15 + 3 * n) → τ x k = σ x k) ?_
  refine y_wordPre ha hb hc l1 l2 hz ?_
  unfold fX0_addWord
  refine zW_t ?_ ?_
  · rw [s3]
    simp (disch := omega) only [Nat.reduceAdd, zl_c, zC]
    exact hn
  rw [s3]
  refine zW_gd (by simp (disch := omega) only [Nat.reduceAdd, zl_c, zI]) ?_
  rw [zi_ix (by omega), show 3 + 1 + 8 + 3 * n = 12 + 3 * n by omega]
  obtain ⟨τ, t1, t2, t3⟩ := z_become (i := 12 + 3 * n + 1) (j := 1) (R := 6) (S := 50) (by omega) (zl_b.1 _ (by omega) (by omega) (by omega)) zl_c.2.2.2.2.2.2.1 (by omega) (by omega) l2 l1 hz.2.1
  refine zW_ob (x := mw (mw (mw τ (12 + 3 * n) 2 (nI a)) (12 + 3 * n) 3 (nI b)) (12 + 3 * n) 4 (nI c)) (by unfold fX10_begin; rw [t1]; rfl) ?_
  have e3 : (mw (mw (mw τ (12 + 3 * n) 2 (nI a)) (12 + 3 * n) 3 (nI b)) (12 + 3 * n) 4 (nI c)) 3 1 = nI n := by
    simp (disch := omega) only [zM]
    rw [t3 _ _ (by omega) (by omega), s3]
  refine zW_bv (mw (mw (mw (mw τ (12 + 3 * n) 2 (nI a)) (12 + 3 * n) 3 (nI b)) (12 + 3 * n) 4 (nI c)) 3 1 (nI (n + 1))) (by rw [e3, zLT.2.1, zI.1]) (zW_so ?_)
  have e4 : (mw (mw (mw (mw τ (12 + 3 * n) 2 (nI a)) (12 + 3 * n) 3 (nI b)) (12 + 3 * n) 4 (nI c)) 3 1 (nI (n + 1))) 3 1 - (1 : Int32) = nI n := by
    simp only [zM]
    rw [zLT.2.1, zi_sub (by omega)]; rfl
  dsimp only
  rw [e4]
  have ω0 : ∀ x k, x ≠ 1 → ¬ (x = 3 ∧ k = 1) → ¬ (12 + 3 * n ≤ x ∧ x < 15 + 3 * n) → (mw (mw (mw (mw (mw τ (12 + 3 * n) 2 (nI a)) (12 + 3 * n) 3 (nI b)) (12 + 3 * n) 4 (nI c)) 3 1 (nI (n + 1))) 1 1 (nI 0)) x k = σ x k := fun x k p1 p2 p3 => by
    simp (disch := omega) only [zM]
    exact t3 _ _ (by omega) (by omega)
  have ω1 : zL (mw (mw (mw (mw (mw τ (12 + 3 * n) 2 (nI a)) (12 + 3 * n) 3 (nI b)) (12 + 3 * n) 4 (nI c)) 3 1 (nI (n + 1))) 1 1 (nI 0)) (12 + 3 * n + 1) l := zL_cb t2 (fun x k p q => by simp (disch := omega) only [zM])
  have ω2 : (mw (mw (mw (mw (mw τ (12 + 3 * n) 2 (nI a)) (12 + 3 * n) 3 (nI b)) (12 + 3 * n) 4 (nI c)) 3 1 (nI (n + 1))) 1 1 (nI 0)) (12 + 3 * n) 2 = nI a := by simp (disch := omega) only [zM]
  have ω3 : (mw (mw (mw (mw (mw τ (12 + 3 * n) 2 (nI a)) (12 + 3 * n) 3 (nI b)) (12 + 3 * n) 4 (nI c)) 3 1 (nI (n + 1))) 1 1 (nI 0)) (12 + 3 * n) 3 = nI b := by simp (disch := omega) only [zM]
  have ω4 : (mw (mw (mw (mw (mw τ (12 + 3 * n) 2 (nI a)) (12 + 3 * n) 3 (nI b)) (12 + 3 * n) 4 (nI c)) 3 1 (nI (n + 1))) 1 1 (nI 0)) (12 + 3 * n) 4 = nI c := by simp (disch := omega) only [zM]
  have ω5 : (mw (mw (mw (mw (mw τ (12 + 3 * n) 2 (nI a)) (12 + 3 * n) 3 (nI b)) (12 + 3 * n) 4 (nI c)) 3 1 (nI (n + 1))) 1 1 (nI 0)) 3 1 = nI (n + 1) := by simp (disch := omega) only [zM]
  have ω6 : (mw (mw (mw (mw (mw τ (12 + 3 * n) 2 (nI a)) (12 + 3 * n) 3 (nI b)) (12 + 3 * n) 4 (nI c)) 3 1 (nI (n + 1))) 1 1 (nI 0)) 1 1 = nI 0 := by simp only [zM]
  have ω7 : (mw (mw (mw (mw (mw τ (12 + 3 * n) 2 (nI a)) (12 + 3 * n) 3 (nI b)) (12 + 3 * n) 4 (nI c)) 3 1 (nI (n + 1))) 1 1 (nI 0)) (12 + 3 * n) 0 = nI n := by
    simp (disch := omega) only [zM]
    rw [t3 _ _ (by omega) (by omega)]
    exact h.2.2.1 n hn
  generalize mw (mw (mw (mw (mw τ (12 + 3 * n) 2 (nI a)) (12 + 3 * n) 3 (nI b)) (12 + 3 * n) 4 (nI c)) 3 1 (nI (n + 1))) 1 1 (nI 0) = ω at *
  have go : ∀ k, k ≠ 0 → ¬ (zwa n ≤ k ∧ k < zwa n + 10) → ywd g n a b c l k = g k := fun k h1 h2 => ywd_o h1 h2
  have a0 : ywd g n a b c l 0 = nI (n + 1) := rfl
  have a1 : ywd g n a b c l (zwa n) = nI a := by unfold ywd zwa; rw [if_neg (by omega), if_pos rfl]
  have a2 : ywd g n a b c l (zwa n + 1) = nI b := by unfold ywd zwa; rw [if_neg (by omega), if_neg (by omega), if_pos rfl]
  have a3 : ywd g n a b c l (zwa n + 2) = nI c := by unfold ywd zwa; rw [if_neg (by omega), if_neg (by omega), if_neg (by omega), if_pos rfl]
  have a4 : ywd g n a b c l (zwa n + 3) = nI l.length := by unfold ywd zwa; rw [if_neg (by omega), if_neg (by omega), if_neg (by omega), if_neg (by omega), if_pos rfl]
  have a5 : ∀ k, k < l.length → ywd g n a b c l (zwa n + 4 + k) = nI (l.getD k 0) := fun k hk => by
    unfold ywd zwa
    rw [if_neg (by omega), if_neg (by omega), if_neg (by omega), if_neg (by omega), if_neg (by omega), if_pos (by omega)]
    congr 2; omega
  generalize ywd g n a b c l = g' at *
  have hwd : zWd g' n := by
    unfold zWd
    rw [a1, a2, a3, a4, zi_ix (by omega)]
    refine ⟨zNI_of (by omega) (by omega), zNI_of (by omega) (by omega), zNI_of (by omega) (by omega), zNI_of hz.2.1 (by omega), hz.1, fun k hk => ?_⟩
    rw [a5 k hk]
    exact zlet_of (hz.2.2 k hk)
  have hst : zst g' n = l := by
    unfold zst
    rw [a4, zi_ix (by omega)]
    exact ztx_eq a5 (fun k hk => zL_get l2 hk)
  refine ⟨rfl, ⟨zBG_wd hg hnn hn a0 go hwd, ?_, ?_⟩, y_nil ω6, ω0⟩
  · refine zCB_wd hg hnn hn a0 go hcb ω5 ?_ ?_ (fun x k p1 p2 p3 p4 => ω0 x k (by omega) p3 p4)
    · unfold zWB
      rw [a1, a2, a3, hst]
      exact ⟨ω2, ω3, ω4, ω1⟩
    · rw [show 13 + 3 * n = 12 + 3 * n + 1 by omega, ω1.1]
      exact zNI_of hz.2.1 (by omega)
  · refine ⟨fun w hw => ?_, ?_, ?_, ?_⟩
    · by_cases hwn : w = n
      · rw [hwn]; exact ω7
      · rw [ω0 _ _ (by omega) (by omega) (by omega)]; exact h.2.2.1 w hw
    · exact zL_cb h.2.2.2.1 (fun a k p q => ω0 _ _ (by omega) (by omega) (by omega))
    · exact zL_cb h.2.2.2.2.1 (fun a k p q => ω0 _ _ (by omega) (by omega) (by omega))
    · exact zL_cb h.2.2.2.2.2 (fun a k p q => ω0 _ _ (by omega) (by omega) (by omega))
/-- ending(1, 1, 0) out of a tape of one letter -/
theorem y_ending {σ : Mem} {g : Nat → Int32} {l : List Nat} (h : yB σ g) (l2 : zL σ 1 l) (hz : l.length ≤ 3 ∧ zAl l) (h0 : g (zea 10) = nI 0) :
    ∃ τ g', fX11_ending σ 0 (nI 1) (nI 1) (nI 0) = some (nI 0, τ) ∧ yB τ g' ∧ zL τ 1 [] ∧ (∀ k, ¬ (zea 10 ≤ k ∧ k < zea 10 + 4) → g' k = g k) ∧ ∀ x k, x ≠ 1 → x ≠ 92 → x ≠ 93 → τ x k = σ x k := by
  have hg := h.1
  have hcb := h.2.1
  have hL := hcb.2.2.2.1 10 (by omega)
  have he : σ 92 1 = nI 0 := by
    have := hL.1
    unfold zen at this
    rw [ztx_len, h0] at this
    exact this
  have key : zW (fX11_ending σ 0 (nI 1) (nI 1) (nI 0)) (fun r => r.1 = nI 0 ∧ zL r.2 92 l ∧ r.2 1 1 = nI 0 ∧ ∀ x k, x ≠ 1 → x ≠ 92 → x ≠ 93 → r.2 x k = σ x k) := by
    unfold fX11_ending
    refine zW_ob (z_endAtX (a := 1) (b := 1) (c := 0) (by omega) (by omega) (by omega)) ?_
    rw [zE_ocss]
    refine zW_jn (fun y : Int32 × Mem => y.1 = nI 0 ∧ zL y.2 92 l ∧ ∀ x k, x ≠ 92 → x ≠ 93 → y.2 x k = σ x k) ?_ ?_
    · rintro ⟨r, τ⟩ ⟨r1, r2, r3⟩
      refine zW_ob z_clear (zW_so ⟨r1, zL_cb r2 (fun x k p q => by simp (disch := omega) only [zM]), by simp only [Nat.zero_add, zM], fun x k p q r => ?_⟩)
      simp (disch := omega) only [zM]
      exact r3 x k q r
    · intro k hk
      simp only [Nat.zero_add]
      refine zW_f ?_ ?_
      · rw [l2.1]
        simp (disch := omega) only [zLT, zC]
        omega
      · refine zW_ob (z_allLetters (R := 50) l2 zl_c.2.2.2.2.2.2.1 (by omega) (by omega)) ?_
        rw [if_pos hz.2]
        refine zW_f zn01 (zW_bv _ he ?_)
        obtain ⟨τ, t1, t2, t3⟩ := z_become (i := 92) (j := 1) (R := 3) (S := 50) (by omega) (zl_b.2.1 _ (by omega) (by omega) (by omega)) zl_c.2.2.2.2.2.2.1 (by omega) (by omega) l2 (by omega) (by omega)
        exact zW_ob t1 (hk _ ⟨rfl, t2, t3⟩)
  obtain ⟨⟨r, τ⟩, er, r1, r2, r3, r4⟩ := key
  dsimp only at r1 r2 r3 r4
  subst r1
  refine ⟨τ, fun k => if k = zea 10 then nI l.length else if zea 10 + 1 ≤ k ∧ k < zea 10 + 4 then nI (l.getD (k - (zea 10 + 1)) 0) else g k, er, ?_, y_nil r3, fun k hk => ?_, r4⟩
  rotate_left
  · dsimp only
    rw [if_neg (by omega), if_neg (by omega)]
  have a4 : (fun k => if k = zea 10 then nI l.length else if zea 10 + 1 ≤ k ∧ k < zea 10 + 4 then nI (l.getD (k - (zea 10 + 1)) 0) else g k) (zea 10) = nI l.length := if_pos rfl
  have a5 : ∀ k, k < l.length → (fun k => if k = zea 10 then nI l.length else if zea 10 + 1 ≤ k ∧ k < zea 10 + 4 then nI (l.getD (k - (zea 10 + 1)) 0) else g k) (zea 10 + 1 + k) = nI (l.getD k 0) := fun k hk => by
    dsimp only
    rw [if_neg (by omega), if_pos (by omega), show zea 10 + 1 + k - (zea 10 + 1) = k by omega]
  have go : ∀ k, ¬ (zea 10 ≤ k ∧ k < zea 10 + 4) → (fun k => if k = zea 10 then nI l.length else if zea 10 + 1 ≤ k ∧ k < zea 10 + 4 then nI (l.getD (k - (zea 10 + 1)) 0) else g k) k = g k := fun k hk => by
    dsimp only
    rw [if_neg (by omega), if_neg (by omega)]
  generalize (fun k => if k = zea 10 then nI l.length else if zea 10 + 1 ≤ k ∧ k < zea 10 + 4 then nI (l.getD (k - (zea 10 + 1)) 0) else g k) = g' at *
  have hwd : zEd g' 10 := by
    unfold zEd
    rw [a4, zi_ix (by omega)]
    refine ⟨zNI_of hz.1 (by omega), fun k hk => ?_⟩
    rw [a5 k hk]
    exact zlet_of (hz.2 k hk)
  have hst : zen g' 10 = l := by
    unfold zen
    rw [a4, zi_ix (by omega)]
    exact ztx_eq a5 (fun k hk => zL_get l2 hk)
  refine ⟨zBG_ed hg (n := 10) (by omega) go hwd, zCB_ed hg (n := 10) (by omega) go hcb (by rw [hst]; exact r2) (fun x k p1 p2 p3 => r4 x k (by omega) (by omega) (by omega)), ?_⟩
  exact zNG_co h.2.2 (fun a k p q r => r4 a k (by omega) (by omega) (by omega)) (fun a k p q => r4 a k (by omega) (by omega) (by omega))
theorem y_text {σ : Mem} {g : Nat → Int32} {l : List Nat} (h : yB σ g) (l1 : l.length ≤ 50) (l2 : zL σ 1 l) (hz : zaw l) :
    ∃ τ g', fX11_text σ 0 = some (nI (zps l).length, τ) ∧ yB τ g' ∧ zL τ 1 [] ∧ (∀ k, k ≠ 13 → k < 467 → g' k = g k) ∧ ∀ x k, x ≠ 1 → x ≠ 8 → x ≠ 9 → τ x k = σ x k := by
  have hg := h.1
  have hcb := h.2.1
  have key : zW (fX11_text σ 0) (fun r => r.1 = nI (zps l).length ∧ zL r.2 8 l ∧ r.2 1 1 = nI 0 ∧ ∀ x k, x ≠ 1 → x ≠ 8 → x ≠ 9 → r.2 x k = σ x k) := by
    unfold fX11_text
    simp only [Nat.zero_add, Nat.reduceAdd]
    refine zW_ob (z_allWords (R := 50) l2 zl_c.2.2.2.2.2.2.1 (by omega) (by omega)) ?_
    refine zW_jn (fun y : Int32 × Mem => y.1 = nI (zps l).length ∧ zL y.2 8 l ∧ ∀ x k, x ≠ 8 → x ≠ 9 → y.2 x k = σ x k) ?_ ?_
    · rintro ⟨r, τ⟩ ⟨r1, r2, r3⟩
      refine zW_ob z_clear (zW_so ⟨r1, zL_cb r2 (fun x k p q => by simp (disch := omega) only [zM]), by simp only [zM], fun x k p q r => ?_⟩)
      simp (disch := omega) only [zM]
      exact r3 x k q r
    · intro k hk
      rw [if_pos hz]
      refine zW_f zn01 ?_
      obtain ⟨τ, t1, t2, t3⟩ := z_become (i := 8) (j := 1) (R := 50) (S := 50) (by omega) zl_c.2.2.2.2.1 zl_c.2.2.2.2.2.2.1 (by omega) (by omega) l2 l1 l1
      exact zW_ob t1 (zW_ob (z_words t2 zl_c.2.2.2.2.1 l1 (by omega)) (hk _ ⟨rfl, t2, t3⟩))
  obtain ⟨⟨r, τ⟩, er, r1, r2, r3, r4⟩ := key
  dsimp only at r1 r2 r3 r4
  subst r1
  refine ⟨τ, fun k => if k = 13 then nI l.length else if k < 467 then g k else nI (l.getD (k - 467) 0), er, ?_, y_nil r3, fun k hk hk2 => ?_, r4⟩
  rotate_left
  · dsimp only
    rw [if_neg hk, if_pos hk2]
  have a4 : (fun k => if k = 13 then nI l.length else if k < 467 then g k else nI (l.getD (k - 467) 0)) 13 = nI l.length := if_pos rfl
  have a5 : ∀ k, k < l.length → (fun k => if k = 13 then nI l.length else if k < 467 then g k else nI (l.getD (k - 467) 0)) (467 + k) = nI (l.getD k 0) := fun k hk => by
    dsimp only
    rw [if_neg (by omega), if_neg (by omega), show 467 + k - 467 = k by omega]
  have go : ∀ k, k ≠ 13 → k < 467 → (fun k => if k = 13 then nI l.length else if k < 467 then g k else nI (l.getD (k - 467) 0)) k = g k := fun k hk hk2 => by
    dsimp only
    rw [if_neg hk, if_pos hk2]
  generalize (fun k => if k = 13 then nI l.length else if k < 467 then g k else nI (l.getD (k - 467) 0)) = g' at *
  have hst : ztt g' = l := by
    unfold ztt
    rw [a4, zi_ix (by omega)]
    exact ztx_eq a5 (fun k hk => zL_get l2 hk)
  refine ⟨zBG_tx hg go (by rw [a4]; exact zNI_of l1 (by omega)) ?_, zCB_tx hg go hcb (by rw [hst]; exact r2) (fun x k p1 p2 p3 p4 => r4 x k (by omega) p3 p4), ?_⟩
  · rw [a4, zi_ix (by omega)]
    intro k hk
    rw [a5 k hk]
    refine zNI_of ?_ (by omega)
    rcases hz.2 k hk with ⟨q, -⟩ | q
    · omega
    · unfold zlt at q
      simp only [Bool.and_eq_true, decide_eq_true_eq] at q
      omega
  · exact zNG_co h.2.2 (fun a k p q r => r4 a k (by omega) (by omega) (by omega)) (fun a k p q => r4 a k (by omega) (by omega) (by omega))
