theorem zuk_cg {n W : Nat} {A : Nat → Int32} {B B' : Nat → Nat} : ∀ {d k : Nat}, (∀ j, k ≤ j → j < k + d → B j = B' j) → zuk n A W B d k = zuk n A W B' d k := by
  intro d
  induction d with
  | zero => intro k _; rfl
  | succ d ih =>
    intro k h
    rw [zuk_s, zuk_s, h k (Nat.le_refl _) (by omega), ih (fun j a b => h j (by omega) (by omega))]
theorem zuf_cg {n W : Nat} {A : Nat → Int32} {B B' : Nat → Nat} (h : ∀ j, j < W → B j = B' j) : zuf n A W B = zuf n A W B' := zuk_cg (fun j _ b => h j (by omega))
theorem zuk_r {n W : Nat} {A : Nat → Int32} {B : Nat → Nat} : ∀ {d k : Nat}, zuk n A W B d k = -nI 1 ∨ ∃ j, j ≤ k + d ∧ zuk n A W B d k = nI j := by
  intro d
  induction d with
  | zero =>
    intro k
    unfold zuk
    split
    · exact Or.inl rfl
    · exact Or.inr ⟨k, by omega, rfl⟩
  | succ d ih =>
    intro k
    rw [zuk_s]
    split
    · rcases ih (k := k + 1) with h | ⟨j, h1, h2⟩
      · exact Or.inl h
      · exact Or.inr ⟨j, by omega, h2⟩
    · exact Or.inr ⟨k, by omega, rfl⟩
def zac (V : Nat → Int32) : Nat → Int32
  | 0 => nI 0
  | k + 1 => if V k = -nI 1 then zac V k ||| ((1 : Int32) <<< (nI k &&& 31)) else zac V k ||| 0
theorem zac_s (V : Nat → Int32) (k : Nat) : zac V (k + 1) = if V k = -nI 1 then zac V k ||| ((1 : Int32) <<< (nI k &&& 31)) else zac V k ||| 0 := rfl
set_option maxHeartbeats 1000000 in
theorem z_op_tells {σ : Mem} {g : Nat → Int32} (h : zIv σ g) (p1 p2 : Int32) : zOp σ (fun σ => fX11_tells σ 0 p1 p2) (fun τ => fX12_tells τ 383 p1 p2) := by
  have hg := h.2.1
  have hM := h.1
  have hF : znF g ≤ 5 := hg.2.1.2
  rcases zrg p1 (n := 4) (by omega) with ⟨t, ht, rfl⟩ | h1
  rotate_left
  · refine zO_e (r := -nI 2) (τ := σ) (υ := σ) ?_ ?_ h
    · unfold fX11_tells
      rw [z_sheetAtN h1]; rfl
    · unfold fX12_tells
      rw [z_isSheetN h1]; rfl
  rcases zrg p2 (n := 3) (by omega) with ⟨wh, hwh, rfl⟩ | h2
  rotate_left
  · refine zO_e (r := -nI 2) (τ := σ) (υ := σ) ?_ ?_ h
    · unfold fX11_tells
      rw [z_sheetAt ht]
      simp only [zE_obd, zE_ocss]
      by_cases h0 : p2 < 0
      · rw [if_pos h0]; rfl
      · rw [if_neg h0, if_neg (show ¬ p2 ≤ (2 : Int32) from zrgN (n := 2) (by omega) h2 h0)]; rfl
    · unfold fX12_tells
      rw [z_isSheet ht]
      simp only [zE_obd, zn01, zLT, if_false]
      rw [show (nI 2 : Int32) = nI (3 - 1) from rfl, z_isInX (by omega) (by omega) h2]; rfl
  obtain ⟨n, hn, a1, a2, a3, a4⟩ := zSH_c h ht
  have gd2 : inb (2 : Int32) (ln (383 + 1)) = true := by simp (disch := omega) only [zLT, Nat.reduceAdd, zl_c, zI]
  have gd3 : inb (3 : Int32) (ln (383 + 1)) = true := by simp (disch := omega) only [zLT, Nat.reduceAdd, zl_c, zI]
  have gs : inb (nI t) (ln (383 + 15)) = true := by simp (disch := omega) only [Nat.reduceAdd, zl_c, zI]
  have gc : inb (nI t) (ln (383 + 16)) = true := by simp (disch := omega) only [Nat.reduceAdd, zl_c, zI]
  refine zO_op ?_
  show zW (fX11_tells σ 0 (nI t) (nI wh)) _
  unfold fX11_tells
  refine zW_ob (z_sheetAt ht) ?_
  rw [zE_ocss]
  refine zW_f (nI_pos (by omega)) (zW_t (by simp (disch := omega) only [zLT, zC]; omega) ?_)
  -- the model up to its desk
  have m0 : ∀ (τ : Mem) (so sz g2 : Int32) (Q : Int32 × Mem → Prop), τ 398 t = so → τ 399 t = sz → τ 384 2 = g2 → zW (if 0 ≤ so then (if sz ≤ (6 : Int32) then (if g2 < 0 then (some ((-3 : Int32), τ)) else (obd (fX12_isFilled τ 383 g2 (7 : Int32) (383 + 1)) (fun q10 => if q10 = 0 then (some ((-3 : Int32), τ)) else (obd (fX12_saysDesk_ τ 383) (fun q13 => if (nI wh : Int32) = 0 then (obd (fX12_unlike q13 383 (nI t)) (fun q16 => some (q16.1, q16.2))) else (lp (sX12_tells_95 383 (nI t) (nI wh)) FU ((0 : Int32), (0 : Int32), q13))))))) else (some ((-2 : Int32), τ))) else (some ((-11 : Int32), τ))) Q → zW (fX12_tells τ 383 (nI t) (nI wh)) Q := by
    intro τ so sz g2 Q e1 e2 e3 hQ
    unfold fX12_tells
    refine zW_ob (z_isSheet ht) (zW_f zn01 ?_)
    refine zW_ob (by rw [show (2 : Int32) = nI 2 from rfl, zLT.1]; exact z_isIn (by omega) (by omega) (by omega)) (zW_f zn01 (zW_gd gs ?_))
    have q1 : τ (383 + 15) (ix (nI t)) = so := by rw [zi_ix (by omega)]; exact e1
    have q2 : τ (383 + 16) (ix (nI t)) = sz := by rw [zi_ix (by omega)]; exact e2
    have q3 : τ (383 + 1) (ix 2) = g2 := by simp (disch := omega) only [zLT, Nat.reduceAdd, zI]; exact e3
    rw [q1, q2, q3, gc, gd2]
    exact hQ
  rcases a4 with ⟨b1, b2⟩ | ⟨so, hso, b1, b2⟩
  · refine zW_ob (z_missS b1) ?_
    rw [if_pos rfl]
    exact zW_f zn01 (zW_so (m0 _ _ _ _ _ b2 a2 (hM 2 (by omega)) (zW_f (by decide +kernel) (zW_so ⟨rfl, g, h⟩))))
  have nm : ¬ (nI so : Int32) = -nI 1 := by simp (disch := omega) only [zC]; exact fun h => h
  refine zW_ob (z_missS b1) ?_
  rw [if_neg nm]
  refine zW_t rfl ?_
  by_cases hn6 : n ≤ 6
  rotate_left
  · refine zW_f (by rw [a1]; simp (disch := omega) only [zLT, zC]; exact hn6) (zW_so (m0 _ _ _ _ _ b2 a2 (hM 2 (by omega)) (zW_t (nI_pos' (by omega)) ?_)))
    exact zW_f (by simp (disch := omega) only [zLT, zC]; exact hn6) (zW_so ⟨rfl, g, h⟩)
  refine zW_t (by rw [a1]; simp (disch := omega) only [zLT, zC]; exact hn6) ?_
  obtain ⟨l, r, τ, l1, l2, t1, t2, t3, t4, t5⟩ := z_deskBoth h
  have fr := zFr_sy t3
  refine zW_ob t1 ?_
  have m1 : ∀ (υ : Mem) (Q : Int32 × Mem → Prop), zFr σ υ → zW (if g 2 < 0 then (some ((-3 : Int32), υ)) else (obd (fX12_isFilled υ 383 (g 2) (7 : Int32) (383 + 1)) (fun q10 => if q10 = 0 then (some ((-3 : Int32), υ)) else (obd (fX12_saysDesk_ υ 383) (fun q13 => if (nI wh : Int32) = 0 then (obd (fX12_unlike q13 383 (nI t)) (fun q16 => some (q16.1, q16.2))) else (lp (sX12_tells_95 383 (nI t) (nI wh)) FU ((0 : Int32), (0 : Int32), q13))))))) Q → zW (fX12_tells υ 383 (nI t) (nI wh)) Q := by
    intro υ Q hυ hQ
    refine m0 υ (nI so) (nI n) (g 2) Q (by rw [hυ _ _ (zsc_no (by omega) (by omega) (by omega) (by omega))]; exact b2) (by rw [hυ _ _ (zsc_no (by omega) (by omega) (by omega) (by omega))]; exact a2) (by rw [hυ _ _ (zsc_no (by omega) (by omega) (by omega) (by omega))]; exact hM 2 (by omega)) (zW_t (nI_pos' (by omega)) (zW_t (by simp (disch := omega) only [zLT, zC]; exact hn6) hQ))
  rcases t5 with ⟨f, ws, hd, e1, e2, e3, e4⟩ | ⟨hd, e1, e2⟩
  rotate_left
  · rw [e1]
    refine zW_t rfl (zW_so (m1 _ _ fr ?_))
    have iv := zIv_fr h fr
    rcases hd with hd | ⟨f, hf, hd, hw, k, hk, hk2⟩
    · exact zW_t (by rw [hd]; decide +kernel) (zW_so ⟨rfl, g, iv⟩)
    · have h6 : znH g f ≤ 6 := (hg.2.2.2.2.1 f hf).1.2
      have hW : znW g ≤ 20 := hg.1.2
      refine zW_f (by rw [hd]; exact nI_pos (by omega)) ?_
      rw [hd]
      refine zW_ob (x := nI 0) ?_ (zW_t rfl (zW_so ⟨rfl, g, iv⟩))
      exact z_isFilledN (R := 384) (fr := 7) (j := k) hg (zMG_fr hM fr) hf zl_384 (by omega) (by omega) (fun j hj => (hw j hj).imp (fun e => (iv.1 _ (by omega)).trans e) (fun ⟨w, a, b⟩ => ⟨w, by omega, (iv.1 _ (by omega)).trans b⟩)) hk ((iv.1 _ (by omega)).trans hk2)
  · rw [e1]
    refine zW_f zn01 ?_
    have h6 : znH g f ≤ 6 := (hg.2.2.2.2.1 f hd.1).1.2
    have hn1 : 1 ≤ znH g f := (hg.2.2.2.2.1 f hd.1).2.1
    have hW : znW g ≤ 20 := hg.1.2
    have hwl : ∀ k, k < znH g f → ws k < znW g := fun k hk => (hd.2.2 k hk).1
    generalize hA : (fun k => σ (368 + 2 * t) k) = A
    -- what is told, by numbers and mood
    let V : Nat → Nat → Int32 := fun nb m => zuf n A (znH g f) (fun k => (zsi g f ws nb m k).length)
    have vr : ∀ nb m, V nb m = -nI 1 ∨ ∃ j, j ≤ 40 ∧ V nb m = nI j := fun nb m => by
      rcases zuk_r (n := n) (W := znH g f) (A := A) (B := fun k => (zsi g f ws nb m k).length) (d := min n (znH g f)) (k := 0) with q | ⟨j, q1, q2⟩
      · exact Or.inl q
      · exact Or.inr ⟨j, by omega, q2⟩
    have vx : ∀ (υ : Mem) (nb m : Nat), zFr σ υ → υ 350 3 = nI (znH g f) → (∀ k, k < znH g f → υ 355 k = nI (zsi g f ws nb m k).length) → fX11_firstOtherwise υ 0 (367 + 2 * t) = some (V nb m) := by
      intro υ nb m hυ u1 u2
      have e : (fun k => υ (368 + 2 * t) k) = A := by
        rw [← hA]
        funext k
        exact hυ _ _ (zsc_no (by omega) (by omega) (by omega) (by omega))
      rw [z_first ht hn h6 (by rw [hυ _ _ (zsc_no (by omega) (by omega) (by omega) (by omega))]; exact a1) u1 u2, e]
    have vm : ∀ (υ : Mem) (nb m : Nat), m < 4 → zFr σ υ → zLn υ (zlc (zsi g f ws nb m) (znH g f)) → ∃ ω, fX12_unlike υ 383 (nI t) = some (V nb m, ω) ∧ zFr σ ω := by
      intro υ nb m hm hυ u1
      have hls : ∀ k, k < znH g f → zLs (zsi g f ws nb m k) ∧ 1 ≤ (zsi g f ws nb m k).length ∧ (zsi g f ws nb m k).length ≤ 10 := fun k hk => zsi_len hg hd.1 hk hm hwl
      have hll := zlc_len (F := zsi g f ws nb m) (n := znH g f) (fun k hk => (hls k hk).2.2)
      have h256 : ∀ n, n ≤ znH g f → ∀ b, b ∈ zlc (zsi g f ws nb m) n → b < 256 := by
        intro n
        induction n with
        | zero => intro _ b hb; cases hb
        | succ n ih =>
          intro hn b hb
          have hb : b ∈ zlc (zsi g f ws nb m) n ++ ((if n = 0 then [] else [32]) ++ zsi g f ws nb m n) := hb
          rcases List.mem_append.mp hb with q | q
          · exact ih (by omega) b q
          · rcases List.mem_append.mp q with q | q
            · split at q
              · cases q
              · rw [List.mem_singleton] at q; omega
            · have := (hls n (by omega)).1 b q; omega
      obtain ⟨z1, z2, z3⟩ := zps_zlc (F := zsi g f ws nb m) (n := znH g f) (fun k hk => ⟨(hls k hk).1, (hls k hk).2.1⟩)
      obtain ⟨ω, o1, o2⟩ := z_unlike (A := A) ht hn u1 (by omega) (h256 _ (Nat.le_refl _)) (by rw [hυ _ _ (zsc_no (by omega) (by omega) (by omega) (by omega))]; exact a2) (fun k hk => by rw [hυ _ _ (zsc_no (by omega) (by omega) (by omega) (by omega)), ← a3 k hk, ← hA])
      refine ⟨ω, ?_, zFr_trans hυ (zFr_pm o2)⟩
      rw [o1, z1]
      have : zuf n A (znH g f) (fun k => ((zps (zlc (zsi g f ws nb m) (znH g f))).getD k (0, 0)).2) = V nb m := zuf_cg (fun j hj => z3 j hj)
      rw [this]
    obtain ⟨hm1, hm2⟩ := z_mood hg
    have hb := zbt_lt hg
    -- the model from its desk on
    have m2 : ∀ (υ : Mem) (Q : Int32 × Mem → Prop), zFr σ υ → (∀ ω, zFr σ ω → zLn ω l → zW (if (nI wh : Int32) = 0 then (obd (fX12_unlike ω 383 (nI t)) (fun q16 => some (q16.1, q16.2))) else (lp (sX12_tells_95 383 (nI t) (nI wh)) FU ((0 : Int32), (0 : Int32), ω))) Q) → zW (fX12_tells υ 383 (nI t) (nI wh)) Q := by
      intro υ Q hυ hQ
      refine m1 υ Q hυ (zW_f (by rw [hd.2.1]; exact nI_pos (by have := hd.1; omega)) ?_)
      rw [hd.2.1]
      have iv := zIv_fr h hυ
      refine zW_ob (x := nI 1) (z_isFilled (R := 384) (fr := 7) hg iv.1 hd.1 zl_384 (by omega) (by omega) (fun k hk => ⟨ws k, by have := hwl k hk; omega, (iv.1 _ (by omega)).trans (hd.2.2 k hk).2.2⟩)) (zW_f zn01 ?_)
      obtain ⟨ω, o1, o2, o3⟩ := t4 υ iv.1
      exact zW_ob o1 (hQ ω (zFr_trans hυ (zFr_s o3)) o2)
    -- the loop of either
    have mloop : ∀ (K : Nat) (NB MD : Nat → Nat) (ω : Mem), zFr σ ω → (wh = 1 ∧ K = 4 ∧ (∀ k, NB k = zbt g ∧ MD k = k) ∨ wh = 2 ∧ K = 8 ∧ (∀ k, NB k = k ∧ MD k = ix (g 3))) → zW (lp (sX12_tells_95 383 (nI t) (nI wh)) FU ((0 : Int32), (0 : Int32), ω)) (fun s => s.1 = zac (fun k => V (NB k) (MD k)) K ∧ ∃ g, zIv s.2 g) := by
      intro K NB MD ω hω hc
      have hK : K ≤ 8 := by omega
      refine zW_lp (fun k a => ∃ υ, a = (nI k, zac (fun k => V (NB k) (MD k)) k, υ) ∧ zFr σ υ) K ?_ (by unfold FU; omega) ⟨ω, rfl, hω⟩
      rintro k a hk ⟨υ, rfl, hυ⟩
      have iv := zIv_fr h hυ
      unfold sX12_tells_95
      dsimp only
      have w1 : wh = 1 ↔ (nI wh : Int32) = (1 : Int32) := by
        constructor
        · rintro rfl; rfl
        · intro q; simp (disch := omega) only [zLT, zC] at q; exact q
      refine zW_jn (fun y => y = nI K) ?_ ?_
      · rintro y rfl
        refine zW_if (fun q => ?_) (fun q => ?_)
        · simp (disch := omega) only [zC] at q
          have : k = K := by omega
          subst this
          exact zW_oR (zW_so ⟨rfl, g, iv⟩)
        · simp (disch := omega) only [zC] at q
          refine zW_jn (fun y => y = nI (NB k)) ?_ ?_
          · rintro y rfl
            refine zW_jn (fun y => y = nI (MD k)) ?_ ?_
            · rintro y rfl
              have hnb : NB k < 8 ∧ MD k < 4 := by
                rcases hc with ⟨_, b, c⟩ | ⟨_, b, c⟩
                · rw [(c k).1, (c k).2]; omega
                · rw [(c k).1, (c k).2]; omega
              obtain ⟨ω1, o1, o2, o3⟩ := z_deskM hg iv.1 hd hnb.1 hnb.2
              refine zW_ob o1 ?_
              obtain ⟨ω2, p1, p2⟩ := vm ω1 (NB k) (MD k) hnb.2 (zFr_trans hυ (zFr_s o3)) o2
              refine zW_ob p1 ?_
              dsimp only
              rcases vr (NB k) (MD k) with e | ⟨j, j1, e⟩
              · refine zW_f (by rw [e]; decide +kernel) (zW_oL ⟨by omega, ω2, ?_, p2⟩)
                rw [zac_s, if_pos e]
                simp only [zLT, zI]
              · refine zW_t (by rw [e]; exact nI_pos' (by omega)) (zW_oL ⟨by omega, ω2, ?_, p2⟩)
                rw [zac_s, if_neg (by rw [e]; simp (disch := omega) only [zC]; exact fun h => h)]
                simp only [zLT, zI]
            · intro kk hkk
              rcases hc with ⟨a, b, c⟩ | ⟨a, b, c⟩
              · exact zW_t (w1.mp a) (hkk _ (by rw [(c k).2]))
              · refine zW_f (fun q => by have := w1.mpr q; omega) (zW_gd gd3 (hkk _ ?_))
                rw [(c k).2]
                simp (disch := omega) only [zLT, Nat.reduceAdd, zI]
                exact (iv.1 3 (by omega)).trans hm1
          · intro kk hkk
            rcases hc with ⟨a, b, c⟩ | ⟨a, b, c⟩
            · exact zW_t (w1.mp a) (zW_ob (z_numbers hg iv.1) (hkk _ (by rw [(c k).1])))
            · exact zW_f (fun q => by have := w1.mpr q; omega) (hkk _ (by rw [(c k).1]))
      · intro kk hkk
        rcases hc with ⟨a, b, c⟩ | ⟨a, b, c⟩
        · exact zW_t (w1.mp a) (hkk _ (by rw [b]; rfl))
        · exact zW_f (fun q => by have := w1.mpr q; omega) (hkk _ (by rw [b]; rfl))
    have xsay : ∀ (υ : Mem) (nb m : Nat), zFr σ υ → nb < 8 → m < 4 → ∃ ω, fX8_say υ 350 3 10 (nI m) (nI nb) = some (nI 1, ω) ∧ ω 350 3 = nI (znH g f) ∧ (∀ k, k < znH g f → ω 355 k = nI (zsi g f ws nb m k).length) ∧ zFr σ ω := by
      intro υ nb m hυ hnb hm
      have iv := zIv_fr h hυ
      obtain ⟨ω, o1, o2, o3, o4, o5⟩ := z_deskX hg iv.2.2.1 iv.2.2.2.1 hd hnb hm
      exact ⟨ω, o1, o3, o4, zFr_trans hυ (zFr_sy o5)⟩
    rcases (by omega : wh = 0 ∨ wh = 1 ∨ wh = 2) with q | q | q
    · subst q
      refine zW_t rfl (zW_ob (vx τ _ _ fr e3 e4) (zW_so (m2 _ _ fr (fun ω o1 o2 => ?_))))
      refine zW_t rfl ?_
      rw [e2] at o2
      obtain ⟨ω', p1, p2⟩ := vm ω (zbt g) (ix (g 3)) hm2 o1 o2
      exact zW_ob p1 (zW_so ⟨rfl, g, zIv_fr h p2⟩)
    · refine zW_f (by rw [q]; decide +kernel) (zW_t (by rw [q]; rfl) ?_)
      have xs : zW (fX11_moodsTold τ 0 (367 + 2 * t)) (fun s => s.1 = zac (fun k => V (zbt g) k) 4 ∧ zFr σ s.2) := by
        unfold fX11_moodsTold
        refine zW_lp (fun k a => ∃ υ, a = (nI k, zac (fun k => V (zbt g) k) k, υ) ∧ zFr σ υ) 4 ?_ (by unfold FU; omega) ⟨τ, rfl, fr⟩
        rintro k a hk ⟨υ, rfl, hυ⟩
        have iv := zIv_fr h hυ
        unfold sX11_moodsTold_4
        dsimp only
        refine zW_if (fun q => ?_) (fun q => ?_)
        · simp (disch := omega) only [zLT, zC] at q
          have : k = 4 := by omega
          subst this
          exact zW_oR (zW_so ⟨rfl, hυ⟩)
        · simp (disch := omega) only [zLT, zC] at q
          obtain ⟨ω, o1, o2, o3, o4⟩ := xsay υ (zbt g) k hυ hb (by omega)
          refine zW_ob (x := (nI 1, ω)) ?_ ?_
          · simp only [Nat.zero_add, Nat.reduceAdd]
            rw [show υ 10 2 = nI (zbt g) from iv.2.2.1.2.2.2.2.2.2.2.2.1]
            exact o1
          refine zW_ob (vx ω _ _ o4 o2 o3) ?_
          refine zW_if (fun r => zW_oL ⟨by omega, ω, ?_, o4⟩) (fun r => zW_oL ⟨by omega, ω, ?_, o4⟩)
          · have r : V (zbt g) k = -nI 1 := r
            rw [zac_s, if_pos r]
            simp only [zLT, zI]
          · have r : ¬ V (zbt g) k = -nI 1 := r
            rw [zac_s, if_neg r]
            simp only [zLT, zI]
      obtain ⟨⟨s1, s2⟩, e, x1, x2⟩ := xs
      refine zW_ob e (zW_so (m2 _ _ x2 (fun ω o1 o2 => ?_)))
      refine zW_f (by rw [q]; decide +kernel) (zW_mono (mloop 4 (fun _ => zbt g) (fun k => k) ω o1 (Or.inl ⟨q, rfl, fun _ => ⟨rfl, rfl⟩⟩)) ?_)
      rintro s ⟨y1, y2⟩
      exact ⟨by rw [y1]; exact x1.symm, y2⟩
    · refine zW_f (by rw [q]; decide +kernel) (zW_f (by rw [q]; decide +kernel) ?_)
      have xs : zW (fX11_numbersTold τ 0 (367 + 2 * t)) (fun s => s.1 = zac (fun k => V k (ix (g 3))) 8 ∧ zFr σ s.2) := by
        unfold fX11_numbersTold
        refine zW_lp (fun k a => ∃ υ, a = (nI k, zac (fun k => V k (ix (g 3))) k, υ) ∧ zFr σ υ) 8 ?_ (by unfold FU; omega) ⟨τ, rfl, fr⟩
        rintro k a hk ⟨υ, rfl, hυ⟩
        have iv := zIv_fr h hυ
        unfold sX11_numbersTold_4
        dsimp only
        refine zW_if (fun q => ?_) (fun q => ?_)
        · simp (disch := omega) only [zLT, zC] at q
          have : k = 8 := by omega
          subst this
          exact zW_oR (zW_so ⟨rfl, hυ⟩)
        · simp (disch := omega) only [zLT, zC] at q
          obtain ⟨ω, o1, o2, o3, o4⟩ := xsay υ k (ix (g 3)) hυ (by omega) hm2
          refine zW_ob (x := (nI 1, ω)) ?_ ?_
          · simp only [Nat.zero_add, Nat.reduceAdd]
            rw [show υ 10 1 = nI (ix (g 3)) from (show υ 10 1 = g 3 from iv.2.2.1.2.2.2.2.2.2.2.1).trans hm1]
            exact o1
          refine zW_ob (vx ω _ _ o4 o2 o3) ?_
          refine zW_if (fun r => zW_oL ⟨by omega, ω, ?_, o4⟩) (fun r => zW_oL ⟨by omega, ω, ?_, o4⟩)
          · have r : V k (ix (g 3)) = -nI 1 := r
            rw [zac_s, if_pos r]
            simp only [zLT, zI]
          · have r : ¬ V k (ix (g 3)) = -nI 1 := r
            rw [zac_s, if_neg r]
            simp only [zLT, zI]
      obtain ⟨⟨s1, s2⟩, e, x1, x2⟩ := xs
      refine zW_ob e (zW_so (m2 _ _ x2 (fun ω o1 o2 => ?_)))
      refine zW_f (by rw [q]; decide +kernel) (zW_mono (mloop 8 (fun k => k) (fun _ => ix (g 3)) ω o1 (Or.inr ⟨q, rfl, fun _ => ⟨rfl, rfl⟩⟩)) ?_)
      rintro s ⟨y1, y2⟩
      exact ⟨by rw [y1]; exact x1.symm, y2⟩
