theorem z_readsWd {g : Nat → Int32} {τ : Mem} {l : List Nat} {hs : List zHt} {p x : Nat} (h : zMrc g τ l) (hx : 343 ≤ x) (hx2 : x + 4 ≤ 500) (hp : p < l.length) (hl : l.getD p 0 = 112) {a : Nat} (ha : zdg l (p + 1) 10 = some a) (h8 : τ 383 8 = nI (p + 1)) (v0 : τ 384 x = nI 112) (v1 : τ 384 (x + 1) = -nI 1) (v2 : τ 384 (x + 2) = -nI 1) : zW (fX12_readsWord τ 383 (nI x)) (zMrr g τ l hs p x) := by
  have hl50 := h.2.2.2.2.1
  have inb' : ∀ k, k < 517 → inb (nI k) (ln (383 + 1)) = true := fun k hk => by simp (disch := omega) only [Nat.reduceAdd, zl_c, zI]
  have e0 : zhr g l hs p = (match zdg l (p + 2) 10 with
      | none => zpl g p a (p + 2)
      | some b => zpl g p (10 * a + b) (p + 3)) := by
    unfold zhr; rw [if_pos hl, ha]; rfl
  have a10 := (zdg_s ha)
  unfold fX12_readsWord
  refine zW_bv (nI (p + 1)) h8 ?_
  refine zW_ob (x := nI (48 + a)) (by rw [zr_here h (by omega), if_pos a10.1, a10.2.1]) (zW_bv (nI a) ?_ (zW_bv (mw τ 383 8 (nI (p + 2))) (by rw [h8, zLT.2.1, zI.1]) ?_))
  · rw [show (48 : Int32) = nI 48 from rfl, zi_sub (by omega)]
    congr 1; omega
  have h' : zMrc g (mw τ 383 8 (nI (p + 2))) l := zMrc_co h (fun k hk => by simp (disch := omega) only [zM]) (by simp (disch := omega) only [zM]) (fun k => by simp (disch := omega) only [zM])
  have m8 : (mw τ 383 8 (nI (p + 2))) 383 8 = nI (p + 2) := by simp only [zM]
  -- the word is written down and looked at
  have fin : ∀ (w q : Nat) (m : Mem), w < 200 → zhr g l hs p = zpl g p w q → m 383 8 = nI q → (∀ y c, ¬ (y = 383 ∧ c = 8) → m y c = τ y c) → zW (grd (inb ((nI x) + (3 : Int32)) (ln (383 + 1))) (bnd (mw m (383 + 1) (ix ((nI x) + (3 : Int32))) (nI w)) (fun m9 => obd (fX12_isWord m9 383 (nI w)) (fun q10 => bnd (fun (y12 : Unit) => bnd (mw m9 383 7 (nI (p + 1))) (fun m13 => some m13)) (fun k12 => if q10 = 0 then (k12 ()) else (obd (fX12_kind m9 383 (nI w)) (fun q15 => if q15 = 0 then (some m9) else (k12 ()))))))) ) (zMrr g τ l hs p x) := by
    intro w q m hw he hm8 hm
    simp only [zLT, zI]
    refine zW_gd (inb' _ (by omega)) (zW_bv (mw m 384 (x + 3) (nI w)) (by rw [zi_ix (by omega)]) ?_)
    have hm9 : zMrc g (mw m 384 (x + 3) (nI w)) l := zMrc_co h (fun k hk => by simp (disch := omega) only [zM]; exact hm _ _ (by omega)) (by simp (disch := omega) only [zM]; exact hm _ _ (by omega)) (fun k => by simp (disch := omega) only [zM]; exact hm _ _ (by omega))
    refine zW_ob (z_isWdM hm9 hw) ?_
    have bad : ¬ (w < znW g ∧ g (zwa w) = nI 0) → zW (bnd (mw (mw m 384 (x + 3) (nI w)) 383 7 (nI (p + 1))) (fun m13 => some m13)) (zMrr g τ l hs p x) := by
      intro hno
      refine zW_bv _ rfl (zW_so ⟨Or.inr ⟨p + 1, ?_, by simp only [zM]⟩, fun y c q1 q2 => ?_⟩)
      · rw [he]; unfold zpl; rw [if_neg hno]
      · simp (disch := omega) only [zM]
        exact hm y c (by omega)
    refine zW_jn (fun _ : Unit => ¬ (w < znW g ∧ g (zwa w) = nI 0)) (fun _ hno => bad hno) (fun k hk => ?_)
    by_cases hwn : w < znW g
    · rw [if_pos hwn]
      refine zW_f zn01 ?_
      have n20 : znW g ≤ 20 := h.1.1.2
      have kd : fX12_kind (mw m 384 (x + 3) (nI w)) 383 (nI w) = some (g (zwa w)) := by
        unfold fX12_kind
        have zw : zwa w < 342 := by unfold zwa; omega
        refine zW_val (zW_gd ?_ (zW_so ?_))
        · simp (disch := omega) only [zLT, Nat.reduceAdd, zl_c, zI]
        · rw [show (14 : Int32) + (10 : Int32) * nI w = nI (zwa w) by simp only [zLT, zI], zi_ix (by omega)]
          exact hm9.2.1 _ zw
      refine zW_ob kd (zW_if (fun q0 => zW_so ⟨Or.inl ⟨(112, -nI 1, -nI 1, nI w), q, ?_, ?_, ?_, ?_, ?_, ?_, ?_⟩, fun y c q1 q2 => ?_⟩) (fun q0 => hk _ (fun e => q0 e.2)))
      · rw [he]; unfold zpl; rw [if_pos ⟨hwn, q0⟩]
      · simp (disch := omega) only [zM]; exact hm _ _ (by omega)
      · simp (disch := omega) only [zM]; exact hm8
      · simp (disch := omega) only [zM]; rw [hm _ _ (by omega)]; exact v0
      · simp (disch := omega) only [zM]; rw [hm _ _ (by omega)]; exact v1
      · simp (disch := omega) only [zM]; rw [hm _ _ (by omega)]; exact v2
      · simp (disch := omega) only [zM]
      · simp (disch := omega) only [zM]
        exact hm y c (by omega)
    · rw [if_neg hwn]
      exact zW_t rfl (hk _ (fun e => hwn e.1))
  rcases z_mdg' h' (i := p + 2) (m := 9) (by omega) (by omega) with ⟨b1, b2⟩ | ⟨b, b1, b2, b3, b4⟩
  · rw [b1] at e0
    refine zW_ob (by rw [m8]; exact b2) ?_
    refine zW_jn (fun y : Int32 × Mem => y = (nI a, mw τ 383 8 (nI (p + 2)))) (fun y hy => by subst hy; exact fin a (p + 2) _ (by omega) e0 m8 (fun y c q => by simp (disch := omega) only [zM])) (fun k hk => zW_t rfl (hk _ rfl))
  · rw [b1] at e0
    refine zW_ob (by rw [m8]; exact b2) ?_
    refine zW_jn (fun y : Int32 × Mem => y = (nI (10 * a + b), mw (mw τ 383 8 (nI (p + 2))) 383 8 (nI (p + 3)))) (fun y hy => by subst hy; exact fin (10 * a + b) (p + 3) _ (by omega) e0 (by simp only [zM]) (fun y c q => by simp (disch := omega) only [zM])) (fun k hk => zW_f zn01 (zW_ob (by rw [m8]; exact b3) (zW_bv (nI (10 * a + b)) ?_ (zW_bv (mw (mw τ 383 8 (nI (p + 2))) 383 8 (nI (p + 3))) (by rw [m8, zLT.2.1, zI.1]) (hk _ rfl)))))
    rw [show (10 : Int32) = nI 10 from rfl, show (48 : Int32) = nI 48 from rfl]
    simp only [zI.1, zI.2.1]
    rw [zi_sub (by omega)]
    congr 1; omega
theorem z_reads {g : Nat → Int32} {τ : Mem} {l : List Nat} {hs : List zHt} {p x : Nat} (h : zMrc g τ l) (hx : 343 ≤ x) (hx2 : x + 4 ≤ 500) (hp : p < l.length) (hl : l.getD p 0 = 110 ∨ l.getD p 0 = 118 ∨ l.getD p 0 = 102 ∨ l.getD p 0 = 112) : zW (fX12_reads τ 383 (nI x) (nI p) (nI (zmrs hs))) (zMrr g τ l hs p x) := by
  have hl50 := h.2.2.2.2.1
  have gb := h.2.2.2.2.2 p hp
  have inb' : ∀ k, k < 517 → inb (nI k) (ln (383 + 1)) = true := fun k hk => by simp (disch := omega) only [Nat.reduceAdd, zl_c, zI]
  unfold fX12_reads
  refine zW_ob (x := nI (l.getD p 0)) (by rw [zr_here h (by omega), if_pos hp]) (zW_gd (inb' _ (by omega)) ?_)
  simp only [zLT, zI]
  obtain ⟨m7, hm7⟩ : ∃ m7, m7 = mw (mw (mw (mw (mw τ 384 x (nI (l.getD p 0))) 384 (x + 1) (-nI 1)) 384 (x + 2) (-nI 1)) 384 (x + 3) (-nI 1)) 383 8 (nI (p + 1)) := ⟨_, rfl⟩
  refine zW_bv (mw τ 384 x (nI (l.getD p 0))) (by rw [zi_ix (by omega)]) (zW_gd (inb' _ (by omega)) (zW_bv (mw (mw τ 384 x (nI (l.getD p 0))) 384 (x + 1) (-nI 1)) (by rw [zi_ix (by omega)]) (zW_gd (inb' _ (by omega)) (zW_bv (mw (mw (mw τ 384 x (nI (l.getD p 0))) 384 (x + 1) (-nI 1)) 384 (x + 2) (-nI 1)) (by rw [zi_ix (by omega)]) (zW_gd (inb' _ (by omega)) (zW_bv (mw (mw (mw (mw τ 384 x (nI (l.getD p 0))) 384 (x + 1) (-nI 1)) 384 (x + 2) (-nI 1)) 384 (x + 3) (-nI 1)) (by rw [zi_ix (by omega)]) (zW_bv m7 (by rw [hm7]) ?_))))))) 
  have v0 : m7 384 x = nI (l.getD p 0) := by rw [hm7]; simp (disch := omega) only [zM]
  have v1 : m7 384 (x + 1) = -nI 1 := by rw [hm7]; simp (disch := omega) only [zM]
  have v2 : m7 384 (x + 2) = -nI 1 := by rw [hm7]; simp (disch := omega) only [zM]
  have v3 : m7 384 (x + 3) = -nI 1 := by rw [hm7]; simp (disch := omega) only [zM]
  have v8 : m7 383 8 = nI (p + 1) := by rw [hm7]; simp only [zM]
  have v9 : ∀ y c, ¬ (y = 383 ∧ c = 8) → ¬ (y = 384 ∧ x ≤ c ∧ c < x + 4) → m7 y c = τ y c := fun y c q1 q2 => by rw [hm7]; simp (disch := omega) only [zM]
  have h7 : zMrc g m7 l := zMrc_co h (fun k hk => v9 _ _ (by omega) (by omega)) (v9 _ _ (by omega) (by omega)) (fun k => v9 _ _ (by omega) (by omega))
  -- a fault
  have flt : ∀ (m : Mem) (e : Nat), zhr g l hs p = .inl e → m 383 8 = nI e → (∀ y c, ¬ (y = 383 ∧ (c = 7 ∨ c = 8)) → ¬ (y = 384 ∧ x ≤ c ∧ c < x + 4) → m y c = τ y c) → zW (bnd (mw m 383 7 (m 383 8)) (fun m18 => some m18)) (zMrr g τ l hs p x) := fun m e he h8 hm => zW_bv _ rfl (zW_so ⟨Or.inr ⟨e, he, by simp only [zM]; exact h8⟩, fun y c q1 q2 => by simp (disch := omega) only [zM]; exact hm y c q1 q2⟩)
  have v9' : ∀ y c, ¬ (y = 383 ∧ (c = 7 ∨ c = 8)) → ¬ (y = 384 ∧ x ≤ c ∧ c < x + 4) → m7 y c = τ y c := fun y c q1 q2 => v9 y c (by omega) q2
  refine zW_if (fun q => ?_) (fun q => ?_)
  · simp (disch := omega) only [zC] at q
    have z9 : (9 : Int32) = nI 9 := rfl
    rcases z_mdg' h7 (i := p + 1) (m := 9) (by omega) (by omega) with ⟨b1, b2⟩ | ⟨a, b1, b2, b3, b4⟩
    · refine zW_ob (by rw [v8]; exact b2) (zW_t rfl (flt m7 (p + 1) ?_ v8 v9'))
      unfold zhr; rw [if_pos q, b1]
    · refine zW_ob (by rw [v8]; exact b2) (zW_f zn01 ?_)
      obtain ⟨r, r1, r2, r3⟩ := z_readsWd (hs := hs) h7 hx hx2 hp q b1 v8 (by rw [v0, q]) v1 v2
      refine zW_ob r1 (zW_so ⟨?_, fun y c q1 q2 => by rw [r3 y c q1 q2]; exact v9 y c (by omega) q2⟩)
      rw [v9 383 7 (by omega) (by omega)] at r2
      exact r2
  · simp (disch := omega) only [zC] at q
    have hl3 : l.getD p 0 = 110 ∨ l.getD p 0 = 118 ∨ l.getD p 0 = 102 := by omega
    have e0 : zhr g l hs p = (match zdg l (p + 1) 3 with
      | none => .inl (p + 1)
      | some a =>
        if l.getD p 0 = 110 ∧ zhN2 hs a = true then .inl (p + 1)
        else if l.getD p 0 = 118 then .inr ((118, nI a, -nI 1, -nI 1), p + 2)
        else match zdg l (p + 2) 4 with
          | none => .inl (p + 2)
          | some b => .inr ((l.getD p 0, nI a, nI b, -nI 1), p + 3)) := by
      unfold zhr; rw [if_neg (by omega), if_pos hl3]; rfl
    rcases z_mdg' h7 (i := p + 1) (m := 2) (by omega) (by omega) with ⟨b1, b2⟩ | ⟨a, b1, b2, b3, b4⟩
    · rw [b1] at e0
      refine zW_ob (by rw [v8]; exact b2) (zW_jn (fun _ : Unit => True) (fun _ _ => flt m7 (p + 1) e0 v8 v9') (fun k hk => zW_t rfl (hk _ trivial)))
    rw [b1] at e0
    dsimp only at e0
    refine zW_ob (by rw [v8]; exact b2) ?_
    refine zW_jn (fun _ : Unit => l.getD p 0 = 110 ∧ zhN2 hs a = true) (fun _ hq => flt m7 (p + 1) (by rw [e0, if_pos hq]) v8 v9') (fun k hk => zW_f zn01 ?_)
    refine zW_jn (fun _ : Unit => ¬ (l.getD p 0 = 110 ∧ zhN2 hs a = true)) (fun _ hno => ?_) (fun k2 hk2 => zW_if (fun e => ?_) (fun e => hk2 _ (fun e2 => e ?_)))
    · rw [if_neg hno] at e0
      refine zW_ob (by rw [v8]; exact b3) (zW_gd (inb' _ (by omega)) (zW_bv (mw m7 384 (x + 1) (nI a)) ?_ (zW_bv (mw (mw m7 384 (x + 1) (nI a)) 383 8 (nI (p + 2))) ?_ ?_)))
      · rw [zi_ix (by omega), zi_sub (by omega), show 48 + a - 48 = a by omega]
      · simp (disch := omega) only [zM]
        rw [v8, zI.1]
      obtain ⟨m24, hm24⟩ : ∃ m24, m24 = mw (mw m7 384 (x + 1) (nI a)) 383 8 (nI (p + 2)) := ⟨_, rfl⟩
      rw [← hm24]
      have w8 : m24 383 8 = nI (p + 2) := by rw [hm24]; simp only [zM]
      have w0 : m24 384 x = nI (l.getD p 0) := by rw [hm24]; simp (disch := omega) only [zM]; exact v0
      have w1 : m24 384 (x + 1) = nI a := by rw [hm24]; simp (disch := omega) only [zM]
      have w2 : m24 384 (x + 2) = -nI 1 := by rw [hm24]; simp (disch := omega) only [zM]; exact v2
      have w3 : m24 384 (x + 3) = -nI 1 := by rw [hm24]; simp (disch := omega) only [zM]; exact v3
      have w9 : ∀ y c, ¬ (y = 383 ∧ c = 8) → ¬ (y = 384 ∧ x ≤ c ∧ c < x + 4) → m24 y c = τ y c := fun y c q1 q2 => by rw [hm24]; simp (disch := omega) only [zM]; exact v9 y c q1 q2
      have h24 : zMrc g m24 l := zMrc_co h (fun k hk => w9 _ _ (by omega) (by omega)) (w9 _ _ (by omega) (by omega)) (fun k => w9 _ _ (by omega) (by omega))
      refine zW_if (fun e => ?_) (fun e => ?_)
      · simp (disch := omega) only [zC] at e
        rw [if_pos e] at e0
        refine zW_so ⟨Or.inl ⟨_, _, e0, w9 _ _ (by omega) (by omega), w8, by rw [w0, e], w1, w2, w3⟩, fun y c q1 q2 => w9 y c (by omega) q2⟩
      · simp (disch := omega) only [zC] at e
        rw [if_neg e] at e0
        rcases z_mdg' h24 (i := p + 2) (m := 3) (by omega) (by omega) with ⟨d1, d2⟩ | ⟨b, d1, d2, d3, d4⟩
        · rw [d1] at e0
          exact zW_ob (by rw [w8]; exact d2) (zW_t rfl (flt m24 (p + 2) e0 w8 (fun y c q1 q2 => w9 y c (by omega) q2)))
        · rw [d1] at e0
          refine zW_ob (by rw [w8]; exact d2) (zW_f zn01 (zW_ob (by rw [w8]; exact d3) (zW_gd (inb' _ (by omega)) (zW_bv (mw m24 384 (x + 2) (nI b)) ?_ (zW_bv (mw (mw m24 384 (x + 2) (nI b)) 383 8 (nI (p + 3))) ?_ (zW_so ⟨Or.inl ⟨_, _, e0, ?_, ?_, ?_, ?_, ?_, ?_⟩, fun y c q1 q2 => ?_⟩))))))
          · rw [zi_ix (by omega), zi_sub (by omega), show 48 + b - 48 = b by omega]
          · simp (disch := omega) only [zM]
            rw [w8, zI.1]
          · simp (disch := omega) only [zM]; exact w9 _ _ (by omega) (by omega)
          · simp only [zM]
          · simp (disch := omega) only [zM]; exact w0
          · simp (disch := omega) only [zM]; exact w1
          · simp (disch := omega) only [zM]
          · simp (disch := omega) only [zM]; exact w3
          · simp (disch := omega) only [zM]; exact w9 y c (by omega) q2
    · simp (disch := omega) only [zC] at e
      refine zW_ob (by rw [v8]; exact b3) ?_
      rw [zi_sub (by omega), show 48 + a - 48 = a by omega]
      refine zW_if (fun e1 => hk _ ⟨e, (zms_t b4).mp e1⟩) (fun e1 => hk2 _ (fun e2 => e1 ((zms_t b4).mpr e2.2)))
    · rw [e2.1]
