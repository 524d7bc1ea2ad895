theorem z8_and (x y : Int32) : ((x ||| y) &&& (-256 : Int32)) = 0 ↔ (x &&& (-256 : Int32)) = 0 ∧ (y &&& (-256 : Int32)) = 0 := by
  simp only [← Int32.toBitVec_inj, Int32.toBitVec_and, Int32.toBitVec_or]
  generalize (-256 : Int32).toBitVec = m
  generalize x.toBitVec = a
  generalize y.toBitVec = b
  have e : (0 : Int32).toBitVec = 0#32 := rfl
  rw [e]
  constructor
  · intro h
    constructor
    · refine BitVec.eq_of_getLsbD_eq (fun i hi => ?_)
      have := congrArg (fun v => v.getLsbD i) h
      simp only [BitVec.getLsbD_and, BitVec.getLsbD_or, BitVec.getLsbD_zero] at this ⊢
      revert this
      cases a.getLsbD i <;> cases b.getLsbD i <;> cases m.getLsbD i <;> decide
    · refine BitVec.eq_of_getLsbD_eq (fun i hi => ?_)
      have := congrArg (fun v => v.getLsbD i) h
      simp only [BitVec.getLsbD_and, BitVec.getLsbD_or, BitVec.getLsbD_zero] at this ⊢
      revert this
      cases a.getLsbD i <;> cases b.getLsbD i <;> cases m.getLsbD i <;> decide
  · rintro ⟨h1, h2⟩
    refine BitVec.eq_of_getLsbD_eq (fun i hi => ?_)
    have q1 := congrArg (fun v => v.getLsbD i) h1
    have q2 := congrArg (fun v => v.getLsbD i) h2
    simp only [BitVec.getLsbD_and, BitVec.getLsbD_or, BitVec.getLsbD_zero] at q1 q2 ⊢
    revert q1 q2
    cases a.getLsbD i <;> cases b.getLsbD i <;> cases m.getLsbD i <;> decide
theorem z8_lt (a : BitVec 32) : (a &&& 0xffffff00#32) = 0#32 ↔ a.toNat < 256 := by
  constructor
  · intro h
    refine Nat.lt_pow_two_of_testBit (n := 8) _ (fun i hi => ?_)
    by_cases h32 : i < 32
    · have := congrArg (fun v => v.getLsbD i) h
      simp only [BitVec.getLsbD_and, BitVec.getLsbD_zero] at this
      have k : ∀ j : Fin 32, 8 ≤ j.1 → (0xffffff00#32).getLsbD j.1 = true := by decide +kernel
      rw [k ⟨i, h32⟩ hi, Bool.and_true] at this
      exact this
    · have h1 := a.isLt
      have : a.toNat < 2 ^ i := Nat.lt_of_lt_of_le h1 (Nat.pow_le_pow_right (by omega) (by omega))
      exact Nat.testBit_lt_two_pow this
  · intro h
    refine BitVec.eq_of_getLsbD_eq (fun i hi => ?_)
    simp only [BitVec.getLsbD_and, BitVec.getLsbD_zero]
    by_cases h8 : 8 ≤ i
    · have : a.getLsbD i = false := Nat.testBit_lt_two_pow (Nat.lt_of_lt_of_le h (show 2 ^ 8 ≤ 2 ^ i from Nat.pow_le_pow_right (by omega) h8))
      rw [this]; rfl
    · have k : ∀ j : Fin 8, (0xffffff00#32).getLsbD j.1 = false := by decide +kernel
      rw [k ⟨i, by omega⟩, Bool.and_false]
def zB8 (x : Int32) : Prop := ∃ j, j < 256 ∧ x = nI j
theorem z8_b (x : Int32) : (x &&& (-256 : Int32)) = 0 ↔ zB8 x := by
  have e : (x &&& (-256 : Int32)) = 0 ↔ (x.toBitVec &&& 0xffffff00#32) = 0#32 := by
    rw [← Int32.toBitVec_inj, Int32.toBitVec_and]
    exact Iff.rfl
  rw [e, z8_lt]
  have nb : ∀ j, j < 256 → (nI j).toBitVec.toNat = j := by
    have : ∀ j : Fin 256, (nI j.1).toBitVec.toNat = j.1 := by decide +kernel
    exact fun j hj => this ⟨j, hj⟩
  constructor
  · intro h
    refine ⟨x.toBitVec.toNat, h, ?_⟩
    rw [← Int32.toBitVec_inj]
    exact BitVec.eq_of_toNat_eq (nb _ h).symm
  · rintro ⟨j, hj, rfl⟩
    rw [nb j hj]; exact hj
theorem z_areBytes {σ : Mem} (a b c d e : Int32) : (zB8 a ∧ zB8 b ∧ zB8 c ∧ zB8 d ∧ zB8 e ∧ fX11_areBytes σ a b c d e = some (nI 1)) ∨ (¬ (zB8 a ∧ zB8 b ∧ zB8 c ∧ zB8 d ∧ zB8 e) ∧ fX11_areBytes σ a b c d e = some (nI 0)) := by
  unfold fX11_areBytes
  have k := z8_and
  by_cases h : zB8 a ∧ zB8 b ∧ zB8 c ∧ zB8 d ∧ zB8 e
  · left
    refine ⟨h.1, h.2.1, h.2.2.1, h.2.2.2.1, h.2.2.2.2, ?_⟩
    rw [if_pos]; · rfl
    rw [z8_and, z8_and, z8_and, z8_and, z8_b, z8_b, z8_b, z8_b, z8_b]
    exact ⟨⟨⟨⟨h.1, h.2.1⟩, h.2.2.1⟩, h.2.2.2.1⟩, h.2.2.2.2⟩
  · right
    refine ⟨h, ?_⟩
    rw [if_neg]; · rfl
    rw [z8_and, z8_and, z8_and, z8_and, z8_b, z8_b, z8_b, z8_b, z8_b]
    exact fun q => h ⟨q.1.1.1.1, q.1.1.1.2, q.1.1.2, q.1.2, q.2⟩
theorem z_is8 {σ : Mem} (x : Int32) : (zB8 x ∧ fX12_isIn σ x (nI 0) (nI 255) = some (nI 1)) ∨ (¬ zB8 x ∧ fX12_isIn σ x (nI 0) (nI 255) = some (nI 0)) := by
  rcases zrg x (n := 256) (by omega) with ⟨j, hj, rfl⟩ | h
  · exact Or.inl ⟨⟨j, hj, rfl⟩, z_isIn (by omega) (by omega) (by omega)⟩
  · refine Or.inr ⟨?_, z_isInX (n := 256) (by omega) (by omega) h⟩
    rintro ⟨j, hj, rfl⟩
    rcases h with h | h
    · exact nI_pos (n := j) (by omega) h
    · simp (disch := omega) only [zC] at h
      omega
theorem zIv_tp {σ τ : Mem} {g : Nat → Int32} (h : zIv σ g) (e : ∀ x c, x ≠ 1 → x ≠ 2 → ¬ (x = 383 ∧ c = 4) → x ≠ 386 → τ x c = σ x c) (ht : zTP τ) : zIv τ g := by
  obtain ⟨h1, h2, h3, h4, h5, h6, h7, h8⟩ := h
  have e1 : ∀ x c, 3 ≤ x → x ≠ 383 → x ≠ 386 → τ x c = σ x c := fun x c p q r => e x c (by omega) (by omega) (by omega) (by omega)
  refine ⟨fun k hk => by rw [e1 _ _ (by omega) (by omega) (by omega)]; exact h1 k hk, h2, zCB_co h2 h3 (fun a k p q => e1 a k (by omega) (by omega) (by omega)), zNG_co h4 (fun a k p q _ => e1 a k (by omega) (by omega) (by omega)) (fun a k p q => e1 a k (by omega) (by omega) (by omega)), ?_, ht, ?_, ?_⟩
  · exact zKP_co h5 (e _ _ (by omega) (by omega) (by omega) (by omega)) (e _ _ (by omega) (by omega) (by omega) (by omega)) (fun k => e1 _ _ (by omega) (by omega) (by omega)) (fun a k p q => e1 a k (by omega) (by omega) (by omega))
  · exact zTR_co h7 (fun a k p q => e1 a k (by omega) (by omega) (by omega)) (fun a k p q => e1 a k (by omega) (by omega) (by omega))
  · exact zSH_co h8 (fun a k p q => e1 a k (by omega) (by omega) (by omega)) (fun a k p q => e1 a k (by omega) (by omega) (by omega))
/-- a letter by its place -/
theorem z_pick {α : Type} {k j2 j3 j4 j5 j6 : Nat} {f : Int32 → Option α} {Q : α → Prop} (hk : k < 5) (h : zW (f (nI ([j2, j3, j4, j5, j6].getD k 0))) Q) : zW (if (nI k) = (0 : Int32) then (f (nI j2)) else (if (nI k) = (1 : Int32) then (f (nI j3)) else (if (nI k) = (2 : Int32) then (f (nI j4)) else (if (nI k) = (3 : Int32) then (f (nI j5)) else (f (nI j6)))))) Q := by
  simp (disch := omega) only [zLT, zC]
  rcases (show k = 0 ∨ k = 1 ∨ k = 2 ∨ k = 3 ∨ k = 4 by omega) with rfl | rfl | rfl | rfl | rfl <;> exact h
theorem ztk {bs : List Nat} {k : Nat} (h : k < bs.length) : bs.take (k + 1) = bs.take k ++ [bs.getD k 0] := by
  rw [List.take_succ]
  simp [List.getD_eq_getElem?_getD, List.getElem?_eq_getElem h]
theorem z_op_feed {σ : Mem} {g : Nat → Int32} (h : zIv σ g) (p1 p2 p3 p4 p5 p6 : Int32) : zOp σ (fun σ => fX11_feed σ 0 p1 p2 p3 p4 p5 p6) (fun τ => fX12_feed τ 383 p1 p2 p3 p4 p5 p6) := by
  -- the class's refusals
  have hx : ∀ n, n ≤ 5 → p1 = nI n → 1 ≤ n → ∀ (Q : Int32 × Mem → Prop), (¬ (zB8 p2 ∧ zB8 p3 ∧ zB8 p4 ∧ zB8 p5 ∧ zB8 p6) → Q ((-2 : Int32), σ)) → ((zB8 p2 ∧ zB8 p3 ∧ zB8 p4 ∧ zB8 p5 ∧ zB8 p6) → zW (if ((σ (0 + 1) 1) + p1) ≤ (50 : Int32) then (lp (sX11_feed_47 0 p1 p2 p3 p4 p5 p6) FU ((0 : Int32), σ)) else (some ((-4 : Int32), σ))) Q) → zW (fX11_feed σ 0 p1 p2 p3 p4 p5 p6) Q := by
    intro n hn e h1 Q q1 q2
    unfold fX11_feed
    refine zW_f (by rw [e]; simp (disch := omega) only [zLT, zC]; omega) (zW_f (by rw [e]; simp (disch := omega) only [zLT, zC]; omega) ?_)
    rcases z_areBytes (σ := σ) p2 p3 p4 p5 p6 with ⟨a, b, c, d, f, r⟩ | ⟨a, r⟩
    · exact zW_ob r (zW_f zn01 (q2 ⟨a, b, c, d, f⟩))
    · exact zW_ob r (zW_t rfl (zW_so (q1 a)))
  -- the model's
  have hm : ∀ n, n ≤ 5 → p1 = nI n → 1 ≤ n → ∀ (τ : Mem) (Q : Int32 × Mem → Prop), (¬ (zB8 p2 ∧ zB8 p3 ∧ zB8 p4 ∧ zB8 p5 ∧ zB8 p6) → Q ((-2 : Int32), τ)) → ((zB8 p2 ∧ zB8 p3 ∧ zB8 p4 ∧ zB8 p5 ∧ zB8 p6) → zW (if ((τ 383 4) + p1) ≤ (50 : Int32) then (lp (sX12_feed_87 383 p1 p2 p3 p4 p5 p6) FU ((0 : Int32), τ)) else (some ((-4 : Int32), τ))) Q) → zW (fX12_feed τ 383 p1 p2 p3 p4 p5 p6) Q := by
    intro n hn e h1 τ Q q1 q2
    unfold fX12_feed
    refine zW_ob (by rw [e, zLT.2.1, show (5 : Int32) = nI 5 from rfl]; exact z_isIn (by omega) (by omega) (by omega)) (zW_f zn01 ?_)
    have st : ∀ (x : Int32) (k : Option (Int32 × Mem)), (¬ zB8 x → Q ((-2 : Int32), τ)) → (zB8 x → zW k Q) → zW (obd (fX12_isIn τ x (0 : Int32) (255 : Int32)) (fun q => if q = 0 then (some ((-2 : Int32), τ)) else k)) Q := by
      intro x k c1 c2
      rcases z_is8 (σ := τ) x with ⟨a, r⟩ | ⟨a, r⟩
      · exact zW_ob r (zW_f zn01 (c2 a))
      · exact zW_ob r (zW_t rfl (zW_so (c1 a)))
    refine st _ _ (fun a => q1 (fun c => a c.1)) (fun a2 => ?_)
    refine st _ _ (fun a => q1 (fun c => a c.2.1)) (fun a3 => ?_)
    refine st _ _ (fun a => q1 (fun c => a c.2.2.1)) (fun a4 => ?_)
    refine st _ _ (fun a => q1 (fun c => a c.2.2.2.1)) (fun a5 => ?_)
    refine st _ _ (fun a => q1 (fun c => a c.2.2.2.2)) (fun a6 => ?_)
    exact q2 ⟨a2, a3, a4, a5, a6⟩
  -- the number of letters
  have hp : (∃ n, n ≤ 5 ∧ 1 ≤ n ∧ p1 = nI n) ∨ (fX11_feed σ 0 p1 p2 p3 p4 p5 p6 = some (-nI 2, σ) ∧ fX12_feed σ 383 p1 p2 p3 p4 p5 p6 = some (-nI 2, σ)) := by
    by_cases h1 : p1 < (1 : Int32)
    · refine Or.inr ⟨by unfold fX11_feed; rw [if_pos h1]; rfl, ?_⟩
      unfold fX12_feed
      rw [z_isInN (Or.inl h1)]; rfl
    · by_cases h5 : (5 : Int32) < p1
      · refine Or.inr ⟨by unfold fX11_feed; rw [if_neg h1, if_pos h5]; rfl, ?_⟩
        unfold fX12_feed
        rw [z_isInN (Or.inr h5)]; rfl
      · refine Or.inl ?_
        rcases zrg p1 (n := 6) (by omega) with ⟨j, hj, rfl⟩ | q
        · simp (disch := omega) only [zLT, zC] at h1
          exact ⟨j, by omega, by omega, rfl⟩
        · exfalso
          have e1 : ((1 : Int32)).toInt = 1 := rfl
          have e5 : ((5 : Int32)).toInt = 5 := rfl
          have e6 : (nI 6).toInt = 6 := nI_toInt (by omega)
          have e0 : ((0 : Int32)).toInt = 0 := rfl
          rw [Int32.lt_iff_toInt_lt] at h1 h5 q
          rw [Int32.le_iff_toInt_le] at q
          omega
  rcases hp with ⟨n, hn, h1, e⟩ | ⟨a, b⟩
  rotate_left
  · exact zO_e a b h
  subst e
  by_cases hb : zB8 p2 ∧ zB8 p3 ∧ zB8 p4 ∧ zB8 p5 ∧ zB8 p6
  rotate_left
  · refine zO_op ?_
    refine hx n hn rfl h1 _ (fun _ => ?_) (fun c => absurd c hb)
    exact hm n hn rfl h1 _ _ (fun _ => ⟨rfl, g, h⟩) (fun c => absurd c hb)
  obtain ⟨l, l1, l2, l3, l4⟩ := h.2.2.2.2.2.1
  refine zO_op ?_
  refine hx n hn rfl h1 _ (fun c => absurd hb c) (fun _ => ?_)
  rw [l2.1]
  simp only [Nat.zero_add]
  refine zW_if (fun q => ?_) (fun q => ?_)
  rotate_left
  · refine zW_so (hm n hn rfl h1 _ _ (fun c => absurd hb c) (fun _ => ?_))
    exact zW_f (show ¬ (σ 383 4 + nI n ≤ 50) by rw [l3]; exact q) (zW_so ⟨rfl, g, h⟩)
  simp (disch := omega) only [zLT, zI, zC] at q
  obtain ⟨⟨j2, b2, rfl⟩, ⟨j3, b3, rfl⟩, ⟨j4, b4, rfl⟩, ⟨j5, b5, rfl⟩, ⟨j6, b6, rfl⟩⟩ := hb
  have hB : ∀ k, k < 5 → [j2, j3, j4, j5, j6].getD k 0 < 256 := by
    intro k hk
    rcases (show k = 0 ∨ k = 1 ∨ k = 2 ∨ k = 3 ∨ k = 4 by omega) with rfl | rfl | rfl | rfl | rfl <;> assumption
  have hlen : [j2, j3, j4, j5, j6].length = 5 := rfl
  generalize hbs : [j2, j3, j4, j5, j6] = bs at hB hlen
  have xl : zW (lp (sX11_feed_47 0 (nI n) (nI j2) (nI j3) (nI j4) (nI j5) (nI j6)) FU ((0 : Int32), σ)) (fun r => r.1 = nI (l.length + n) ∧ zL r.2 1 (l ++ bs.take n) ∧ ∀ x c, x ≠ 1 → x ≠ 2 → r.2 x c = σ x c) := by
    refine zW_lp (fun k a => k ≤ n ∧ ∃ τ, a = (nI k, τ) ∧ zL τ 1 (l ++ bs.take k) ∧ ∀ x c, x ≠ 1 → x ≠ 2 → τ x c = σ x c) n ?_ (by unfold FU; omega) ⟨Nat.zero_le _, σ, rfl, by simpa using l2, fun _ _ _ _ => rfl⟩
    rintro k a hk ⟨-, τ, rfl, t1, t2⟩
    have tl : (l ++ bs.take k).length = l.length + k := by rw [List.length_append, List.length_take, hlen, Nat.min_eq_left (by omega)]
    unfold sX11_feed_47
    dsimp only
    refine zW_if (fun q => ?_) (fun q => ?_)
    · simp (disch := omega) only [zC] at q
      have : k = n := by omega
      subst this
      refine zW_oR (zW_so ⟨?_, t1, t2⟩)
      show τ 1 1 = _
      rw [t1.1, tl]
    · simp (disch := omega) only [zC] at q
      refine zW_jn (fun y => y = nI (bs.getD k 0)) ?_ ?_
      · rintro y rfl
        obtain ⟨υ, u1, u2, u3⟩ := z_add (R := 50) (b := bs.getD k 0) t1 (by decide +kernel) (by omega) (by omega) (hB k (by omega))
        refine zW_ob u1 (zW_bv _ rfl (zW_oL ⟨by omega, by omega, υ, by simp only [zLT, zI], ?_, fun x c p r => by rw [u3 x c p r]; exact t2 x c p r⟩))
        rw [ztk (by omega), ← List.append_assoc]
        exact u2
      · intro kk hkk
        refine z_pick (by omega) ?_
        rw [hbs]
        exact hkk _ rfl
  refine zW_mono xl ?_
  rintro ⟨r, τ⟩ ⟨r1, t1, t2⟩
  dsimp only at r1 t1 t2 ⊢
  refine hm n hn rfl h1 _ _ (fun c => absurd ⟨⟨j2, b2, rfl⟩, ⟨j3, b3, rfl⟩, ⟨j4, b4, rfl⟩, ⟨j5, b5, rfl⟩, ⟨j6, b6, rfl⟩⟩ c) (fun _ => ?_)
  have l3' : τ 383 4 = nI l.length := by rw [t2 _ _ (by omega) (by omega), l3]
  have lt : (l ++ bs.take n).length = l.length + n := by rw [List.length_append, List.length_take, hlen, Nat.min_eq_left (by omega)]
  rw [l3']
  refine zW_t (by simp (disch := omega) only [zLT, zI, zC]; exact q) ?_
  refine zW_lp (fun k a => k ≤ n ∧ ∃ υ, a = (nI k, υ) ∧ (∀ c, c < l.length + k → υ 386 c = nI ((l ++ bs.take n).getD c 0)) ∧ ∀ x c, x ≠ 386 → υ x c = τ x c) n ?_ (by unfold FU; omega) ⟨Nat.zero_le _, τ, rfl, fun c hc => ?_, fun _ _ _ => rfl⟩
  · rintro k a hk ⟨-, υ, rfl, u1, u2⟩
    have u4 : υ 383 4 = nI l.length := by rw [u2 _ _ (by omega), l3']
    unfold sX12_feed_87
    dsimp only
    refine zW_if (fun q => ?_) (fun q => ?_)
    · simp (disch := omega) only [zC] at q
      have : k = n := by omega
      subst this
      refine zW_oR (zW_bv (mw υ 383 4 (nI (l.length + k))) (by rw [u4, zI.1]) (zW_so ⟨?_, g, ?_⟩))
      · simp only [zM]; exact r1.symm
      · refine zIv_tp h (fun x c p1 p2 p3 p4 => ?_) ⟨l ++ bs.take k, by omega, ?_, ?_, fun c hc => ?_⟩
        · simp (disch := omega) only [zM]
          rw [u2 x c p4, t2 x c p1 p2]
        · refine zL_cb t1 (fun a c p q => ?_)
          simp (disch := omega) only [zM]
          rw [u2 _ _ (by omega)]
        · simp only [zM]
          rw [lt]
        · simp (disch := omega) only [zM]
          exact u1 c (by omega)
    · simp (disch := omega) only [zC] at q
      refine zW_jn (fun y => y = nI (bs.getD k 0)) ?_ ?_
      · rintro y rfl
        refine zW_gd (by rw [u4]; simp (disch := omega) only [zI, Nat.reduceAdd, show ln 386 = 50 by decide +kernel]) ?_
        refine zW_bv (mw υ 386 (l.length + k) (nI (bs.getD k 0))) (by rw [u4]; simp (disch := omega) only [zI, Nat.reduceAdd]) (zW_bv _ rfl (zW_oL ⟨by omega, by omega, mw υ 386 (l.length + k) (nI (bs.getD k 0)), by simp only [zLT, zI], fun c hc => ?_, fun x c p => by simp (disch := omega) only [zM]; exact u2 x c p⟩))
        by_cases hc2 : c = l.length + k
        · subst hc2
          simp only [zM]
          rw [zgd_app, if_neg (by omega), zgd_take, if_pos (by omega)]
          congr 2; omega
        · simp (disch := omega) only [zM]
          exact u1 c (by omega)
      · intro kk hkk
        refine z_pick (by omega) ?_
        rw [hbs]
        exact hkk _ rfl
  · rw [t2 _ _ (by omega) (by omega), l4 c (by omega), zgd_app, if_pos (by omega)]
