theorem zlc_len {F : Nat → List Nat} : ∀ {n : Nat}, (∀ k, k < n → (F k).length ≤ 10) → (zlc F n).length ≤ 11 * n := by
  intro n
  induction n with
  | zero => intro _; exact Nat.le_refl _
  | succ n ih =>
    intro h
    have := ih (fun k hk => h k (by omega))
    have h1 := h n (by omega)
    unfold zlc
    simp only [List.length_append]
    split <;> simp <;> omega
/-- the class's line gets one word more -/
theorem z_addSp {σ : Mem} {l s : List Nat} {i : Nat} (h1 : zL σ 353 l) (h2 : zL σ 351 s) (hi : i < 6) (hl : l.length ≤ 11 * i) (hs : s.length ≤ 10) (h3 : σ 350 3 = nI i) :
    ∃ τ, fX8_addSpelled σ 350 = some τ ∧ zL τ 353 (l ++ ((if i = 0 then [] else [32]) ++ s)) ∧ τ 350 3 = nI (i + 1) ∧ τ 355 i = nI s.length ∧ (∀ k, k ≠ i → τ 355 k = σ 355 k) ∧ ∀ x c, ¬ (x = 350 ∧ c = 3) → x ≠ 353 → x ≠ 354 → x ≠ 355 → τ x c = σ x c := by
  unfold fX8_addSpelled
  refine zW_jn (fun y : Mem => zL y 353 (l ++ (if i = 0 then [] else [32])) ∧ ∀ x c, x ≠ 353 → x ≠ 354 → y x c = σ x c) ?_ ?_
  · rintro y ⟨y1, y2⟩
    generalize hlq : l ++ (if i = 0 then [] else [32]) = l' at *
    have hl' : l'.length ≤ 11 * i + 1 := by
      rw [← hlq]
      split <;> simp <;> omega
    refine zW_lp (fun n t => ∃ τ, t = (nI n, τ) ∧ n ≤ s.length ∧ zL τ 353 (l' ++ s.take n) ∧ ∀ x c, x ≠ 353 → x ≠ 354 → τ x c = σ x c) s.length ?_ (by unfold FU; omega) ⟨y, rfl, Nat.zero_le _, by simpa using y1, y2⟩
    rintro n t hn ⟨τ, rfl, -, t1, t2⟩
    have hs' : zL τ 351 s := zL_cb h2 (fun p q u v => t2 p q (by omega) (by omega))
    have h3' : τ 350 3 = nI i := by rw [t2 _ _ (by omega) (by omega)]; exact h3
    unfold sX8_addSpelled_18
    dsimp only
    have hs1 : τ (350 + 1) 1 = nI s.length := hs'.1
    refine zW_if (fun h => ?_) (fun h => ?_)
    · rw [hs1] at h
      simp (disch := omega) only [zC] at h
      have : n = s.length := by omega
      subst this
      rw [List.take_length] at t1
      refine zW_oR ?_
      refine zW_f (by rw [h3']; simp (disch := omega) only [zLT, zC]; omega) ?_
      refine zW_gd (by simp (disch := omega) only [h3', Nat.reduceAdd, zl_c, zI]) ?_
      simp only [h3', hs1]
      refine zW_so ⟨?_, ?_, ?_, ?_, ?_⟩
      · refine zL_cb ?_ (τ := _) (σ := τ) (fun p q u v => by simp (disch := omega) only [zM])
        rw [← List.append_assoc, hlq]
        exact t1
      · simp (disch := omega) only [zM, h3', zLT, zI]
      · simp (disch := omega) only [zM, zI]
      · intro k hk
        simp (disch := omega) only [zM, zI]
        exact t2 _ _ (by omega) (by omega)
      · intro x c p1 p2 p3 p4
        simp (disch := omega) only [zM]
        exact t2 x c p2 p3
    · rw [hs1] at h
      simp (disch := omega) only [zC] at h
      have hc : n < s.length := by omega
      have tl : (l' ++ s.take n).length ≤ 11 * i + 1 + n := by simp; omega
      have g1 := zL_get h2 hc
      obtain ⟨υ, q1, q2, q3⟩ := z_add (R := 66) t1 zl_c.2.2.2.2.2.2.2.2.2.1 (by omega) (by omega) g1
      refine zW_ob (x := nI (s.getD n 0)) ?_ ?_
      · rw [z_at hs' zl_c.2.2.2.2.2.2.2.2.1 hs (by omega) (by omega), if_pos hc]
      refine zW_ob q1 (zW_oL ⟨hc, υ, by simp only [zLT, zI], hc, ?_, fun x c p q => by rw [q3 x c p q, t2 x c p q]⟩)
      rw [ztake_succ hc, ← List.append_assoc]
      exact q2
  · intro k hk
    refine zW_if (fun h => ?_) (fun h => ?_)
    · rw [h3] at h
      simp (disch := omega) only [zLT, zC] at h
      exact hk σ ⟨by rw [if_pos (by omega)]; simpa using h1, fun _ _ _ _ => rfl⟩
    · rw [h3] at h
      simp (disch := omega) only [zLT, zC] at h
      obtain ⟨υ, q1, q2, q3⟩ := z_add (b := 32) (R := 66) h1 zl_c.2.2.2.2.2.2.2.2.2.1 (by omega) (by omega) (by omega)
      exact zW_ob q1 (hk υ ⟨by rw [if_neg (by omega)]; exact q2, q3⟩)
/-- cells that the class's say writes -/
def zSy (σ τ : Mem) : Prop := ∀ x c, ¬ (350 ≤ x ∧ x ≤ 355) → τ x c = σ x c
theorem zSy_t {σ τ υ : Mem} (h : zSy σ τ) (h2 : zSy τ υ) : zSy σ υ := fun x c p => by rw [h2 x c p, h x c p]
theorem zCB_sy {σ τ : Mem} {g : Nat → Int32} (hg : zBG g) (h : zCB σ 3 g) (e : zSy σ τ) : zCB τ 3 g := zCB_co hg h (fun a k p q => e a k (by omega))
theorem zNG_sy {σ τ : Mem} (h : zNG σ) (e : zSy σ τ) : zNG τ := zNG_co h (fun a k p q _ => e a k (by omega)) (fun a k p q => e a k (by omega))
/-- one turn of say: hole i gets word w -/
theorem z_sayStep {σ : Mem} {g : Nat → Int32} {F f i nb m w : Nat} {l : List Nat} (hg : zBG g) (hc : zCB σ 3 g) (hn : zNG σ) (hF : ln (F + 1) = 6) (hF2 : ¬ (350 ≤ F ∧ F ≤ 355) ∧ ¬ (350 ≤ F + 1 ∧ F + 1 ≤ 355)) (h0 : σ F 0 = nI f) (hf : f < znF g) (hi : i < znH g f) (hnb : nb < 8) (hm : m < 4)
    (hw : ∀ k, k < znH g f → σ (F + 1) k = -nI 1 ∨ ∃ w, w < znW g ∧ σ (F + 1) k = nI w) (hw1 : w < znW g) (hw2 : σ (F + 1) i = nI w)
    (h1 : zL σ 353 l) (hl : l.length ≤ 11 * i) (h3 : σ 350 3 = nI i) :
    zW (sX8_say_32 350 3 F (nI m) (nI nb) (142 + 6 * f) (nI i, σ)) (fun r => ∃ τ s, r = .inl (nI (i + 1), τ) ∧ s.length ≤ 10 ∧ 1 ≤ s.length ∧ zL τ 353 (l ++ ((if i = 0 then [] else [32]) ++ s)) ∧ τ 350 3 = nI (i + 1) ∧ τ 355 i = nI s.length ∧ (∀ k, k ≠ i → τ 355 k = σ 355 k) ∧ zSy σ τ
      ∧ ∀ ws, (∀ k, k < znH g f → ws k < znW g ∧ σ (F + 1) k = nI (ws k)) → s = zsi g f ws nb m i) := by
  obtain ⟨f5, hFm, hB, q3, q4, q5⟩ := zF_n hg hc hf
  unfold sX8_say_32
  dsimp only
  refine zW_f (by rw [q3]; simp (disch := omega) only [zC]; omega) ?_
  refine zW_ob (x := nI w) (by rw [z_wordIn hF (by omega), zi_ix (by omega), hw2]) ?_
  refine zW_ob (z_wordAt hg hc hw1) ?_
  rw [zE_ocss]
  obtain ⟨v, e, ⟨v', hv, e2⟩, hv2⟩ := z_agreeA hg hc hF h0 hf hi hnb hw
  subst e2
  refine zW_ob e ?_
  obtain ⟨τ, t1, t2, t3⟩ := z_spell (o := 351) (v := v' + m * 24) hg hc hn hw1 (by omega) (by omega) zl_c.2.2.2.2.2.2.2.2.1
  have hok := zform_ok (c := (v' + m * 24) % 4) (n := (v' + m * 24) / 4 % 2) (d := (v' + m * 24) / 8 % 3) (m := (v' + m * 24) / 24) hg hw1 (by omega) (by omega) (by omega)
  refine zW_ob (x := τ) (by simp only [zLT, zI]; exact t1) ?_
  generalize hs : zform g w ((v' + m * 24) % 4) ((v' + m * 24) / 4 % 2) ((v' + m * 24) / 8 % 3) ((v' + m * 24) / 24) = s at *
  obtain ⟨υ, u1, u2, u3, u4, u5, u6⟩ := z_addSp (i := i) (l := l) (s := s) (zL_cb h1 (fun p q a b => t3 p q (by omega) (by omega))) t2 (by omega) hl hok.2.2 (by rw [t3 _ _ (by omega) (by omega)]; exact h3)
  refine zW_ob u1 (zW_oL ⟨υ, s, ?_, hok.2.2, hok.2.1, u2, u3, u4, fun k hk => by rw [u5 k hk, t3 _ _ (by omega) (by omega)], fun x c p => ?_, fun ws h => ?_⟩)
  · simp only [zLT, zI]
  · rw [u6 x c (by omega) (by omega) (by omega) (by omega), t3 x c (by omega) (by omega)]
  · have hz := hv2 ws h
    have hlt := zag_lt (nb := nb) (ws := ws) hg hf hi (fun k hk => (h k hk).1)
    simp (disch := omega) only [zC] at hz
    have hwi : ws i = w := by
      have := (h i hi).2
      have h2 := (h i hi).1
      have h3 : znW g ≤ 20 := hg.1.2
      rw [hw2] at this
      simp (disch := omega) only [zC] at this
      exact this.symm
    rw [← hs]
    unfold zsi
    rw [hwi, ← hz]
    congr 1 <;> omega
theorem z_lineClear {σ : Mem} : zL (mw (mw σ 353 1 (nI 0)) 350 3 (nI 0)) 353 [] ∧ (mw (mw σ 353 1 (nI 0)) 350 3 (nI 0)) 350 3 = nI 0 ∧ zSy σ (mw (mw σ 353 1 (nI 0)) 350 3 (nI 0)) := by
  refine ⟨⟨?_, fun k hk => by simp at hk, fun b hb => by cases hb⟩, ?_, fun x c p => ?_⟩
  · simp (disch := omega) only [zM]; rfl
  · simp (disch := omega) only [zM]
  · simp (disch := omega) only [zM]
/-- say, where all is filled -/
theorem z_say {σ : Mem} {g : Nat → Int32} {F f nb m : Nat} {ws : Nat → Nat} (hg : zBG g) (hc : zCB σ 3 g) (hn : zNG σ) (hF : ln (F + 1) = 6) (hF2 : ¬ (350 ≤ F ∧ F ≤ 355) ∧ ¬ (350 ≤ F + 1 ∧ F + 1 ≤ 355)) (h0 : zFi σ F g f ws) (hnb : nb < 8) (hm : m < 4) :
    ∃ τ, fX8_say σ 350 3 F (nI m) (nI nb) = some (nI 1, τ) ∧ zL τ 353 (zlc (zsi g f ws nb m) (znH g f)) ∧ τ 350 3 = nI (znH g f) ∧ (∀ k, k < znH g f → τ 355 k = nI (zsi g f ws nb m k).length) ∧ zSy σ τ := by
  obtain ⟨f5, hFm, hB, q3, q4, q5⟩ := zF_n hg hc h0.2.1
  obtain ⟨c1, c2, c3⟩ := z_lineClear (σ := σ)
  have : zW (fX8_say σ 350 3 F (nI m) (nI nb)) (fun r => ∃ τ, r = (nI 1, τ) ∧ zL τ 353 (zlc (zsi g f ws nb m) (znH g f)) ∧ τ 350 3 = nI (znH g f) ∧ (∀ k, k < znH g f → τ 355 k = nI (zsi g f ws nb m k).length) ∧ zSy σ τ) := by
    unfold fX8_say
    refine zW_ob z_clear ?_
    refine zW_bv (mw (mw σ 353 1 (nI 0)) 350 3 (nI 0)) rfl ?_
    generalize mw (mw σ 353 1 (nI 0)) 350 3 (nI 0) = σ0 at *
    refine zW_ob (x := some (142 + 6 * f)) ?_ ?_
    · rw [c3 F 0 hF2.1, h0.1]
      exact z_frameAt hg (zCB_sy hg hc c3) h0.2.1
    rw [zE_ocss]
    refine zW_lp (fun n t => ∃ τ, t = (nI n, τ) ∧ n ≤ znH g f ∧ zL τ 353 (zlc (zsi g f ws nb m) n) ∧ (∀ k, k < n → (zsi g f ws nb m k).length ≤ 10) ∧ τ 350 3 = nI n ∧ (∀ k, k < n → τ 355 k = nI (zsi g f ws nb m k).length) ∧ zSy σ τ) (znH g f) ?_ (by unfold FU; omega) ⟨σ0, rfl, Nat.zero_le _, c1, fun k hk => absurd hk (by omega), c2, fun k hk => absurd hk (by omega), c3⟩
    rintro n t hn' ⟨τ, rfl, -, t1, t1', t2, t3, t4⟩
    have hcτ := zCB_sy hg hc t4
    have hnτ := zNG_sy hn t4
    by_cases hlt : n < znH g f
    · have hws : ∀ k, k < znH g f → ws k < znW g ∧ τ (F + 1) k = nI (ws k) := fun k hk => ⟨(h0.2.2 k hk).1, by rw [t4 _ _ hF2.2]; exact (h0.2.2 k hk).2.2⟩
      refine zW_mono (z_sayStep hg hcτ hnτ hF hF2 (by rw [t4 _ _ hF2.1]; exact h0.1) h0.2.1 hlt hnb hm (fun k hk => Or.inr ⟨ws k, (hws k hk).1, (hws k hk).2⟩) (hws n hlt).1 (hws n hlt).2 t1 (zlc_len t1') t2) ?_
      rintro r ⟨υ, s, rfl, s1, s2, s3, s4, s5, s6, s7, s8⟩
      have es := s8 ws hws
      subst es
      refine ⟨hlt, υ, rfl, hlt, s3, fun k hk => ?_, s4, fun k hk => ?_, zSy_t t4 s7⟩
      · rcases Nat.lt_succ_iff_lt_or_eq.mp hk with q | q
        · exact t1' k q
        · rw [q]; exact s1
      · rcases Nat.lt_succ_iff_lt_or_eq.mp hk with q | q
        · rw [s6 k (by omega)]; exact t3 k q
        · rw [q]; exact s5
    · have : n = znH g f := by omega
      subst this
      unfold sX8_say_32
      dsimp only
      have q3' : τ (142 + 6 * f) 0 = nI (znH g f) := by rw [t4 _ _ (by omega)]; exact q3
      refine zW_t (by rw [q3']; simp (disch := omega) only [zC]; omega) (zW_oR (zW_so ⟨τ, rfl, t1, t2, t3, t4⟩))
  obtain ⟨r, e, τ, rfl, h⟩ := this
  exact ⟨τ, e, h⟩
/-- say, where something is wanting -/
theorem z_sayN {σ : Mem} {g : Nat → Int32} {F nb m : Nat} (hg : zBG g) (hc : zCB σ 3 g) (hn : zNG σ) (hF : ln (F + 1) = 6) (hF2 : ¬ (350 ≤ F ∧ F ≤ 355) ∧ ¬ (350 ≤ F + 1 ∧ F + 1 ≤ 355)) (hnb : nb < 8) (hm : m < 4)
    (h0 : σ F 0 = -nI 1 ∨ ∃ f, f < znF g ∧ σ F 0 = nI f ∧ (∀ k, k < znH g f → σ (F + 1) k = -nI 1 ∨ ∃ w, w < znW g ∧ σ (F + 1) k = nI w) ∧ ∃ k, k < znH g f ∧ σ (F + 1) k = -nI 1) :
    ∃ τ, fX8_say σ 350 3 F (nI m) (nI nb) = some (nI 0, τ) ∧ zL τ 353 [] ∧ τ 350 3 = nI 0 ∧ zSy σ τ := by
  obtain ⟨c1, c2, c3⟩ := z_lineClear (σ := σ)
  have : zW (fX8_say σ 350 3 F (nI m) (nI nb)) (fun r => ∃ τ, r = (nI 0, τ) ∧ zL τ 353 [] ∧ τ 350 3 = nI 0 ∧ zSy σ τ) := by
    unfold fX8_say
    refine zW_ob z_clear ?_
    refine zW_bv (mw (mw σ 353 1 (nI 0)) 350 3 (nI 0)) rfl ?_
    generalize mw (mw σ 353 1 (nI 0)) 350 3 (nI 0) = σ0 at *
    rw [c3 F 0 hF2.1]
    rcases h0 with h0 | ⟨f, hf, h0, hw, j, hj, hj2⟩
    · rw [h0]
      refine zW_ob (z_frameAtN hg (zCB_sy hg hc c3) (Or.inl (by decide +kernel))) ?_
      rw [zE_ocsn]
      exact zW_so ⟨σ0, rfl, c1, c2, c3⟩
    · obtain ⟨f5, hFm, hB, q3, q4, q5⟩ := zF_n hg hc hf
      rw [h0]
      refine zW_ob (z_frameAt hg (zCB_sy hg hc c3) hf) ?_
      rw [zE_ocss]
      refine zW_lp (fun n t => ∃ τ l, t = (nI n, τ) ∧ n ≤ j ∧ zL τ 353 l ∧ l.length ≤ 11 * n ∧ τ 350 3 = nI n ∧ zSy σ τ) j ?_ (by unfold FU; omega) ⟨σ0, [], rfl, Nat.zero_le _, c1, Nat.zero_le _, c2, c3⟩
      rintro n t hn' ⟨τ, l, rfl, -, t1, t1', t2, t4⟩
      have hcτ := zCB_sy hg hc t4
      have hnτ := zNG_sy hn t4
      have hwτ : ∀ k, k < znH g f → τ (F + 1) k = -nI 1 ∨ ∃ w, w < znW g ∧ τ (F + 1) k = nI w := fun k hk => by rw [t4 _ _ hF2.2]; exact hw k hk
      rcases hwτ n (by omega) with e | ⟨w, hw1, e⟩
      · unfold sX8_say_32
        dsimp only
        have q3' : τ (142 + 6 * f) 0 = nI (znH g f) := by rw [t4 _ _ (by omega)]; exact q3
        refine zW_f (by rw [q3']; simp (disch := omega) only [zC]; omega) ?_
        refine zW_ob (x := -nI 1) (by rw [z_wordIn hF (by omega), zi_ix (by omega), e]) ?_
        refine zW_ob (z_wordAtN hg hcτ (Or.inl (by decide +kernel))) ?_
        rw [zE_ocsn]
        refine zW_oR (zW_ob z_clear ?_)
        obtain ⟨d1, d2, d3⟩ := z_lineClear (σ := τ)
        exact zW_so ⟨_, rfl, d1, d2, zSy_t t4 d3⟩
      · have hnj : n < j := by
          rcases Nat.eq_or_lt_of_le hn' with q | q
          · subst q
            rw [← t4 _ _ hF2.2, e] at hj2
            have h3 : znW g ≤ 20 := hg.1.2
            simp (disch := omega) only [zC] at hj2
          · exact q
        refine zW_mono (z_sayStep hg hcτ hnτ hF hF2 (by rw [t4 _ _ hF2.1]; exact h0) hf (by omega) hnb hm hwτ hw1 e t1 t1' t2) ?_
        rintro r ⟨υ, s, rfl, s1, s2, s3, s4, s5, s6, s7, s8⟩
        refine ⟨hnj, υ, _, rfl, hnj, s3, ?_, s4, zSy_t t4 s7⟩
        simp only [List.length_append]
        split <;> simp <;> omega
  obtain ⟨r, e, τ, rfl, h⟩ := this
  exact ⟨τ, e, h⟩
