/-- a sheet that is there: sort, size, items -/
def yS (σ : Mem) (t so n : Nat) (A : Nat → Int32) : Prop := σ (367 + 2 * t) 0 = nI so ∧ σ (367 + 2 * t) 1 = nI n ∧ ∀ k, k < n → σ (368 + 2 * t) k = A k
theorem yS_co {σ τ : Mem} {t so n : Nat} {A : Nat → Int32} (h : yS σ t so n A) (e : ∀ c, τ (367 + 2 * t) c = σ (367 + 2 * t) c) (e2 : ∀ c, τ (368 + 2 * t) c = σ (368 + 2 * t) c) : yS τ t so n A := ⟨by rw [e]; exact h.1, by rw [e]; exact h.2.1, fun k hk => by rw [e2]; exact h.2.2 k hk⟩
theorem y_begin7 {σ : Mem} {t n : Nat} {so : Int32} (ht : t < 4) : ∃ τ, fX7_begin σ (367 + 2 * t) so (nI n) = some τ ∧ τ (367 + 2 * t) 0 = so ∧ τ (367 + 2 * t) 1 = nI n ∧ (∀ k, k < 40 → τ (368 + 2 * t) k = nI 0) ∧ ∀ x c, x ≠ 367 + 2 * t → x ≠ 368 + 2 * t → τ x c = σ x c := by
  unfold fX7_begin
  refine zW_bv (mw σ (367 + 2 * t) 0 so) rfl (zW_bv (mw (mw σ (367 + 2 * t) 0 so) (367 + 2 * t) 1 (nI n)) rfl ?_)
  obtain ⟨τ, t1, t2, t3⟩ := z_fillN (σ := mw (mw σ (367 + 2 * t) 0 so) (367 + 2 * t) 1 (nI n)) (i := 367 + 2 * t + 1) (v := nI 0) (zl_t.2 _ (by omega) (by omega) (by omega)) (by omega)
  refine zW_ob t1 (zW_so ⟨?_, ?_, ?_, fun x c p q => ?_⟩)
  · rw [t3 _ _ (by omega)]; simp (disch := omega) only [zM]
  · rw [t3 _ _ (by omega)]; simp (disch := omega) only [zM]
  · rw [show 368 + 2 * t = 367 + 2 * t + 1 by omega]; exact t2
  · rw [t3 _ _ (by omega)]; simp (disch := omega) only [zM]
theorem y_sheetX {σ : Mem} {t : Nat} {p2 p3 : Int32} {Q : Int32 × Mem → Prop} (ht : t < 4) (hQ : zW (if p2 < (-1 : Int32) then (some ((-2 : Int32), σ)) else (if p2 ≤ (1 : Int32) then (if p2 = (-1 : Int32) then (obd (fX7_begin σ (367 + 2 * t) (-1 : Int32) (0 : Int32)) (fun q7 => some ((1 : Int32), q7))) else (if p3 ≤ (40 : Int32) then (if 0 ≤ p3 then (obd (fX7_begin σ (367 + 2 * t) p2 p3) (fun q11 => some ((1 : Int32), q11))) else (some ((-14 : Int32), σ))) else (some ((-2 : Int32), σ)))) else (some ((-2 : Int32), σ)))) Q) : zW (fX11_sheet σ 0 (nI t) p2 p3) Q := by
  unfold fX11_sheet
  rw [z_sheetAt ht]
  exact hQ
theorem y_sheet {σ : Mem} {t so n : Nat} (ht : t < 4) (hso : so ≤ 1) (hn : n ≤ 40) : ∃ τ, fX11_sheet σ 0 (nI t) (nI so) (nI n) = some (nI 1, τ) ∧ yS τ t so n (fun _ => nI 0) ∧ ∀ x c, x ≠ 367 + 2 * t → x ≠ 368 + 2 * t → τ x c = σ x c := by
  obtain ⟨τ, t1, t2, t3, t4, t5⟩ := y_begin7 (σ := σ) (n := n) (so := nI so) ht
  refine ⟨τ, zW_val (y_sheetX ht ?_), ⟨t2, t3, fun k hk => t4 k (by omega)⟩, t5⟩
  have a1 : ¬ nI so < (-1 : Int32) := by rcases (show so = 0 ∨ so = 1 by omega) with rfl | rfl <;> decide +kernel
  have a2 : nI so ≤ (1 : Int32) := by rcases (show so = 0 ∨ so = 1 by omega) with rfl | rfl <;> decide +kernel
  have a3 : ¬ nI so = (-1 : Int32) := by rcases (show so = 0 ∨ so = 1 by omega) with rfl | rfl <;> decide +kernel
  refine zW_f a1 (zW_t a2 (zW_f a3 (zW_t (by simp (disch := omega) only [zLT, zC]; omega) (zW_t (by simp (disch := omega) only [zLT, zC]; omega) (zW_ob t1 (zW_so rfl))))))
theorem y_sheetM {σ : Mem} {t : Nat} {p3 : Int32} (ht : t < 4) : ∃ τ, fX11_sheet σ 0 (nI t) (-nI 1) p3 = some (nI 1, τ) ∧ τ (367 + 2 * t) 0 = -nI 1 ∧ ∀ x c, x ≠ 367 + 2 * t → x ≠ 368 + 2 * t → τ x c = σ x c := by
  obtain ⟨τ, t1, t2, t3, t4, t5⟩ := y_begin7 (σ := σ) (n := 0) (so := -nI 1) ht
  refine ⟨τ, zW_val (y_sheetX ht ?_), t2, t5⟩
  exact zW_f (by decide +kernel) (zW_t (by decide +kernel) (zW_t rfl (zW_ob t1 (zW_so rfl))))
theorem y_sheetE {σ : Mem} : fX11_sheet σ 0 (nI 0) (nI 2) (nI 1) = some (-nI 2, σ) ∧ fX11_sheet σ 0 (nI 0) (nI 0) (nI 41) = some (-nI 2, σ) ∧ fX11_sheet σ 0 (nI 0) (nI 0) (-nI 1) = some (-nI 14, σ) := by
  refine ⟨zW_val (y_sheetX (by omega) ?_), zW_val (y_sheetX (by omega) ?_), zW_val (y_sheetX (by omega) ?_)⟩
  · exact zW_f (by decide +kernel) (zW_f (by decide +kernel) (zW_so rfl))
  · exact zW_f (by decide +kernel) (zW_t (by decide +kernel) (zW_f (by decide +kernel) (zW_f (by decide +kernel) (zW_so rfl))))
  · exact zW_f (by decide +kernel) (zW_t (by decide +kernel) (zW_f (by decide +kernel) (zW_t (by decide +kernel) (zW_f (by decide +kernel) (zW_so rfl)))))
theorem y_put {σ : Mem} {t so n k : Nat} {A : Nat → Int32} {v : Int32} (ht : t < 4) (h : yS σ t so n A) (hn : n ≤ 40) (hk : k < n) (hso : so ≤ 1) (hv : v.toInt16.toInt32 = v) : ∃ τ, fX11_put σ 0 (nI t) (nI k) v = some (nI 1, τ) ∧ yS τ t so n (upd A k v) ∧ ∀ x c, x ≠ 368 + 2 * t → τ x c = σ x c := by
  obtain ⟨b1, a1, a3⟩ := h
  refine ⟨mw σ (368 + 2 * t) k v, zW_val ?_, ⟨by simp (disch := omega) only [zM]; exact b1, by simp (disch := omega) only [zM]; exact a1, fun j hj => ?_⟩, fun x c p => by simp (disch := omega) only [zM]⟩
  · unfold fX11_put
    refine zW_ob (z_sheetAt ht) ?_
    rw [zE_ocss]
    refine zW_ob (z_missS b1) ?_
    rw [if_neg (yn1 (by omega))]
    refine zW_t rfl (zW_ob (z_run (b := 1) a1 hn (by omega)) (zW_f zn01 (zW_ob (x := mw σ (368 + 2 * t) k v) ?_ (zW_so rfl))))
    refine zW_val ?_
    unfold fX7_set
    refine zW_ob (z_run (b := 1) a1 hn (by omega)) (zW_f zn01 ?_)
    refine zW_jn (fun y => y = v) ?_ ?_
    · rintro y rfl
      refine zW_gd (by simp (disch := omega) only [zl_t, zI]) ?_
      refine zW_so ?_
      simp (disch := omega) only [zI]
      rw [show 367 + 2 * t + 1 = 368 + 2 * t by omega]
    · intro kk hkk
      exact zW_if (fun _ => hkk _ hv) (fun _ => hkk _ rfl)
  · by_cases e : j = k
    · subst e; rw [yu_eq]; simp only [zM]
    · rw [yu_ne e]; simp (disch := omega) only [zM]; exact a3 j hj
theorem y_put4 {σ : Mem} {p q : Int32} : fX11_put σ 0 (nI 4) p q = some (-nI 2, σ) := by
  unfold fX11_put
  rw [z_sheetAtN (Or.inr (Int32.le_refl _))]; rfl
theorem y_i16 : ∀ k : Fin 100, (nI k.1).toInt16.toInt32 = nI k.1 := by decide +kernel
theorem y_copy {σ : Mem} {t o so n m b : Nat} {A B : Nat → Int32} (ht : t < 4) (ho : o < 4) (hto : t ≠ o) (hA : yS σ t so n A) (hB : yS σ o so m B) (hn : n ≤ 40) (hm : m ≤ 40) (hso : so ≤ 1) (hb : b ≤ n) (hb2 : b ≤ m) : ∃ τ, fX11_copy σ 0 (nI t) (nI 0) (nI o) (nI 0) (nI b) = some (nI b, τ) ∧ yS τ o so m (fun k => if k < b then A k else B k) ∧ ∀ x c, x ≠ 368 + 2 * o → τ x c = σ x c := by
  obtain ⟨c1, a1, a3⟩ := hA
  obtain ⟨d1, b1, b3⟩ := hB
  have x1 : fX7_take σ (367 + 2 * o) (nI 0) (367 + 2 * t) (nI 0) (nI b) = some (mcp σ (368 + 2 * t) 0 (368 + 2 * o) 0 b) := by
    unfold fX7_take
    rw [z_run a1 hn (by omega)]
    simp only [zE_obd, zLT, zn01, if_false]
    rw [z_run b1 hm (by omega)]
    simp (disch := omega) only [zE, zn01, if_false, zl_t, zI]
    rw [show 367 + 2 * t + 1 = 368 + 2 * t by omega, show 367 + 2 * o + 1 = 368 + 2 * o by omega]
  refine ⟨mcp σ (368 + 2 * t) 0 (368 + 2 * o) 0 b, zW_val ?_, ⟨by simp (disch := omega) only [zM]; exact d1, by simp (disch := omega) only [zM]; exact b1, fun k hk => ?_⟩, fun x c p => by simp (disch := omega) only [zM]⟩
  · unfold fX11_copy
    refine zW_ob (z_sheetAt ht) ?_
    rw [zE_ocss]
    refine zW_ob (z_sheetAt ho) ?_
    rw [zE_ocss]
    refine zW_ob (z_missS c1) ?_
    rw [if_neg (yn1 (by omega))]
    refine zW_t rfl (zW_ob (z_missS d1) ?_)
    rw [if_neg (yn1 (by omega))]
    refine zW_t rfl (zW_t (by rw [c1, d1]) ?_)
    refine zW_ob (z_run a1 hn (by omega)) (zW_f zn01 (zW_ob (z_run b1 hm (by omega)) (zW_f zn01 (zW_ob x1 (zW_so rfl)))))
  · dsimp only
    by_cases e : k < b
    · rw [if_pos e]
      simp (disch := omega) only [zM]
      rw [show 0 + (k - 0) = k by omega]
      exact a3 k (by omega)
    · rw [if_neg e]
      simp (disch := omega) only [zM]
      exact b3 k hk
theorem y_copyU {σ : Mem} {t o so so' n m : Nat} {A B : Nat → Int32} {p2 p4 p5 : Int32} (ht : t < 4) (ho : o < 4) (hA : yS σ t so n A) (hB : yS σ o so' m B) (hso : so ≤ 1) (hso' : so' ≤ 1) (hne : so ≠ so') : fX11_copy σ 0 (nI t) p2 (nI o) p4 p5 = some (-nI 13, σ) := by
  refine zW_val ?_
  unfold fX11_copy
  refine zW_ob (z_sheetAt ht) ?_
  rw [zE_ocss]
  refine zW_ob (z_sheetAt ho) ?_
  rw [zE_ocss]
  refine zW_ob (z_missS hA.1) ?_
  rw [if_neg (yn1 (by omega))]
  refine zW_t rfl (zW_ob (z_missS hB.1) ?_)
  rw [if_neg (yn1 (by omega))]
  refine zW_t rfl (zW_f ?_ (zW_so rfl))
  rw [hA.1, hB.1]
  simp (disch := omega) only [zC]
  exact hne
theorem y_copyO {σ : Mem} {t o so n m a b c : Nat} {A B : Nat → Int32} (ht : t < 4) (ho : o < 4) (hA : yS σ t so n A) (hB : yS σ o so m B) (hso : so ≤ 1) (hn : n ≤ 40) (hm : m ≤ 40) (h1 : a + b ≤ n) (hc : c ≤ 40) (h2 : m < c + b) : fX11_copy σ 0 (nI t) (nI a) (nI o) (nI c) (nI b) = some (-nI 12, σ) := by
  refine zW_val ?_
  unfold fX11_copy
  refine zW_ob (z_sheetAt ht) ?_
  rw [zE_ocss]
  refine zW_ob (z_sheetAt ho) ?_
  rw [zE_ocss]
  refine zW_ob (z_missS hA.1) ?_
  rw [if_neg (yn1 (by omega))]
  refine zW_t rfl (zW_ob (z_missS hB.1) ?_)
  rw [if_neg (yn1 (by omega))]
  refine zW_t rfl (zW_t (by rw [hA.1, hB.1]) ?_)
  refine zW_ob (z_run hA.2.1 hn h1) (zW_f zn01 (zW_ob (z_runN hB.2.1 hm ?_) (zW_t rfl (zW_so rfl))))
  rintro ⟨x, y, e1, e2, e3⟩
  simp (disch := omega) only [zC] at e2 e3
  omega
/-- what a sheet tells of what is said by numbers nb and mood m -/
def ytl (g : Nat → Int32) (n : Nat) (A : Nat → Int32) (nb m : Nat) : Int32 := zuf n A 4 (fun k => (zsi g 0 yws nb m k).length)
theorem y_tellsM {σ : Mem} {t wh : Nat} (ht : t < 4) (hw : wh ≤ 2) (h : σ (367 + 2 * t) 0 = -nI 1) : fX11_tells σ 0 (nI t) (nI wh) = some (-nI 11, σ) := by
  refine zW_val ?_
  unfold fX11_tells
  refine zW_ob (z_sheetAt ht) ?_
  rw [zE_ocss]
  refine zW_f (nI_pos (by omega)) (zW_t (by simp (disch := omega) only [zLT, zC]; omega) (zW_ob (z_missS h) ?_))
  rw [if_pos rfl]
  exact zW_f zn01 (zW_so rfl)
theorem y_tells3 {σ : Mem} : fX11_tells σ 0 (nI 0) (nI 3) = some (-nI 2, σ) := by
  refine zW_val ?_
  unfold fX11_tells
  refine zW_ob (z_sheetAt (by omega)) ?_
  rw [zE_ocss]
  exact zW_f (by decide +kernel) (zW_f (by decide +kernel) (zW_so rfl))
theorem y_tellsB {σ : Mem} {t wh so n : Nat} {A : Nat → Int32} (ht : t < 4) (hw : wh ≤ 2) (h : yS σ t so n A) (hso : so ≤ 1) (hn : n ≤ 40) (h6 : 6 < n) : fX11_tells σ 0 (nI t) (nI wh) = some (-nI 2, σ) := by
  refine zW_val ?_
  unfold fX11_tells
  refine zW_ob (z_sheetAt ht) ?_
  rw [zE_ocss]
  refine zW_f (nI_pos (by omega)) (zW_t (by simp (disch := omega) only [zLT, zC]; omega) (zW_ob (z_missS h.1) ?_))
  rw [if_neg (yn1 (by omega))]
  refine zW_t rfl (zW_f ?_ (zW_so rfl))
  rw [h.2.1]
  simp (disch := omega) only [zLT, zC]; omega
set_option maxHeartbeats 1000000 in
theorem y_tells {σ : Mem} {g : Nat → Int32} {t wh so n : Nat} {A : Nat → Int32} (hB : yB σ g) (hG : yG g) (ht : t < 4) (hw : wh ≤ 2) (h : yS σ t so n A) (hso : so ≤ 1) (hn : n ≤ 6) :
    ∃ τ, fX11_tells σ 0 (nI t) (nI wh) = some (if wh = 0 then ytl g n A 0 1 else if wh = 1 then zac (fun k => ytl g n A 0 k) 4 else zac (fun k => ytl g n A k 1) 8, τ) ∧ zSy σ τ := by
  obtain ⟨τ, t1, t2, t3, t4, t5⟩ := y_sayDesk hB hG
  have vx : ∀ (υ : Mem) (nb m : Nat), zSy σ υ → υ 350 3 = nI 4 → (∀ k, k < 4 → υ 355 k = nI (zsi g 0 yws nb m k).length) → fX11_firstOtherwise υ 0 (367 + 2 * t) = some (ytl g n A nb m) := by
    intro υ nb m hυ u1 u2
    rw [z_first (n := n) ht (by omega) (by omega) (by rw [hυ _ _ (by omega)]; exact h.2.1) u1 u2]
    refine congrArg some ?_
    unfold ytl zuf
    have : ∀ d k, k + d ≤ n → zuk n (fun k => υ (368 + 2 * t) k) 4 (fun k => (zsi g 0 yws nb m k).length) d k = zuk n A 4 (fun k => (zsi g 0 yws nb m k).length) d k := by
      intro d
      induction d with
      | zero => intro k _; rfl
      | succ d ih =>
        intro k hk
        rw [zuk_s, zuk_s, ih (k + 1) (by omega), hυ _ _ (by omega), h.2.2 k (by omega)]
    exact this (min n 4) 0 (by omega)
  have xsay : ∀ (υ : Mem) (nb m : Nat), zSy σ υ → nb < 8 → m < 4 → ∃ ω, fX8_say υ 350 3 10 (nI m) (nI nb) = some (nI 1, ω) ∧ ω 350 3 = nI 4 ∧ (∀ k, k < 4 → ω 355 k = nI (zsi g 0 yws nb m k).length) ∧ zSy σ ω := by
    intro υ nb m hυ hnb hm
    have iv := yB_sy hB hυ
    obtain ⟨ω, o1, o2, o3, o4, o5⟩ := z_deskX iv.1 iv.2.1 iv.2.2 hG.2.2.1 hnb hm
    rw [hG.2.1] at o3 o4
    exact ⟨ω, o1, o3, o4, zSy_t hυ o5⟩
  have d2 := hB.2.1.2.2.2.2.2.2.2.1
  have d3 := hB.2.1.2.2.2.2.2.2.2.2.1
  have key : zW (fX11_tells σ 0 (nI t) (nI wh)) (fun r => r.1 = (if wh = 0 then ytl g n A 0 1 else if wh = 1 then zac (fun k => ytl g n A 0 k) 4 else zac (fun k => ytl g n A k 1) 8) ∧ zSy σ r.2) := by
    unfold fX11_tells
    refine zW_ob (z_sheetAt ht) ?_
    rw [zE_ocss]
    refine zW_f (nI_pos (by omega)) (zW_t (by simp (disch := omega) only [zLT, zC]; omega) (zW_ob (z_missS h.1) ?_))
    rw [if_neg (yn1 (by omega))]
    refine zW_t rfl (zW_t ?_ (zW_ob t1 (zW_f zn01 ?_)))
    · rw [h.2.1]
      simp (disch := omega) only [zLT, zC]; omega
    rcases (show wh = 0 ∨ wh = 1 ∨ wh = 2 by omega) with rfl | rfl | rfl
    · exact zW_t rfl (zW_ob (vx τ 0 1 t5 t3 t4) (zW_so ⟨rfl, t5⟩))
    · refine zW_f (by decide +kernel) (zW_t rfl ?_)
      have xs : zW (fX11_moodsTold τ 0 (367 + 2 * t)) (fun s => s.1 = zac (fun k => ytl g n A 0 k) 4 ∧ zSy σ s.2) := by
        unfold fX11_moodsTold
        refine zW_lp (fun k a => ∃ υ, a = (nI k, zac (fun k => ytl g n A 0 k) k, υ) ∧ zSy σ υ) 4 ?_ (by unfold FU; omega) ⟨τ, rfl, t5⟩
        rintro k a hk ⟨υ, rfl, hυ⟩
        unfold sX11_moodsTold_4
        dsimp only
        refine zW_if (fun q => ?_) (fun q => ?_)
        · simp (disch := omega) only [zLT, zC] at q
          have : k = 4 := by omega
          subst this
          exact zW_oR (zW_so ⟨rfl, hυ⟩)
        · simp (disch := omega) only [zLT, zC] at q
          obtain ⟨ω, o1, o2, o3, o4⟩ := xsay υ 0 k hυ (by omega) (by omega)
          refine zW_ob (x := (nI 1, ω)) ?_ ?_
          · simp only [Nat.zero_add, Nat.reduceAdd]
            rw [show υ 10 2 = nI 0 by rw [hυ _ _ (by omega), ← hG.2.2.2.1]; exact d3]
            exact o1
          refine zW_ob (vx ω _ _ o4 o2 o3) ?_
          refine zW_if (fun r => zW_oL ⟨by omega, ω, ?_, o4⟩) (fun r => zW_oL ⟨by omega, ω, ?_, o4⟩)
          · have r : ytl g n A 0 k = -nI 1 := r
            rw [zac_s, if_pos r]
            simp only [zLT, zI]
          · have r : ¬ ytl g n A 0 k = -nI 1 := r
            rw [zac_s, if_neg r]
            simp only [zLT, zI]
      obtain ⟨⟨s1, s2⟩, e, x1, x2⟩ := xs
      exact zW_ob e (zW_so ⟨x1, x2⟩)
    · refine zW_f (by decide +kernel) (zW_f (by decide +kernel) ?_)
      have xs : zW (fX11_numbersTold τ 0 (367 + 2 * t)) (fun s => s.1 = zac (fun k => ytl g n A k 1) 8 ∧ zSy σ s.2) := by
        unfold fX11_numbersTold
        refine zW_lp (fun k a => ∃ υ, a = (nI k, zac (fun k => ytl g n A k 1) k, υ) ∧ zSy σ υ) 8 ?_ (by unfold FU; omega) ⟨τ, rfl, t5⟩
        rintro k a hk ⟨υ, rfl, hυ⟩
        unfold sX11_numbersTold_4
        dsimp only
        refine zW_if (fun q => ?_) (fun q => ?_)
        · simp (disch := omega) only [zLT, zC] at q
          have : k = 8 := by omega
          subst this
          exact zW_oR (zW_so ⟨rfl, hυ⟩)
        · simp (disch := omega) only [zLT, zC] at q
          obtain ⟨ω, o1, o2, o3, o4⟩ := xsay υ k 1 hυ (by omega) (by omega)
          refine zW_ob (x := (nI 1, ω)) ?_ ?_
          · simp only [Nat.zero_add, Nat.reduceAdd]
            rw [show υ 10 1 = nI 1 by rw [hυ _ _ (by omega), ← hG.2.2.2.2.1]; exact d2]
            exact o1
          refine zW_ob (vx ω _ _ o4 o2 o3) ?_
          refine zW_if (fun r => zW_oL ⟨by omega, ω, ?_, o4⟩) (fun r => zW_oL ⟨by omega, ω, ?_, o4⟩)
          · have r : ytl g n A k 1 = -nI 1 := r
            rw [zac_s, if_pos r]
            simp only [zLT, zI]
          · have r : ¬ ytl g n A k 1 = -nI 1 := r
            rw [zac_s, if_neg r]
            simp only [zLT, zI]
      obtain ⟨⟨s1, s2⟩, e, x1, x2⟩ := xs
      exact zW_ob e (zW_so ⟨x1, x2⟩)
  obtain ⟨⟨r, τ'⟩, er, r1, r2⟩ := key
  dsimp only at r1 r2
  subst r1
  exact ⟨τ', er, r2⟩
/-- what the law asks of the numbers -/
theorem y_zuk4 {n : Nat} {A : Nat → Int32} {B : Nat → Nat} (hn : n = 4) (h : ∀ k, k < 4 → A k = nI (B k)) : zuf n A 4 B = -nI 1 := by
  subst hn
  show zuk 4 A 4 B 4 0 = _
  simp only [zuk_s, h 0 (by omega), h 1 (by omega), h 2 (by omega), h 3 (by omega), if_true]
  rfl
theorem y_zuk3 {A : Nat → Int32} {B : Nat → Nat} (h : ∀ k, k < 3 → A k = nI (B k)) : zuf 3 A 4 B = nI 3 := by
  show zuk 3 A 4 B 3 0 = _
  simp only [zuk_s, h 0 (by omega), h 1 (by omega), h 2 (by omega), if_true]
  rfl
theorem y_zukW {A : Nat → Int32} {B : Nat → Nat} {w : Nat} (hw : w < 4) (h : ∀ k, k < w → A k = nI (B k)) (hne : ¬ A w = nI (B w)) : zuf 4 A 4 B = nI w := by
  show zuk 4 A 4 B 4 0 = _
  rcases (show w = 0 ∨ w = 1 ∨ w = 2 ∨ w = 3 by omega) with rfl | rfl | rfl | rfl
  · rw [zuk_s, if_neg hne]
  · rw [zuk_s, if_pos (h 0 (by omega)), zuk_s, if_neg hne]
  · rw [zuk_s, if_pos (h 0 (by omega)), zuk_s, if_pos (h 1 (by omega)), zuk_s, if_neg hne]
  · rw [zuk_s, if_pos (h 0 (by omega)), zuk_s, if_pos (h 1 (by omega)), zuk_s, if_pos (h 2 (by omega)), zuk_s, if_neg hne]
theorem y_zukN {A : Nat → Int32} {B : Nat → Nat} {w : Nat} (hw : w < 4) (hne : ¬ A w = nI (B w)) : ¬ zuf 4 A 4 B = -nI 1 := by
  show ¬ zuk 4 A 4 B 4 0 = _
  have e : zuk 4 A 4 B 4 0 = if A 0 = nI (B 0) then if A 1 = nI (B 1) then if A 2 = nI (B 2) then if A 3 = nI (B 3) then -nI 1 else nI 3 else nI 2 else nI 1 else nI 0 := by
    simp only [zuk_s, Nat.zero_add, Nat.reduceAdd]
    rfl
  rw [e]
  rcases (show w = 0 ∨ w = 1 ∨ w = 2 ∨ w = 3 by omega) with rfl | rfl | rfl | rfl
  · rw [if_neg hne]; decide +kernel
  · rw [if_neg hne]; split <;> decide +kernel
  · rw [if_neg hne]; split <;> (try split) <;> decide +kernel
  · rw [if_neg hne]; split <;> (try split) <;> (try split) <;> decide +kernel
theorem y_zac0 {V : Nat → Int32} : ∀ {n : Nat}, (∀ k, k < n → ¬ V k = -nI 1) → zac V n = nI 0 := by
  intro n
  induction n with
  | zero => intro _; rfl
  | succ n ih =>
    intro h
    rw [zac_s, if_neg (h n (by omega)), ih (fun k hk => h k (by omega))]
    rfl
def yzc : List Bool → Nat → Int32 → Int32
  | [], _, x => x
  | b :: l, k, x => yzc l (k + 1) (if b then x ||| ((1 : Int32) <<< (nI k &&& 31)) else x ||| 0)
theorem yzc_4 : ∀ a c d : Bool, (yzc [a, true, c, d] 0 (nI 0) >>> (nI 1 &&& 31)) &&& (1 : Int32) = nI 1 := by decide +kernel
theorem yzc_8 : ∀ b c d e f h i : Bool, (yzc [true, b, c, d, e, f, h, i] 0 (nI 0)) &&& (1 : Int32) = nI 1 := by decide +kernel
theorem y_zac4 {V : Nat → Int32} (h : V 1 = -nI 1) : (zac V 4 >>> (nI 1 &&& 31)) &&& (1 : Int32) = nI 1 := by
  have e : zac V 4 = yzc [decide (V 0 = -nI 1), true, decide (V 2 = -nI 1), decide (V 3 = -nI 1)] 0 (nI 0) := by
    rw [zac_s, zac_s, zac_s, zac_s]
    simp only [yzc, h, decide_eq_true_eq, if_true]
    rfl
  rw [e, yzc_4]
theorem y_zac8 {V : Nat → Int32} (h : V 0 = -nI 1) : (zac V 8) &&& (1 : Int32) = nI 1 := by
  have e : zac V 8 = yzc [true, decide (V 1 = -nI 1), decide (V 2 = -nI 1), decide (V 3 = -nI 1), decide (V 4 = -nI 1), decide (V 5 = -nI 1), decide (V 6 = -nI 1), decide (V 7 = -nI 1)] 0 (nI 0) := by
    rw [zac_s, zac_s, zac_s, zac_s, zac_s, zac_s, zac_s, zac_s]
    simp only [yzc, h, decide_eq_true_eq, if_true]
    rfl
  rw [e, yzc_8]
