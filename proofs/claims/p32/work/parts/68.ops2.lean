/-- the desk is all filled -/
def zFd (g : Nat → Int32) (f : Nat) (ws : Nat → Nat) : Prop := f < znF g ∧ g 2 = nI f ∧ ∀ k, k < znH g f → ws k < znW g ∧ zcan g f k (ws k) = true ∧ g (7 + k) = nI (ws k)
def zNd (g : Nat → Int32) : Prop := g 2 = -nI 1 ∨ ∃ f, f < znF g ∧ g 2 = nI f ∧ (∀ k, k < znH g f → g (7 + k) = -nI 1 ∨ ∃ w, w < znW g ∧ g (7 + k) = nI w) ∧ ∃ k, k < znH g f ∧ g (7 + k) = -nI 1
theorem zDk_c {g : Nat → Int32} (hW : znW g ≤ 20) (h : zDk g) : (∃ f ws, zFd g f ws) ∨ zNd g := by
  rcases h.1 with h | ⟨f, hf, h2, hw⟩
  · exact Or.inr (Or.inl h)
  · by_cases hall : ∃ k, k < znH g f ∧ g (7 + k) = -nI 1
    · exact Or.inr (Or.inr ⟨f, hf, h2, fun k hk => (hw k hk).imp id (fun ⟨w, a, _, b⟩ => ⟨w, a, b⟩), hall⟩)
    · refine Or.inl ⟨f, fun k => ix (g (7 + k)), hf, h2, fun k hk => ?_⟩
      rcases hw k hk with e | ⟨w, a, b, c⟩
      · exact absurd ⟨k, hk, e⟩ hall
      · have : ix (g (7 + k)) = w := by
          rw [c]
          exact zi_ix (by omega)
        simp only [this]
        exact ⟨a, b, c⟩
theorem zFi_of {σ : Mem} {g : Nat → Int32} {f : Nat} {ws : Nat → Nat} (hc : zCB σ 3 g) (h : zFd g f ws) : zFi σ 10 g f ws := by
  obtain ⟨d1, d2, d3, d4⟩ := hc.2.2.2.2.2.2
  exact ⟨d1.trans h.2.1, h.1, fun k hk => ⟨(h.2.2 k hk).1, (h.2.2 k hk).2.1, (d4 f h.1 h.2.1 k hk).trans (h.2.2 k hk).2.2⟩⟩
theorem zl_11 : ln (10 + 1) = 6 := zl_c.2.2.2.2.2.1
theorem z_deskX {σ : Mem} {g : Nat → Int32} {f nb m : Nat} {ws : Nat → Nat} (hg : zBG g) (hc : zCB σ 3 g) (hn : zNG σ) (h : zFd g f ws) (hnb : nb < 8) (hm : m < 4) :
    ∃ τ, fX8_say σ 350 3 10 (nI m) (nI nb) = some (nI 1, τ) ∧ zL τ 353 (zlc (zsi g f ws nb m) (znH g f)) ∧ τ 350 3 = nI (znH g f) ∧ (∀ k, k < znH g f → τ 355 k = nI (zsi g f ws nb m k).length) ∧ zSy σ τ :=
  z_say hg hc hn zl_11 (by omega) (zFi_of hc h) hnb hm
theorem z_deskXN {σ : Mem} {g : Nat → Int32} {nb m : Nat} (hg : zBG g) (hc : zCB σ 3 g) (hn : zNG σ) (h : zNd g) (hnb : nb < 8) (hm : m < 4) :
    ∃ τ, fX8_say σ 350 3 10 (nI m) (nI nb) = some (nI 0, τ) ∧ zL τ 353 [] ∧ τ 350 3 = nI 0 ∧ zSy σ τ := by
  obtain ⟨d1, d2, d3, d4⟩ := hc.2.2.2.2.2.2
  refine z_sayN hg hc hn zl_11 (by omega) hnb hm ?_
  rcases h with h | ⟨f, hf, h2, hw, k, hk, hk2⟩
  · exact Or.inl (d1.trans h)
  · exact Or.inr ⟨f, hf, d1.trans h2, fun j hj => (hw j hj).imp (fun e => (d4 f hf h2 j hj).trans e) (fun ⟨w, a, b⟩ => ⟨w, a, (d4 f hf h2 j hj).trans b⟩), k, hk, (d4 f hf h2 k hk).trans hk2⟩
theorem zl_384 : ln 384 = 517 := zl_c.2.2.2.2.2.2.2.2.2.2.2.2.2.2.2.2.2.2.1
theorem z_deskM {σ : Mem} {g : Nat → Int32} {f nb m : Nat} {ws : Nat → Nat} (hg : zBG g) (hM : zMG σ g) (h : zFd g f ws) (hnb : nb < 8) (hm : m < 4) :
    ∃ τ, fX12_saysDesk σ 383 (nI nb) (nI m) = some τ ∧ zLn τ (zlc (zsi g f ws nb m) (znH g f)) ∧ zFs σ τ := by
  have h6 : znH g f ≤ 6 := (hg.2.2.2.2.1 f h.1).1.2
  obtain ⟨τ, t1, t2, t3⟩ := z_says (σ := σ) (R := 384) (fr := 7) hg hM h.1 hnb hm zl_384 (by omega) (by omega) (by omega) (fun k hk => ⟨(h.2.2 k hk).1, (h.2.2 k hk).2.1, (hM _ (by omega)).trans (h.2.2 k hk).2.2⟩)
  refine zW_mono (P := fun υ => υ = τ) ?_ ?_ |>.elim (fun υ q => ⟨υ, q.1, q.2⟩)
  · unfold fX12_saysDesk
    refine zW_gd (by simp (disch := omega) only [zLT, Nat.reduceAdd, zl_c, zI]) ?_
    have e : σ (383 + 1) (ix 2) = nI f := by simp (disch := omega) only [zLT, Nat.reduceAdd, zI]; exact (hM 2 (by omega)).trans h.2.1
    rw [e]
    exact zW_ob t1 (zW_so rfl)
  · rintro υ rfl
    exact ⟨t2, t3⟩
theorem z_deskMN {σ : Mem} {g : Nat → Int32} {nb m : Nat} (hg : zBG g) (hM : zMG σ g) (h : zNd g) :
    ∃ τ, fX12_saysDesk σ 383 (nI nb) (nI m) = some τ ∧ zLn τ [] ∧ zFs σ τ := by
  have hW : znW g ≤ 20 := hg.1.2
  obtain ⟨τ, t1, t2, t3⟩ := z_saysN (σ := σ) (nb := nb) (m := m) (R := 384) (fr := 7) (x := g 2) hg hM zl_384 (by omega) (by omega) (by omega) (by
    rcases h with h | ⟨f, hf, h2, hw, k, hk, hk2⟩
    · exact Or.inl h
    · have h6 : znH g f ≤ 6 := (hg.2.2.2.2.1 f hf).1.2
      exact Or.inr ⟨f, hf, h2, fun j hj => (hw j hj).imp (fun e => (hM _ (by omega)).trans e) (fun ⟨w, a, b⟩ => ⟨w, by omega, (hM _ (by omega)).trans b⟩), k, hk, (hM _ (by omega)).trans hk2⟩)
  refine zW_mono (P := fun υ => υ = τ) ?_ ?_ |>.elim (fun υ q => ⟨υ, q.1, q.2⟩)
  · unfold fX12_saysDesk
    refine zW_gd (by simp (disch := omega) only [zLT, Nat.reduceAdd, zl_c, zI]) ?_
    have e : σ (383 + 1) (ix 2) = g 2 := by simp (disch := omega) only [zLT, Nat.reduceAdd, zI]; exact hM 2 (by omega)
    rw [e]
    exact zW_ob t1 (zW_so rfl)
  · rintro υ rfl
    exact ⟨t2, t3⟩
theorem z_num3 : ∀ a b c, a ≤ 1 → b ≤ 1 → c ≤ 1 → (nI a ||| (nI b <<< (nI 1 &&& 31))) ||| (nI c <<< (nI 2 &&& 31)) = nI (a + 2 * b + 4 * c) := by
  have h : ∀ a b c : Fin 2, (nI a.1 ||| (nI b.1 <<< (nI 1 &&& 31))) ||| (nI c.1 <<< (nI 2 &&& 31)) = nI (a.1 + 2 * b.1 + 4 * c.1) := by decide +kernel
  exact fun a b c h1 h2 h3 => h ⟨a, by omega⟩ ⟨b, by omega⟩ ⟨c, by omega⟩
theorem z_numbers {σ : Mem} {g : Nat → Int32} (hg : zBG g) (hM : zMG σ g) : fX12_numbers σ 383 = some (nI (zbt g)) := by
  obtain ⟨-, -, h4, h5, h6⟩ := hg.2.2.2.2.2.2
  have e4 : σ 384 4 = nI (ix (g 4)) := (hM 4 (by omega)).trans h4.1
  have e5 : σ 384 5 = nI (ix (g 5)) := (hM 5 (by omega)).trans h5.1
  have e6 : σ 384 6 = nI (ix (g 6)) := (hM 6 (by omega)).trans h6.1
  refine zW_val ?_
  unfold fX12_numbers
  refine zW_gd (by simp (disch := omega) only [zLT, Nat.reduceAdd, zl_c, zI]) (zW_gd (by simp (disch := omega) only [zLT, Nat.reduceAdd, zl_c, zI]) (zW_gd (by simp (disch := omega) only [zLT, Nat.reduceAdd, zl_c, zI]) (zW_so ?_)))
  have q4 : σ (383 + 1) (ix 4) = nI (ix (g 4)) := by simp (disch := omega) only [zLT, Nat.reduceAdd, zI]; exact e4
  have q5 : σ (383 + 1) (ix 5) = nI (ix (g 5)) := by simp (disch := omega) only [zLT, Nat.reduceAdd, zI]; exact e5
  have q6 : σ (383 + 1) (ix 6) = nI (ix (g 6)) := by simp (disch := omega) only [zLT, Nat.reduceAdd, zI]; exact e6
  rw [q4, q5, q6]
  exact z_num3 _ _ _ h4.2 h5.2 h6.2
theorem z_mood {g : Nat → Int32} (hg : zBG g) : g 3 = nI (ix (g 3)) ∧ ix (g 3) < 4 := ⟨hg.2.2.2.2.2.2.2.1.1, by have := hg.2.2.2.2.2.2.2.1.2; omega⟩
theorem z_saysDesk_ {σ : Mem} {g : Nat → Int32} {υ : Mem} (hg : zBG g) (hM : zMG σ g) (h : fX12_saysDesk σ 383 (nI (zbt g)) (nI (ix (g 3))) = some υ) : fX12_saysDesk_ σ 383 = some υ := by
  refine zW_val ?_
  unfold fX12_saysDesk_
  refine zW_ob (z_numbers hg hM) ?_
  refine zW_gd (by simp (disch := omega) only [zLT, Nat.reduceAdd, zl_c, zI]) ?_
  have e : σ (383 + 1) (ix 3) = nI (ix (g 3)) := by simp (disch := omega) only [zLT, Nat.reduceAdd, zI]; exact (hM 3 (by omega)).trans (z_mood hg).1
  rw [e]
  exact zW_ob h (zW_so rfl)
/-- what the desk says, as it stands -/
theorem z_deskBoth {σ : Mem} {g : Nat → Int32} (h : zIv σ g) : ∃ l r τ, l.length ≤ 66 ∧ (∀ b, b ∈ l → b < 256) ∧ fX11_sayDesk σ 0 = some (r, τ) ∧ zL τ 353 l ∧ zSy σ τ ∧ (∀ υ, zMG υ g → ∃ ω, fX12_saysDesk_ υ 383 = some ω ∧ zLn ω l ∧ zFs υ ω)
    ∧ ((∃ f ws, zFd g f ws ∧ r = nI 1 ∧ l = zlc (zsi g f ws (zbt g) (ix (g 3))) (znH g f) ∧ τ 350 3 = nI (znH g f) ∧ (∀ k, k < znH g f → τ 355 k = nI (zsi g f ws (zbt g) (ix (g 3)) k).length)) ∨ (zNd g ∧ r = nI 0 ∧ l = [])) := by
  have hg := h.2.1
  have hc := h.2.2.1
  have hN := h.2.2.2.1
  have hb := zbt_lt hg
  obtain ⟨hm1, hm2⟩ := z_mood hg
  obtain ⟨d1, d2, d3, d4⟩ := hc.2.2.2.2.2.2
  have e0 : fX11_sayDesk σ 0 = obd (fX8_say σ 350 3 10 (nI (ix (g 3))) (nI (zbt g))) (fun q1 => some (q1.1, q1.2)) := by
    unfold fX11_sayDesk
    simp only [Nat.zero_add]
    rw [show σ (3 + 7) 1 = nI (ix (g 3)) from d2.trans hm1, show σ (3 + 7) 2 = nI (zbt g) from d3]
  rcases zDk_c hg.1.2 hg.2.2.2.2.2.2 with ⟨f, ws, hd⟩ | hd
  · obtain ⟨τ, t1, t2, t3, t4, t5⟩ := z_deskX hg hc hN hd hb hm2
    have hll := zlc_len (F := zsi g f ws (zbt g) (ix (g 3))) (n := znH g f) (fun k hk => (zsi_len hg hd.1 hk hm2 (fun k hk => (hd.2.2 k hk).1)).2.2)
    have h6 : znH g f ≤ 6 := (hg.2.2.2.2.1 f hd.1).1.2
    refine ⟨zlc (zsi g f ws (zbt g) (ix (g 3))) (znH g f), nI 1, τ, by omega, t2.2.2, by rw [e0, t1]; rfl, t2, t5, fun υ hυ => ?_, Or.inl ⟨f, ws, hd, rfl, rfl, t3, t4⟩⟩
    obtain ⟨ω, o1, o2, o3⟩ := z_deskM hg hυ hd hb hm2
    exact ⟨ω, z_saysDesk_ hg hυ o1, o2, o3⟩
  · obtain ⟨τ, t1, t2, t3, t4⟩ := z_deskXN hg hc hN hd hb hm2
    refine ⟨[], nI 0, τ, by simp, by simp, by rw [e0, t1]; rfl, t2, t4, fun υ hυ => ?_, Or.inr ⟨hd, rfl, rfl⟩⟩
    obtain ⟨ω, o1, o2, o3⟩ := z_deskMN (nb := zbt g) (m := ix (g 3)) hg hυ hd
    exact ⟨ω, z_saysDesk_ hg hυ o1, o2, o3⟩
theorem zFr_sy {σ τ : Mem} (h : zSy σ τ) : zFr σ τ := fun x c p => h x c (fun q => p (by unfold zsc; omega))
theorem zFr_s {σ τ : Mem} (h : zFs σ τ) : zFr σ τ := fun x c p => h x c (fun q => p (by unfold zsc; omega)) (fun q => p (by unfold zsc; omega)) (fun q => p (by unfold zsc; omega))
theorem zl_354 : ln (353 + 1) = 66 := zl_c.2.2.2.2.2.2.2.2.2.1
theorem zl_389 : ln 389 = 80 := zl_c.2.2.2.2.2.2.2.2.2.2.2.2.2.2.2.2.2.2.2.2.2.2.2.1
theorem z_op_said {σ : Mem} {g : Nat → Int32} (h : zIv σ g) (p1 : Int32) : zOp σ (fun σ => fX11_said σ 0 p1) (fun τ => fX12_said τ 383 p1) := by
  obtain ⟨l, r, τ, l1, l2, t1, t2, t3, t4, -⟩ := z_deskBoth h
  have fr := zFr_sy t3
  refine zO_op ?_
  show zW (fX11_said σ 0 p1) _
  unfold fX11_said
  refine zW_ob t1 ?_
  refine zW_ob (z_sizeOrLetter (i := 353) t2 zl_354 l1 (by omega)) (zW_so ?_)
  dsimp only
  unfold fX12_said
  obtain ⟨ω, o1, o2, o3⟩ := t4 τ (zMG_fr h.1 fr)
  refine zW_ob o1 ?_
  exact z_sizeOrM (i := 389) (f := 13) o2.1 o2.2 zl_389 (by omega) ⟨rfl, g, zIv_fr h (zFr_trans fr (zFr_s o3))⟩
