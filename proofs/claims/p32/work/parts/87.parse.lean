/-- a hole that is read: letter, group, case, word -/
abbrev zHt := Nat × Int32 × Int32 × Int32
def zH0 : zHt := (0, 0, 0, 0)
def zdg (l : List Nat) (i m : Nat) : Option Nat := if i < l.length ∧ 48 ≤ l.getD i 0 ∧ l.getD i 0 < 48 + m then some (l.getD i 0 - 48) else none
def zhN2 (hs : List zHt) (gr : Nat) : Bool := hs.any (fun h => decide (h.1 = 110) && decide (h.2.1 = nI gr))
def zhG2 (hs : List zHt) (gr : Nat) : Bool := hs.any (fun h => decide (h.2.1 = nI gr))
def zwh (hs : List zHt) : Bool := (!zhG2 hs 0 || zhN2 hs 0) && ((!zhG2 hs 1 || zhN2 hs 1) && (!zhG2 hs 2 || zhN2 hs 2))
def zpl (g : Nat → Int32) (p w q : Nat) : Nat ⊕ (zHt × Nat) := if w < znW g ∧ g (zwa w) = nI 0 then .inr ((112, -nI 1, -nI 1, nI w), q) else .inl (p + 1)
def zhr (g : Nat → Int32) (l : List Nat) (hs : List zHt) (p : Nat) : Nat ⊕ (zHt × Nat) :=
  if l.getD p 0 = 112 then
    (match zdg l (p + 1) 10 with
    | none => .inl (p + 1)
    | some a => match zdg l (p + 2) 10 with
      | none => zpl g p a (p + 2)
      | some b => zpl g p (10 * a + b) (p + 3))
  else if l.getD p 0 = 110 ∨ l.getD p 0 = 118 ∨ l.getD p 0 = 102 then
    (match zdg l (p + 1) 3 with
    | none => .inl (p + 1)
    | some a =>
      if l.getD p 0 = 110 ∧ zhN2 hs a = true then .inl (p + 1)
      else if l.getD p 0 = 118 then .inr ((118, nI a, -nI 1, -nI 1), p + 2)
      else match zdg l (p + 2) 4 with
        | none => .inl (p + 2)
        | some b => .inr ((l.getD p 0, nI a, nI b, -nI 1), p + 3))
  else .inl p
def zrd (g : Nat → Int32) (l : List Nat) : Nat → List zHt → Nat → Nat ⊕ List zHt
  | 0, _, _ => .inl 0
  | f + 1, hs, p =>
    if l.length ≤ p then (if hs.length ≠ 0 ∧ zwh hs = true then .inr hs else .inl l.length)
    else if l.getD p 0 = 32 ∨ l.getD p 0 = 10 then zrd g l f hs (p + 1)
    else if hs.length = 6 then .inl p
    else match zhr g l hs p with
      | .inl e => .inl e
      | .inr h => zrd g l f (hs ++ [h.1]) h.2
theorem zdg_s {l : List Nat} {i m a : Nat} (h : zdg l i m = some a) : i < l.length ∧ l.getD i 0 = 48 + a ∧ a < m := by
  unfold zdg at h
  split at h
  · rename_i q
    cases h
    exact ⟨q.1, by omega, by omega⟩
  · cases h
/-- a hole is of more than one letter, and there are no two nouns of a group -/
theorem zhr_ok {g : Nat → Int32} {l : List Nat} {hs : List zHt} {p : Nat} {h : zHt} {p' : Nat} (hg : zBG g) (e : zhr g l hs p = .inr (h, p')) : p < p' ∧ p' ≤ l.length ∧ zHo g (nI h.1) h.2.1 h.2.2.1 h.2.2.2 ∧ h.1 = l.getD p 0 ∧ (h.1 = 110 → ∀ gr, gr < 3 → h.2.1 = nI gr → zhN2 hs gr = false) ∧ h.1 < 256 := by
  have n20 : znW g ≤ 20 := hg.1.2
  have pl : ∀ w q, q ≤ l.length → p < q → l.getD p 0 = 112 → zpl g p w q = .inr (h, p') → p < p' ∧ p' ≤ l.length ∧ zHo g (nI h.1) h.2.1 h.2.2.1 h.2.2.2 ∧ h.1 = l.getD p 0 ∧ (h.1 = 110 → ∀ gr, gr < 3 → h.2.1 = nI gr → zhN2 hs gr = false) ∧ h.1 < 256 := by
    intro w q hq hpq hp e
    unfold zpl at e
    split at e
    · rename_i c
      cases e
      have cw := c.1
      refine ⟨hpq, hq, Or.inr (Or.inr (Or.inr ⟨rfl, rfl, rfl, zNI_of (by omega) (by omega), by rw [zi_ix (by omega)]; exact c.1, by rw [zi_ix (by omega)]; exact c.2⟩)), hp.symm, fun q => by dsimp only at q; omega, by dsimp only; omega⟩
    · cases e
  unfold zhr at e
  split at e
  · rename_i hp
    split at e
    · cases e
    · rename_i a ea
      obtain ⟨a1, -, -⟩ := zdg_s ea
      split at e
      · exact pl _ _ (by omega) (by omega) hp e
      · rename_i b eb
        obtain ⟨b1, -, -⟩ := zdg_s eb
        exact pl _ _ (by omega) (by omega) hp e
  · split at e
    · rename_i hp0 hp
      split at e
      · cases e
      · rename_i a ea
        obtain ⟨a1, -, a3⟩ := zdg_s ea
        split at e
        · cases e
        · rename_i hn
          split at e
          · rename_i hv
            cases e
            exact ⟨by omega, by omega, Or.inr (Or.inl ⟨rfl, zNI_of (by omega) (by omega), rfl, rfl⟩), hv.symm, fun q => by dsimp only at q; omega, by dsimp only; omega⟩
          · rename_i hv
            split at e
            · cases e
            · rename_i b eb
              obtain ⟨b1, -, b3⟩ := zdg_s eb
              cases e
              refine ⟨by omega, by omega, ?_, rfl, fun q gr hgr he => ?_, by dsimp only; omega⟩
              · rcases hp with q | q | q
                · exact Or.inl ⟨by dsimp only; rw [q], zNI_of (by omega) (by omega), zNI_of (by omega) (by omega), rfl⟩
                · exact absurd q hv
                · exact Or.inr (Or.inr (Or.inl ⟨by dsimp only; rw [q], zNI_of (by omega) (by omega), zNI_of (by omega) (by omega), rfl⟩))
              · dsimp only at q he
                simp (disch := omega) only [zC] at he
                subst he
                cases hz : zhN2 hs a with
                | false => rfl
                | true => exact absurd ⟨q, hz⟩ hn
    · cases e
theorem zrd_f {g : Nat → Int32} {l : List Nat} (hg : zBG g) : ∀ f f' hs p, p ≤ l.length → l.length < f + p → l.length < f' + p → zrd g l f hs p = zrd g l f' hs p := by
  intro f
  induction f with
  | zero =>
    intro f' hs p h0 h1 h2
    omega
  | succ f ih =>
    intro f' hs p h0 h1 h2
    cases f' with
    | zero => omega
    | succ f' =>
      unfold zrd
      split
      · rfl
      · split
        · exact ih f' hs (p + 1) (by omega) (by omega) (by omega)
        · split
          · rfl
          · split
            · rfl
            · rename_i h e
              obtain ⟨q, q2, -⟩ := zhr_ok (h := h.1) (p' := h.2) hg e
              exact ih f' _ h.2 q2 (by omega) (by omega)
def zRr (g : Nat → Int32) (l : List Nat) (hs : List zHt) (p : Nat) : Nat ⊕ List zHt := zrd g l (l.length + 1 - p) hs p
theorem zRr_end {g : Nat → Int32} {l : List Nat} {hs : List zHt} {p : Nat} (h : p = l.length) : zRr g l hs p = (if hs.length ≠ 0 ∧ zwh hs = true then .inr hs else .inl l.length) := by
  unfold zRr
  rw [show l.length + 1 - p = 0 + 1 by omega]
  unfold zrd
  rw [if_pos (by omega)]
theorem zRr_blank {g : Nat → Int32} {l : List Nat} {hs : List zHt} {p : Nat} (h : p < l.length) (hb : l.getD p 0 = 32 ∨ l.getD p 0 = 10) : zRr g l hs p = zRr g l hs (p + 1) := by
  unfold zRr
  rw [show l.length + 1 - p = (l.length + 1 - (p + 1)) + 1 by omega]
  conv => lhs; unfold zrd
  rw [if_neg (by omega), if_pos hb]
theorem zRr_full {g : Nat → Int32} {l : List Nat} {hs : List zHt} {p : Nat} (h : p < l.length) (hb : ¬ (l.getD p 0 = 32 ∨ l.getD p 0 = 10)) (h6 : hs.length = 6) : zRr g l hs p = .inl p := by
  unfold zRr
  rw [show l.length + 1 - p = (l.length + 1 - (p + 1)) + 1 by omega]
  unfold zrd
  rw [if_neg (by omega), if_neg hb, if_pos h6]
theorem zRr_bad {g : Nat → Int32} {l : List Nat} {hs : List zHt} {p e : Nat} (h : p < l.length) (hb : ¬ (l.getD p 0 = 32 ∨ l.getD p 0 = 10)) (h6 : ¬ hs.length = 6) (he : zhr g l hs p = .inl e) : zRr g l hs p = .inl e := by
  unfold zRr
  rw [show l.length + 1 - p = (l.length + 1 - (p + 1)) + 1 by omega]
  unfold zrd
  rw [if_neg (by omega), if_neg hb, if_neg h6, he]
theorem zRr_hole {g : Nat → Int32} {l : List Nat} {hs : List zHt} {p p' : Nat} {x : zHt} (hg : zBG g) (h : p < l.length) (hb : ¬ (l.getD p 0 = 32 ∨ l.getD p 0 = 10)) (h6 : ¬ hs.length = 6) (he : zhr g l hs p = .inr (x, p')) : zRr g l hs p = zRr g l (hs ++ [x]) p' := by
  obtain ⟨q1, q2, -⟩ := zhr_ok hg he
  unfold zRr
  rw [show l.length + 1 - p = (l.length + 1 - (p + 1)) + 1 by omega]
  conv => lhs; unfold zrd
  rw [if_neg (by omega), if_neg hb, if_neg h6, he]
  dsimp only
  exact zrd_f hg _ _ _ _ q2 (by omega) (by omega)
theorem zN2_app {hs : List zHt} {h : zHt} {gr : Nat} : zhN2 (hs ++ [h]) gr = (zhN2 hs gr || (decide (h.1 = 110) && decide (h.2.1 = nI gr))) := by
  unfold zhN2
  rw [List.any_append]
  simp only [List.any_cons, List.any_nil, Bool.or_false]
theorem zG2_app {hs : List zHt} {h : zHt} {gr : Nat} : zhG2 (hs ++ [h]) gr = (zhG2 hs gr || decide (h.2.1 = nI gr)) := by
  unfold zhG2
  rw [List.any_append]
  simp only [List.any_cons, List.any_nil, Bool.or_false]
theorem zgH_app (a b : List zHt) (k : Nat) : (a ++ b).getD k zH0 = if k < a.length then a.getD k zH0 else b.getD (k - a.length) zH0 := by
  simp only [List.getD_eq_getElem?_getD, List.getElem?_append]
  split <;> rfl
theorem zN2_iff {hs : List zHt} {gr : Nat} : zhN2 hs gr = true ↔ ∃ k, k < hs.length ∧ (hs.getD k zH0).1 = 110 ∧ (hs.getD k zH0).2.1 = nI gr := by
  unfold zhN2
  rw [List.any_eq_true]
  constructor
  · rintro ⟨x, hx, hx2⟩
    obtain ⟨k, hk, rfl⟩ := List.getElem_of_mem hx
    simp only [Bool.and_eq_true, decide_eq_true_eq] at hx2
    refine ⟨k, hk, ?_⟩
    simpa [List.getD_eq_getElem?_getD, List.getElem?_eq_getElem hk] using hx2
  · rintro ⟨k, hk, h1, h2⟩
    refine ⟨hs[k], List.getElem_mem hk, ?_⟩
    simp only [Bool.and_eq_true, decide_eq_true_eq]
    simp only [List.getD_eq_getElem?_getD, List.getElem?_eq_getElem hk, Option.getD_some] at h1 h2
    exact ⟨h1, h2⟩
theorem zG2_iff {hs : List zHt} {gr : Nat} : zhG2 hs gr = true ↔ ∃ k, k < hs.length ∧ (hs.getD k zH0).2.1 = nI gr := by
  unfold zhG2
  rw [List.any_eq_true]
  constructor
  · rintro ⟨x, hx, hx2⟩
    obtain ⟨k, hk, rfl⟩ := List.getElem_of_mem hx
    simp only [decide_eq_true_eq] at hx2
    refine ⟨k, hk, ?_⟩
    simpa [List.getD_eq_getElem?_getD, List.getElem?_eq_getElem hk] using hx2
  · rintro ⟨k, hk, h2⟩
    refine ⟨hs[k], List.getElem_mem hk, ?_⟩
    simp only [decide_eq_true_eq]
    simp only [List.getD_eq_getElem?_getD, List.getElem?_eq_getElem hk, Option.getD_some] at h2
    exact h2
/-- what holds of the holes read so far -/
def zhs (g : Nat → Int32) (hs : List zHt) : Prop := hs.length ≤ 6 ∧ (∀ k, k < hs.length → zHo g (nI (hs.getD k zH0).1) (hs.getD k zH0).2.1 (hs.getD k zH0).2.2.1 (hs.getD k zH0).2.2.2 ∧ (hs.getD k zH0).1 < 256) ∧ ∀ i j, i < hs.length → j < hs.length → (hs.getD i zH0).1 = 110 → (hs.getD j zH0).1 = 110 → (hs.getD i zH0).2.1 = (hs.getD j zH0).2.1 → i = j
theorem zHo_gr {g : Nat → Int32} {c gr ca wo : Int32} (h : zHo g c gr ca wo) : (∃ n, n < 3 ∧ gr = nI n) ∨ (gr = -nI 1 ∧ c = nI 112) := by
  rcases h with h | h | h | h
  · exact Or.inl ⟨_, by have := h.2.1.2; omega, h.2.1.1⟩
  · exact Or.inl ⟨_, by have := h.2.1.2; omega, h.2.1.1⟩
  · exact Or.inl ⟨_, by have := h.2.1.2; omega, h.2.1.1⟩
  · exact Or.inr ⟨h.2.1, h.1⟩
theorem zhs_app {g : Nat → Int32} {l : List Nat} {hs : List zHt} {p p' : Nat} {h : zHt} (hg : zBG g) (q : zhs g hs) (h6 : hs.length < 6) (e : zhr g l hs p = .inr (h, p')) : zhs g (hs ++ [h]) := by
  obtain ⟨-, -, e1, -, e2, e3⟩ := zhr_ok hg e
  obtain ⟨q1, q2, q3⟩ := q
  have at' : ∀ k, k < (hs ++ [h]).length → (k < hs.length ∧ (hs ++ [h]).getD k zH0 = hs.getD k zH0) ∨ (k = hs.length ∧ (hs ++ [h]).getD k zH0 = h) := by
    intro k hk
    rw [List.length_append, List.length_singleton] at hk
    rw [zgH_app]
    by_cases c : k < hs.length
    · rw [if_pos c]; exact Or.inl ⟨c, rfl⟩
    · rw [if_neg c, show k - hs.length = 0 by omega]
      exact Or.inr ⟨by omega, rfl⟩
  have two : ∀ i, i < hs.length → (hs.getD i zH0).1 = 110 → h.1 = 110 → (hs.getD i zH0).2.1 = h.2.1 → False := by
    intro i hi a b c
    rcases zHo_gr e1 with ⟨n, n1, n2⟩ | ⟨-, n2⟩
    · have := e2 b n n1 n2
      rw [zN2_iff.mpr ⟨i, hi, a, c.trans n2⟩] at this
      cases this
    · rw [b] at n2
      simp (disch := omega) only [zC] at n2
      omega
  refine ⟨by rw [List.length_append, List.length_singleton]; omega, fun k hk => ?_, fun i j hi hj a b c => ?_⟩
  · rcases at' k hk with ⟨c, d⟩ | ⟨c, d⟩
    · rw [d]; exact q2 k c
    · rw [d]; exact ⟨e1, e3⟩
  · rcases at' i hi with ⟨c1, d1⟩ | ⟨c1, d1⟩ <;> rcases at' j hj with ⟨c2, d2⟩ | ⟨c2, d2⟩ <;> rw [d1] at a c <;> rw [d2] at b c
    · exact q3 i j c1 c2 a b c
    · exact (two i c1 a b c).elim
    · exact (two j c2 b a c.symm).elim
    · omega
