def zlpF {α β : Type} (step : α → Option (α ⊕ β)) : Nat → α → Option β
  | 0, _ => none
  | n + 1, a => match step a with
    | none => none
    | some (.inl a') => zlpF step n a'
    | some (.inr b) => some b
theorem zlpF_lp {α β : Type} {step : α → Option (α ⊕ β)} {n : Nat} : ∀ {m : Nat} {a : α} {b : β}, zlpF step n a = some b → n ≤ m → lp step m a = some b := by
  induction n with
  | zero => intro m a b h; cases h
  | succ n ih =>
    intro m a b h hm
    unfold lp
    rw [dif_neg (by omega)]
    simp only [zlpF] at h
    cases hs : step a with
    | none => rw [hs] at h; cases h
    | some r =>
      rw [hs] at h
      cases r with
      | inl a' => exact ih h (by omega)
      | inr b' => exact h
def zund (kd q : Nat) : Bool := kd == q || q == 0 || (q == 1 && (kd == 3 || kd == 4)) || (q == 2 && kd == 5)
theorem z_isOf {σ : Mem} {i kd q : Nat} (h : σ i 2 = nI kd) (hk : kd ≤ 5) (hq : q ≤ 5) : fX10_isOf σ i (nI q) = some (if zund kd q then nI 1 else nI 0) := by
  unfold fX10_isOf
  rw [h]
  have key : ∀ kd q : Fin 6, zlpF (sX10_isOf_7 (nI q.1)) 8 (0, nI kd.1) = some (if zund kd.1 q.1 then nI 1 else nI 0) := by decide +kernel
  exact zlpF_lp (key ⟨kd, by omega⟩ ⟨q, by omega⟩) (by unfold FU; omega)
theorem z_isUnder {σ : Mem} {kd q : Nat} (hk : kd ≤ 5) (hq : q ≤ 5) : fX12_isUnder σ (nI kd) (nI q) = some (if zund kd q then nI 1 else nI 0) := by
  unfold fX12_isUnder
  have key : ∀ kd q : Fin 6, zlpF (sX12_isUnder_2 (fun _ _ => 0) (nI q.1)) 8 (nI kd.1) = some (if zund kd.1 q.1 then nI 1 else nI 0) := by decide +kernel
  exact zlpF_lp (key ⟨kd, by omega⟩ ⟨q, by omega⟩) (by unfold FU; omega)
theorem z_below {σ : Mem} {a b : Nat} (h : a < b) (hb : b < 2 ^ 31) : fX11_isBelow σ (nI a) (nI b) = some (nI 1) := by
  unfold fX11_isBelow
  simp (disch := omega) only [zLT, zC, if_neg]
theorem z_belowN {σ : Mem} {x : Int32} {b : Nat} (h : x < 0 ∨ nI b ≤ x) : fX11_isBelow σ x (nI b) = some (nI 0) := by
  unfold fX11_isBelow
  rcases h with h | h
  · rw [if_pos h]; rfl
  · by_cases h0 : x < 0
    · rw [if_pos h0]; rfl
    · rw [if_neg h0, if_pos h]; rfl
theorem zl_b : (∀ x, 14 ≤ x → x < 74 → (x - 14) % 3 = 0 → ln x = 6) ∧ (∀ x, 73 ≤ x → x < 137 → (x - 73) % 2 = 0 → ln x = 3) ∧ (∀ x, 137 ≤ x → x < 143 → (x - 137) % 2 = 0 → ln x = 1) ∧ (∀ x, 183 ≤ x → x < 243 → (x - 183) % 3 = 0 → ln x = 6) ∧ (∀ x, 242 ≤ x → x < 306 → (x - 242) % 2 = 0 → ln x = 3) := by
  have k1 : ∀ x : Fin 402, 14 ≤ x.1 → x.1 < 74 → (x.1 - 14) % 3 = 0 → ln x.1 = 6 := by decide +kernel
  have k2 : ∀ x : Fin 402, 73 ≤ x.1 → x.1 < 137 → (x.1 - 73) % 2 = 0 → ln x.1 = 3 := by decide +kernel
  have k3 : ∀ x : Fin 402, 137 ≤ x.1 → x.1 < 143 → (x.1 - 137) % 2 = 0 → ln x.1 = 1 := by decide +kernel
  have k4 : ∀ x : Fin 402, 183 ≤ x.1 → x.1 < 243 → (x.1 - 183) % 3 = 0 → ln x.1 = 6 := by decide +kernel
  have k5 : ∀ x : Fin 402, 242 ≤ x.1 → x.1 < 306 → (x.1 - 242) % 2 = 0 → ln x.1 = 3 := by decide +kernel
  exact ⟨fun x h1 h2 h3 => k1 ⟨x, by omega⟩ h1 h2 h3, fun x h1 h2 h3 => k2 ⟨x, by omega⟩ h1 h2 h3, fun x h1 h2 h3 => k3 ⟨x, by omega⟩ h1 h2 h3, fun x h1 h2 h3 => k4 ⟨x, by omega⟩ h1 h2 h3, fun x h1 h2 h3 => k5 ⟨x, by omega⟩ h1 h2 h3⟩
theorem zl_c : ln 4 = 20 ∧ ln 5 = 32 ∧ ln 6 = 3 ∧ ln 7 = 5 ∧ ln 9 = 50 ∧ ln 11 = 6 ∧ ln 2 = 50 ∧ ln 349 = 10 ∧ ln 352 = 10 ∧ ln 354 = 66 ∧ ln 355 = 6 ∧ ln 358 = 6 ∧ ln 361 = 10 ∧ ln 362 = 6 ∧ ln 363 = 6 ∧ ln 364 = 11 ∧ ln 365 = 4 ∧ ln 366 = 4 ∧ ln 384 = 517 ∧ ln 385 = 517 ∧ ln 386 = 50 ∧ ln 387 = 80 ∧ ln 388 = 25 ∧ ln 389 = 80 ∧ ln 390 = 80 ∧ ln 391 = 80 ∧ ln 392 = 80 ∧ ln 393 = 80 ∧ ln 394 = 6 ∧ ln 395 = 4 ∧ ln 396 = 4 ∧ ln 397 = 80 ∧ ln 398 = 4 ∧ ln 399 = 4 ∧ ln 400 = 160 ∧ ln 401 = 40 := by decide +kernel
theorem z_endingAt {σ : Mem} {a b c : Nat} (ha : a < 4) (hb : b < 4) (hc : c < 2) : fX0_endingAt σ 3 (nI a) (nI b) (nI c) = some (some (72 + 2 * (2 * (4 * a + b) + c))) := by
  unfold fX0_endingAt
  have e01 : ¬ (nI 1 = nI 0) := by decide +kernel
  simp (disch := omega) only [zLT, zE, z_below, e01, if_false, zI, Nat.reduceAdd, zl_c]
  congr 2
  omega
def zge (d : Nat) : List Nat := [if d = 0 then 111 else if d = 1 then 97 else 101]
def zfin (kd d m : Nat) (e : List Nat) : List Nat := if kd = 4 then zjoin e (zge d) else if kd = 5 ∧ m ≠ 0 then e ++ [e.getD (e.length - 1) 0] else e
def zform (g : Nat → Int32) (w c n d m : Nat) : List Nat :=
  if ix (g (zwa w)) = 0 then zst g w
  else zfin (ix (g (zwa w))) d m (zjoin (zst g w) (zen g (2 * (4 * ix (g (zwa w + 1)) + (if ix (g (zwa w)) = 2 ∨ ix (g (zwa w)) = 5 then m else c)) + (if ix (g (zwa w)) = 3 then 0 else n))))
theorem zjoin_le (a b : List Nat) : (zjoin a b).length ≤ a.length + b.length := by
  unfold zjoin
  split <;> simp <;> omega
theorem zst_len {g : Nat → Int32} {w : Nat} : (zst g w).length = ix (g (zwa w + 3)) := ztx_len _ _ _
theorem zen_len {g : Nat → Int32} {e : Nat} : (zen g e).length = ix (g (zea e)) := ztx_len _ _ _
theorem z_gend {σ : Mem} (h : zNG σ) {d : Nat} (hd : d < 3) : zL σ (136 + 2 * d) (zge d) := by
  rcases (by omega : d = 0 ∨ d = 1 ∨ d = 2) with r | r | r <;> subst r
  · exact h.2.1
  · exact h.2.2.1
  · exact h.2.2.2
