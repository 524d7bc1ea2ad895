/-- the cells that don't hold zeros alone at first -/
def zSp (i : Nat) : Prop := (12 ≤ i ∧ i < 72 ∧ (i - 12) % 3 = 0) ∨ (181 ≤ i ∧ i < 241 ∧ (i - 181) % 3 = 0) ∨ (136 ≤ i ∧ i ≤ 141) ∨ (305 ≤ i ∧ i ≤ 310) ∨ i = 10 ∨ i = 179 ∨ i = 357 ∨ (367 ≤ i ∧ i < 383 ∧ i % 2 = 1) ∨ i = 384 ∨ i = 395 ∨ i = 398
theorem zM_z {i : Nat} (h : ¬ zSp i) : zM0 i = fun _ => 0 := by
  unfold zSp at h
  funext k
  unfold zM0
  rw [if_neg (by omega), if_neg (by omega), if_neg (by omega), if_neg (by omega), if_neg (by omega), if_neg (by omega), if_neg (by omega), if_neg (by omega), if_neg (by omega), if_neg (by omega)]
  rfl
theorem zM_w {i j : Nat} (hj : j < 20) (h : i = 12 + 3 * j ∨ i = 181 + 3 * j) : zM0 i = fun k => if k = 0 then nI j else 0 := by
  funext k
  by_cases hk : k = 0
  · subst hk
    rw [if_pos rfl]
    unfold zM0
    rcases h with rfl | rfl
    · rw [if_pos (by omega), show (12 + 3 * j - 12) / 3 = j by omega]
    · rw [if_neg (by omega), if_pos (by omega), show (181 + 3 * j - 181) / 3 = j by omega]
  · rw [if_neg hk]
    unfold zM0
    rw [if_neg (by omega), if_neg (by omega), if_neg (by omega), if_neg (by omega), if_neg (by omega), if_neg (by omega), if_neg (by omega), if_neg (by omega), if_neg (by omega), if_neg (by omega)]
    rfl
theorem zM_m {i : Nat} (h : i = 10 ∨ i = 179 ∨ i = 357 ∨ (367 ≤ i ∧ i < 383 ∧ i % 2 = 1)) : zM0 i = fun k => if k = 0 then -nI 1 else 0 := by
  funext k
  by_cases hk : k = 0
  · subst hk
    rw [if_pos rfl]
    unfold zM0
    rw [if_neg (by omega), if_neg (by omega), if_neg (by omega), if_neg (by omega), if_neg (by omega), if_neg (by omega)]
    by_cases h2 : i = 10 ∨ i = 179 ∨ i = 357
    · rw [if_pos (by omega)]
    · rw [if_neg (by omega), if_pos (by omega)]
  · rw [if_neg hk]
    unfold zM0
    rw [if_neg (by omega), if_neg (by omega), if_neg (by omega), if_neg (by omega), if_neg (by omega), if_neg (by omega), if_neg (by omega), if_neg (by omega), if_neg (by omega), if_neg (by omega)]
    rfl
theorem zM_g {i j : Nat} (hj : j < 3) (h : i = 136 + 2 * j ∨ i = 305 + 2 * j) : zM0 i = fun k => if k = 1 then nI 1 else 0 := by
  funext k
  by_cases hk : k = 1
  · subst hk
    rw [if_pos rfl]
    unfold zM0
    rw [if_neg (by omega), if_neg (by omega), if_pos (by omega)]
  · rw [if_neg hk]
    unfold zM0
    rw [if_neg (by omega), if_neg (by omega), if_neg (by omega), if_neg (by omega), if_neg (by omega), if_neg (by omega), if_neg (by omega), if_neg (by omega), if_neg (by omega), if_neg (by omega)]
    rfl
theorem zM_h {i j : Nat} (hj : j < 3) (h : i = 137 + 2 * j ∨ i = 306 + 2 * j) : zM0 i = fun k => if k = 0 then uL j else 0 := by
  funext k
  by_cases hk : k = 0
  · subst hk
    rw [if_pos rfl]
    unfold zM0 uL
    rw [if_neg (by omega), if_neg (by omega), if_neg (by omega)]
    rcases (show j = 0 ∨ j = 1 ∨ j = 2 by omega) with rfl | rfl | rfl
    · rw [if_pos (by omega), if_pos rfl]
    · rw [if_neg (by omega), if_pos (by omega), if_neg (by omega), if_pos rfl]
    · rw [if_neg (by omega), if_neg (by omega), if_pos (by omega), if_neg (by omega), if_neg (by omega)]
  · rw [if_neg hk]
    unfold zM0
    rw [if_neg (by omega), if_neg (by omega), if_neg (by omega), if_neg (by omega), if_neg (by omega), if_neg (by omega), if_neg (by omega), if_neg (by omega), if_neg (by omega), if_neg (by omega)]
    rfl
theorem zM_384 : zM0 384 = fun k => if k = 2 then -nI 1 else 0 := by
  funext k
  unfold zM0
  rw [if_neg (by omega), if_neg (by omega), if_neg (by omega), if_neg (by omega), if_neg (by omega), if_neg (by omega), if_neg (by omega), if_neg (by omega)]
  by_cases hk : k = 2
  · rw [if_pos (by omega), if_pos hk]
  · rw [if_neg (by omega), if_neg (by omega), if_neg hk]
    rfl
theorem zM_a {i : Nat} (h : i = 395 ∨ i = 398) : zM0 i = fun k => if k < 4 then -nI 1 else 0 := by
  funext k
  unfold zM0
  rw [if_neg (by omega), if_neg (by omega), if_neg (by omega), if_neg (by omega), if_neg (by omega), if_neg (by omega), if_neg (by omega), if_neg (by omega), if_neg (by omega)]
  by_cases hk : k < 4
  · rw [if_pos (by omega), if_pos hk]
  · rw [if_neg (by omega), if_neg hk]
    rfl
theorem uL_b (j : Nat) : (uL j).toInt8.toInt32.toInt8.toInt32 = uL j := by
  unfold uL
  by_cases h : j = 0
  · rw [if_pos h]; decide +kernel
  · rw [if_neg h]
    by_cases h : j = 1
    · rw [if_pos h]; decide +kernel
    · rw [if_neg h]; decide +kernel
theorem zM_fits : ∀ i, kn i = 20 → ∀ j, fits .byte (.int (zM0 i j)) = true := by
  intro i hi j
  have hl : i < 402 := Nat.lt_trans (kn_lt hi (by decide)) (by decide)
  by_cases h : zSp i
  · have h2 := (by decide +kernel : ∀ i : Fin 402, kn i.1 = 20 → ((12 ≤ i.1 ∧ i.1 < 72 ∧ (i.1 - 12) % 3 = 0) ∨ (181 ≤ i.1 ∧ i.1 < 241 ∧ (i.1 - 181) % 3 = 0) ∨ (136 ≤ i.1 ∧ i.1 ≤ 141) ∨ (305 ≤ i.1 ∧ i.1 ≤ 310) ∨ i.1 = 10 ∨ i.1 = 179 ∨ i.1 = 357 ∨ (367 ≤ i.1 ∧ i.1 < 383 ∧ i.1 % 2 = 1) ∨ i.1 = 384 ∨ i.1 = 395 ∨ i.1 = 398) → i.1 = 137 ∨ i.1 = 139 ∨ i.1 = 141 ∨ i.1 = 306 ∨ i.1 = 308 ∨ i.1 = 310) ⟨i, hl⟩ hi h
    have h3 : ∃ m, m < 3 ∧ (i = 137 + 2 * m ∨ i = 306 + 2 * m) := by
      rcases h2 with h2 | h2 | h2 | h2 | h2 | h2
      · exact ⟨0, by omega, Or.inl h2⟩
      · exact ⟨1, by omega, Or.inl h2⟩
      · exact ⟨2, by omega, Or.inl h2⟩
      · exact ⟨0, by omega, Or.inr h2⟩
      · exact ⟨1, by omega, Or.inr h2⟩
      · exact ⟨2, by omega, Or.inr h2⟩
    obtain ⟨m, hm, h4⟩ := h3
    rw [zM_h hm h4]
    dsimp only
    split
    · rw [← uL_b m]; exact pk_fb _
    · rfl
  · rw [zM_z h]; rfl
/-- the same addresses, and what the one says of a heap the other says too -/
def uR (S S' : va_W) : Prop := S.map Prod.fst = S'.map Prod.fst ∧ ∀ (D : va_G) (cl : List vw_C) (H : Heap), va_P D cl S H → va_P D cl S' H
theorem uR.rf (S : va_W) : uR S S := ⟨rfl, fun _ _ _ h => h⟩
theorem uR.of {S S' : va_W} (h : S = S') : uR S S' := h ▸ uR.rf S
theorem uP_app {D : va_G} {cl : List vw_C} {S T : va_W} {H : Heap} : va_P D cl (S ++ T) H ↔ va_P D cl S H ∧ va_P D cl T H := by
  rw [uv_Pmem, uv_Pmem, uv_Pmem]
  constructor
  · intro h
    exact ⟨fun q hq => h q (List.mem_append_left _ hq), fun q hq => h q (List.mem_append_right _ hq)⟩
  · rintro ⟨h1, h2⟩ q hq
    rcases List.mem_append.mp hq with h | h
    · exact h1 q h
    · exact h2 q h
theorem uR.app {S S' T T' : va_W} (h1 : uR S S') (h2 : uR T T') : uR (S ++ T) (S' ++ T') := by
  refine ⟨by rw [List.map_append, List.map_append, h1.1, h2.1], fun D cl H h => ?_⟩
  rw [uP_app] at h ⊢
  exact ⟨h1.2 D cl H h.1, h2.2 D cl H h.2⟩
theorem uR.cons {S S' : va_W} (x : Nat × va_E) (h : uR S S') : uR (x :: S) (x :: S') := uR.app (uR.rf [x]) h
theorem uR.consA {S S' : va_W} {a n : Nat} {cA : ClassId} {f g : Nat → Option Nat} (hfg : ∀ j, j < n → f j = g j) (h : uR S S') : uR ((a, .inl (cA, n, .inr (.inr (.inr (.inr f))))) :: S) ((a, .inl (cA, n, .inr (.inr (.inr (.inr g))))) :: S') := by
  refine uR.app (S := [(a, .inl (cA, n, .inr (.inr (.inr (.inr f)))))]) (S' := [(a, .inl (cA, n, .inr (.inr (.inr (.inr g)))))]) ⟨rfl, fun D cl H h => ?_⟩ h
  rw [uv_Pmem] at h ⊢
  intro q hq
  rw [List.mem_singleton] at hq
  subst hq
  have h0 := h (a, .inl (cA, n, .inr (.inr (.inr (.inr f))))) (List.mem_singleton.mpr rfl)
  have h0 : H[a]? = some (arrV cA n (fun j => va_rf (f j))) := h0
  show H[a]? = some (arrV cA n (fun j => va_rf (g j)))
  have he : (fun j : Fin n => va_rf (f j.val)) = (fun j : Fin n => va_rf (g j.val)) := by
    funext j
    rw [hfg j.1 j.2]
  rw [h0]
  unfold arrV
  rw [he]
theorem uR.perm {S S' : va_W} (h : S.Perm S') : ∀ (D : va_G) (cl : List vw_C) (H : Heap), va_P D cl S H → va_P D cl S' H := fun _ _ _ hp => uv_Pperm h hp
def seg (Z : ZT) (σ : Mem) (b n : Nat) : va_W := (List.range n).map (fun j => (za Z (b + j), ent Z σ (b + j)))
theorem seg_add (Z : ZT) (σ : Mem) (b m n : Nat) : seg Z σ b (m + n) = seg Z σ b m ++ seg Z σ (b + m) n := by
  unfold seg
  rw [List.range_add, List.map_append, List.map_map]
  congr 1
  refine List.map_congr_left (fun j _ => ?_)
  show (za Z (b + (m + j)), ent Z σ (b + (m + j))) = _
  rw [Nat.add_assoc]
theorem seg_wl (Z : ZT) (σ : Mem) : seg Z σ 0 NN = wlB Z σ := by
  unfold seg wlB
  refine List.map_congr_left (fun j _ => ?_)
  show (za Z (0 + j), ent Z σ (0 + j)) = _
  rw [Nat.zero_add]
theorem seg_uT {Z : ZT} {σ : Mem} {blk : (Nat → Nat) → Nat → va_W} {c : Nat} {q : Nat → Nat} {b : Nat} : ∀ n, (∀ j, j < n → blk (fun r => q (c * j + r)) j = seg Z σ (b + c * j) c) → uT blk c q n = seg Z σ b (c * n)
  | 0, _ => rfl
  | n + 1, h => by
    rw [Nat.mul_add, Nat.mul_one, seg_add, ← seg_uT n (fun j hj => h j (by omega)), ← h n (by omega)]
    unfold uT
    rw [List.range_succ, List.flatMap_append, List.flatMap_cons, List.flatMap_nil, List.append_nil]
