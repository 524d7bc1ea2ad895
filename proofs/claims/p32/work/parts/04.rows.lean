abbrev ix (i : Int32) : Nat := i.toNatClampNeg
def inb (i : Int32) (n : Nat) : Bool := decide (¬ (i < 0 ∨ n ≤ i.toNatClampNeg))
def irm (x y : Int32) : Int32 := x - x / y * y
def ius (x y : Int32) : Int32 := (x.toUInt32 >>> (y.toUInt32 &&& Int32.toUInt32 31)).toInt32
def imx (x y : Int32) : Int32 := if x < y then y else x
def cpk (sp dp n : Int32) (a b : Nat) : Bool := decide (¬ sp < 0 ∧ ¬ dp < 0 ∧ ¬ n < 0 ∧ ix sp + ix n ≤ a ∧ ix dp + ix n ≤ b)
def fnn (x : UInt32) : Bool := decide (x &&& 0x7fffffff ≤ 0x7f800000)
def bnd {α β : Type} (e : α) (k : α → Option β) : Option β := k e
def obd {α β : Type} (o : Option α) (k : α → Option β) : Option β := match o with
  | none => none
  | some x => k x
def grd {β : Type} (b : Bool) (k : Option β) : Option β := match b with
  | true => k
  | false => none
def oR {α β : Type} (o : Option β) : Option (α ⊕ β) := match o with
  | none => none
  | some x => some (.inr x)
def oL {α β : Type} (a : α) : Option (α ⊕ β) := some (.inl a)
/-- a loop: the step goes on, or ends it; at most so many steps -/
def lp {α β : Type} (step : α → Option (α ⊕ β)) (n : Nat) (a : α) : Option β :=
  if h : n = 0 then none else match step a with
  | none => none
  | some (.inl a') => lp step (n - 1) a'
  | some (.inr b) => some b
termination_by n
decreasing_by omega
def FU : Nat := 1000
theorem k_grd {β : Type} {K : Option β → Prop} (hN : ¬ K none) {b : Bool} {k : Option β} (hf : K (grd b k)) : b = true ∧ K k := by
  cases b with
  | false => exact absurd hf hN
  | true => exact ⟨rfl, hf⟩
theorem k_obd {α β : Type} {K : Option β → Prop} (hN : ¬ K none) {o : Option α} {k : α → Option β} (hf : K (obd o k)) : ∃ x, o = some x ∧ K (k x) := by
  cases o with
  | none => exact absurd hf hN
  | some x => exact ⟨x, rfl, hf⟩
theorem k_t {β : Type} {K : Option β → Prop} {c : Prop} [Decidable c] {a b : Option β} (h : c) (hf : K (if c then a else b)) : K a := by rwa [if_pos h] at hf
theorem k_f {β : Type} {K : Option β → Prop} {c : Prop} [Decidable c] {a b : Option β} (h : ¬ c) (hf : K (if c then a else b)) : K b := by rwa [if_neg h] at hf
/-- a loop: its head holds for every state from which the function goes through -/
theorem g_lp {α β : Type} {step : α → Option (α ⊕ β)} {K : Option β → Prop} (hN : ¬ K none) (P : α → Prop) {n : Nat} {a : α} (hf : K (lp step n a))
    (hs : ∀ (a : α) (K' : Option (α ⊕ β) → Prop), ¬ K' none → (∀ a', K' (oL a') → P a') → (∀ x, K' (oR x) → K x) → K' (step a) → P a) : P a := by
  induction n generalizing a with
  | zero =>
    unfold lp at hf
    simp at hf
    exact absurd hf hN
  | succ n ih =>
    unfold lp at hf
    simp only [Nat.add_one_ne_zero, dite_false, Nat.add_sub_cancel] at hf
    refine hs a (fun o => match o with | none => False | some (.inl a') => K (lp step n a') | some (.inr b) => K (some b)) (fun h => h) (fun a' h => ih h) (fun x h => ?_) ?_
    · cases x with
      | none => exact h.elim
      | some b => exact h
    · cases hst : step a with
      | none => rw [hst] at hf; exact absurd hf hN
      | some q =>
        rw [hst] at hf
        cases q with
        | inl a' => exact hf
        | inr b => exact hf
theorem g_jn {τ β : Type} {K : Option β → Prop} (P : τ → Prop) {goal : Prop} {kb : τ → Option β} {fb : (τ → Option β) → Option β} (hf : K (bnd kb fb)) (hj : ∀ x, K (kb x) → P x) (hm : ∀ k : τ → Option β, (∀ x, K (k x) → P x) → K (fb k) → goal) : goal := hm kb hj hf
/-- a field's row: own class and place in its pool, the class and the place of the field, its ref's way (none: an int) -/
def FX (own : String) (index ci k : Nat) (r : Option Nat) : Prop := ∃ (C : String) (T : u_T) (N : Nat), vwCl[ci]? = some (C, T, N) ∧ k < N ∧ ci < 13 ∧ (fl ci)[k]? = some r ∧ (∀ w ∈ u_ws C T N, w ∈ uW) ∧ (Cond.fieldLink own index (T k).1 (T k).2.1 (T k).2.2.1 ∈ uW ∨ ∃ host, Cond.fieldLinkNest own index (T k).1 (T k).2.1 (T k).2.2.1 host ∈ nW)
def FP (own : String) (index ci k : Nat) (ty : FieldType) : Prop := ∃ (C : String) (T : u_T) (N : Nat) (ty0 : Nat → FieldType), vwCl[ci]? = some (C, T, N) ∧ k < N ∧ ci < 13 ∧ (fl ci)[k]? = some none ∧ (∀ w ∈ u_ws C T N, w ∈ uW) ∧ (∀ k, k < N → parseFieldDescriptor (T k).2.2.1 = some (ty0 k)) ∧ (∀ a, a < N → ∀ b, b < N → a ≠ b → (T a).2.1 ≠ (T b).2.1) ∧ (T k).2.2.2 = false ∧ parseFieldDescriptor (T k).2.2.1 = some ty ∧ (Cond.fieldLink own index (T k).1 (T k).2.1 (T k).2.2.1 ∈ uW ∨ ∃ host, Cond.fieldLinkNest own index (T k).1 (T k).2.1 (T k).2.2.1 host ∈ nW)
theorem ent_obj {Z : ZT} {σ : Mem} {i ci : Nat} (h : kn i = ci) (hc : ci < 13) : ent Z σ i = .inr (ci, fv (za Z) (σ i) i 0 (fl ci)) := by
  unfold ent
  rw [h, if_pos hc]
theorem ent_byte {Z : ZT} {σ : Mem} {i : Nat} (h : kn i = 20) : ent Z σ i = .inl (zc Z 0, (ln i, .inl (σ i))) := by
  unfold ent
  rw [h, if_neg (by decide), if_pos rfl]
theorem ent_int {Z : ZT} {σ : Mem} {i : Nat} (h : kn i = 21) : ent Z σ i = .inl (zc Z 1, (ln i, .inl (σ i))) := by
  unfold ent
  rw [h, if_neg (by decide), if_neg (by decide), if_pos rfl]
theorem ent_ref {Z : ZT} {σ : Mem} {i c : Nat} (h : kn i = c) (h1 : 21 < c) : ent Z σ i = .inl (zc Z (c - 20), (ln i, .inr (.inr (.inr (.inr (fun j => some (za Z (el i j)))))))) := by
  unfold ent
  rw [h, if_neg (by omega), if_neg (by omega), if_neg (by omega)]
theorem wl_byte {Z : ZT} {σ : Mem} {id : Nat} (hk : kn id = 20) : (wl Z σ)[id]? = some (za Z id, .inl (zc Z 0, (ln id, .inl (σ id)))) := by rw [wl_at Z σ (kn_lt hk (by omega)), ent_byte hk]
theorem wl_int {Z : ZT} {σ : Mem} {id : Nat} (hk : kn id = 21) : (wl Z σ)[id]? = some (za Z id, .inl (zc Z 1, (ln id, .inl (σ id)))) := by rw [wl_at Z σ (kn_lt hk (by omega)), ent_int hk]
theorem wl_ref {Z : ZT} {σ : Mem} {id c : Nat} (hk : kn id = c) (h1 : 21 < c) (h2 : c < 28) : (wl Z σ)[id]? = some (za Z id, .inl (zc Z (c - 20), (ln id, .inr (.inr (.inr (.inr (fun j => some (za Z (el id j))))))))) := by rw [wl_at Z σ (kn_lt hk (by omega)), ent_ref hk h1]
section ROWS
variable {Z : ZT} {C : CX} {own : String} {cc : ByteArray} {nL fr lo : Nat} {σ : Mem} {pc : Nat} {L L' : List (Nat × Value)} {st : List Value} {β : Type} {K : Option β → Prop}
theorem g_sub (ks : List Nat) (hl : lv_pick L ks = L') (kk : G Z C σ pc L' st) : G Z C σ pc L st := fun H locs ls hP hS h => kk H locs ls hP hS (lv_sub h ks hl)
theorem g_wit {Cn : String} {T : u_T} {N index ci k : Nat} {r : Option Nat} {id : Nat} {v : Value} (O : Ok Z C own cc nL fr lo) (hk : kn id = ci) (F : FX own index ci k r) (hv : (fv (za Z) (σ id) id 0 (fl ci))[k]? = some v) (hd : decode cc pc = .ok (.getfield index, 3)) (kk : G Z C σ (pc + 3) L (v :: st)) : G Z C σ pc L (.ref (za Z id) :: st) := by
  intro H locs ls hP hS h
  obtain ⟨Cn, T, N, h1, h2, h3, h4, h5, h6⟩ := F
  have he : (wl Z σ)[id]? = some (za Z id, .inr (ci, fv (za Z) (σ id) id 0 (fl ci))) := by rw [wl_at Z σ (kn_lt hk (by omega)), ent_obj hk h3]
  rcases h6 with h6 | ⟨host, h6⟩
  · exact va_get O.1 O.2.1 (Ts := uW) O.2.2.2.2.1 h5 O.2.2.2.1 O.2.2.2.2.2.1 hP.1 id he h1 k h2 (O.2.2.2.2.1 _ h6) (fun _ h9 => h9) hv hd (kk H locs ls hP hS h)
  · exact va_getN O.1 O.2.1 (Ts := uW) O.2.2.2.2.1 h5 O.2.2.2.1 O.2.2.2.2.2.1 hP.1 id he h1 k h2 (NW.use O.2.2.2.2.2.2.2.2.2.2.2.2.2 h6) (fun _ h9 => h9) hv hd (kk H locs ls hP hS h)
theorem g_getI {index ci k id : Nat} (O : Ok Z C own cc nL fr lo) (hd : decode cc pc = .ok (.getfield index, 3)) (F : FX own index ci k none) (hk : kn id = ci) (kk : G Z C σ (pc + 3) L (.int (σ id k) :: st)) : G Z C σ pc L (.ref (za Z id) :: st) := by
  have hv := fv_int (za Z) (σ id) id (fl ci) 0 k F.choose_spec.choose_spec.choose_spec.2.2.2.1
  rw [Nat.zero_add] at hv
  exact g_wit (Cn := "") (T := TX0) (N := 0) O hk F hv hd kk
theorem g_getR {index ci k id f : Nat} (O : Ok Z C own cc nL fr lo) (hd : decode cc pc = .ok (.getfield index, 3)) (F : FX own index ci k (some f)) (hk : kn id = ci) (kk : G Z C σ (pc + 3) L (.ref (za Z (id + f)) :: st)) : G Z C σ pc L (.ref (za Z id) :: st) :=
  g_wit (Cn := "") (T := TX0) (N := 0) O hk F (fv_ref (za Z) (σ id) id f (fl ci) 0 k F.choose_spec.choose_spec.choose_spec.2.2.2.1) hd kk
theorem pw_mw {H : Heap} {id k : Nat} {v : Int32} (h : va_P (zD Z) vwCl (wl Z (mw σ id k v)) H) (hb : kn id = 20 → fits .byte (.int v) = true) (h0 : ∀ i, kn i = 20 → ∀ j, fits .byte (.int (σ i j)) = true) : PW Z (mw σ id k v) H := by
  refine ⟨h, fun i hi j => ?_⟩
  unfold mw
  split
  · rename_i q
    exact hb (by rw [← q.1]; exact hi)
  · exact h0 i hi j
theorem g_put {index ci k id : Nat} {ty : FieldType} {v : Int32} (O : Ok Z C own cc nL fr lo) (hd : decode cc pc = .ok (.putfield index, 3)) (F : FP own index ci k ty) (hk : kn id = ci) (hn : narrow ty (.int v) = .int v) (hfit : fits ty (.int v) = true) {t : Mem → Option β} (hf : K (bnd (mw σ id k v) t)) (kk : ∀ σ', K (t σ') → G Z C σ' (pc + 3) L st) : G Z C σ pc L (.int v :: .ref (za Z id) :: st) := by
  intro H locs ls hP hS h
  obtain ⟨Cn, T, N, ty0, h1, h2, h3, h4, h5, h6, h7, h8, h9, h10⟩ := F
  have he : (wl Z σ)[id]? = some (za Z id, .inr (ci, fv (za Z) (σ id) id 0 (fl ci))) := by rw [wl_at Z σ (kn_lt hk (by omega)), ent_obj hk h3]
  have hl : k < (fv (za Z) (σ id) id 0 (fl ci)).length := by
    rw [fv_len]
    exact (List.getElem?_eq_some_iff.mp h4).1
  have hset : (wl Z σ).set id (za Z id, .inr (ci, (fv (za Z) (σ id) id 0 (fl ci)).set k (.int v))) = wl Z (mw σ id k v) := by
    refine wl_set Z σ (mw σ id k v) ?_ (fun j hj => ent_row (mw_row hj))
    rw [ent_obj hk h3]
    congr 2
    exact fv_set (za Z) (σ id) (mw σ id k v id) id v (fl ci) 0 k h4 (by simp [mw]) (fun i hi => by simp [mw]; intro q; omega)
  have hD := wl_D (A := c_A C) O.2.2.2.2.2.2.2.2.1 O.2.2.2.2.2.2.2.1 σ
  have go : ∀ (H1 : Heap) (locs1 : List Loc), va_P (zD Z) vwCl ((wl Z σ).set id (za Z id, .inr (ci, (fv (za Z) (σ id) id 0 (fl ci)).set k (.int v)))) H1 → va_D (c_A C) ((wl Z σ).set id (za Z id, .inr (ci, (fv (za Z) (σ id) id 0 (fl ci)).set k (.int v)))) → va_S (c_A C) (c_s C).heap H1 locs1 → WG Z C H1 locs1 (F0 (c_m C) (pc + 3) ls st) := by
    intro H1 locs1 a1 a2 a3
    rw [hset] at a1
    exact kk _ hf H1 locs1 ls (pw_mw a1 (fun q => by omega) hP.2) a3 h
  rcases h10 with h10 | ⟨host, h10⟩
  · exact va_put O.1 O.2.1 (Ts := uW) O.2.2.2.2.1 h5 ty0 h6 h7 O.2.2.2.1 O.2.2.2.2.2.1 hP.1 hD hS id he h1 k h2 (O.2.2.2.2.1 _ h10) (fun _ h9 => h9) h8 h9 hn hfit hl hd go
  · exact va_putN O.1 O.2.1 (Ts := uW) O.2.2.2.2.1 h5 ty0 h6 h7 O.2.2.2.1 O.2.2.2.2.2.1 hP.1 hD hS id he h1 k h2 (NW.use O.2.2.2.2.2.2.2.2.2.2.2.2.2 h10) (fun _ h9 => h9) h8 h9 hn hfit hl hd go
theorem g_putI {index ci k id : Nat} {v : Int32} (O : Ok Z C own cc nL fr lo) (hd : decode cc pc = .ok (.putfield index, 3)) (F : FP own index ci k .int) (hk : kn id = ci) {t : Mem → Option β} (hf : K (bnd (mw σ id k v) t)) (kk : ∀ σ', K (t σ') → G Z C σ' (pc + 3) L st) : G Z C σ pc L (.int v :: .ref (za Z id) :: st) := g_put O hd F hk rfl rfl hf kk
theorem inb_in {i : Int32} {n : Nat} (h : inb i n = true) : vp_in i n := by
  unfold inb at h
  show ¬ (i < 0 ∨ n ≤ i.toNatClampNeg)
  exact of_decide_eq_true h
theorem g_iald {i : Int32} {id : Nat} (O : Ok Z C own cc nL fr lo) (hN : ¬ K none) (hd : decode cc pc = .ok (.iaload, 1)) (hk : kn id = 21) {t : Option β} (hf : K (grd (inb i (ln id)) t)) (kk : K t → G Z C σ (pc + 1) L (.int (σ id (ix i)) :: st)) : G Z C σ pc L (.int i :: .ref (za Z id) :: st) := by
  obtain ⟨hb, hf⟩ := k_grd hN hf
  intro H locs ls hP hS h
  exact va_iald O.1 O.2.1 O.2.2.2.2.2.1 hP.1 id 1 (f := σ id) (wl_int hk) rfl (inb_in hb) hd (kk hf H locs ls hP hS h)
theorem g_bald {i : Int32} {id : Nat} (O : Ok Z C own cc nL fr lo) (hN : ¬ K none) (hd : decode cc pc = .ok (.baload, 1)) (hk : kn id = 20) {t : Option β} (hf : K (grd (inb i (ln id)) t)) (kk : K t → G Z C σ (pc + 1) L (.int (σ id (ix i)) :: st)) : G Z C σ pc L (.int i :: .ref (za Z id) :: st) := by
  obtain ⟨hb, hf⟩ := k_grd hN hf
  intro H locs ls hP hS h
  exact va_bald O.1 O.2.1 O.2.2.2.2.2.1 hP.1 id 0 (f := σ id) (wl_byte hk) rfl (inb_in hb) hd (kk hf H locs ls hP hS h)
theorem g_alen {id c : Nat} (O : Ok Z C own cc nL fr lo) (hd : decode cc pc = .ok (.arraylength, 1)) (hk : kn id = c) (hc : 19 < c ∧ c < 28) (kk : G Z C σ (pc + 1) L (.int (nI (ln id)) :: st)) : G Z C σ pc L (.ref (za Z id) :: st) := by
  intro H locs ls hP hS h
  have hlt := kn_lt hk (by omega)
  rcases (show c = 20 ∨ c = 21 ∨ c = 22 ∨ c = 23 ∨ c = 24 ∨ c = 25 ∨ c = 26 ∨ c = 27 by omega) with e | e | e | e | e | e | e | e <;> subst e
  · exact va_alen O.1 O.2.1 O.2.2.2.2.2.1 hP.1 id 0 (wl_byte hk) rfl rfl hd (kk H locs ls hP hS h)
  · exact va_alen O.1 O.2.1 O.2.2.2.2.2.1 hP.1 id 1 (wl_int hk) rfl rfl hd (kk H locs ls hP hS h)
  · exact va_alen O.1 O.2.1 O.2.2.2.2.2.1 hP.1 id 2 (wl_ref hk (by omega) (by omega)) rfl rfl hd (kk H locs ls hP hS h)
  · exact va_alen O.1 O.2.1 O.2.2.2.2.2.1 hP.1 id 3 (wl_ref hk (by omega) (by omega)) rfl rfl hd (kk H locs ls hP hS h)
  · exact va_alen O.1 O.2.1 O.2.2.2.2.2.1 hP.1 id 4 (wl_ref hk (by omega) (by omega)) rfl rfl hd (kk H locs ls hP hS h)
  · exact va_alen O.1 O.2.1 O.2.2.2.2.2.1 hP.1 id 5 (wl_ref hk (by omega) (by omega)) rfl rfl hd (kk H locs ls hP hS h)
  · exact va_alen O.1 O.2.1 O.2.2.2.2.2.1 hP.1 id 6 (wl_ref hk (by omega) (by omega)) rfl rfl hd (kk H locs ls hP hS h)
  · exact va_alen O.1 O.2.1 O.2.2.2.2.2.1 hP.1 id 7 (wl_ref hk (by omega) (by omega)) rfl rfl hd (kk H locs ls hP hS h)
theorem g_aald {i : Int32} {id c a b : Nat} (O : Ok Z C own cc nL fr lo) (hN : ¬ K none) (hd : decode cc pc = .ok (.aaload, 1)) (hk : kn id = c) (hc : 21 < c ∧ c < 28) (he : ∀ j, el id j = id + a + b * j) {t : Option β} (hf : K (grd (inb i (ln id)) t)) (kk : inb i (ln id) = true → K t → G Z C σ (pc + 1) L (.ref (za Z (id + a + b * ix i)) :: st)) : G Z C σ pc L (.int i :: .ref (za Z id) :: st) := by
  obtain ⟨hb, hf⟩ := k_grd hN hf
  intro H locs ls hP hS h
  have hlt := kn_lt hk (by omega)
  have hg := kk hb hf H locs ls hP hS h
  rw [← he (ix i)] at hg
  rcases (show c = 22 ∨ c = 23 ∨ c = 24 ∨ c = 25 ∨ c = 26 ∨ c = 27 by omega) with e | e | e | e | e | e <;> subst e
  · exact va_aldq O.1 O.2.1 O.2.2.2.2.2.1 hP.1 id 2 (f := fun j => some (za Z (el id j))) (wl_ref hk (by omega) (by omega)) rfl (inb_in hb) hd hg
  · exact va_aldq O.1 O.2.1 O.2.2.2.2.2.1 hP.1 id 3 (f := fun j => some (za Z (el id j))) (wl_ref hk (by omega) (by omega)) rfl (inb_in hb) hd hg
  · exact va_aldq O.1 O.2.1 O.2.2.2.2.2.1 hP.1 id 4 (f := fun j => some (za Z (el id j))) (wl_ref hk (by omega) (by omega)) rfl (inb_in hb) hd hg
  · exact va_aldq O.1 O.2.1 O.2.2.2.2.2.1 hP.1 id 5 (f := fun j => some (za Z (el id j))) (wl_ref hk (by omega) (by omega)) rfl (inb_in hb) hd hg
  · exact va_aldq O.1 O.2.1 O.2.2.2.2.2.1 hP.1 id 6 (f := fun j => some (za Z (el id j))) (wl_ref hk (by omega) (by omega)) rfl (inb_in hb) hd hg
  · exact va_aldq O.1 O.2.1 O.2.2.2.2.2.1 hP.1 id 7 (f := fun j => some (za Z (el id j))) (wl_ref hk (by omega) (by omega)) rfl (inb_in hb) hd hg
theorem g_iast {i x : Int32} {id : Nat} (O : Ok Z C own cc nL fr lo) (hN : ¬ K none) (hd : decode cc pc = .ok (.iastore, 1)) (hk : kn id = 21) {t : Mem → Option β} (hf : K (grd (inb i (ln id)) (bnd (mw σ id (ix i) x) t))) (kk : ∀ σ', K (t σ') → G Z C σ' (pc + 1) L st) : G Z C σ pc L (.int x :: .int i :: .ref (za Z id) :: st) := by
  obtain ⟨hb, hf⟩ := k_grd hN hf
  intro H locs ls hP hS h
  have hD := wl_D (A := c_A C) O.2.2.2.2.2.2.2.2.1 O.2.2.2.2.2.2.2.1 σ
  refine va_iast O.1 O.2.1 O.2.2.2.2.2.1 hP.1 hD hS id 1 (n := ln id) (f := σ id) (wl_int hk) rfl (inb_in hb) hd (fun H1 locs1 a1 a2 a3 => ?_)
  rw [wl_set Z σ (mw σ id (ix i) x) (by rw [ent_int hk, mw_rowI]) (fun j hj => ent_row (mw_row hj))] at a1
  exact kk _ hf H1 locs1 ls (pw_mw a1 (fun q => by omega) hP.2) a3 h
theorem g_bast {i x : Int32} {id : Nat} (O : Ok Z C own cc nL fr lo) (hN : ¬ K none) (hd : decode cc pc = .ok (.bastore, 1)) (hk : kn id = 20) {t : Mem → Option β} (hf : K (grd (inb i (ln id)) (bnd (mw σ id (ix i) x.toInt8.toInt32) t))) (kk : ∀ σ', K (t σ') → G Z C σ' (pc + 1) L st) : G Z C σ pc L (.int x :: .int i :: .ref (za Z id) :: st) := by
  obtain ⟨hb, hf⟩ := k_grd hN hf
  intro H locs ls hP hS h
  have hD := wl_D (A := c_A C) O.2.2.2.2.2.2.2.2.1 O.2.2.2.2.2.2.2.1 σ
  refine va_bast O.1 O.2.1 O.2.2.2.2.2.1 hP.1 hD hS id 0 (n := ln id) (f := σ id) (wl_byte hk) rfl (inb_in hb) hd (fun H1 locs1 a1 a2 a3 => ?_)
  rw [vp_nar_byte, wl_set Z σ (mw σ id (ix i) x.toInt8.toInt32) (by rw [ent_byte hk, mw_rowI]) (fun j hj => ent_row (mw_row hj))] at a1
  exact kk _ hf H1 locs1 ls (pw_mw a1 (fun q => pk_fb x) hP.2) a3 h
end ROWS

