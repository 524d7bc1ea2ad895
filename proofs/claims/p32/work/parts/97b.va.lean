/-- the walk of a maker: its world is a list that grows; cells and slots made so far -/
def uV (Z : ZT) (C : CX) (ws : va_W) (k n pc : Nat) (L : List (Nat × Value)) (st : List Value) : Prop :=
  ∀ (H : Heap) (locs : List Loc) (ls : Array Slot), va_P (zD Z) vwCl ws H → va_D (c_A C) ws → va_S (c_A C) (c_s C).heap H locs → lv_has ls (c_c C).maxLocals L → W (c_p C) (zl Z) (c_e C) (c_R C) (c_s C) (c_m C) (c_a C) (c_b C) (c_h C) (c_c C) H locs k n (c_Q C) (F0 (c_m C) pc ls st)
def uOk (Z : ZT) (C : CX) (own : String) (cc : ByteArray) (nL fr lo kR nR : Nat) : Prop :=
  (c_p C).tables.exec = Jvm.exec ∧ (c_c C).code = cc ∧ (c_c C).maxLocals = nL ∧ (c_s C).vm.findClass own = some (c_m C).cls ∧ (∀ w ∈ uW, w.before (c_a C) (c_s C) = true) ∧ va_K (zD Z) vwCl (utys Z) (c_s C) ∧ (∀ q : Nat, (c_s C).heap.size ≤ q → c_A C q) ∧ NW (c_s C) ∧ fr ≤ (c_R C).frames ∧ lo ≤ (c_R C).locals ∧ kR ≤ (c_R C).cells ∧ nR ≤ (c_R C).slots
/-- a maker's contract -/
abbrev MkC {S : Type} (Z : ZT) (y : MethodName) (cc : ByteArray) (maxL fr k n lo : Nat) (as : List Value) (W0 : va_W) (W1 : S → va_W) (sz : Nat) : Prop :=
  Met (zl Z) y (Cond.code y cc maxL none :: uW) ({ frames := fr, cells := k, slots := n, locals := lo }) (va_Pc as (fun U => U.heap.size = sz ∧ va_P (zD Z) vwCl W0 U.heap ∧ va_K (zD Z) vwCl (utys Z) U ∧ va_D (fun _ => True) W0 ∧ NW U)) (va_Qv (fun _ : S => True) (fun q U => va_P (zD Z) vwCl (W1 q) U.heap ∧ va_K (zD Z) vwCl (utys Z) U ∧ va_D (va_A W0 sz) (W1 q)) (va_A W0 sz)) k n (va_A W0 sz)
theorem uv_Pmem {D : va_G} {cl : List vw_C} {ws : va_W} {H : Heap} : va_P D cl ws H ↔ ∀ q ∈ ws, va_at D cl q H :=
  ⟨fun h q hq => by obtain ⟨k, hk⟩ := List.mem_iff_getElem?.mp hq; exact h k q hk, fun h k q hk => h q (List.mem_of_getElem? hk)⟩
theorem uv_Pperm {D : va_G} {cl : List vw_C} {ws ws' : va_W} {H : Heap} (hp : ws.Perm ws') (h : va_P D cl ws H) : va_P D cl ws' H :=
  uv_Pmem.mpr (fun q hq => uv_Pmem.mp h q (hp.mem_iff.mpr hq))
theorem uv_Dnd {A : Nat → Prop} {ws : va_W} : va_D A ws ↔ (ws.map Prod.fst).Nodup ∧ ∀ q ∈ ws, A q.1 := by
  constructor
  · rintro ⟨h1, h2⟩
    refine ⟨?_, fun q hq => ?_⟩
    · rw [List.nodup_iff_pairwise_ne, List.pairwise_iff_getElem]
      intro i j hi hj hij he
      rw [List.length_map] at hi hj
      rw [List.getElem_map, List.getElem_map] at he
      have := h1 i j _ _ (List.getElem?_eq_getElem hi) (List.getElem?_eq_getElem hj) he
      omega
    · obtain ⟨k, hk⟩ := List.mem_iff_getElem?.mp hq
      exact h2 k q hk
  · rintro ⟨h1, h2⟩
    refine ⟨fun i j p q hi hj he => ?_, fun k q hk => h2 q (List.mem_of_getElem? hk)⟩
    rw [List.nodup_iff_pairwise_ne, List.pairwise_iff_getElem] at h1
    obtain ⟨li, ei⟩ := List.getElem?_eq_some_iff.mp hi
    obtain ⟨lj, ej⟩ := List.getElem?_eq_some_iff.mp hj
    rcases Nat.lt_trichotomy i j with q | q | q
    · exact absurd (by rw [List.getElem_map, List.getElem_map, ei, ej]; exact he) (h1 i j (by rwa [List.length_map]) (by rwa [List.length_map]) q)
    · exact q
    · exact absurd (by rw [List.getElem_map, List.getElem_map, ei, ej]; exact he.symm) (h1 j i (by rwa [List.length_map]) (by rwa [List.length_map]) q)
theorem uv_Dperm {A : Nat → Prop} {ws ws' : va_W} (hp : ws.Perm ws') (h : va_D A ws) : va_D A ws' := by
  rw [uv_Dnd] at h ⊢
  exact ⟨(hp.map _).nodup_iff.mp h.1, fun q hq => h.2 q (hp.mem_iff.mpr hq)⟩
theorem uv_ndr : ∀ n s : Nat, va_nd (List.range' s n) = true
  | 0, s => rfl
  | n + 1, s => by
    rw [List.range'_succ]
    simp only [va_nd, Bool.and_eq_true, decide_eq_true_eq]
    refine ⟨fun q => ?_, uv_ndr n (s + 1)⟩
    rw [List.mem_range'_1] at q
    omega
theorem uv_last (ws wc : va_W) : (List.range' ws.length wc.length).map (fun i => (ws ++ wc)[i]?) = wc.map some := by
  apply List.ext_getElem?
  intro j
  rw [List.getElem?_map, List.getElem?_map]
  by_cases hj : j < wc.length
  · rw [List.getElem?_range' hj]
    simp only [Option.map_some, Nat.one_mul]
    rw [List.getElem?_append_right (by omega), Nat.add_sub_cancel_left, List.getElem?_eq_getElem hj]
    rfl
  · rw [List.getElem?_eq_none (by rw [List.length_range']; omega), List.getElem?_eq_none (by omega)]
    rfl
theorem uv_rest (ws wc : va_W) : (List.range' 0 ws.length).map (fun i => (ws ++ wc)[i]?) = ws.map some := by
  apply List.ext_getElem?
  intro j
  rw [List.getElem?_map, List.getElem?_map]
  by_cases hj : j < ws.length
  · rw [List.getElem?_range' hj]
    simp only [Option.map_some, Nat.zero_add, Nat.one_mul]
    rw [List.getElem?_append_left hj, List.getElem?_eq_getElem hj]
    rfl
  · rw [List.getElem?_eq_none (by rw [List.length_range']; omega), List.getElem?_eq_none (by omega)]
    rfl
theorem nq_in {w : Cond} (h : w ∈ lw_tbl) (hg : isNest w = true) : w ∈ nW := List.mem_filter.mpr ⟨h, hg⟩
section UV
variable {Z : ZT} {C : CX} {own : String} {cc : ByteArray} {nL fr lo kR nR : Nat} {ws ws' : va_W} {k n pc : Nat} {L L' : List (Nat × Value)} {st : List Value}
theorem uv_eq (h : ws = ws') (kk : uV Z C ws' k n pc L st) : uV Z C ws k n pc L st := h ▸ kk
theorem uv_perm (h : ws.Perm ws') (kk : uV Z C ws' k n pc L st) : uV Z C ws k n pc L st := fun H locs ls hP hD hS hl => kk H locs ls (uv_Pperm h hP) (uv_Dperm h hD) hS hl
theorem uv_widen {k' n' : Nat} (h1 : k ≤ k') (h2 : n ≤ n') (kk : uV Z C ws k' n' pc L st) : uV Z C ws k n pc L st := fun H locs ls hP hD hS hl => W.widen h1 h2 (kk H locs ls hP hD hS hl)
theorem uv_sub (ks : List Nat) (hl : lv_pick L ks = L') (kk : uV Z C ws k n pc L' st) : uV Z C ws k n pc L st := fun H locs ls hP hD hS h => kk H locs ls hP hD hS (lv_sub h ks hl)
theorem uv_aload_n {i : Fin 4} {i' x : Nat} (O : uOk Z C own cc nL fr lo kR nR) (hd : decode cc pc = .ok (.aload_n i, 1)) (j : Nat) (hl : L[j]? = some (i', .ref x)) (hi : (i : Nat) = i') (kk : uV Z C ws k n (pc + 1) L (.ref x :: st)) : uV Z C ws k n pc L st := fun H locs ls hP hD hS h => lv_aload_n O.1 O.2.1 hd hi (lv_at h j hl) (kk H locs ls hP hD hS h)
theorem uv_iload_n {i : Fin 4} {i' : Nat} {x : Int32} (O : uOk Z C own cc nL fr lo kR nR) (hd : decode cc pc = .ok (.iload_n i, 1)) (j : Nat) (hl : L[j]? = some (i', .int x)) (hi : (i : Nat) = i') (kk : uV Z C ws k n (pc + 1) L (.int x :: st)) : uV Z C ws k n pc L st := fun H locs ls hP hD hS h => lv_iload_n O.1 O.2.1 hd hi (lv_at h j hl) (kk H locs ls hP hD hS h)
theorem uv_iconst {z : Int} (O : uOk Z C own cc nL fr lo kR nR) (hd : decode cc pc = .ok (.iconst z, 1)) (v : Int32) (hv : Int32.ofInt z = v) (kk : uV Z C ws k n (pc + 1) L (.int v :: st)) : uV Z C ws k n pc L st := fun H locs ls hP hD hS h => lv_iconst O.1 O.2.1 hd hv (kk H locs ls hP hD hS h)
theorem uv_bipush {z : Int} (O : uOk Z C own cc nL fr lo kR nR) (hd : decode cc pc = .ok (.bipush z, 2)) (v : Int32) (hv : (Int8.ofInt z).toInt32 = v) (kk : uV Z C ws k n (pc + 2) L (.int v :: st)) : uV Z C ws k n pc L st := fun H locs ls hP hD hS h => lv_bipush O.1 O.2.1 hd hv (kk H locs ls hP hD hS h)
theorem uv_sipush {z : Int} (O : uOk Z C own cc nL fr lo kR nR) (hd : decode cc pc = .ok (.sipush z, 3)) (v : Int32) (hv : (Int16.ofInt z).toInt32 = v) (kk : uV Z C ws k n (pc + 3) L (.int v :: st)) : uV Z C ws k n pc L st := fun H locs ls hP hD hS h => lv_sipush O.1 O.2.1 hd hv (kk H locs ls hP hD hS h)
theorem uv_dup {v : Value} (O : uOk Z C own cc nL fr lo kR nR) (hd : decode cc pc = .ok (.dup, 1)) (hv : v.category = 1) (kk : uV Z C ws k n (pc + 1) L (v :: v :: st)) : uV Z C ws k n pc L (v :: st) := fun H locs ls hP hD hS h => lv_dup O.1 O.2.1 hd hv (kk H locs ls hP hD hS h)
theorem uv_istore_n {i : Fin 4} {i' : Nat} {x : Int32} (O : uOk Z C own cc nL fr lo kR nR) (hd : decode cc pc = .ok (.istore_n i, 1)) (hi : (i : Nat) = i') (hn : i' < nL) (M : List (Nat × Value)) (hl : (i', Value.int x) :: L.filter (fun q => !(q.1 == i') && !(q.1 + 1 == i' && q.2.category == 2)) = M) (kk : uV Z C ws k n (pc + 1) M st) : uV Z C ws k n pc L (.int x :: st) := fun H locs ls hP hD hS h => lv_istore_n O.1 O.2.1 hd hi h (by rw [O.2.2.1]; exact hn) hl (fun ls' h' => kk H locs ls' hP hD hS h')
theorem uv_astore_n {i : Fin 4} {i' x : Nat} (O : uOk Z C own cc nL fr lo kR nR) (hd : decode cc pc = .ok (.astore_n i, 1)) (hi : (i : Nat) = i') (hn : i' < nL) (M : List (Nat × Value)) (hl : (i', Value.ref x) :: L.filter (fun q => !(q.1 == i') && !(q.1 + 1 == i' && q.2.category == 2)) = M) (kk : uV Z C ws k n (pc + 1) M st) : uV Z C ws k n pc L (.ref x :: st) := fun H locs ls hP hD hS h => lv_astore_n O.1 O.2.1 hd hi h (by rw [O.2.2.1]; exact hn) hl (fun ls' h' => kk H locs ls' hP hD hS h')
theorem uv_iinc {i : Nat} {z : Int} {x v : Int32} (O : uOk Z C own cc nL fr lo kR nR) (hd : decode cc pc = .ok (.iinc i z, 3)) (j : Nat) (hj : L[j]? = some (i, .int x)) (hv : x + Int32.ofInt z = v) (hn : i < nL) (M : List (Nat × Value)) (hl : (i, Value.int v) :: L.filter (fun q => !(q.1 == i) && !(q.1 + 1 == i && q.2.category == 2)) = M) (kk : uV Z C ws k n (pc + 3) M st) : uV Z C ws k n pc L st := fun H locs ls hP hD hS h => lv_iinc O.1 O.2.1 hd h hj hv (by rw [O.2.2.1]; exact hn) hl (fun ls' h' => kk H locs ls' hP hD hS h')
theorem uv_goto {off : Int} (tgt : Nat) (O : uOk Z C own cc nL fr lo kR nR) (hd : decode cc pc = .ok (.goto off, 3)) (ht : (pc : Int) + off = (tgt : Int)) (kk : uV Z C ws k n tgt L st) : uV Z C ws k n pc L st := fun H locs ls hP hD hS h => lv_goto O.1 O.2.1 hd ht (kk H locs ls hP hD hS h)
theorem uv_icmp_ge {x y : Int32} {off : Int} (tgt : Nat) (O : uOk Z C own cc nL fr lo kR nR) (hd : decode cc pc = .ok (.if_icmp .ge off, 3)) (ht : (pc : Int) + off = (tgt : Int)) (kt : y ≤ x → uV Z C ws k n tgt L st) (kf : ¬ y ≤ x → uV Z C ws k n (pc + 3) L st) : uV Z C ws k n pc L (.int y :: .int x :: st) := fun H locs ls hP hD hS h => lv_icmp_ge O.1 O.2.1 hd ht (fun q => kt q H locs ls hP hD hS h) (fun q => kf q H locs ls hP hD hS h)
theorem uv_icmp_ne {x y : Int32} {off : Int} (tgt : Nat) (O : uOk Z C own cc nL fr lo kR nR) (hd : decode cc pc = .ok (.if_icmp .ne off, 3)) (ht : (pc : Int) + off = (tgt : Int)) (kt : ¬ x = y → uV Z C ws k n tgt L st) (kf : x = y → uV Z C ws k n (pc + 3) L st) : uV Z C ws k n pc L (.int y :: .int x :: st) := fun H locs ls hP hD hS h => lv_icmp_ne O.1 O.2.1 hd ht (fun q => kt q H locs ls hP hD hS h) (fun q => kf q H locs ls hP hD hS h)
theorem uv_if_ne {x : Int32} {off : Int} (tgt : Nat) (O : uOk Z C own cc nL fr lo kR nR) (hd : decode cc pc = .ok (.ifCond .ne off, 3)) (ht : (pc : Int) + off = (tgt : Int)) (kt : ¬ x = 0 → uV Z C ws k n tgt L st) (kf : x = 0 → uV Z C ws k n (pc + 3) L st) : uV Z C ws k n pc L (.int x :: st) := fun H locs ls hP hD hS h => lv_if_ne O.1 O.2.1 hd ht (fun q => kt q H locs ls hP hD hS h) (fun q => kf q H locs ls hP hD hS h)
theorem uv_new {Cn : String} {T : u_T} {N ci index : Nat} {fs : List Value} (O : uOk Z C own cc nL fr lo kR nR) (hd : decode cc pc = .ok (.new index, 3)) (ty : Nat → FieldType) (hty : ∀ k, k < N → parseFieldDescriptor (T k).2.2.1 = some (ty k)) (hin : ∀ w ∈ u_ws Cn T N, w ∈ uW) (hcl : Cond.classLink own index Cn ∈ uW) (hinst : Cond.instantiable Cn N ∈ uW) (hini : Cond.initialized Cn ∈ uW) (hc : vwCl[ci]? = some (Cn, T, N)) (hfs : ∀ j, j < N → defaultValue (ty j) = vp_V fs j) (hk : k + 1 ≤ kR) (hn : n + N ≤ nR) (kk : ∀ q, uV Z C (ws ++ [(q, .inr (ci, fs))]) (k + 1) (n + N) (pc + 3) L (.ref q :: st)) : uV Z C ws k n pc L st := by
  intro H locs ls hP hD hS h
  obtain ⟨hx, hb, hml, hown, hts, hK, hA, hNw, r1, r2, r3, r4⟩ := O
  exact va_new hx hb hts hin ty hty hown (hts _ hcl) (hts _ hinst) (hts _ hini) hK hP hD hS hA hc hfs (by omega) (by omega) hd (fun q H hP hD hS => kk q H locs ls hP hD hS h)
theorem uv_newi {v : Int32} {N : Nat} (O : uOk Z C own cc nL fr lo kR nR) (hd : decode cc pc = .ok (.newarray .int, 2)) (harr : Cond.arrayClass (newarray.typeOf .int) ∈ uW) (hv : v = nI N) (hN : N ≤ 600) (hk : k + 1 ≤ kR) (hn : n + N ≤ nR) (kk : ∀ q, uV Z C (ws ++ [(q, .inl (zc Z 1, (N, .inl (fun _ => 0))))]) (k + 1) (n + N) (pc + 2) L (.ref q :: st)) : uV Z C ws k n pc L (.int v :: st) := by
  intro H locs ls hP hD hS h
  obtain ⟨hx, hb, hml, hown, hts, hK, hA, hNw, r1, r2, r3, r4⟩ := O
  subst hv
  refine va_newa (atype := .int) (ty := .int) (N' := N) (a0 := (N, .inl (fun _ => 0))) hx hb (hts _ harr) rfl hK hP hD hS hA (fun cA => rfl) (nI_pos (by omega)) (zi_ix (by omega)) (by show N * 4 ≤ _; omega) (by omega) (by omega) hd (fun q cA H hK1 hP hD hS => ?_)
  have ec : cA = zc Z 1 := uc_same (t := 1) hK1 rfl
  subst ec
  exact kk q H locs ls hP hD hS h
theorem uv_newq {v : Int32} {N index t : Nat} {Cn : String} {c0 : ClassId} (O : uOk Z C own cc nL fr lo kR nR) (hd : decode cc pc = .ok (.anewarray index, 3)) (hcl : Cond.classLink own index Cn ∈ uW) (hov : Cn ∈ uAO) (ht : (utys Z)[t]? = some (c0, .object Cn)) (hv : v = nI N) (hN : N ≤ 600) (hk : k + 1 ≤ kR) (hn : n + N ≤ nR) (kk : ∀ q, uV Z C (ws ++ [(q, .inl (c0, (N, .inr (.inr (.inr (.inr (fun _ => none)))))))]) (k + 1) (n + N) (pc + 3) L (.ref q :: st)) : uV Z C ws k n pc L (.int v :: st) := by
  intro H locs ls hP hD hS h
  obtain ⟨hx, hb, hml, hown, hts, hK, hA, hNw, r1, r2, r3, r4⟩ := O
  subst hv
  refine va_newq hx hb hown (hts _ hcl) (hNw.2.1 _ hov) hK hP hD hS hA (n := nI N) (N' := N) (nI_pos (by omega)) (zi_ix (by omega)) (by omega) (by omega) (by omega) hd (fun q cA H hK1 hP hD hS => ?_)
  have ec : cA = c0 := uc_same (t := t) hK1 ht
  subst ec
  exact kk q H locs ls hP hD hS h
theorem uv_putF {T : u_T} {N ci index a : Nat} {fs : List Value} {v : Value} (O : uOk Z C own cc nL fr lo kR nR) (hm : (c_h C).name = "<init>") (hd : decode cc pc = .ok (.putfield index, 3)) (q0 : Nat) (he : ws[q0]? = some (a, .inr (ci, fs))) (hc : vwCl[ci]? = some (own, T, N)) (hin : ∀ w ∈ u_ws own T N, w ∈ uW) (ty0 : Nat → FieldType) (hty : ∀ k, k < N → parseFieldDescriptor (T k).2.2.1 = some (ty0 k)) (hnm : ∀ a, a < N → ∀ b, b < N → a ≠ b → (T a).2.1 ≠ (T b).2.1) (j : Nat) (hj : j < N) (hlink : Cond.fieldLink own index own (T j).2.1 (T j).2.2.1 ∈ uW) (hfin : (T j).2.2.2 = true) (hdecl : (T j).1 = own) {ty : FieldType} (hpd : parseFieldDescriptor (T j).2.2.1 = some ty) (hnr : narrow ty v = v) (hfit : fits ty v = true) (hl : j < fs.length) (kk : uV Z C (ws.set q0 (a, .inr (ci, fs.set j v))) k n (pc + 3) L st) : uV Z C ws k n pc L (v :: .ref a :: st) := by
  intro H locs ls hP hD hS h
  obtain ⟨hx, hb, hml, hown, hts, hK, hA, hNw, r1, r2, r3, r4⟩ := O
  exact va_putF hx hb hts hin ty0 hty hnm hown hK hP hD hS q0 he hc j hj (hts _ hlink) (fun _ h9 => by rw [hdecl] at h9; exact h9) hfin hm hdecl hpd hnr hfit hl hd (fun H1 locs1 hP hD hS => kk H1 locs1 ls hP hD hS h)
theorem uv_get {index ci j a : Nat} {r : Option Nat} {fs : List Value} {v : Value} (O : uOk Z C own cc nL fr lo kR nR) (hd : decode cc pc = .ok (.getfield index, 3)) (F : FX own index ci j r) (q0 : Nat) (he : ws[q0]? = some (a, .inr (ci, fs))) (hv : fs[j]? = some v) (kk : uV Z C ws k n (pc + 3) L (v :: st)) : uV Z C ws k n pc L (.ref a :: st) := by
  intro H locs ls hP hD hS h
  obtain ⟨hx, hb, hml, hown, hts, hK, hA, hNw, r1, r2, r3, r4⟩ := O
  obtain ⟨Cn, T, N, h1, h2, h3, h4, h5, h6⟩ := F
  rcases h6 with h6 | ⟨host, h6⟩
  · exact va_get hx hb (Ts := uW) hts h5 hown hK hP q0 he h1 j h2 (hts _ h6) (fun _ h9 => h9) hv hd (kk H locs ls hP hD hS h)
  · exact va_getN hx hb (Ts := uW) hts h5 hown hK hP q0 he h1 j h2 (NW.use hNw h6) (fun _ h9 => h9) hv hd (kk H locs ls hP hD hS h)
theorem uv_alen {a : Nat} {cA : ClassId} {x : vp_A} {ty : FieldType} {v : Int32} (O : uOk Z C own cc nL fr lo kR nR) (hd : decode cc pc = .ok (.arraylength, 1)) (q0 t0 : Nat) (ha : ws[q0]? = some (a, .inl (cA, x))) (ht : (utys Z)[t0]? = some (cA, ty)) (hv : Int32.ofNat x.1 = v) (kk : uV Z C ws k n (pc + 1) L (.int v :: st)) : uV Z C ws k n pc L (.ref a :: st) := by
  intro H locs ls hP hD hS h
  obtain ⟨hx, hb, hml, hown, hts, hK, hA, hNw, r1, r2, r3, r4⟩ := O
  exact va_alen hx hb hK hP q0 t0 ha ht hv hd (kk H locs ls hP hD hS h)
theorem uv_astq {a N v ci w : Nat} {cA : ClassId} {r : vw_C} {vs : List Value} {f : Nat → Option Nat} {i : Int32} (O : uOk Z C own cc nL fr lo kR nR) (hd : decode cc pc = .ok (.aastore, 1)) (q0 t0 qk : Nat) (ha : ws[q0]? = some (a, .inl (cA, N, .inr (.inr (.inr (.inr f)))))) (ht : (utys Z)[t0]? = some (cA, .object r.1)) (hv : ws[qk]? = some (v, .inr (ci, vs))) (hc : vwCl[ci]? = some r) (hi : i = nI w) (hw : w < N) (hN : N ≤ 600) (kk : uV Z C (ws.set q0 (a, .inl (cA, N, .inr (.inr (.inr (.inr (va_up f w (some v)))))))) k n (pc + 1) L st) : uV Z C ws k n pc L (.ref v :: .int i :: .ref a :: st) := by
  intro H locs ls hP hD hS h
  obtain ⟨hx, hb, hml, hown, hts, hK, hA, hNw, r1, r2, r3, r4⟩ := O
  subst hi
  have hix : (nI w).toNatClampNeg = w := zi_ix (by omega)
  refine va_astq hx hb hK hP hD hS q0 t0 qk ci ha ht hv hc (i := nI w) ?_ hd (fun H1 locs1 hP hD hS => ?_)
  · rintro (q | q)
    · exact nI_pos (by omega) q
    · rw [hix] at q; omega
  · rw [hix] at hP hD
    exact kk H1 locs1 ls hP hD hS h
theorem uv_aldq {a N v w : Nat} {cA : ClassId} {Cn : String} {f : Nat → Option Nat} {i : Int32} (O : uOk Z C own cc nL fr lo kR nR) (hd : decode cc pc = .ok (.aaload, 1)) (q0 t0 : Nat) (ha : ws[q0]? = some (a, .inl (cA, N, .inr (.inr (.inr (.inr f)))))) (ht : (utys Z)[t0]? = some (cA, .object Cn)) (hi : i = nI w) (hw : w < N) (hN : N ≤ 600) (hf : f w = some v) (kk : uV Z C ws k n (pc + 1) L (.ref v :: st)) : uV Z C ws k n pc L (.int i :: .ref a :: st) := by
  intro H locs ls hP hD hS h
  obtain ⟨hx, hb, hml, hown, hts, hK, hA, hNw, r1, r2, r3, r4⟩ := O
  subst hi
  have hix : (nI w).toNatClampNeg = w := zi_ix (by omega)
  refine va_aldq hx hb hK hP q0 t0 ha ht (i := nI w) ?_ hd ?_
  · rintro (q | q)
    · exact nI_pos (by omega) q
    · rw [hix] at q; omega
  · rw [hix, hf]
    exact kk H locs ls hP hD hS h
theorem uv_iast {a N w : Nat} {f : Nat → Int32} {i x : Int32} (O : uOk Z C own cc nL fr lo kR nR) (hd : decode cc pc = .ok (.iastore, 1)) (q0 : Nat) (ha : ws[q0]? = some (a, .inl (zc Z 1, N, .inl f))) (hi : i = nI w) (hw : w < N) (hN : N ≤ 600) (kk : uV Z C (ws.set q0 (a, .inl (zc Z 1, N, .inl (upd f w x)))) k n (pc + 1) L st) : uV Z C ws k n pc L (.int x :: .int i :: .ref a :: st) := by
  intro H locs ls hP hD hS h
  obtain ⟨hx, hb, hml, hown, hts, hK, hA, hNw, r1, r2, r3, r4⟩ := O
  subst hi
  have hix : (nI w).toNatClampNeg = w := zi_ix (by omega)
  refine va_iast hx hb hK hP hD hS q0 1 ha rfl (i := nI w) ?_ hd (fun H1 locs1 hP hD hS => ?_)
  · rintro (q | q)
    · exact nI_pos (by omega) q
    · rw [hix] at q; omega
  · rw [hix] at hP hD
    exact kk H1 locs1 ls hP hD hS h
theorem uv_obj {idx a : Nat} (O : uOk Z C own cc nL fr lo kR nR) (hd : decode cc pc = .ok (.invokespecial idx, 3)) (hl : Cond.methodLink own idx objectInit ∈ uW) (h1 : Cond.instanceMethod objectInit ∈ uW) (h2 : Cond.code objectInit ⟨#[0xb1]⟩ 1 none ∈ uW) (hfr : 1 ≤ fr) (hlo : 30 ≤ lo) (hc : (st.map fun v => v.category).sum ≤ 8) (kk : uV Z C ws k n (pc + 3) L st) : uV Z C ws k n pc L (.ref a :: st) := by
  intro H locs ls hP hD hS h
  obtain ⟨hx, hb, hml, hown, hts, hK, hA, hNw, r1, r2, r3, r4⟩ := O
  refine W.objInit hx hb hown (hts _ hl) (hts _ h1) (hts _ h2) rfl h.1 rfl hd (by omega) (by have := lv_room (m := c_m C) (pc := pc) (ls := ls) (rest := .ref a :: st) hc; omega) ?_
  exact kk H locs ls hP hD hS h
theorem uv_obj1 {v : Int32} (O : uOk Z C own cc nL fr lo kR nR) (hd : decode cc pc = .ok (.i2b, 1)) (kk : ∀ w : Int32, w = v.toInt8.toInt32 → uV Z C ws k n (pc + 1) L (.int w :: st)) : uV Z C ws k n pc L (.int v :: st) := fun H locs ls hP hD hS h => lv_i2b O.1 O.2.1 hd rfl (kk _ rfl H locs ls hP hD hS h)
theorem uv_iadd {x y : Int32} (O : uOk Z C own cc nL fr lo kR nR) (hd : decode cc pc = .ok (.iadd, 1)) (kk : uV Z C ws k n (pc + 1) L (.int (x + y) :: st)) : uV Z C ws k n pc L (.int y :: .int x :: st) := fun H locs ls hP hD hS h => lv_iadd O.1 O.2.1 hd (kk H locs ls hP hD hS h)
theorem uv_put {T : u_T} {N ci index a : Nat} {fs : List Value} {v : Value} (O : uOk Z C own cc nL fr lo kR nR) (hd : decode cc pc = .ok (.putfield index, 3)) (q0 : Nat) (he : ws[q0]? = some (a, .inr (ci, fs))) (hc : vwCl[ci]? = some (own, T, N)) (hin : ∀ w ∈ u_ws own T N, w ∈ uW) (ty0 : Nat → FieldType) (hty : ∀ k, k < N → parseFieldDescriptor (T k).2.2.1 = some (ty0 k)) (hnm : ∀ a, a < N → ∀ b, b < N → a ≠ b → (T a).2.1 ≠ (T b).2.1) (j : Nat) (hj : j < N) (hlink : Cond.fieldLink own index own (T j).2.1 (T j).2.2.1 ∈ uW) (hfin : (T j).2.2.2 = false) (hdecl : (T j).1 = own) {ty : FieldType} (hpd : parseFieldDescriptor (T j).2.2.1 = some ty) (hnr : narrow ty v = v) (hfit : fits ty v = true) (hl : j < fs.length) (kk : uV Z C (ws.set q0 (a, .inr (ci, fs.set j v))) k n (pc + 3) L st) : uV Z C ws k n pc L (v :: .ref a :: st) := by
  intro H locs ls hP hD hS h
  obtain ⟨hx, hb, hml, hown, hts, hK, hA, hNw, r1, r2, r3, r4⟩ := O
  exact va_put hx hb hts hin ty0 hty hnm hown hK hP hD hS q0 he hc j hj (hts _ hlink) (fun _ h9 => by rw [hdecl] at h9; exact h9) hfin hpd hnr hfit hl hd (fun H1 locs1 hP hD hS => kk H1 locs1 ls hP hD hS h)
theorem uv_call {S : Type} {W1 : S → va_W} {wc : va_W} {y : MethodName} {ccY : ByteArray} {maxL frY kY nY loY b index : Nat} {as rest : List Value} (O : uOk Z C own cc nL fr lo kR nR) (hM : ∀ sz, MkC Z y ccY maxL frY kY nY loY (.ref b :: as) wc W1 sz) (hst : st = as.reverse ++ .ref b :: rest)
    (hlink : (decode cc pc = .ok (.invokespecial index, 3) ∧ (Cond.methodLink own index y ∈ uW ∨ ∃ host, Cond.methodLinkNest own index y host ∈ nW) ∧ y.name = "<init>") ∨ (decode cc pc = .ok (.invokevirtual index, 3) ∧ Cond.methodLink own index y ∈ uW ∧ Cond.selects y.cls y y ∈ uW ∧ ∃ ci fs T N, wc[0]? = some (b, .inr (ci, fs)) ∧ vwCl[ci]? = some (y.cls, T, N))) (hcode : Cond.code y ccY maxL none ∈ uW) (hini : Cond.initialized y.cls ∈ uW) (hins : Cond.instanceMethod y ∈ uW) (hds : y.cls ≠ "java/lang/invoke/MethodHandle" ∧ y.cls ≠ "java/lang/invoke/VarHandle" ∧ (parseMethodDescriptor y.desc).map (fun d => d.parameters.length) = some as.length) (hrr : frY + 1 ≤ fr ∧ 8 + (maxL + 11) + loY ≤ lo) (hcat : (rest.map fun v => v.category).sum ≤ 8) (hk : k + kY ≤ kR) (hn : n + nY ≤ nR)
    (kk : ∀ u, uV Z C (ws ++ W1 u) (k + kY) (n + nY) (pc + 3) L rest) : uV Z C (ws ++ wc) k n pc L st := by
  intro H locs ls hP hD hS h
  obtain ⟨hx, hb, hml, hown, hts, hK, hA, hNw, r1, r2, r3, r4⟩ := O
  subst hst
  have hPc : va_P (zD Z) vwCl wc H := fun i q hi => hP (ws.length + i) q (by rw [List.getElem?_append_right (by omega), Nat.add_sub_cancel_left]; exact hi)
  have hDc : va_D (fun _ => True) wc := (hD.sub (ws' := wc) (List.range' ws.length wc.length) (uv_ndr _ _) (uv_last ws _)).weaken (fun _ _ _ _ => trivial)
  have hFc := va_free (wc := wc) hD hS hA (List.range' ws.length wc.length) (uv_last ws _)
  have hbl : FrameBlind (va_Pc (.ref b :: as) (fun U => U.heap.size = H.size ∧ va_P (zD Z) vwCl wc U.heap ∧ va_K (zD Z) vwCl (utys Z) U ∧ va_D (fun _ => True) wc ∧ NW U)) := fun a U g mk q => by obtain ⟨q0, q1, qP, qK, qD, qN⟩ := q; exact ⟨q0, q1, qP, va_K.moved (u := U) (U := U.calling g mk a) (Vm.Alike.refl U.vm) qK, qD, NW.same (s := U) (U := U.calling g mk a) rfl qN⟩
  have hpc : ∀ U : State, U.heap = H → (c_s C).WarmedH U.vm → va_Pc (.ref b :: as) (fun U => U.heap.size = H.size ∧ va_P (zD Z) vwCl wc U.heap ∧ va_K (zD Z) vwCl (utys Z) U ∧ va_D (fun _ => True) wc ∧ NW U) (.ref b :: as).toArray U := fun U hU hW => ⟨rfl, by rw [hU], by rw [hU]; exact hPc, va_K.moved hW.alike hK, hDc, NW.warm hW hNw⟩
  have go : ∀ (u : S) (t : State) (H1 : Heap) (locs1 : List Loc), t.heap = H1 → (va_P (zD Z) vwCl (W1 u) t.heap ∧ va_K (zD Z) vwCl (utys Z) t ∧ va_D (va_A wc H.size) (W1 u)) → (∀ q : Nat, q < H.size → ¬ va_A wc H.size q → H1[q]? = H[q]?) → va_S (c_A C) (c_s C).heap H1 locs1 → W (c_p C) (zl Z) (c_e C) (c_R C) (c_s C) (c_m C) (c_a C) (c_b C) (c_h C) (c_c C) H1 locs1 (k + kY) (n + nY) (c_Q C) (F0 (c_m C) (pc + 3) ls rest) := by
    intro u t H1 locs1 ht hB hk1 hS1
    obtain ⟨hP1, hK1, hD1⟩ := hB
    rw [ht] at hP1
    obtain ⟨hP2, hD2⟩ := va_join (wr := ws) (w1 := W1 u) hP hD (List.range' ws.length wc.length) (List.range' 0 ws.length) (uv_last ws _) (uv_rest ws _) (uv_ndr _ _) (fun i hi q => by rw [List.mem_range'_1] at hi q; omega) hk1 hFc hP1 hD1
    exact kk u H1 locs1 ls hP2 hD2 hS1 h
  have hf : k + kY ≤ (c_R C).cells ∧ n + nY ≤ (c_R C).slots := ⟨by omega, by omega⟩
  have hr2 : frY + 1 ≤ (c_R C).frames ∧ 8 + (maxL + 11) + loY ≤ (c_R C).locals := ⟨by omega, by omega⟩
  have hsz : ls.size = nL := by rw [h.1]; exact hml
  rcases hlink with ⟨hd, hlink, hyn⟩ | ⟨hd, hlink, hsel, ci, fs, T, N, hw, hci⟩
  · rcases hlink with hlink | ⟨host, hlink⟩
    · exact va_callv (va_runI (As := as) (rest := rest) ⟨hx, hb, hml, hown, hts⟩ (hM H.size) (cwI as.length hts (uw_goodIn hcode) rfl rfl rfl (hts _ hini) (hts _ hlink) (hts _ hins) hyn hds hr2) ⟨hbl, hpc⟩ rfl rfl hsz rfl (lv_room hcat) hd hf) hS (fun q _ h => hFc q h) hFc (fun u t H1 locs1 ht hvm h5 hB hz1 hk1 hS1 => go u t H1 locs1 ht hB hk1 hS1)
    · exact va_callv (va_runIN (As := as) (rest := rest) ⟨hx, hb, hml, hown, hts⟩ (hM H.size) ⟨va_cnB as.length hts (uw_goodIn hcode) rfl rfl rfl (hNw.1 _ hlink) (hts _ hini) hds hr2, hyn, hts _ hins⟩ ⟨hbl, hpc⟩ rfl rfl hsz rfl (lv_room hcat) hd hf) hS (fun q _ h => hFc q h) hFc (fun u t H1 locs1 ht hvm h5 hB hz1 hk1 hS1 => go u t H1 locs1 ht hB hk1 hS1)
  · exact va_callv (va_runV (As := as) (rest := rest) ⟨hx, hb, hml, hown, hts⟩ (hM H.size) ⟨callB_of as.length hts (uw_goodIn hcode) rfl rfl rfl (hts _ hini) (hts _ hlink) hds hr2, hts _ hins, hts _ hsel⟩ ⟨hbl, va_recv hK hPc (ci := ci) (q0 := 0) hci hw, hpc⟩ rfl rfl hsz rfl (lv_room hcat) hd hf) hS (fun q _ h => hFc q h) hFc (fun u t H1 locs1 ht hvm h5 hB hz1 hk1 hS1 => go u t H1 locs1 ht hB hk1 hS1)
theorem uv_mid {X T Y : va_W} (kk : uV Z C ((X ++ Y) ++ T) k n pc L st) : uV Z C ((X ++ T) ++ Y) k n pc L st :=
  uv_perm (by rw [List.append_assoc, List.append_assoc]; exact List.Perm.append_left X List.perm_append_comm) kk
theorem uv_at (ws : va_W) (x : Nat × va_E) (r : va_W) : (ws ++ (x :: r))[ws.length]? = some x := by simp
end UV
/-- from a walk to a maker's contract -/
theorem uv_mk {Z : ZT} {S : Type} {y : MethodName} {cc : ByteArray} {maxL fr k n lo sz : Nat} {as : List Value} {W0 : va_W} {W1 : S → va_W} (hy : plainName y.cls = true) (ha : (lg_sl as).length ≤ maxL) 
    (body : ∀ C, uOk Z C y.cls cc maxL fr lo k n → (c_h C).name = y.name → (∀ u L pc, decode cc pc = .ok (.return_, 1) → uV Z C (W1 u) k n pc L []) → uV Z C W0 0 0 0 (lv_args 0 as) []) : MkC Z y cc maxL fr k n lo as W0 W1 sz := by
  refine Met.ofW (cc := cc) (maxL := maxL) (ret := none) hy rfl ?_
  intro p e s m args below meth c s₁ B hml hv
  obtain ⟨rfl, hsz, hP, hK, hD0, hNw⟩ := hv
  have hts0 := atoms_spec (ws := Cond.code y cc maxL none :: uW) B.pre
  have hts : ∀ w ∈ uW, w.before _ s = true := fun w hw => hts0 w (List.mem_cons_of_mem _ hw)
  have hown : s.vm.findClass y.cls = some m.cls := findClass_of_methodNamed B.named
  have hin : meth.name = y.name := (name_of_methodNamed B.named B.method).1
  subst hsz
  have hD := hD0.self (sz := s.heap.size)
  have hl := lv_entry as (n := maxL) ha
  rw [lg_entry_eq]
  have O : uOk Z (p, e, { frames := fr, cells := k, slots := n, locals := lo }, s, m, as.toArray, below, meth, c, 0, 0, MQ below (va_Qv (fun _ : S => True) (fun q U => va_P (zD Z) vwCl (W1 q) U.heap ∧ va_K (zD Z) vwCl (utys Z) U ∧ va_D (va_A W0 s.heap.size) (W1 q)) (va_A W0 s.heap.size)) as.toArray s k n (va_A W0 s.heap.size), va_A W0 s.heap.size) y.cls cc maxL fr lo k n :=
    ⟨B.exec, B.bytes, hml, hown, hts, hK, fun q h => Or.inr h, hNw, Nat.le_refl _, Nat.le_refl _, Nat.le_refl _, Nat.le_refl _⟩
  refine body _ O hin (fun u L pc hd => ?_) s.heap [] _ hP hD va_S.rf (by rw [show (c_c (p, e, ({ frames := fr, cells := k, slots := n, locals := lo } : Room), s, m, as.toArray, below, meth, c, 0, 0, MQ below (va_Qv (fun _ : S => True) (fun q U => va_P (zD Z) vwCl (W1 q) U.heap ∧ va_K (zD Z) vwCl (utys Z) U ∧ va_D (va_A W0 s.heap.size) (W1 q)) (va_A W0 s.heap.size)) as.toArray s k n (va_A W0 s.heap.size), va_A W0 s.heap.size)).maxLocals = maxL from hml]; exact hl)
  intro H locs ls hP hD hS h
  exact W.vret B.exec B.bytes B.returns (fun t ht hW => ⟨⟨u, rfl, trivial, by rw [ht]; exact hP, va_K.moved hW.alike hK, hD⟩, hS.F ht⟩) hS.2.2 hd B.notSynchronized
