/-- a constant of the law's text, resolved; and what it holds -/
def jK (idx : Nat) (tx : String) (q v n : Nat) (f : Nat → Int32) : JX := fun A U H => vk_R RL idx tx q U ∧ jS q v n f A U H
theorem jK_mv (idx : Nat) (tx : String) (q v n : Nat) (f : Nat → Int32) : jMv (jK idx tx q v n f) := fun _ _ _ _ _ _ hvm h hq hAB =>
  ⟨hvm.elim (fun e => vk_R.same e.symm h.1) (fun w => vk_R.warm w h.1), jS_mv _ _ _ _ _ _ _ _ _ _ hvm h.2 hq hAB⟩
/-- the script, which nobody writes -/
def jXs (b L : Nat) (xs : Nat → Int32) : JX := fun A U H => va_X b L xs U H ∧ b < H.size ∧ ¬ A b
theorem jXs_mv (b L : Nat) (xs : Nat → Int32) : jMv (jXs b L xs) := by
  rintro A B s U H0 H hvm ⟨⟨scr, h1, h2, h3, h4, h5⟩, hb, hn⟩ hq hAB
  have e := hq b hb hn
  have hb2 : b < H.size := by
    rw [h1] at e
    exact (Array.getElem?_eq_some_iff.mp e).1
  exact ⟨⟨scr, by rw [e]; exact h1, State.isArrayOf_alike (j_alk hvm) h2, h3, h4, h5⟩, hb2, fun q => hn (hAB b q)⟩
def hFit (σ : Mem) : Prop := ∀ i, kn i = 20 → ∀ j, fits .byte (.int (σ i j)) = true
abbrev cKN (C : CX) (k n : Nat) : CX := (c_p C, c_e C, c_R C, c_s C, c_m C, c_a C, c_b C, c_h C, c_c C, k, n, c_Q C, c_A C)
theorem zok_of {Z : ZT} {σ : Mem} {E : va_W} {A : Nat → Prop} (hD : va_D A (wlB Z σ ++ E)) : ZOk (zwx Z E) ∧ ∀ q, PA (zwx Z E) q → A q := by
  have at1 : ∀ i, i < NN → (wlB Z σ ++ E)[i]? = some (za Z i, ent Z σ i) := fun i hi => by
    rw [List.getElem?_append_left (by rw [wlB_len]; exact hi)]
    exact wlB_at Z σ hi
  have at2 : ∀ i, (wlB Z σ ++ E)[NN + i]? = E[i]? := fun i => by
    rw [List.getElem?_append_right (by rw [wlB_len]; omega), wlB_len, Nat.add_sub_cancel_left]
  refine ⟨⟨fun i j hi hj he => hD.1 i j _ _ (at1 i hi) (at1 j hj) he, ⟨fun i j p q hi hj he => ?_, fun _ _ _ => trivial⟩, fun i hi k q hk he => ?_⟩, fun q hq => ?_⟩
  · have := hD.1 (NN + i) (NN + j) p q (by rw [at2]; exact hi) (by rw [at2]; exact hj) he
    omega
  · have := hD.1 i (NN + k) _ q (at1 i hi) (by rw [at2]; exact hk) he
    omega
  · rcases hq with ⟨i, hi, e⟩ | ⟨k, e, hk, e2⟩
    · rw [e]; exact hD.2 i _ (at1 i hi)
    · rw [e2]; exact hD.2 (NN + k) e (by rw [at2]; exact hk)
/-- a walk of the law: the book's cells, then what else it made -/
abbrev uE (Z : ZT) (C : CX) (σ : Mem) (E : va_W) (k n pc : Nat) (L : List (Nat × Value)) (st : List Value) : Prop := uV Z C (wlB Z σ ++ E) k n pc L st
theorem ok_of {Z : ZT} {C : CX} {own : String} {cc : ByteArray} {nL fr lo kR nR k n : Nat} {E : va_W} (O : jOk Z C own cc nL fr lo kR nR) (hz : ZOk (zwx Z E) ∧ ∀ q, PA (zwx Z E) q → c_A C q) (hk : k ≤ kR) (hn : n ≤ nR) : Ok (zwx Z E) (cKN C k n) own cc nL fr lo := by
  obtain ⟨⟨hx, hb, hml, hown, hts, hK, hA, hNw, r1, r2, r3, r4⟩, hT⟩ := O
  exact ⟨hx, hb, hml, hown, hts, hK, hT, hz.2, hz.1, r1, r2, Nat.le_trans hk r3, Nat.le_trans hn r4, hNw⟩
section LE
variable {Z : ZT} {C : CX} {own : String} {cc : ByteArray} {nL fr lo kR nR : Nat} {σ σ' : Mem} {E E' : va_W} {k n pc : Nat} {L : List (Nat × Value)} {st : List Value}
/-- a call of a method of the book -/
theorem ue_ctV {y : MethodName} {bytes : ByteArray} {maxL fr' lo' index m ci id : Nat} {ret : Option FieldType} {as : List Value} {ro : Option Value} {φ : Prop} {rest : List Value} (O : jOk Z C own cc nL fr lo kR nR) (hf : hFit σ) (hd : decode cc pc = .ok (.invokevirtual index, 3)) (hct : ∀ Z' : ZT, ZOk Z' → Ct Z' y bytes maxL ret fr' lo' (.ref (za Z' id) :: as) σ ro φ σ') (V : VX own index y bytes maxL ret m ci) (hki : kn id = ci) (hm : as.length = m) (hst : as.reverse ++ .ref (za Z id) :: rest = st) (hr : fr' + 1 ≤ fr ∧ 8 + (maxL + 11) + lo' ≤ lo) (hc : (rest.map fun v => v.category).sum ≤ 8) (hk : k ≤ kR) (hn : n ≤ nR) (kk : φ → hFit σ' → uE Z C σ' E k n (pc + 3) L (ro.toList ++ rest)) : uE Z C σ E k n pc L st := by
  intro H locs ls hP hD hS h
  have hz := zok_of hD
  refine g_callV (Z := zwx Z E) (C := cKN C k n) (id := id) (as := as) (rest := rest) (ok_of O hz hk hn) hd (hct _ hz.1) V hki hm hst hr hc (fun hφ => ?_) H locs ls ⟨hP, hf⟩ hS h
  intro H1 locs1 ls1 hP1 hS1 h1
  exact kk hφ hP1.2 H1 locs1 ls1 hP1.1 (wl_D (Z := zwx Z E) hz.1 hz.2 σ') hS1 h1
/-- the law's own arrays -/
theorem ue_ild {a N w j : Nat} {f : Nat → Int32} {i x : Int32} (O : jOk Z C own cc nL fr lo kR nR) (hd : decode cc pc = .ok (.iaload, 1)) (he : E[j]? = some (a, .inl (zc Z 1, N, .inl f))) (hi : i = nI w) (hw : w < N) (hN : N ≤ 600) (hx : f w = x) (kk : uE Z C σ E k n (pc + 1) L (.int x :: st)) : uE Z C σ E k n pc L (.int i :: .ref a :: st) := by
  intro H locs ls hP hD hS h
  obtain ⟨⟨hxe, hb, hml, hown, hts, hK, hA, hNw, r1, r2, r3, r4⟩, hT⟩ := O
  subst hi hx
  have hix : (nI w).toNatClampNeg = w := zi_ix (by omega)
  have he' : (wlB Z σ ++ E)[NN + j]? = some (a, .inl (zc Z 1, N, .inl f)) := by
    rw [List.getElem?_append_right (by rw [wlB_len]; omega), wlB_len, Nat.add_sub_cancel_left]; exact he
  refine va_iald hxe hb hK hP (NN + j) 1 (f := f) he' rfl (i := nI w) ?_ hd ?_
  · rintro (q | q)
    · exact nI_pos (by omega) q
    · rw [hix] at q; omega
  · rw [hix]
    exact kk H locs ls hP hD hS h
theorem ue_ist {a N w j : Nat} {f : Nat → Int32} {i x : Int32} (O : jOk Z C own cc nL fr lo kR nR) (hd : decode cc pc = .ok (.iastore, 1)) (he : E[j]? = some (a, .inl (zc Z 1, N, .inl f))) (hi : i = nI w) (hw : w < N) (hN : N ≤ 600) (hE : E.set j (a, .inl (zc Z 1, N, .inl (upd f w x))) = E') (kk : uE Z C σ E' k n (pc + 1) L st) : uE Z C σ E k n pc L (.int x :: .int i :: .ref a :: st) := by
  subst hE
  have he' : (wlB Z σ ++ E)[NN + j]? = some (a, .inl (zc Z 1, N, .inl f)) := by
    rw [List.getElem?_append_right (by rw [wlB_len]; omega), wlB_len, Nat.add_sub_cancel_left]; exact he
  have hs : (wlB Z σ ++ E).set (NN + j) (a, .inl (zc Z 1, N, .inl (upd f w x))) = wlB Z σ ++ E.set j (a, .inl (zc Z 1, N, .inl (upd f w x))) := by
    rw [List.set_append, if_neg (by rw [wlB_len]; omega), wlB_len, Nat.add_sub_cancel_left]
  refine uv_iast O.1 hd (NN + j) he' hi hw hN ?_
  rw [hs]
  exact kk
theorem ue_newi {v : Int32} {N : Nat} (O : jOk Z C own cc nL fr lo kR nR) (hd : decode cc pc = .ok (.newarray .int, 2)) (harr : Cond.arrayClass (newarray.typeOf .int) ∈ uW) (hv : v = nI N) (hN : N ≤ 600) (hk : k + 1 ≤ kR) (hn : n + N ≤ nR) (kk : ∀ q, uE Z C σ (E ++ [(q, .inl (zc Z 1, (N, .inl (fun _ => 0))))]) (k + 1) (n + N) (pc + 2) L (.ref q :: st)) : uE Z C σ E k n pc L (.int v :: st) :=
  uv_newi O.1 hd harr hv hN hk hn (fun q => uv_eq (List.append_assoc _ _ _) (kk q))
/-- a new builder -/
theorem ue_newB {index : Nat} (O : jOk Z C own cc nL fr lo kR nR) (hd : decode cc pc = .ok (.new index, 3)) (hcl : Cond.classLink own index RJ4 ∈ uW) (hinst : Cond.instantiable RJ4 4 ∈ uW) (hini : Cond.initialized RJ4 ∈ uW) (hk : k + 1 ≤ kR) (hn : n + 4 ≤ nR) (kk : ∀ q, uE Z C σ (E ++ [(q, .inr (13, [.null, .int (nI 0), .int (nI 0), .int (nI 0)]))]) (k + 1) (n + 4) (pc + 3) L (.ref q :: st)) : uE Z C σ E k n pc L st :=
  uv_new (Cn := RJ4) (T := TJ4) (N := 4) (ci := 13) (fs := [.null, .int (nI 0), .int (nI 0), .int (nI 0)]) O.1 hd tyJ4 tyJ4_ok uxJ4 hcl hinst hini rfl (fun j hj => by rcases (show j = 0 ∨ j = 1 ∨ j = 2 ∨ j = 3 by omega) with rfl | rfl | rfl | rfl <;> rfl) hk hn (fun q => uv_eq (List.append_assoc _ _ _) (kk q))
/-- a call of a method whose world is the end of what the law made -/
theorem ue_call {S : Type} {W1 : S → va_W} {wc E1 : va_W} {ro : S → Option Value} {φ : S → Prop} {rcv : Heap → Prop} {as rest : List Value} {y : MethodName} {ccY : ByteArray} {maxL : Nat} {ret : Option FieldType} {frY kY nY loY : Nat} {X : JX} (O : jOk Z C own cc nL fr lo kR nR) (hc : jCl Z C nL pc st rest as y ccY maxL ret frY kY nY loY rcv) (hM : ∀ sz, MkJ Z y ccY maxL ret frY kY nY loY as X wc ro φ W1 sz) (hXm : jMv X) (hX : jTold Z C (wlB Z σ ++ E1) wc X) (hr : ∀ (H : Heap) (locs : List Loc), va_P (zD Z) vwCl ((wlB Z σ ++ E1) ++ wc) H → va_S (c_A C) (c_s C).heap H locs → rcv H) (hE : E = E1 ++ wc) (hk : k + kY ≤ kR) (hn : n + nY ≤ nR)
    (kk : ∀ u, φ u → uE Z C σ (E1 ++ W1 u) (k + kY) (n + nY) (pc + 3) L ((ro u).toList ++ rest)) : uE Z C σ E k n pc L st := by
  subst hE
  exact uv_eq (List.append_assoc _ _ _).symm (j_call O hc hM hXm hX hr hk hn (fun u hu => uv_eq (List.append_assoc _ _ _) (kk u hu)))
/-- a call of a method whose world is the book -/
theorem ue_callB {S : Type} {W1 : S → va_W} {ro : S → Option Value} {φ : S → Prop} {rcv : Heap → Prop} {as rest : List Value} {y : MethodName} {ccY : ByteArray} {maxL : Nat} {ret : Option FieldType} {frY kY nY loY : Nat} {X : JX} (O : jOk Z C own cc nL fr lo kR nR) (hc : jCl Z C nL pc st rest as y ccY maxL ret frY kY nY loY rcv) (hM : ∀ sz, MkJ Z y ccY maxL ret frY kY nY loY as X (wlB Z σ) ro φ W1 sz) (hXm : jMv X) (hX : jTold Z C E (wlB Z σ) X) (hr : ∀ (H : Heap) (locs : List Loc), va_P (zD Z) vwCl (E ++ wlB Z σ) H → va_S (c_A C) (c_s C).heap H locs → rcv H) (hk : k + kY ≤ kR) (hn : n + nY ≤ nR)
    (τ : S → Mem) (E2 : S → va_W) (hW : ∀ u, W1 u = wlB Z (τ u) ++ E2 u) (kk : ∀ u, φ u → uE Z C (τ u) (E ++ E2 u) (k + kY) (n + nY) (pc + 3) L ((ro u).toList ++ rest)) : uE Z C σ E k n pc L st := by
  refine uv_perm List.perm_append_comm (j_call O hc hM hXm hX hr hk hn (fun u hu => ?_))
  refine uv_perm ?_ (kk u hu)
  rw [hW u, ← List.append_assoc, ← List.append_assoc]
  exact List.Perm.append_right _ List.perm_append_comm
theorem uv_subl {ws ws' : va_W} (h : ws'.Sublist ws) (kk : uV Z C ws' k n pc L st) : uV Z C ws k n pc L st := fun H locs ls hP hD hS hl => by
  refine kk H locs ls (uv_Pmem.mpr (fun q hq => uv_Pmem.mp hP q (h.mem hq))) ?_ hS hl
  rw [uv_Dnd] at hD ⊢
  exact ⟨(h.map _).nodup hD.1, fun q hq => hD.2 q (h.mem hq)⟩
theorem ue_drop (h : E'.Sublist E) (kk : uE Z C σ E' k n pc L st) : uE Z C σ E k n pc L st := uv_subl (List.Sublist.append_left h _) kk
/-- a string of what the law made -/
theorem jt_e {q v i j m : Nat} {h z : Int32} {f : Nat → Int32} {E1 wc : va_W} (O : jOk Z C own cc nL fr lo kR nR) (hi : E1[i]? = some (q, .inr (12, [.ref v, .int 0, .int h, .int z]))) (hj : E1[j]? = some (v, .inl (zc Z 0, (m, .inl f)))) : jTold Z C (wlB Z σ ++ E1) wc (jS q v m f) :=
  jt_w (i := NN + i) (j := NN + j) O.1 (by rw [List.getElem?_append_right (by rw [wlB_len]; omega), wlB_len, Nat.add_sub_cancel_left]; exact hi) (by rw [List.getElem?_append_right (by rw [wlB_len]; omega), wlB_len, Nat.add_sub_cancel_left]; exact hj)
theorem uv_ldcS {index q : Nat} {tx : String} (O : uOk Z C RL cc nL fr lo kR nR) {ws : va_W} (hd : decode cc pc = .ok (.ldc index, 2)) (hZ : vk_R RL index tx q (c_s C)) (kk : uV Z C ws k n (pc + 2) L (.ref q :: st)) : uV Z C ws k n pc L st := fun H locs ls hP hD hS h => va_ldcS O.1 O.2.1 O.2.2.2.1 hZ hd (kk H locs ls hP hD hS h)
theorem uv_sld {b N a : Nat} {xs : Nat → Int32} {ws : va_W} (O : uOk Z C own cc nL fr lo kR nR) (S : jXs b N xs (c_A C) (c_s C) (c_s C).heap) (ha : a < N) (hN : N ≤ 600) (hd : decode cc pc = .ok (.iaload, 1)) (kk : uV Z C ws k n (pc + 1) L (.int (xs a) :: st)) : uV Z C ws k n pc L (.int (nI a) :: .ref b :: st) := by
  intro H locs ls hP hD hS h
  have e : (nI a).toNatClampNeg = a := zi_ix (by omega)
  refine va_sld O.1 O.2.1 S.1 S.2.1 S.2.2 hS ?_ hd ?_
  · rintro (q | q)
    · exact nI_pos (by omega) q
    · rw [e] at q; omega
  · rw [e]
    exact kk H locs ls hP hD hS h
theorem uv_slen {b N : Nat} {xs : Nat → Int32} {ws : va_W} (O : uOk Z C own cc nL fr lo kR nR) (S : jXs b N xs (c_A C) (c_s C) (c_s C).heap) (hd : decode cc pc = .ok (.arraylength, 1)) (kk : uV Z C ws k n (pc + 1) L (.int (nI N) :: st)) : uV Z C ws k n pc L (.ref b :: st) := fun H locs ls hP hD hS h => va_slen O.1 O.2.1 S.1 S.2.1 S.2.2 hS hd (kk H locs ls hP hD hS h)
theorem uv_ixor {x y z : Int32} {ws : va_W} (O : uOk Z C own cc nL fr lo kR nR) (hd : decode cc pc = .ok (.ixor, 1)) (hz : x ^^^ y = z) (kk : uV Z C ws k n (pc + 1) L (.int z :: st)) : uV Z C ws k n pc L (.int y :: .int x :: st) := fun H locs ls hP hD hS h => lv_ixor O.1 O.2.1 hd (by rw [hz]; exact kk H locs ls hP hD hS h)
theorem uv_iushr {x y z : Int32} {ws : va_W} (O : uOk Z C own cc nL fr lo kR nR) (hd : decode cc pc = .ok (.iushr, 1)) (hz : ius x y = z) (kk : uV Z C ws k n (pc + 1) L (.int z :: st)) : uV Z C ws k n pc L (.int y :: .int x :: st) := fun H locs ls hP hD hS h => lv_iushr O.1 O.2.1 hd hz (kk H locs ls hP hD hS h)
theorem uv_irem {x y z : Int32} {ws : va_W} (O : uOk Z C own cc nL fr lo kR nR) (hd : decode cc pc = .ok (.irem, 1)) (hy : ¬ y = 0) (hz : irm x y = z) (kk : uV Z C ws k n (pc + 1) L (.int z :: st)) : uV Z C ws k n pc L (.int y :: .int x :: st) := fun H locs ls hP hD hS h => lv_irem O.1 O.2.1 hd hy (by show W _ _ _ _ _ _ _ _ _ _ _ _ _ _ _ (F0 _ _ _ (.int (irm x y) :: st)); rw [hz]; exact kk H locs ls hP hD hS h)
end LE
