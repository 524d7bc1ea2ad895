theorem j_shr0 (x : Int32) : x >>> (nI 0 &&& 31) = x := sb_shr0 x
theorem j_shl0 (x : Int32) : x <<< (nI 0 &&& 31) = x := sb_shl0 x
def jF (g : Nat → Int32) : Prop := ∀ j, fits .byte (.int (g j)) = true
theorem jF_cpy {f g : Nat → Int32} {sp dp n : Nat} (hf : jF f) (hg : jF g) : jF (va_cpy f g sp dp n) := sb_fitC hf hg
theorem jF_0 : jF (fun _ => 0) := sb_fit0
theorem jF_upd {g : Nat → Int32} {k : Nat} {x : Int32} (hg : jF g) : jF (upd g k x.toInt8.toInt32) := fun j => by
  unfold upd
  split
  · exact pk_fb x
  · exact hg j
theorem j_c255 {b : Nat} (h : b < 256) : zsg b &&& nI 255 = nI b := zsg_255 h
theorem j_i2c {b : Nat} (h : b < 65536) : ((nI b).toUInt32 % 65536).toInt32 = nI b := by
  have := (pk_charN h).1
  injection this
section JNAT
variable {Z : ZT} {C : CX} {own : String} {cc : ByteArray} {nL fr lo kR nR : Nat} {ws : va_W} {k n pc : Nat} {L : List (Nat × Value)} {st : List Value}
theorem uv_mmax {index : Nat} {x y z : Int32} (O : uOk Z C own cc nL fr lo kR nR) (hd : decode cc pc = .ok (.invokestatic index, 3)) (h1 : Cond.methodLink own index Lib.Math.max.name ∈ uW) (h2 : Cond.static Lib.Math.max.name ∈ uW) (h3 : Cond.initialized "java/lang/Math" ∈ uW) (h4 : Cond.code Lib.Math.max.name Lib.Math.max.code 2 (some .int) ∈ uW) (hfr : 1 ≤ fr) (hlo : 21 ≤ lo) (hcat : (st.map fun v => v.category).sum ≤ 8) (hz : (if x < y then y else x) = z) (hk : k ≤ kR) (hn : n ≤ nR) (kk : uV Z C ws k n (pc + 3) L (.int z :: st)) : uV Z C ws k n pc L (.int y :: .int x :: st) := fun H locs ls hP hD hS h => by
  obtain ⟨hx, hb, hml, hown, hts, hK, hA, hNw, r1, r2, r3, r4⟩ := O
  subst hz
  exact va_mmax hx hb h.1.symm hown (hts _ h1) (hts _ h2) (hts _ h3) (hts _ h4) (by omega) (by omega) (by omega) (by omega) hd (kk H locs ls hP hD hS h)
theorem uv_mmin {index : Nat} {x y z : Int32} (O : uOk Z C own cc nL fr lo kR nR) (hd : decode cc pc = .ok (.invokestatic index, 3)) (h1 : Cond.methodLink own index Lib.Math.min.name ∈ uW) (h2 : Cond.static Lib.Math.min.name ∈ uW) (h3 : Cond.initialized "java/lang/Math" ∈ uW) (h4 : Cond.code Lib.Math.min.name Lib.Math.min.code 2 (some .int) ∈ uW) (hfr : 1 ≤ fr) (hlo : 21 ≤ lo) (hcat : (st.map fun v => v.category).sum ≤ 8) (hz : (if y < x then y else x) = z) (hk : k ≤ kR) (hn : n ≤ nR) (kk : uV Z C ws k n (pc + 3) L (.int z :: st)) : uV Z C ws k n pc L (.int y :: .int x :: st) := fun H locs ls hP hD hS h => by
  obtain ⟨hx, hb, hml, hown, hts, hK, hA, hNw, r1, r2, r3, r4⟩ := O
  subst hz
  exact va_mmin hx hb h.1.symm hown (hts _ h1) (hts _ h2) (hts _ h3) (hts _ h4) (by omega) (by omega) (by omega) (by omega) hd (kk H locs ls hP hD hS h)
/-- arraycopy of bytes within the world; out of a text that is only read -/
theorem uv_copyW {index a0 a1 n0 n1 sp dp c : Nat} {f g : Nat → Int32} (O : uOk Z C own cc nL fr lo kR nR) (hd : decode cc pc = .ok (.invokestatic index, 3)) (h1 : Cond.methodLink own index arraycopyName ∈ uW) (h2 : Cond.native arraycopyName ∈ uW) (h3 : Cond.static arraycopyName ∈ uW) (h4 : Cond.initialized "java/lang/System" ∈ uW) (q0 q1 : Nat) (ha0 : ws[q0]? = some (a0, .inl (zc Z 0, n0, .inl f))) (ha1 : ws[q1]? = some (a1, .inl (zc Z 0, n1, .inl g))) (hF : jF f) (hs : sp + c ≤ n0) (ht : dp + c ≤ n1) (hN : n0 ≤ 600 ∧ n1 ≤ 600) (hfr : 1 ≤ fr) (hlo : 40 ≤ lo) (hcat : (st.map fun v => v.category).sum ≤ 8) (kk : uV Z C (ws.set q1 (a1, .inl (zc Z 0, n1, .inl (va_cpy f g sp dp c)))) k n (pc + 3) L st) : uV Z C ws k n pc L (.int (nI c) :: .int (nI dp) :: .ref a1 :: .int (nI sp) :: .ref a0 :: st) := fun H locs ls hP hD hS h => by
  obtain ⟨hx, hb, hml, hown, hts, hK, hA, hNw, r1, r2, r3, r4⟩ := O
  have e : ∀ a, a ≤ 600 → (nI a).toNatClampNeg = a := fun a h => zi_ix (by omega)
  have hl1 : (st.map fun v => v.category).sum + (nativeFrameWords "java/lang/System" "arraycopy" 5 + 11) ≤ (c_R C).locals := by
    have : nativeFrameWords "java/lang/System" "arraycopy" 5 ≤ 21 := by decide +kernel
    omega
  refine va_copyi hx hb h.1.symm hown (hts _ h1) (hts _ h2) (hts _ h3) (hts _ h4) hK hP hD hS q0 q1 0 0 ha0 ha1 rfl rfl rfl (sp := nI sp) (dp := nI dp) (n := nI c) (nI_pos (by omega)) (nI_pos (by omega)) (nI_pos (by omega)) (by rw [e _ (by omega), e _ (by omega)]; exact hs) (by rw [e _ (by omega), e _ (by omega)]; exact ht) (fun i _ => hF _) (by omega) hl1 hd (fun H1 locs1 a1 a2 a3 => ?_)
  rw [e _ (by omega), e _ (by omega), e _ (by omega)] at a1 a2
  exact kk H1 locs1 ls a1 a2 a3 h
theorem uv_copyT {index b0 a1 n0 n1 sp dp c : Nat} {f g : Nat → Int32} (O : uOk Z C own cc nL fr lo kR nR) (hd : decode cc pc = .ok (.invokestatic index, 3)) (h1 : Cond.methodLink own index arraycopyName ∈ uW) (h2 : Cond.native arraycopyName ∈ uW) (h3 : Cond.static arraycopyName ∈ uW) (h4 : Cond.initialized "java/lang/System" ∈ uW) (hX : va_T .byte b0 n0 (fun j => .int (f j)) (c_A C) (c_s C) (c_s C).heap) (q1 : Nat) (ha1 : ws[q1]? = some (a1, .inl (zc Z 0, n1, .inl g))) (hF : jF f) (hs : sp + c ≤ n0) (ht : dp + c ≤ n1) (hN : n0 ≤ 600 ∧ n1 ≤ 600) (hfr : 1 ≤ fr) (hlo : 40 ≤ lo) (hcat : (st.map fun v => v.category).sum ≤ 8) (kk : uV Z C (ws.set q1 (a1, .inl (zc Z 0, n1, .inl (va_cpy f g sp dp c)))) k n (pc + 3) L st) : uV Z C ws k n pc L (.int (nI c) :: .int (nI dp) :: .ref a1 :: .int (nI sp) :: .ref b0 :: st) := fun H locs ls hP hD hS h => by
  obtain ⟨hx, hb, hml, hown, hts, hK, hA, hNw, r1, r2, r3, r4⟩ := O
  have e : ∀ a, a ≤ 600 → (nI a).toNatClampNeg = a := fun a h => zi_ix (by omega)
  have hl1 : (st.map fun v => v.category).sum + (nativeFrameWords "java/lang/System" "arraycopy" 5 + 11) ≤ (c_R C).locals := by
    have : nativeFrameWords "java/lang/System" "arraycopy" 5 ≤ 21 := by decide +kernel
    omega
  refine vk_copyt hx hb h.1.symm hown (hts _ h1) (hts _ h2) (hts _ h3) (hts _ h4) hK hP hD hS hX q1 0 ha1 rfl (sp := nI sp) (dp := nI dp) (n := nI c) (nI_pos (by omega)) (nI_pos (by omega)) (nI_pos (by omega)) (by rw [e _ (by omega), e _ (by omega)]; exact hs) (by rw [e _ (by omega), e _ (by omega)]; exact ht) (fun i _ => hF _) (by omega) hl1 hd (fun H1 locs1 a1 a2 a3 => ?_)
  rw [e _ (by omega), e _ (by omega), e _ (by omega)] at a1 a2
  exact kk H1 locs1 ls a1 a2 a3 h
/-- a byte array's clone -/
theorem uv_clone {index a N : Nat} {f : Nat → Int32} (O : uOk Z C own cc nL fr lo kR nR) (hd : decode cc pc = .ok (.invokevirtual index, 3)) (h1 : Cond.methodLink own index ⟨"[B", "clone", "()Ljava/lang/Object;"⟩ ∈ uW) (h2 : Cond.sameMethod "[B" "java/lang/Object" "clone" "()Ljava/lang/Object;" ∈ uW) (h3 : Cond.native ⟨"java/lang/Object", "clone", "()Ljava/lang/Object;"⟩ ∈ uW) (h4 : Cond.instanceMethod ⟨"java/lang/Object", "clone", "()Ljava/lang/Object;"⟩ ∈ uW) (h5 : Cond.selects "[B" ⟨"[B", "clone", "()Ljava/lang/Object;"⟩ ⟨"java/lang/Object", "clone", "()Ljava/lang/Object;"⟩ ∈ uW) (q0 : Nat) (ha : ws[q0]? = some (a, .inl (zc Z 0, N, .inl f))) (hF : jF f) (hfr : 1 ≤ fr) (hlo : 30 ≤ lo) (hcat : (st.map fun v => v.category).sum ≤ 8) (hk : k + 1 ≤ kR) (hn : n + N ≤ nR) (kk : ∀ q, uV Z C (ws ++ [(q, .inl (zc Z 0, N, .inl f))]) (k + 1) (n + N) (pc + 3) L (.ref q :: st)) : uV Z C ws k n pc L (.ref a :: st) := fun H locs ls hP hD hS h => by
  obtain ⟨hx, hb, hml, hown, hts, hK, hA, hNw, r1, r2, r3, r4⟩ := O
  refine va_clone hx hb h.1.symm hown (hts _ h1) (hts _ h2) (hts _ h3) (hts _ h4) (hts _ h5) hNw.2.2 hK hP hD hS hA q0 0 ha rfl (uc_name (hK.2 0 _ rfl).2) (fun i v hv => ?_) (by omega) (by omega) (by omega) (by show n + N ≤ _; omega) hd (fun q H1 hK1 hP hD hS => kk q H1 locs ls hP hD hS h)
  have hv' : (Array.ofFn (n := N) fun j => Value.int (f j.val))[i]? = some v := hv
  rw [Array.getElem?_ofFn] at hv'
  split at hv'
  · cases hv'; exact hF _
  · cases hv'
theorem uv_castB {index a N : Nat} {f : Nat → Int32} (O : uOk Z C own cc nL fr lo kR nR) (hd : decode cc pc = .ok (.checkcast index, 3)) (h1 : Cond.classLink own index "[B" ∈ uW) (q0 : Nat) (ha : ws[q0]? = some (a, .inl (zc Z 0, N, .inl f))) (kk : uV Z C ws k n (pc + 3) L (.ref a :: st)) : uV Z C ws k n pc L (.ref a :: st) := fun H locs ls hP hD hS h =>
  va_castA O.1 O.2.1 O.2.2.2.1 (O.2.2.2.2.1 _ h1) hP q0 ha (uc_name (O.2.2.2.2.2.1.2 0 _ rfl).2) hd (kk H locs ls hP hD hS h)
end JNAT

theorem uv_pick {Z : ZT} {C : CX} {ws ws' : va_W} {k n pc : Nat} {L : List (Nat × Value)} {st : List Value} (is : List Nat) (hn : va_nd is = true) (hw : is.map (fun i => ws[i]?) = ws'.map some) (kk : uV Z C ws' k n pc L st) : uV Z C ws k n pc L st := fun H locs ls hP hD hS h => by
  refine kk H locs ls (fun j q hj => ?_) (hD.sub (ws' := ws') is hn hw) hS h
  have h1 : (is.map (fun i => ws[i]?))[j]? = some (some q) := by rw [hw, List.getElem?_map, hj]; rfl
  rw [List.getElem?_map] at h1
  cases hi : is[j]? with
  | none => rw [hi] at h1; cases h1
  | some i =>
    rw [hi] at h1
    exact hP i q (Option.some.inj h1)
theorem j_sub_le {m c : Nat} (h : m ≤ c) (hc : c < 2 ^ 30) : nI m - nI c ≤ 0 := by
  have e1 : (nI m - nI c).toInt = (m : Int) - c := pk_sub_toInt (by omega) (by omega)
  rw [Int32.le_iff_toInt_le, e1, Int32.toInt_zero]; omega
theorem j_sub_nle {m c : Nat} (h : c < m) (hc : m < 2 ^ 30) : ¬ nI m - nI c ≤ 0 := by
  have e1 : (nI m - nI c).toInt = (m : Int) - c := pk_sub_toInt (by omega) (by omega)
  rw [Int32.le_iff_toInt_le, e1, Int32.toInt_zero]; omega
theorem j_max {a b : Nat} (ha : a < 2 ^ 31) (hb : b < 2 ^ 31) : (if nI a < nI b then nI b else nI a) = nI (max a b) := zi_max ha hb
theorem j_minL {a b : Nat} (h : a ≤ b) (hb : b < 2 ^ 31) : (if nI b < nI a then nI b else nI a) = nI a := by
  have := zi_min (a := a) (b := b) (by omega) hb
  rw [Nat.min_eq_left h] at this
  exact this
theorem j_minR {a b : Nat} (h : b ≤ a) (ha : a < 2 ^ 31) : (if nI b < nI a then nI b else nI a) = nI b := by
  have := zi_min (a := a) (b := b) ha (by omega)
  rw [Nat.min_eq_right h] at this
  exact this
theorem j_nle {a b : Nat} (h : b < a) (ha : a < 2 ^ 31) : ¬ nI a ≤ nI b := by
  simp (disch := omega) only [zC]; omega
theorem j_nlt {a b : Nat} (h : b ≤ a) (ha : a < 2 ^ 31) : ¬ nI a < nI b := by
  simp (disch := omega) only [zC]; omega
theorem j_lt {a b : Nat} (h : a < b) (ha : b < 2 ^ 31) : nI a < nI b := by
  simp (disch := omega) only [zC]; omega
theorem j_le {a b : Nat} (h : a ≤ b) (ha : b < 2 ^ 31) : nI a ≤ nI b := by
  simp (disch := omega) only [zC]; omega
theorem j_ne {a b : Nat} (h : a ≠ b) (ha : a < 2 ^ 31) (hb : b < 2 ^ 31) : ¬ nI a = nI b := by
  simp (disch := omega) only [zC]; omega
theorem j_nn {a : Nat} (ha : a < 2 ^ 31) : ¬ nI a < 0 := nI_pos ha

set_option maxHeartbeats 4000000 in
theorem j_coder (Z : ZT) (q v n : Nat) (f : Nat → Int32) (sz : Nat)  : MkJ (S := Unit) Z yJ0_coder_7d493 cJ0_coder_7d493 1 (some .byte) 0 0 0 0 [.ref q] (jS q v n f) [] (fun u => some (.int (nI 0))) (fun u => True) (fun u => []) sz := by
  refine j_mk (by decide +kernel) (Nat.le_of_ble_eq_true rfl) (fun C O hnm hX hr hlk hE => ?_)
  have O : jOk Z C RJ0 cJ0_coder_7d493 1 0 0 0 0 := O
  have hnm : (c_h C).name = "coder" := hnm
  show uV Z C [] 0 0 0 [(0, .ref q)] []
  refine uv_compact O dJ0_coder_7d493_0 (uq_in (by decide +kernel) (by decide +kernel)) ?_
  refine uv_eqF 13 O.1 dJ0_coder_7d493_3 rfl (by decide +kernel) ?_
  refine uv_aload_n O.1 dJ0_coder_7d493_6 0 rfl rfl ?_
  refine uv_getS O.1 dJ0_coder_7d493_7 hX.2.1 (uq_in (by decide +kernel) (by decide +kernel)) ?_
  refine uv_goto 14 O.1 dJ0_coder_7d493_10 rfl ?_
  refine uv_widen (k' := 0) (n' := 0) (by omega) (by omega) ?_
  exact jr_z () O hr rfl hlk hE trivial rfl dJ0_coder_7d493_14

set_option maxHeartbeats 4000000 in
theorem j_isL (Z : ZT) (q v n : Nat) (f : Nat → Int32) (sz : Nat)  : MkJ (S := Unit) Z yJ0_isLatin1_aae02 cJ0_isLatin1_aae02 1 (some .boolean) 0 0 0 0 [.ref q] (jS q v n f) [] (fun u => some (.int (nI 1))) (fun u => True) (fun u => []) sz := by
  refine j_mk (by decide +kernel) (Nat.le_of_ble_eq_true rfl) (fun C O hnm hX hr hlk hE => ?_)
  have O : jOk Z C RJ0 cJ0_isLatin1_aae02 1 0 0 0 0 := O
  have hnm : (c_h C).name = "isLatin1" := hnm
  show uV Z C [] 0 0 0 [(0, .ref q)] []
  refine uv_compact O dJ0_isLatin1_aae02_0 (uq_in (by decide +kernel) (by decide +kernel)) ?_
  refine uv_eqF 17 O.1 dJ0_isLatin1_aae02_3 rfl (by decide +kernel) ?_
  refine uv_aload_n O.1 dJ0_isLatin1_aae02_6 0 rfl rfl ?_
  refine uv_getS O.1 dJ0_isLatin1_aae02_7 hX.2.1 (uq_in (by decide +kernel) (by decide +kernel)) ?_
  refine uv_neF 17 O.1 dJ0_isLatin1_aae02_10 rfl rfl ?_
  refine uv_iconst O.1 dJ0_isLatin1_aae02_13 (nI 1) rfl ?_
  refine uv_goto 18 O.1 dJ0_isLatin1_aae02_14 rfl ?_
  refine uv_widen (k' := 0) (n' := 0) (by omega) (by omega) ?_
  exact jr_z () O hr rfl hlk hE trivial rfl dJ0_isLatin1_aae02_18

set_option maxHeartbeats 4000000 in
theorem j_len (Z : ZT) (q v n : Nat) (f : Nat → Int32) (sz : Nat)  : MkJ (S := Unit) Z yJ0_length_8abf5 cJ0_length_8abf5 1 (some .int) 1 0 0 20 [.ref q] (jS q v n f) [] (fun u => some (.int (nI n))) (fun u => True) (fun u => []) sz := by
  refine j_mk (by decide +kernel) (Nat.le_of_ble_eq_true rfl) (fun C O hnm hX hr hlk hE => ?_)
  have O : jOk Z C RJ0 cJ0_length_8abf5 1 1 20 0 0 := O
  have hnm : (c_h C).name = "length" := hnm
  show uV Z C [] 0 0 0 [(0, .ref q)] []
  refine uv_aload_n O.1 dJ0_length_8abf5_0 0 rfl rfl ?_
  refine uv_getS O.1 dJ0_length_8abf5_1 hX.2.2.1 (uq_in (by decide +kernel) (by decide +kernel)) ?_
  refine uv_tlen O.1 dJ0_length_8abf5_4 hX.2.2.2 ?_
  refine uv_aload_n O.1 dJ0_length_8abf5_5 0 rfl rfl ?_
  refine uv_eq (ws' := [] ++ []) rfl ?_
  refine j_call O (jc_V (y := yJ0_coder_7d493) (C0 := RJ0) (b := q) (as' := []) (rest := [.int (nI n)]) O.1 dJ0_length_8abf5_6 (uq_in (by decide +kernel) (by decide +kernel)) (uq_in (by decide +kernel) (by decide +kernel)) (O.1.2.2.2.2.1 (Cond.selects RJ0 yJ0_coder_7d493 yJ0_coder_7d493) (uq_in (by decide +kernel) (by decide +kernel))) (uq_in (by decide +kernel) (by decide +kernel)) (uq_in (by decide +kernel) (by decide +kernel)) ⟨by decide +kernel, by decide +kernel, (by decide +kernel : (parseMethodDescriptor yJ0_coder_7d493.desc).map (fun d => d.parameters.length) = some 0)⟩ rfl ⟨(Nat.le_of_ble_eq_true rfl), (Nat.le_of_ble_eq_true rfl)⟩ (Nat.le_of_ble_eq_true rfl)) (fun sz => j_coder Z q v n f sz) (jS_mv _ _ _ _) (jt_up O.1 (jS_mv _ _ _ _) hX) (j_rs hX) (by omega) (by omega) (fun u hu => ?_)
  show uV Z C [] _ _ _ [(0, .ref q)] [.int (nI 0), .int (nI n)]
  refine uv_ishr (z := nI n) O.1 dJ0_length_8abf5_9 (j_shr0 _) ?_
  refine uv_widen (k' := 0) (n' := 0) (by omega) (by omega) ?_
  exact jr_i () O hr hlk hE trivial rfl dJ0_length_8abf5_10

set_option maxHeartbeats 4000000 in
theorem j_pchkN (Z : ZT) (i n : Nat) (sz : Nat) (hi : i < n) (hn : n ≤ 600) : MkJ (S := Unit) Z yJ3_checkIndex_8e157 cJ3_checkIndex_8e157 3 (some .int) 0 0 0 0 [.int (nI i), .int (nI n), .null] jX0 [] (fun u => some (.int (nI i))) (fun u => True) (fun u => []) sz := by
  refine j_mk (by decide +kernel) (Nat.le_of_ble_eq_true rfl) (fun C O hnm hX hr hlk hE => ?_)
  have O : jOk Z C RJ3 cJ3_checkIndex_8e157 3 0 0 0 0 := O
  have hnm : (c_h C).name = "checkIndex" := hnm
  show uV Z C [] 0 0 0 [(0, .int (nI i)), (1, .int (nI n)), (2, .null)] []
  refine uv_iload_n O.1 dJ3_checkIndex_8e157_0 0 rfl rfl ?_
  refine uv_if_lt 9 O.1 dJ3_checkIndex_8e157_1 rfl (fun hh => absurd hh (j_nn (by omega))) (fun _ => ?_)
  refine uv_iload_n O.1 dJ3_checkIndex_8e157_4 0 rfl rfl ?_
  refine uv_iload_n O.1 dJ3_checkIndex_8e157_5 1 rfl rfl ?_
  refine uv_icmp_lt 16 O.1 dJ3_checkIndex_8e157_6 rfl (fun _ => ?_) (fun hh => absurd (j_lt hi (by omega)) hh)
  refine uv_iload_n O.1 dJ3_checkIndex_8e157_16 0 rfl rfl ?_
  refine uv_widen (k' := 0) (n' := 0) (by omega) (by omega) ?_
  exact jr_i () O hr hlk hE trivial rfl dJ3_checkIndex_8e157_17

set_option maxHeartbeats 4000000 in
theorem j_pchkR (Z : ZT) (i n t : Nat) (sz : Nat) (hi : i < n) (hn : n ≤ 600) : MkJ (S := Unit) Z yJ3_checkIndex_8e157 cJ3_checkIndex_8e157 3 (some .int) 0 0 0 0 [.int (nI i), .int (nI n), .ref t] jX0 [] (fun u => some (.int (nI i))) (fun u => True) (fun u => []) sz := by
  refine j_mk (by decide +kernel) (Nat.le_of_ble_eq_true rfl) (fun C O hnm hX hr hlk hE => ?_)
  have O : jOk Z C RJ3 cJ3_checkIndex_8e157 3 0 0 0 0 := O
  have hnm : (c_h C).name = "checkIndex" := hnm
  show uV Z C [] 0 0 0 [(0, .int (nI i)), (1, .int (nI n)), (2, .ref t)] []
  refine uv_iload_n O.1 dJ3_checkIndex_8e157_0 0 rfl rfl ?_
  refine uv_if_lt 9 O.1 dJ3_checkIndex_8e157_1 rfl (fun hh => absurd hh (j_nn (by omega))) (fun _ => ?_)
  refine uv_iload_n O.1 dJ3_checkIndex_8e157_4 0 rfl rfl ?_
  refine uv_iload_n O.1 dJ3_checkIndex_8e157_5 1 rfl rfl ?_
  refine uv_icmp_lt 16 O.1 dJ3_checkIndex_8e157_6 rfl (fun _ => ?_) (fun hh => absurd (j_lt hi (by omega)) hh)
  refine uv_iload_n O.1 dJ3_checkIndex_8e157_16 0 rfl rfl ?_
  refine uv_widen (k' := 0) (n' := 0) (by omega) (by omega) ?_
  exact jr_i () O hr hlk hE trivial rfl dJ3_checkIndex_8e157_17

theorem j_pchk (Z : ZT) (i n : Nat) (fm : Value) (sz : Nat) (hi : i < n) (hn : n ≤ 600) (hfm : fm = .null ∨ ∃ t, fm = .ref t) : MkJ (S := Unit) Z yJ3_checkIndex_8e157 cJ3_checkIndex_8e157 3 (some .int) 0 0 0 0 [.int (nI i), .int (nI n), fm] jX0 [] (fun u => some (.int (nI i))) (fun u => True) (fun u => []) sz := by
  rcases hfm with e | ⟨t, e⟩
  · subst e; exact j_pchkN Z i n sz hi hn
  · subst e; exact j_pchkR Z i n t sz hi hn

set_option maxHeartbeats 4000000 in
theorem j_schk (Z : ZT) (i n : Nat) (sz : Nat) (hi : i < n) (hn : n ≤ 600) : MkJ (S := Unit) Z yJ0_checkIndex_df160 cJ0_checkIndex_df160 2 none 1 0 0 22 [.int (nI i), .int (nI n)] jX0 [] (fun u => none) (fun u => True) (fun u => []) sz := by
  refine j_mk (by decide +kernel) (Nat.le_of_ble_eq_true rfl) (fun C O hnm hX hr hlk hE => ?_)
  have O : jOk Z C RJ0 cJ0_checkIndex_df160 2 1 22 0 0 := O
  have hnm : (c_h C).name = "checkIndex" := hnm
  show uV Z C [] 0 0 0 [(0, .int (nI i)), (1, .int (nI n))] []
  refine uv_iload_n O.1 dJ0_checkIndex_df160_0 0 rfl rfl ?_
  refine uv_iload_n O.1 dJ0_checkIndex_df160_1 1 rfl rfl ?_
  refine uv_sioobe O dJ0_checkIndex_df160_2 (uq_in (by decide +kernel) (by decide +kernel)) (fun fm hfm => ?_)
  refine uv_eq (ws' := [] ++ []) rfl ?_
  refine j_call O (jc_S (as := [.int (nI i), .int (nI n), fm]) (rest := []) O.1 dJ0_checkIndex_df160_5 (uq_in (by decide +kernel) (by decide +kernel)) (uq_in (by decide +kernel) (by decide +kernel)) (uq_in (by decide +kernel) (by decide +kernel)) (uq_in (by decide +kernel) (by decide +kernel)) ⟨by decide +kernel, by decide +kernel, (by decide +kernel : (parseMethodDescriptor yJ3_checkIndex_8e157.desc).map (fun d => d.parameters.length) = some 3)⟩ rfl ⟨(Nat.le_of_ble_eq_true rfl), (Nat.le_of_ble_eq_true rfl)⟩ (Nat.le_of_ble_eq_true rfl)) (fun sz => j_pchk Z i n fm sz hi hn hfm) jX0_mv jt_0 j_r0 (by omega) (by omega) (fun u hu => ?_)
  show uV Z C [] _ _ _ [(0, .int (nI i)), (1, .int (nI n))] [.int (nI i)]
  refine uv_pop O.1 dJ0_checkIndex_df160_8 rfl ?_
  refine uv_widen (k' := 0) (n' := 0) (by omega) (by omega) ?_
  exact jr_v () O hr hlk hE trivial rfl dJ0_checkIndex_df160_9

set_option maxHeartbeats 4000000 in
theorem j_lchr (Z : ZT) (v n i b : Nat) (f : Nat → Int32) (sz : Nat) (hi : i < n) (hn : n ≤ 600) (hb : b < 256) (hf : f i = zsg b) : MkJ (S := Unit) Z yJ1_charAt_3b067 cJ1_charAt_3b067 2 (some .char) 2 0 0 43 [.ref v, .int (nI i)] (jB v n f) [] (fun u => some (.int (nI b))) (fun u => True) (fun u => []) sz := by
  refine j_mk (by decide +kernel) (Nat.le_of_ble_eq_true rfl) (fun C O hnm hX hr hlk hE => ?_)
  have O : jOk Z C RJ1 cJ1_charAt_3b067 2 2 43 0 0 := O
  have hnm : (c_h C).name = "charAt" := hnm
  show uV Z C [] 0 0 0 [(0, .ref v), (1, .int (nI i))] []
  refine uv_iload_n O.1 dJ1_charAt_3b067_0 1 rfl rfl ?_
  refine uv_aload_n O.1 dJ1_charAt_3b067_1 0 rfl rfl ?_
  refine uv_tlen O.1 dJ1_charAt_3b067_2 hX ?_
  refine uv_eq (ws' := [] ++ []) rfl ?_
  refine j_call O (jc_S (as := [.int (nI i), .int (nI n)]) (rest := []) O.1 dJ1_charAt_3b067_3 (uq_in (by decide +kernel) (by decide +kernel)) (uq_in (by decide +kernel) (by decide +kernel)) (uq_in (by decide +kernel) (by decide +kernel)) (uq_in (by decide +kernel) (by decide +kernel)) ⟨by decide +kernel, by decide +kernel, (by decide +kernel : (parseMethodDescriptor yJ0_checkIndex_df160.desc).map (fun d => d.parameters.length) = some 2)⟩ rfl ⟨(Nat.le_of_ble_eq_true rfl), (Nat.le_of_ble_eq_true rfl)⟩ (Nat.le_of_ble_eq_true rfl)) (fun sz => j_schk Z i n sz hi hn) jX0_mv jt_0 j_r0 (by omega) (by omega) (fun u hu => ?_)
  show uV Z C [] _ _ _ [(0, .ref v), (1, .int (nI i))] []
  refine uv_aload_n O.1 dJ1_charAt_3b067_6 0 rfl rfl ?_
  refine uv_iload_n O.1 dJ1_charAt_3b067_7 1 rfl rfl ?_
  refine uv_tb (w := i) O.1 dJ1_charAt_3b067_8 hX rfl hi hn ?_
  refine uv_sipush O.1 dJ1_charAt_3b067_9 (nI 255) rfl ?_
  refine uv_iand (z := nI b) O.1 dJ1_charAt_3b067_12 (by rw [hf]; exact j_c255 hb) ?_
  refine uv_i2c (z := nI b) O.1 dJ1_charAt_3b067_13 (j_i2c (by omega)) ?_
  refine uv_widen (k' := 0) (n' := 0) (by omega) (by omega) ?_
  exact jr_z () O hr (pk_charN (by omega)).1 hlk hE trivial rfl dJ1_charAt_3b067_14

set_option maxHeartbeats 4000000 in
theorem j_chr (Z : ZT) (q v n i b : Nat) (f : Nat → Int32) (sz : Nat) (hi : i < n) (hn : n ≤ 600) (hb : b < 256) (hf : f i = zsg b) : MkJ (S := Unit) Z yJ0_charAt_5068e cJ0_charAt_5068e 2 (some .char) 3 0 0 64 [.ref q, .int (nI i)] (jS q v n f) [] (fun u => some (.int (nI b))) (fun u => True) (fun u => []) sz := by
  refine j_mk (by decide +kernel) (Nat.le_of_ble_eq_true rfl) (fun C O hnm hX hr hlk hE => ?_)
  have O : jOk Z C RJ0 cJ0_charAt_5068e 2 3 64 0 0 := O
  have hnm : (c_h C).name = "charAt" := hnm
  show uV Z C [] 0 0 0 [(0, .ref q), (1, .int (nI i))] []
  refine uv_aload_n O.1 dJ0_charAt_5068e_0 0 rfl rfl ?_
  refine uv_eq (ws' := [] ++ []) rfl ?_
  refine j_call O (jc_V (y := yJ0_isLatin1_aae02) (C0 := RJ0) (b := q) (as' := []) (rest := []) O.1 dJ0_charAt_5068e_1 (uq_in (by decide +kernel) (by decide +kernel)) (uq_in (by decide +kernel) (by decide +kernel)) (O.1.2.2.2.2.1 (Cond.selects RJ0 yJ0_isLatin1_aae02 yJ0_isLatin1_aae02) (uq_in (by decide +kernel) (by decide +kernel))) (uq_in (by decide +kernel) (by decide +kernel)) (uq_in (by decide +kernel) (by decide +kernel)) ⟨by decide +kernel, by decide +kernel, (by decide +kernel : (parseMethodDescriptor yJ0_isLatin1_aae02.desc).map (fun d => d.parameters.length) = some 0)⟩ rfl ⟨(Nat.le_of_ble_eq_true rfl), (Nat.le_of_ble_eq_true rfl)⟩ (Nat.le_of_ble_eq_true rfl)) (fun sz => j_isL Z q v n f sz) (jS_mv _ _ _ _) (jt_up O.1 (jS_mv _ _ _ _) hX) (j_rs hX) (by omega) (by omega) (fun u hu => ?_)
  show uV Z C [] _ _ _ [(0, .ref q), (1, .int (nI i))] [.int (nI 1)]
  refine uv_eqF 16 O.1 dJ0_charAt_5068e_4 rfl (by decide +kernel) ?_
  refine uv_aload_n O.1 dJ0_charAt_5068e_7 0 rfl rfl ?_
  refine uv_getS O.1 dJ0_charAt_5068e_8 hX.2.2.1 (uq_in (by decide +kernel) (by decide +kernel)) ?_
  refine uv_iload_n O.1 dJ0_charAt_5068e_11 1 rfl rfl ?_
  refine uv_eq (ws' := [] ++ []) rfl ?_
  refine j_call O (jc_S (as := [.ref v, .int (nI i)]) (rest := []) O.1 dJ0_charAt_5068e_12 (uq_in (by decide +kernel) (by decide +kernel)) (uq_in (by decide +kernel) (by decide +kernel)) (uq_in (by decide +kernel) (by decide +kernel)) (uq_in (by decide +kernel) (by decide +kernel)) ⟨by decide +kernel, by decide +kernel, (by decide +kernel : (parseMethodDescriptor yJ1_charAt_3b067.desc).map (fun d => d.parameters.length) = some 2)⟩ rfl ⟨(Nat.le_of_ble_eq_true rfl), (Nat.le_of_ble_eq_true rfl)⟩ (Nat.le_of_ble_eq_true rfl)) (fun sz => j_lchr Z v n i b f sz hi hn hb hf) (jB_mv _ _ _) (jt_up O.1 (jB_mv _ _ _) hX.2.2.2) j_r0 (by omega) (by omega) (fun u hu => ?_)
  show uV Z C [] _ _ _ [(0, .ref q), (1, .int (nI i))] [.int (nI b)]
  refine uv_widen (k' := 0) (n' := 0) (by omega) (by omega) ?_
  exact jr_z () O hr (pk_charN (by omega)).1 hlk hE trivial rfl dJ0_charAt_5068e_15

set_option maxHeartbeats 4000000 in
theorem j_asbI (Z : ZT) (a : Nat) (sz : Nat)  : MkJ (S := Nat) Z yJ5_init_d00df cJ5_init_d00df 2 none 1 1 16 30 [.ref a, .int (nI 16)] jX0 [(a, .inr (13, [.null, .int (nI 0), .int (nI 0), .int (nI 0)]))] (fun u => none) (fun u => True) (fun u => [(a, .inr (13, [.ref u, .int (nI 0), .int (nI 0), .int (nI 0)])), (u, .inl (zc Z 0, (16, .inl (fun _ => 0))))]) sz := by
  refine j_mk (by decide +kernel) (Nat.le_of_ble_eq_true rfl) (fun C O hnm hX hr hlk hE => ?_)
  have O : jOk Z C RJ5 cJ5_init_d00df 2 1 30 1 16 := O
  have hnm : (c_h C).name = "<init>" := hnm
  show uV Z C [(a, .inr (13, [.null, .int (nI 0), .int (nI 0), .int (nI 0)]))] 0 0 0 [(0, .ref a), (1, .int (nI 16))] []
  refine uv_aload_n O.1 dJ5_init_d00df_0 0 rfl rfl ?_
  refine uv_obj O.1 dJ5_init_d00df_1 (uq_in (by decide +kernel) (by decide +kernel)) (uq_in (by decide +kernel) (by decide +kernel)) (uq_in (by decide +kernel) (by decide +kernel)) (Nat.le_of_ble_eq_true rfl) (Nat.le_of_ble_eq_true rfl) (Nat.le_of_ble_eq_true rfl) ?_
  refine uv_compact O dJ5_init_d00df_4 (uq_in (by decide +kernel) (by decide +kernel)) ?_
  refine uv_eqF 25 O.1 dJ5_init_d00df_7 rfl (by decide +kernel) ?_
  refine uv_aload_n O.1 dJ5_init_d00df_10 0 rfl rfl ?_
  refine uv_iload_n O.1 dJ5_init_d00df_11 1 rfl rfl ?_
  refine uv_newb (N := 16) O.1 dJ5_init_d00df_12 (uq_in (by decide +kernel) (by decide +kernel)) rfl (by omega) (by omega) (by omega) (fun b1 => ?_)
  show uV Z C [(a, .inr (13, [.null, .int (nI 0), .int (nI 0), .int (nI 0)])), (b1, .inl (zc Z 0, (16, .inl (fun _ => 0))))] _ _ _ [(0, .ref a), (1, .int (nI 16))] [.ref b1, .ref a]
  refine uv_putJ O.1 dJ5_init_d00df_14 0 rfl rfl uxJ4 tyJ4 tyJ4_ok nmJ4 0 (Nat.le_of_ble_eq_true rfl) (uq_in (by decide +kernel) (by decide +kernel)) rfl rfl (by first | rfl | decide +kernel) (by first | rfl | decide +kernel) (Nat.le_of_ble_eq_true rfl) ?_
  show uV Z C [(a, .inr (13, [.ref b1, .int (nI 0), .int (nI 0), .int (nI 0)])), (b1, .inl (zc Z 0, (16, .inl (fun _ => 0))))] _ _ _ [(0, .ref a), (1, .int (nI 16))] []
  refine uv_aload_n O.1 dJ5_init_d00df_17 0 rfl rfl ?_
  refine uv_iconst O.1 dJ5_init_d00df_18 (nI 0) rfl ?_
  refine uv_putJ O.1 dJ5_init_d00df_19 0 rfl rfl uxJ4 tyJ4 tyJ4_ok nmJ4 1 (Nat.le_of_ble_eq_true rfl) (uq_in (by decide +kernel) (by decide +kernel)) rfl rfl (by first | rfl | decide +kernel) (by first | rfl | decide +kernel) (Nat.le_of_ble_eq_true rfl) ?_
  show uV Z C [(a, .inr (13, [.ref b1, .int (nI 0), .int (nI 0), .int (nI 0)])), (b1, .inl (zc Z 0, (16, .inl (fun _ => 0))))] _ _ _ [(0, .ref a), (1, .int (nI 16))] []
  refine uv_goto 38 O.1 dJ5_init_d00df_22 rfl ?_
  refine uv_widen (k' := 1) (n' := 16) (by omega) (by omega) ?_
  exact jr_v b1 O hr hlk hE trivial rfl dJ5_init_d00df_38

set_option maxHeartbeats 4000000 in
theorem j_sbI (Z : ZT) (a : Nat) (sz : Nat)  : MkJ (S := Nat) Z yJ4_init_da8c8 cJ4_init_da8c8 1 none 2 1 16 51 [.ref a] jX0 [(a, .inr (13, [.null, .int (nI 0), .int (nI 0), .int (nI 0)]))] (fun u => none) (fun u => True) (fun u => [(a, .inr (13, [.ref u, .int (nI 0), .int (nI 0), .int (nI 0)])), (u, .inl (zc Z 0, (16, .inl (fun _ => 0))))]) sz := by
  refine j_mk (by decide +kernel) (Nat.le_of_ble_eq_true rfl) (fun C O hnm hX hr hlk hE => ?_)
  have O : jOk Z C RJ4 cJ4_init_da8c8 1 2 51 1 16 := O
  have hnm : (c_h C).name = "<init>" := hnm
  show uV Z C [(a, .inr (13, [.null, .int (nI 0), .int (nI 0), .int (nI 0)]))] 0 0 0 [(0, .ref a)] []
  refine uv_aload_n O.1 dJ4_init_da8c8_0 0 rfl rfl ?_
  refine uv_bipush O.1 dJ4_init_da8c8_1 (nI 16) rfl ?_
  refine uv_eq (ws' := [] ++ [(a, .inr (13, [.null, .int (nI 0), .int (nI 0), .int (nI 0)]))]) rfl ?_
  refine j_call O (jc_I (b := a) (as' := [.int (nI 16)]) (rest := []) O.1 dJ4_init_da8c8_3 (uq_in (by decide +kernel) (by decide +kernel)) (uq_in (by decide +kernel) (by decide +kernel)) rfl (uq_in (by decide +kernel) (by decide +kernel)) (uq_in (by decide +kernel) (by decide +kernel)) ⟨by decide +kernel, by decide +kernel, (by decide +kernel : (parseMethodDescriptor yJ5_init_d00df.desc).map (fun d => d.parameters.length) = some 1)⟩ rfl ⟨(Nat.le_of_ble_eq_true rfl), (Nat.le_of_ble_eq_true rfl)⟩ (Nat.le_of_ble_eq_true rfl)) (fun sz => j_asbI Z a sz) jX0_mv jt_0 j_r0 (by omega) (by omega) (fun v1 hu => ?_)
  show uV Z C [(a, .inr (13, [.ref v1, .int (nI 0), .int (nI 0), .int (nI 0)])), (v1, .inl (zc Z 0, (16, .inl (fun _ => 0))))] _ _ _ [(0, .ref a)] []
  refine uv_widen (k' := 1) (n' := 16) (by omega) (by omega) ?_
  exact jr_v v1 O hr hlk hE trivial rfl dJ4_init_da8c8_6

set_option maxHeartbeats 4000000 in
theorem j_nLen (Z : ZT) (o m p : Nat) (sz : Nat) (ho : o ≤ 600) (hm : m ≤ 600) (hp : p ≤ 600) (h0 : 0 < m) : MkJ (S := Unit) Z yJ8_newLength_cabcc cJ8_newLength_cabcc 4 (some .int) 1 0 0 21 [.int (nI o), .int (nI m), .int (nI p)] jX0 [] (fun u => some (.int (nI (o + max m p)))) (fun u => True) (fun u => []) sz := by
  refine j_mk (by decide +kernel) (Nat.le_of_ble_eq_true rfl) (fun C O hnm hX hr hlk hE => ?_)
  have O : jOk Z C RJ8 cJ8_newLength_cabcc 4 1 21 0 0 := O
  have hnm : (c_h C).name = "newLength" := hnm
  show uV Z C [] 0 0 0 [(0, .int (nI o)), (1, .int (nI m)), (2, .int (nI p))] []
  refine uv_iload_n O.1 dJ8_newLength_cabcc_0 0 rfl rfl ?_
  refine uv_iload_n O.1 dJ8_newLength_cabcc_1 1 rfl rfl ?_
  refine uv_iload_n O.1 dJ8_newLength_cabcc_2 2 rfl rfl ?_
  refine uv_mmax (z := nI (max m p)) O.1 dJ8_newLength_cabcc_3 (uq_in (by decide +kernel) (by decide +kernel)) (uq_in (by decide +kernel) (by decide +kernel)) (uq_in (by decide +kernel) (by decide +kernel)) (uq_in (by decide +kernel) (by decide +kernel)) (Nat.le_of_ble_eq_true rfl) (Nat.le_of_ble_eq_true rfl) (Nat.le_of_ble_eq_true rfl) (j_max (by omega) (by omega)) (by omega) (by omega) ?_
  refine uv_iaddE (z := nI (o + max m p)) O.1 dJ8_newLength_cabcc_6 (zI.1 _ _) ?_
  refine uv_istore_n O.1 dJ8_newLength_cabcc_7 rfl (by omega) [(3, .int (nI (o + max m p))), (0, .int (nI o)), (1, .int (nI m)), (2, .int (nI p))] rfl ?_
  refine uv_iconst O.1 dJ8_newLength_cabcc_8 (nI 0) rfl ?_
  refine uv_iload_n O.1 dJ8_newLength_cabcc_9 0 rfl rfl ?_
  refine uv_icmp_ge 21 O.1 dJ8_newLength_cabcc_10 rfl (fun hh => absurd hh (j_nle (by omega) (by omega))) (fun _ => ?_)
  refine uv_iload_n O.1 dJ8_newLength_cabcc_13 0 rfl rfl ?_
  refine uv_ldc (v := nI 2147483639) O.1 dJ8_newLength_cabcc_14 (uq_in (by decide +kernel) (by decide +kernel)) ?_
  refine uv_icmp_gt 21 O.1 dJ8_newLength_cabcc_16 rfl (fun hh => absurd hh (j_nlt (by omega) (by omega))) (fun _ => ?_)
  refine uv_iload_n O.1 dJ8_newLength_cabcc_19 0 rfl rfl ?_
  refine uv_widen (k' := 0) (n' := 0) (by omega) (by omega) ?_
  exact jr_i () O hr hlk hE trivial rfl dJ8_newLength_cabcc_20

set_option maxHeartbeats 4000000 in
theorem j_nCap (Z : ZT) (a w cap c m : Nat) (g : Nat → Int32) (sz : Nat) (hm : cap < m) (h : m ≤ 70) : MkJ (S := Unit) Z yJ5_newCapacity_0f7a4 cJ5_newCapacity_0f7a4 6 (some .int) 2 0 0 44 [.ref a, .int (nI m)] jX0 [(a, .inr (13, [.ref w, .int (nI 0), .int (nI 0), .int (nI c)])), (w, .inl (zc Z 0, (cap, .inl g)))] (fun u => some (.int (nI (cap + max (m - cap) (cap + 2))))) (fun u => True) (fun u => [(a, .inr (13, [.ref w, .int (nI 0), .int (nI 0), .int (nI c)])), (w, .inl (zc Z 0, (cap, .inl g)))]) sz := by
  refine j_mk (by decide +kernel) (Nat.le_of_ble_eq_true rfl) (fun C O hnm hX hr hlk hE => ?_)
  have O : jOk Z C RJ5 cJ5_newCapacity_0f7a4 6 2 44 0 0 := O
  have hnm : (c_h C).name = "newCapacity" := hnm
  show uV Z C [(a, .inr (13, [.ref w, .int (nI 0), .int (nI 0), .int (nI c)])), (w, .inl (zc Z 0, (cap, .inl g)))] 0 0 0 [(0, .ref a), (1, .int (nI m))] []
  refine uv_aload_n O.1 dJ5_newCapacity_0f7a4_0 0 rfl rfl ?_
  refine uv_getJ O.1 dJ5_newCapacity_0f7a4_1 0 rfl rfl uxJ4 0 (Nat.le_of_ble_eq_true rfl) (uq_in (by decide +kernel) (by decide +kernel)) rfl ?_
  refine uv_alen O.1 dJ5_newCapacity_0f7a4_4 1 0 rfl rfl (v := nI cap) rfl ?_
  refine uv_istore_n O.1 dJ5_newCapacity_0f7a4_5 rfl (by omega) [(2, .int (nI cap)), (0, .ref a), (1, .int (nI m))] rfl ?_
  refine uv_iload_n O.1 dJ5_newCapacity_0f7a4_6 2 rfl rfl ?_
  refine uv_aload_n O.1 dJ5_newCapacity_0f7a4_7 1 rfl rfl ?_
  refine uv_getJ O.1 dJ5_newCapacity_0f7a4_8 0 rfl rfl uxJ4 1 (Nat.le_of_ble_eq_true rfl) (uq_in (by decide +kernel) (by decide +kernel)) rfl ?_
  refine uv_ishl (z := nI m) O.1 dJ5_newCapacity_0f7a4_11 (j_shl0 _) ?_
  refine uv_istore_n O.1 dJ5_newCapacity_0f7a4_12 rfl (by omega) [(3, .int (nI m)), (2, .int (nI cap)), (0, .ref a), (1, .int (nI m))] rfl ?_
  refine uv_iload_n O.1 dJ5_newCapacity_0f7a4_13 0 rfl rfl ?_
  refine uv_iload_n O.1 dJ5_newCapacity_0f7a4_14 1 rfl rfl ?_
  refine uv_isub (z := nI (m - cap)) O.1 dJ5_newCapacity_0f7a4_15 (zi_sub (by omega)) ?_
  refine uv_istore O.1 dJ5_newCapacity_0f7a4_16 (by omega) [(4, .int (nI (m - cap))), (3, .int (nI m)), (2, .int (nI cap)), (0, .ref a), (1, .int (nI m))] rfl ?_
  refine uv_iload_n O.1 dJ5_newCapacity_0f7a4_18 2 rfl rfl ?_
  refine uv_iload O.1 dJ5_newCapacity_0f7a4_19 0 rfl ?_
  refine uv_iload_n O.1 dJ5_newCapacity_0f7a4_21 2 rfl rfl ?_
  refine uv_iconst O.1 dJ5_newCapacity_0f7a4_22 (nI 2) rfl ?_
  refine uv_aload_n O.1 dJ5_newCapacity_0f7a4_23 3 rfl rfl ?_
  refine uv_getJ O.1 dJ5_newCapacity_0f7a4_24 0 rfl rfl uxJ4 1 (Nat.le_of_ble_eq_true rfl) (uq_in (by decide +kernel) (by decide +kernel)) rfl ?_
  refine uv_ishl (z := nI 2) O.1 dJ5_newCapacity_0f7a4_27 (j_shl0 _) ?_
  refine uv_iaddE (z := nI (cap + 2)) O.1 dJ5_newCapacity_0f7a4_28 (zI.1 _ _) ?_
  refine uv_eq (ws' := [(a, .inr (13, [.ref w, .int (nI 0), .int (nI 0), .int (nI c)])), (w, .inl (zc Z 0, (cap, .inl g)))] ++ []) rfl ?_
  refine j_call O (jc_S (as := [.int (nI cap), .int (nI (m - cap)), .int (nI (cap + 2))]) (rest := []) O.1 dJ5_newCapacity_0f7a4_29 (uq_in (by decide +kernel) (by decide +kernel)) (uq_in (by decide +kernel) (by decide +kernel)) (uq_in (by decide +kernel) (by decide +kernel)) (uq_in (by decide +kernel) (by decide +kernel)) ⟨by decide +kernel, by decide +kernel, (by decide +kernel : (parseMethodDescriptor yJ8_newLength_cabcc.desc).map (fun d => d.parameters.length) = some 3)⟩ rfl ⟨(Nat.le_of_ble_eq_true rfl), (Nat.le_of_ble_eq_true rfl)⟩ (Nat.le_of_ble_eq_true rfl)) (fun sz => j_nLen Z cap (m - cap) (cap + 2) sz (by omega) (by omega) (by omega) (by omega)) jX0_mv jt_0 j_r0 (by omega) (by omega) (fun u hu => ?_)
  show uV Z C [(a, .inr (13, [.ref w, .int (nI 0), .int (nI 0), .int (nI c)])), (w, .inl (zc Z 0, (cap, .inl g)))] _ _ _ [(4, .int (nI (m - cap))), (3, .int (nI m)), (2, .int (nI cap)), (0, .ref a), (1, .int (nI m))] [.int (nI (cap + max (m - cap) (cap + 2)))]
  refine uv_istore O.1 dJ5_newCapacity_0f7a4_32 (by omega) [(5, .int (nI (cap + max (m - cap) (cap + 2)))), (4, .int (nI (m - cap))), (3, .int (nI m)), (2, .int (nI cap)), (0, .ref a), (1, .int (nI m))] rfl ?_
  refine uv_iload O.1 dJ5_newCapacity_0f7a4_34 0 rfl ?_
  refine uv_ldc (v := nI 2147483647) O.1 dJ5_newCapacity_0f7a4_36 (uq_in (by decide +kernel) (by decide +kernel)) ?_
  refine uv_icmp_ne 51 O.1 dJ5_newCapacity_0f7a4_38 rfl (fun _ => ?_) (fun hh => absurd hh (j_ne (by omega) (by omega) (by omega)))
  refine uv_iload O.1 dJ5_newCapacity_0f7a4_51 0 rfl ?_
  refine uv_aload_n O.1 dJ5_newCapacity_0f7a4_53 4 rfl rfl ?_
  refine uv_getJ O.1 dJ5_newCapacity_0f7a4_54 0 rfl rfl uxJ4 1 (Nat.le_of_ble_eq_true rfl) (uq_in (by decide +kernel) (by decide +kernel)) rfl ?_
  refine uv_ishr (z := nI (cap + max (m - cap) (cap + 2))) O.1 dJ5_newCapacity_0f7a4_57 (j_shr0 _) ?_
  refine uv_widen (k' := 0) (n' := 0) (by omega) (by omega) ?_
  exact jr_i () O hr hlk hE trivial rfl dJ5_newCapacity_0f7a4_58

set_option maxHeartbeats 4000000 in
theorem j_cpO (Z : ZT) (v cap m : Nat) (g : Nat → Int32) (sz : Nat) (hm : cap < m) (h : m ≤ 150) (hF : jF g) : MkJ (S := Nat) Z yJ7_copyOf_9075b cJ7_copyOf_9075b 3 (some (.array .byte)) 1 1 150 40 [.ref v, .int (nI m)] jX0 [(v, .inl (zc Z 0, (cap, .inl g)))] (fun u => some (.ref u)) (fun u => True) (fun u => [(v, .inl (zc Z 0, (cap, .inl g))), (u, .inl (zc Z 0, (m, .inl (va_cpy g (fun _ => 0) 0 0 cap))))]) sz := by
  refine j_mk (by decide +kernel) (Nat.le_of_ble_eq_true rfl) (fun C O hnm hX hr hlk hE => ?_)
  have O : jOk Z C RJ7 cJ7_copyOf_9075b 3 1 40 1 150 := O
  have hnm : (c_h C).name = "copyOf" := hnm
  show uV Z C [(v, .inl (zc Z 0, (cap, .inl g)))] 0 0 0 [(0, .ref v), (1, .int (nI m))] []
  refine uv_iload_n O.1 dJ7_copyOf_9075b_0 1 rfl rfl ?_
  refine uv_aload_n O.1 dJ7_copyOf_9075b_1 0 rfl rfl ?_
  refine uv_alen O.1 dJ7_copyOf_9075b_2 0 0 rfl rfl (v := nI cap) rfl ?_
  refine uv_icmp_ne 14 O.1 dJ7_copyOf_9075b_3 rfl (fun _ => ?_) (fun hh => absurd hh (j_ne (by omega) (by omega) (by omega)))
  refine uv_iload_n O.1 dJ7_copyOf_9075b_14 1 rfl rfl ?_
  refine uv_newb (N := m) O.1 dJ7_copyOf_9075b_15 (uq_in (by decide +kernel) (by decide +kernel)) rfl (by omega) (by omega) (by omega) (fun b1 => ?_)
  show uV Z C [(v, .inl (zc Z 0, (cap, .inl g))), (b1, .inl (zc Z 0, (m, .inl (fun _ => 0))))] _ _ _ [(0, .ref v), (1, .int (nI m))] [.ref b1]
  refine uv_astore_n O.1 dJ7_copyOf_9075b_17 rfl (by omega) [(2, .ref b1), (0, .ref v), (1, .int (nI m))] rfl ?_
  refine uv_aload_n O.1 dJ7_copyOf_9075b_18 1 rfl rfl ?_
  refine uv_iconst O.1 dJ7_copyOf_9075b_19 (nI 0) rfl ?_
  refine uv_aload_n O.1 dJ7_copyOf_9075b_20 0 rfl rfl ?_
  refine uv_iconst O.1 dJ7_copyOf_9075b_21 (nI 0) rfl ?_
  refine uv_aload_n O.1 dJ7_copyOf_9075b_22 1 rfl rfl ?_
  refine uv_alen O.1 dJ7_copyOf_9075b_23 0 0 rfl rfl (v := nI cap) rfl ?_
  refine uv_iload_n O.1 dJ7_copyOf_9075b_24 2 rfl rfl ?_
  refine uv_mmin (z := nI cap) O.1 dJ7_copyOf_9075b_25 (uq_in (by decide +kernel) (by decide +kernel)) (uq_in (by decide +kernel) (by decide +kernel)) (uq_in (by decide +kernel) (by decide +kernel)) (uq_in (by decide +kernel) (by decide +kernel)) (Nat.le_of_ble_eq_true rfl) (Nat.le_of_ble_eq_true rfl) (Nat.le_of_ble_eq_true rfl) (j_minL (by omega) (by omega)) (by omega) (by omega) ?_
  refine uv_copyW (sp := 0) (dp := 0) (c := cap) O.1 dJ7_copyOf_9075b_28 (uq_in (by decide +kernel) (by decide +kernel)) (uq_in (by decide +kernel) (by decide +kernel)) (uq_in (by decide +kernel) (by decide +kernel)) (uq_in (by decide +kernel) (by decide +kernel)) 0 1 rfl rfl hF (by omega) (by omega) (by omega) (Nat.le_of_ble_eq_true rfl) (Nat.le_of_ble_eq_true rfl) (Nat.le_of_ble_eq_true rfl) ?_
  show uV Z C [(v, .inl (zc Z 0, (cap, .inl g))), (b1, .inl (zc Z 0, (m, .inl (va_cpy g (fun _ => 0) 0 0 cap))))] _ _ _ [(2, .ref b1), (0, .ref v), (1, .int (nI m))] []
  refine uv_aload_n O.1 dJ7_copyOf_9075b_31 0 rfl rfl ?_
  refine uv_widen (k' := 1) (n' := 150) (by omega) (by omega) ?_
  exact jr_a b1 O hr (Or.inr ⟨_, rfl⟩) hlk hE trivial rfl dJ7_copyOf_9075b_32

set_option maxHeartbeats 4000000 in
theorem j_ensA (Z : ZT) (a w cap c m : Nat) (g : Nat → Int32) (sz : Nat) (hm : m ≤ cap) (h : m ≤ 70) (hc : c ≤ cap) (hcap : cap ≤ 150) (hF : jF g) : MkJ (S := Nat × Nat × (Nat → Int32)) Z yJ5_ensureCapacityInternal_d00df cJ5_ensureCapacityInternal_d00df 3 none 3 1 150 69 [.ref a, .int (nI m)] jX0 [(a, .inr (13, [.ref w, .int (nI 0), .int (nI 0), .int (nI c)])), (w, .inl (zc Z 0, (cap, .inl g)))] (fun u => none) (fun u => m ≤ u.2.1 ∧ u.2.1 ≤ 150 ∧ (∀ j, j < c → u.2.2 j = g j) ∧ jF u.2.2) (fun u => [(a, .inr (13, [.ref u.1, .int (nI 0), .int (nI 0), .int (nI c)])), (u.1, .inl (zc Z 0, (u.2.1, .inl u.2.2)))]) sz := by
  refine j_mk (by decide +kernel) (Nat.le_of_ble_eq_true rfl) (fun C O hnm hX hr hlk hE => ?_)
  have O : jOk Z C RJ5 cJ5_ensureCapacityInternal_d00df 3 3 69 1 150 := O
  have hnm : (c_h C).name = "ensureCapacityInternal" := hnm
  show uV Z C [(a, .inr (13, [.ref w, .int (nI 0), .int (nI 0), .int (nI c)])), (w, .inl (zc Z 0, (cap, .inl g)))] 0 0 0 [(0, .ref a), (1, .int (nI m))] []
  refine uv_aload_n O.1 dJ5_ensureCapacityInternal_d00df_0 0 rfl rfl ?_
  refine uv_getJ O.1 dJ5_ensureCapacityInternal_d00df_1 0 rfl rfl uxJ4 0 (Nat.le_of_ble_eq_true rfl) (uq_in (by decide +kernel) (by decide +kernel)) rfl ?_
  refine uv_alen O.1 dJ5_ensureCapacityInternal_d00df_4 1 0 rfl rfl (v := nI cap) rfl ?_
  refine uv_aload_n O.1 dJ5_ensureCapacityInternal_d00df_5 0 rfl rfl ?_
  refine uv_getJ O.1 dJ5_ensureCapacityInternal_d00df_6 0 rfl rfl uxJ4 1 (Nat.le_of_ble_eq_true rfl) (uq_in (by decide +kernel) (by decide +kernel)) rfl ?_
  refine uv_ishr (z := nI cap) O.1 dJ5_ensureCapacityInternal_d00df_9 (j_shr0 _) ?_
  refine uv_istore_n O.1 dJ5_ensureCapacityInternal_d00df_10 rfl (by omega) [(2, .int (nI cap)), (0, .ref a), (1, .int (nI m))] rfl ?_
  refine uv_iload_n O.1 dJ5_ensureCapacityInternal_d00df_11 2 rfl rfl ?_
  refine uv_iload_n O.1 dJ5_ensureCapacityInternal_d00df_12 0 rfl rfl ?_
  refine uv_isub (z := nI m - nI cap) O.1 dJ5_ensureCapacityInternal_d00df_13 rfl ?_
  refine uv_if_le 38 O.1 dJ5_ensureCapacityInternal_d00df_14 rfl (fun _ => ?_) (fun hh => absurd (j_sub_le hm (by omega)) hh)
  refine uv_widen (k' := 1) (n' := 150) (by omega) (by omega) ?_
  exact jr_v (w, cap, g) O hr hlk hE ⟨hm, hcap, fun _ _ => rfl, hF⟩ rfl dJ5_ensureCapacityInternal_d00df_38

set_option maxHeartbeats 4000000 in
theorem j_ensB (Z : ZT) (a w cap c m : Nat) (g : Nat → Int32) (sz : Nat) (hm : cap < m) (h : m ≤ 70) (hc : c ≤ cap) (hcap : cap ≤ 150) (hF : jF g) : MkJ (S := Nat × Nat × (Nat → Int32)) Z yJ5_ensureCapacityInternal_d00df cJ5_ensureCapacityInternal_d00df 3 none 3 1 150 69 [.ref a, .int (nI m)] jX0 [(a, .inr (13, [.ref w, .int (nI 0), .int (nI 0), .int (nI c)])), (w, .inl (zc Z 0, (cap, .inl g)))] (fun u => none) (fun u => m ≤ u.2.1 ∧ u.2.1 ≤ 150 ∧ (∀ j, j < c → u.2.2 j = g j) ∧ jF u.2.2) (fun u => [(a, .inr (13, [.ref u.1, .int (nI 0), .int (nI 0), .int (nI c)])), (u.1, .inl (zc Z 0, (u.2.1, .inl u.2.2)))]) sz := by
  refine j_mk (by decide +kernel) (Nat.le_of_ble_eq_true rfl) (fun C O hnm hX hr hlk hE => ?_)
  have O : jOk Z C RJ5 cJ5_ensureCapacityInternal_d00df 3 3 69 1 150 := O
  have hnm : (c_h C).name = "ensureCapacityInternal" := hnm
  show uV Z C [(a, .inr (13, [.ref w, .int (nI 0), .int (nI 0), .int (nI c)])), (w, .inl (zc Z 0, (cap, .inl g)))] 0 0 0 [(0, .ref a), (1, .int (nI m))] []
  refine uv_aload_n O.1 dJ5_ensureCapacityInternal_d00df_0 0 rfl rfl ?_
  refine uv_getJ O.1 dJ5_ensureCapacityInternal_d00df_1 0 rfl rfl uxJ4 0 (Nat.le_of_ble_eq_true rfl) (uq_in (by decide +kernel) (by decide +kernel)) rfl ?_
  refine uv_alen O.1 dJ5_ensureCapacityInternal_d00df_4 1 0 rfl rfl (v := nI cap) rfl ?_
  refine uv_aload_n O.1 dJ5_ensureCapacityInternal_d00df_5 0 rfl rfl ?_
  refine uv_getJ O.1 dJ5_ensureCapacityInternal_d00df_6 0 rfl rfl uxJ4 1 (Nat.le_of_ble_eq_true rfl) (uq_in (by decide +kernel) (by decide +kernel)) rfl ?_
  refine uv_ishr (z := nI cap) O.1 dJ5_ensureCapacityInternal_d00df_9 (j_shr0 _) ?_
  refine uv_istore_n O.1 dJ5_ensureCapacityInternal_d00df_10 rfl (by omega) [(2, .int (nI cap)), (0, .ref a), (1, .int (nI m))] rfl ?_
  refine uv_iload_n O.1 dJ5_ensureCapacityInternal_d00df_11 2 rfl rfl ?_
  refine uv_iload_n O.1 dJ5_ensureCapacityInternal_d00df_12 0 rfl rfl ?_
  refine uv_isub (z := nI m - nI cap) O.1 dJ5_ensureCapacityInternal_d00df_13 rfl ?_
  refine uv_if_le 38 O.1 dJ5_ensureCapacityInternal_d00df_14 rfl (fun hh => absurd hh (j_sub_nle hm (by omega))) (fun _ => ?_)
  refine uv_aload_n O.1 dJ5_ensureCapacityInternal_d00df_17 1 rfl rfl ?_
  refine uv_aload_n O.1 dJ5_ensureCapacityInternal_d00df_18 1 rfl rfl ?_
  refine uv_getJ O.1 dJ5_ensureCapacityInternal_d00df_19 0 rfl rfl uxJ4 0 (Nat.le_of_ble_eq_true rfl) (uq_in (by decide +kernel) (by decide +kernel)) rfl ?_
  refine uv_aload_n O.1 dJ5_ensureCapacityInternal_d00df_22 1 rfl rfl ?_
  refine uv_iload_n O.1 dJ5_ensureCapacityInternal_d00df_23 2 rfl rfl ?_
  refine uv_eq (ws' := [] ++ [(a, .inr (13, [.ref w, .int (nI 0), .int (nI 0), .int (nI c)])), (w, .inl (zc Z 0, (cap, .inl g)))]) rfl ?_
  refine j_call O (jc_V (y := yJ5_newCapacity_0f7a4) (C0 := RJ4) (b := a) (as' := [.int (nI m)]) (rest := [.ref w, .ref a]) O.1 dJ5_ensureCapacityInternal_d00df_24 (uq_in (by decide +kernel) (by decide +kernel)) (uq_in (by decide +kernel) (by decide +kernel)) (O.1.2.2.2.2.1 (Cond.selects RJ4 yJ5_newCapacity_0f7a4 yJ5_newCapacity_0f7a4) (ux_in (by decide +kernel) (by decide +kernel))) (uq_in (by decide +kernel) (by decide +kernel)) (uq_in (by decide +kernel) (by decide +kernel)) ⟨by decide +kernel, by decide +kernel, (by decide +kernel : (parseMethodDescriptor yJ5_newCapacity_0f7a4.desc).map (fun d => d.parameters.length) = some 1)⟩ rfl ⟨(Nat.le_of_ble_eq_true rfl), (Nat.le_of_ble_eq_true rfl)⟩ (Nat.le_of_ble_eq_true rfl)) (fun sz => j_nCap Z a w cap c m g sz hm h) jX0_mv jt_0 (j_rw (ci := 13) (q0 := 0) (ws := [] ++ [(a, .inr (13, [.ref w, .int (nI 0), .int (nI 0), .int (nI c)])), (w, .inl (zc Z 0, (cap, .inl g)))]) O.1 rfl rfl) (by omega) (by omega) (fun u hu => ?_)
  show uV Z C [(a, .inr (13, [.ref w, .int (nI 0), .int (nI 0), .int (nI c)])), (w, .inl (zc Z 0, (cap, .inl g)))] _ _ _ [(2, .int (nI cap)), (0, .ref a), (1, .int (nI m))] [.int (nI (cap + max (m - cap) (cap + 2))), .ref w, .ref a]
  refine uv_aload_n O.1 dJ5_ensureCapacityInternal_d00df_27 1 rfl rfl ?_
  refine uv_getJ O.1 dJ5_ensureCapacityInternal_d00df_28 0 rfl rfl uxJ4 1 (Nat.le_of_ble_eq_true rfl) (uq_in (by decide +kernel) (by decide +kernel)) rfl ?_
  refine uv_ishl (z := nI (cap + max (m - cap) (cap + 2))) O.1 dJ5_ensureCapacityInternal_d00df_31 (j_shl0 _) ?_
  refine uv_eq (ws' := [(a, .inr (13, [.ref w, .int (nI 0), .int (nI 0), .int (nI c)]))] ++ [(w, .inl (zc Z 0, (cap, .inl g)))]) rfl ?_
  refine j_call O (jc_S (as := [.ref w, .int (nI (cap + max (m - cap) (cap + 2)))]) (rest := [.ref a]) O.1 dJ5_ensureCapacityInternal_d00df_32 (uq_in (by decide +kernel) (by decide +kernel)) (uq_in (by decide +kernel) (by decide +kernel)) (uq_in (by decide +kernel) (by decide +kernel)) (uq_in (by decide +kernel) (by decide +kernel)) ⟨by decide +kernel, by decide +kernel, (by decide +kernel : (parseMethodDescriptor yJ7_copyOf_9075b.desc).map (fun d => d.parameters.length) = some 2)⟩ rfl ⟨(Nat.le_of_ble_eq_true rfl), (Nat.le_of_ble_eq_true rfl)⟩ (Nat.le_of_ble_eq_true rfl)) (fun sz => j_cpO Z w cap (cap + max (m - cap) (cap + 2)) g sz (by omega) (by omega) hF) jX0_mv jt_0 j_r0 (by omega) (by omega) (fun w1 hu => ?_)
  show uV Z C [(a, .inr (13, [.ref w, .int (nI 0), .int (nI 0), .int (nI c)])), (w, .inl (zc Z 0, (cap, .inl g))), (w1, .inl (zc Z 0, ((cap + max (m - cap) (cap + 2)), .inl (va_cpy g (fun _ => 0) 0 0 cap))))] _ _ _ [(2, .int (nI cap)), (0, .ref a), (1, .int (nI m))] [.ref w1, .ref a]
  refine uv_putJ O.1 dJ5_ensureCapacityInternal_d00df_35 0 rfl rfl uxJ4 tyJ4 tyJ4_ok nmJ4 0 (Nat.le_of_ble_eq_true rfl) (uq_in (by decide +kernel) (by decide +kernel)) rfl rfl (by first | rfl | decide +kernel) (by first | rfl | decide +kernel) (Nat.le_of_ble_eq_true rfl) ?_
  show uV Z C [(a, .inr (13, [.ref w1, .int (nI 0), .int (nI 0), .int (nI c)])), (w, .inl (zc Z 0, (cap, .inl g))), (w1, .inl (zc Z 0, ((cap + max (m - cap) (cap + 2)), .inl (va_cpy g (fun _ => 0) 0 0 cap))))] _ _ _ [(2, .int (nI cap)), (0, .ref a), (1, .int (nI m))] []
  refine uv_pick (ws' := [(a, .inr (13, [.ref w1, .int (nI 0), .int (nI 0), .int (nI c)])), (w1, .inl (zc Z 0, (cap + max (m - cap) (cap + 2), .inl (va_cpy g (fun _ => 0) 0 0 cap))))]) [0, 2] rfl rfl ?_
  refine uv_widen (k' := 1) (n' := 150) (by omega) (by omega) ?_
  exact jr_v (w1, cap + max (m - cap) (cap + 2), va_cpy g (fun _ => 0) 0 0 cap) O hr hlk hE ⟨by show m ≤ cap + max (m - cap) (cap + 2); omega, by show cap + max (m - cap) (cap + 2) ≤ 150; omega, fun j hj => by show va_cpy g (fun _ => 0) 0 0 cap j = g j; rw [pk_cpy_in (by omega) (by omega)]; congr 1; omega, jF_cpy hF jF_0⟩ rfl dJ5_ensureCapacityInternal_d00df_38

theorem j_ens (Z : ZT) (a w cap c m : Nat) (g : Nat → Int32) (sz : Nat) (h : m ≤ 70) (hc : c ≤ cap) (hcap : cap ≤ 150) (hF : jF g) : MkJ (S := Nat × Nat × (Nat → Int32)) Z yJ5_ensureCapacityInternal_d00df cJ5_ensureCapacityInternal_d00df 3 none 3 1 150 69 [.ref a, .int (nI m)] jX0 [(a, .inr (13, [.ref w, .int (nI 0), .int (nI 0), .int (nI c)])), (w, .inl (zc Z 0, (cap, .inl g)))] (fun u => none) (fun u => m ≤ u.2.1 ∧ u.2.1 ≤ 150 ∧ (∀ j, j < c → u.2.2 j = g j) ∧ jF u.2.2) (fun u => [(a, .inr (13, [.ref u.1, .int (nI 0), .int (nI 0), .int (nI c)])), (u.1, .inl (zc Z 0, (u.2.1, .inl u.2.2)))]) sz := by
  by_cases hm : m ≤ cap
  · exact j_ensA Z a w cap c m g sz hm h hc hcap hF
  · exact j_ensB Z a w cap c m g sz (by omega) h hc hcap hF

set_option maxHeartbeats 4000000 in
theorem j_infl (Z : ZT) (a w cap c : Nat) (g : Nat → Int32) (q v n : Nat) (f : Nat → Int32) (sz : Nat)  : MkJ (S := Unit) Z yJ5_inflateIfNeededFor_a7421 cJ5_inflateIfNeededFor_a7421 2 none 1 0 0 20 [.ref a, .ref q] (jS q v n f) [(a, .inr (13, [.ref w, .int (nI 0), .int (nI 0), .int (nI c)])), (w, .inl (zc Z 0, (cap, .inl g)))] (fun u => none) (fun u => True) (fun u => [(a, .inr (13, [.ref w, .int (nI 0), .int (nI 0), .int (nI c)])), (w, .inl (zc Z 0, (cap, .inl g)))]) sz := by
  refine j_mk (by decide +kernel) (Nat.le_of_ble_eq_true rfl) (fun C O hnm hX hr hlk hE => ?_)
  have O : jOk Z C RJ5 cJ5_inflateIfNeededFor_a7421 2 1 20 0 0 := O
  have hnm : (c_h C).name = "inflateIfNeededFor" := hnm
  show uV Z C [(a, .inr (13, [.ref w, .int (nI 0), .int (nI 0), .int (nI c)])), (w, .inl (zc Z 0, (cap, .inl g)))] 0 0 0 [(0, .ref a), (1, .ref q)] []
  refine uv_compact O dJ5_inflateIfNeededFor_a7421_0 (uq_in (by decide +kernel) (by decide +kernel)) ?_
  refine uv_eqF 21 O.1 dJ5_inflateIfNeededFor_a7421_3 rfl (by decide +kernel) ?_
  refine uv_aload_n O.1 dJ5_inflateIfNeededFor_a7421_6 0 rfl rfl ?_
  refine uv_getJ O.1 dJ5_inflateIfNeededFor_a7421_7 0 rfl rfl uxJ4 1 (Nat.le_of_ble_eq_true rfl) (uq_in (by decide +kernel) (by decide +kernel)) rfl ?_
  refine uv_aload_n O.1 dJ5_inflateIfNeededFor_a7421_10 1 rfl rfl ?_
  refine uv_eq (ws' := [(a, .inr (13, [.ref w, .int (nI 0), .int (nI 0), .int (nI c)])), (w, .inl (zc Z 0, (cap, .inl g)))] ++ []) rfl ?_
  refine j_call O (jc_V (y := yJ0_coder_7d493) (C0 := RJ0) (b := q) (as' := []) (rest := [.int (nI 0)]) O.1 dJ5_inflateIfNeededFor_a7421_11 (uq_in (by decide +kernel) (by decide +kernel)) (uq_in (by decide +kernel) (by decide +kernel)) (O.1.2.2.2.2.1 (Cond.selects RJ0 yJ0_coder_7d493 yJ0_coder_7d493) (uq_in (by decide +kernel) (by decide +kernel))) (uq_in (by decide +kernel) (by decide +kernel)) (uq_in (by decide +kernel) (by decide +kernel)) ⟨by decide +kernel, by decide +kernel, (by decide +kernel : (parseMethodDescriptor yJ0_coder_7d493.desc).map (fun d => d.parameters.length) = some 0)⟩ rfl ⟨(Nat.le_of_ble_eq_true rfl), (Nat.le_of_ble_eq_true rfl)⟩ (Nat.le_of_ble_eq_true rfl)) (fun sz => j_coder Z q v n f sz) (jS_mv _ _ _ _) (jt_up O.1 (jS_mv _ _ _ _) hX) (j_rs hX) (by omega) (by omega) (fun u hu => ?_)
  show uV Z C [(a, .inr (13, [.ref w, .int (nI 0), .int (nI 0), .int (nI c)])), (w, .inl (zc Z 0, (cap, .inl g)))] _ _ _ [(0, .ref a), (1, .ref q)] [.int (nI 0), .int (nI 0)]
  refine uv_icmp_eq 21 O.1 dJ5_inflateIfNeededFor_a7421_14 rfl (fun _ => ?_) (fun hh => absurd rfl hh)
  refine uv_widen (k' := 0) (n' := 0) (by omega) (by omega) ?_
  exact jr_v () O hr hlk hE trivial rfl dJ5_inflateIfNeededFor_a7421_21

set_option maxHeartbeats 4000000 in
theorem j_getB (Z : ZT) (q v n : Nat) (f : Nat → Int32) (d cap p : Nat) (g : Nat → Int32) (sz : Nat) (hp : p + n ≤ cap) (hcap : cap ≤ 150) (hFf : jF f) : MkJ (S := Unit) Z yJ0_getBytes_840e7 cJ0_getBytes_840e7 4 none 1 0 0 40 [.ref q, .ref d, .int (nI p), .int (nI 0)] (jS q v n f) [(d, .inl (zc Z 0, (cap, .inl g)))] (fun u => none) (fun u => True) (fun u => [(d, .inl (zc Z 0, (cap, .inl (va_cpy f g 0 p n))))]) sz := by
  refine j_mk (by decide +kernel) (Nat.le_of_ble_eq_true rfl) (fun C O hnm hX hr hlk hE => ?_)
  have O : jOk Z C RJ0 cJ0_getBytes_840e7 4 1 40 0 0 := O
  have hnm : (c_h C).name = "getBytes" := hnm
  show uV Z C [(d, .inl (zc Z 0, (cap, .inl g)))] 0 0 0 [(0, .ref q), (1, .ref d), (2, .int (nI p)), (3, .int (nI 0))] []
  refine uv_aload_n O.1 dJ0_getBytes_840e7_0 0 rfl rfl ?_
  refine uv_eq (ws' := [(d, .inl (zc Z 0, (cap, .inl g)))] ++ []) rfl ?_
  refine j_call O (jc_V (y := yJ0_coder_7d493) (C0 := RJ0) (b := q) (as' := []) (rest := []) O.1 dJ0_getBytes_840e7_1 (uq_in (by decide +kernel) (by decide +kernel)) (uq_in (by decide +kernel) (by decide +kernel)) (O.1.2.2.2.2.1 (Cond.selects RJ0 yJ0_coder_7d493 yJ0_coder_7d493) (uq_in (by decide +kernel) (by decide +kernel))) (uq_in (by decide +kernel) (by decide +kernel)) (uq_in (by decide +kernel) (by decide +kernel)) ⟨by decide +kernel, by decide +kernel, (by decide +kernel : (parseMethodDescriptor yJ0_coder_7d493.desc).map (fun d => d.parameters.length) = some 0)⟩ rfl ⟨(Nat.le_of_ble_eq_true rfl), (Nat.le_of_ble_eq_true rfl)⟩ (Nat.le_of_ble_eq_true rfl)) (fun sz => j_coder Z q v n f sz) (jS_mv _ _ _ _) (jt_up O.1 (jS_mv _ _ _ _) hX) (j_rs hX) (by omega) (by omega) (fun u hu => ?_)
  show uV Z C [(d, .inl (zc Z 0, (cap, .inl g)))] _ _ _ [(0, .ref q), (1, .ref d), (2, .int (nI p)), (3, .int (nI 0))] [.int (nI 0)]
  refine uv_iload_n O.1 dJ0_getBytes_840e7_4 3 rfl rfl ?_
  refine uv_icmp_ne 28 O.1 dJ0_getBytes_840e7_5 rfl (fun hh => absurd rfl hh) (fun _ => ?_)
  refine uv_aload_n O.1 dJ0_getBytes_840e7_8 0 rfl rfl ?_
  refine uv_getS O.1 dJ0_getBytes_840e7_9 hX.2.2.1 (uq_in (by decide +kernel) (by decide +kernel)) ?_
  refine uv_iconst O.1 dJ0_getBytes_840e7_12 (nI 0) rfl ?_
  refine uv_aload_n O.1 dJ0_getBytes_840e7_13 1 rfl rfl ?_
  refine uv_iload_n O.1 dJ0_getBytes_840e7_14 2 rfl rfl ?_
  refine uv_iload_n O.1 dJ0_getBytes_840e7_15 3 rfl rfl ?_
  refine uv_ishl (z := nI p) O.1 dJ0_getBytes_840e7_16 (j_shl0 _) ?_
  refine uv_aload_n O.1 dJ0_getBytes_840e7_17 0 rfl rfl ?_
  refine uv_getS O.1 dJ0_getBytes_840e7_18 hX.2.2.1 (uq_in (by decide +kernel) (by decide +kernel)) ?_
  refine uv_tlen O.1 dJ0_getBytes_840e7_21 hX.2.2.2 ?_
  refine uv_copyT (sp := 0) (dp := p) (c := n) O.1 dJ0_getBytes_840e7_22 (uq_in (by decide +kernel) (by decide +kernel)) (uq_in (by decide +kernel) (by decide +kernel)) (uq_in (by decide +kernel) (by decide +kernel)) (uq_in (by decide +kernel) (by decide +kernel)) hX.2.2.2 0 rfl hFf (by omega) (by omega) (by omega) (Nat.le_of_ble_eq_true rfl) (Nat.le_of_ble_eq_true rfl) (Nat.le_of_ble_eq_true rfl) ?_
  show uV Z C [(d, .inl (zc Z 0, (cap, .inl (va_cpy f g 0 p n))))] _ _ _ [(0, .ref q), (1, .ref d), (2, .int (nI p)), (3, .int (nI 0))] []
  refine uv_goto 43 O.1 dJ0_getBytes_840e7_25 rfl ?_
  refine uv_widen (k' := 0) (n' := 0) (by omega) (by omega) ?_
  exact jr_v () O hr hlk hE trivial rfl dJ0_getBytes_840e7_43

set_option maxHeartbeats 4000000 in
theorem j_putS (Z : ZT) (a w cap c p : Nat) (g : Nat → Int32) (q v n : Nat) (f : Nat → Int32) (sz : Nat) (hp : p + n ≤ cap) (hcap : cap ≤ 150) (hFf : jF f) : MkJ (S := Unit) Z yJ5_putStringAt_47b60 cJ5_putStringAt_47b60 3 none 2 0 0 63 [.ref a, .int (nI p), .ref q] (jS q v n f) [(a, .inr (13, [.ref w, .int (nI 0), .int (nI 0), .int (nI c)])), (w, .inl (zc Z 0, (cap, .inl g)))] (fun u => none) (fun u => True) (fun u => [(a, .inr (13, [.ref w, .int (nI 0), .int (nI 0), .int (nI c)])), (w, .inl (zc Z 0, (cap, .inl (va_cpy f g 0 p n))))]) sz := by
  refine j_mk (by decide +kernel) (Nat.le_of_ble_eq_true rfl) (fun C O hnm hX hr hlk hE => ?_)
  have O : jOk Z C RJ5 cJ5_putStringAt_47b60 3 2 63 0 0 := O
  have hnm : (c_h C).name = "putStringAt" := hnm
  show uV Z C [(a, .inr (13, [.ref w, .int (nI 0), .int (nI 0), .int (nI c)])), (w, .inl (zc Z 0, (cap, .inl g)))] 0 0 0 [(0, .ref a), (1, .int (nI p)), (2, .ref q)] []
  refine uv_aload_n O.1 dJ5_putStringAt_47b60_0 0 rfl rfl ?_
  refine uv_aload_n O.1 dJ5_putStringAt_47b60_1 2 rfl rfl ?_
  refine uv_eq (ws' := [] ++ [(a, .inr (13, [.ref w, .int (nI 0), .int (nI 0), .int (nI c)])), (w, .inl (zc Z 0, (cap, .inl g)))]) rfl ?_
  refine j_call O (jc_V (y := yJ5_inflateIfNeededFor_a7421) (C0 := RJ4) (b := a) (as' := [.ref q]) (rest := []) O.1 dJ5_putStringAt_47b60_2 (uq_in (by decide +kernel) (by decide +kernel)) (uq_in (by decide +kernel) (by decide +kernel)) (O.1.2.2.2.2.1 (Cond.selects RJ4 yJ5_inflateIfNeededFor_a7421 yJ5_inflateIfNeededFor_a7421) (ux_in (by decide +kernel) (by decide +kernel))) (uq_in (by decide +kernel) (by decide +kernel)) (uq_in (by decide +kernel) (by decide +kernel)) ⟨by decide +kernel, by decide +kernel, (by decide +kernel : (parseMethodDescriptor yJ5_inflateIfNeededFor_a7421.desc).map (fun d => d.parameters.length) = some 1)⟩ rfl ⟨(Nat.le_of_ble_eq_true rfl), (Nat.le_of_ble_eq_true rfl)⟩ (Nat.le_of_ble_eq_true rfl)) (fun sz => j_infl Z a w cap c g q v n f sz) (jS_mv _ _ _ _) (jt_up O.1 (jS_mv _ _ _ _) hX) (j_rw (ci := 13) (q0 := 0) (ws := [] ++ [(a, .inr (13, [.ref w, .int (nI 0), .int (nI 0), .int (nI c)])), (w, .inl (zc Z 0, (cap, .inl g)))]) O.1 rfl rfl) (by omega) (by omega) (fun u hu => ?_)
  show uV Z C [(a, .inr (13, [.ref w, .int (nI 0), .int (nI 0), .int (nI c)])), (w, .inl (zc Z 0, (cap, .inl g)))] _ _ _ [(0, .ref a), (1, .int (nI p)), (2, .ref q)] []
  refine uv_aload_n O.1 dJ5_putStringAt_47b60_5 2 rfl rfl ?_
  refine uv_aload_n O.1 dJ5_putStringAt_47b60_6 0 rfl rfl ?_
  refine uv_getJ O.1 dJ5_putStringAt_47b60_7 0 rfl rfl uxJ4 0 (Nat.le_of_ble_eq_true rfl) (uq_in (by decide +kernel) (by decide +kernel)) rfl ?_
  refine uv_iload_n O.1 dJ5_putStringAt_47b60_10 1 rfl rfl ?_
  refine uv_aload_n O.1 dJ5_putStringAt_47b60_11 0 rfl rfl ?_
  refine uv_getJ O.1 dJ5_putStringAt_47b60_12 0 rfl rfl uxJ4 1 (Nat.le_of_ble_eq_true rfl) (uq_in (by decide +kernel) (by decide +kernel)) rfl ?_
  refine uv_eq (ws' := [(a, .inr (13, [.ref w, .int (nI 0), .int (nI 0), .int (nI c)]))] ++ [(w, .inl (zc Z 0, (cap, .inl g)))]) rfl ?_
  refine j_call O (jc_V (y := yJ0_getBytes_840e7) (C0 := RJ0) (b := q) (as' := [.ref w, .int (nI p), .int (nI 0)]) (rest := []) O.1 dJ5_putStringAt_47b60_15 (uq_in (by decide +kernel) (by decide +kernel)) (uq_in (by decide +kernel) (by decide +kernel)) (O.1.2.2.2.2.1 (Cond.selects RJ0 yJ0_getBytes_840e7 yJ0_getBytes_840e7) (uq_in (by decide +kernel) (by decide +kernel))) (uq_in (by decide +kernel) (by decide +kernel)) (uq_in (by decide +kernel) (by decide +kernel)) ⟨by decide +kernel, by decide +kernel, (by decide +kernel : (parseMethodDescriptor yJ0_getBytes_840e7.desc).map (fun d => d.parameters.length) = some 3)⟩ rfl ⟨(Nat.le_of_ble_eq_true rfl), (Nat.le_of_ble_eq_true rfl)⟩ (Nat.le_of_ble_eq_true rfl)) (fun sz => j_getB Z q v n f w cap p g sz hp hcap hFf) (jS_mv _ _ _ _) (jt_up O.1 (jS_mv _ _ _ _) hX) (j_rs hX) (by omega) (by omega) (fun u hu => ?_)
  show uV Z C [(a, .inr (13, [.ref w, .int (nI 0), .int (nI 0), .int (nI c)])), (w, .inl (zc Z 0, (cap, .inl (va_cpy f g 0 p n))))] _ _ _ [(0, .ref a), (1, .int (nI p)), (2, .ref q)] []
  refine uv_widen (k' := 0) (n' := 0) (by omega) (by omega) ?_
  exact jr_v () O hr hlk hE trivial rfl dJ5_putStringAt_47b60_18

set_option maxHeartbeats 4000000 in
theorem j_asbS (Z : ZT) (a w cap c : Nat) (g : Nat → Int32) (q v n : Nat) (f : Nat → Int32) (sz : Nat) (h : c + n ≤ 70) (hc : c ≤ cap) (hcap : cap ≤ 150) (hF : jF g) (hFf : jF f) : MkJ (S := Nat × Nat × (Nat → Int32)) Z yJ5_append_cf1ce cJ5_append_cf1ce 3 (some (.object "java/lang/AbstractStringBuilder")) 4 1 150 91 [.ref a, .ref q] (jS q v n f) [(a, .inr (13, [.ref w, .int (nI 0), .int (nI 0), .int (nI c)])), (w, .inl (zc Z 0, (cap, .inl g)))] (fun u => some (.ref a)) (fun u => c + n ≤ u.2.1 ∧ u.2.1 ≤ 150 ∧ ((∀ j, j < c → u.2.2 j = g j) ∧ ∀ j, j < n → u.2.2 (c + j) = f j) ∧ jF u.2.2) (fun u => [(a, .inr (13, [.ref u.1, .int (nI 0), .int (nI 0), .int (nI (c + n))])), (u.1, .inl (zc Z 0, (u.2.1, .inl u.2.2)))]) sz := by
  refine j_mk (by decide +kernel) (Nat.le_of_ble_eq_true rfl) (fun C O hnm hX hr hlk hE => ?_)
  have O : jOk Z C RJ5 cJ5_append_cf1ce 3 4 91 1 150 := O
  have hnm : (c_h C).name = "append" := hnm
  show uV Z C [(a, .inr (13, [.ref w, .int (nI 0), .int (nI 0), .int (nI c)])), (w, .inl (zc Z 0, (cap, .inl g)))] 0 0 0 [(0, .ref a), (1, .ref q)] []
  refine uv_aload_n O.1 dJ5_append_cf1ce_0 1 rfl rfl ?_
  refine uv_nonnull 9 O.1 dJ5_append_cf1ce_1 rfl ?_
  refine uv_aload_n O.1 dJ5_append_cf1ce_9 1 rfl rfl ?_
  refine uv_eq (ws' := [(a, .inr (13, [.ref w, .int (nI 0), .int (nI 0), .int (nI c)])), (w, .inl (zc Z 0, (cap, .inl g)))] ++ []) rfl ?_
  refine j_call O (jc_V (y := yJ0_length_8abf5) (C0 := RJ0) (b := q) (as' := []) (rest := []) O.1 dJ5_append_cf1ce_10 (uq_in (by decide +kernel) (by decide +kernel)) (uq_in (by decide +kernel) (by decide +kernel)) (O.1.2.2.2.2.1 (Cond.selects RJ0 yJ0_length_8abf5 yJ0_length_8abf5) (uq_in (by decide +kernel) (by decide +kernel))) (uq_in (by decide +kernel) (by decide +kernel)) (uq_in (by decide +kernel) (by decide +kernel)) ⟨by decide +kernel, by decide +kernel, (by decide +kernel : (parseMethodDescriptor yJ0_length_8abf5.desc).map (fun d => d.parameters.length) = some 0)⟩ rfl ⟨(Nat.le_of_ble_eq_true rfl), (Nat.le_of_ble_eq_true rfl)⟩ (Nat.le_of_ble_eq_true rfl)) (fun sz => j_len Z q v n f sz) (jS_mv _ _ _ _) (jt_up O.1 (jS_mv _ _ _ _) hX) (j_rs hX) (by omega) (by omega) (fun u hu => ?_)
  show uV Z C [(a, .inr (13, [.ref w, .int (nI 0), .int (nI 0), .int (nI c)])), (w, .inl (zc Z 0, (cap, .inl g)))] _ _ _ [(0, .ref a), (1, .ref q)] [.int (nI n)]
  refine uv_istore_n O.1 dJ5_append_cf1ce_13 rfl (by omega) [(2, .int (nI n)), (0, .ref a), (1, .ref q)] rfl ?_
  refine uv_aload_n O.1 dJ5_append_cf1ce_14 1 rfl rfl ?_
  refine uv_aload_n O.1 dJ5_append_cf1ce_15 1 rfl rfl ?_
  refine uv_getJ O.1 dJ5_append_cf1ce_16 0 rfl rfl uxJ4 3 (Nat.le_of_ble_eq_true rfl) (uq_in (by decide +kernel) (by decide +kernel)) rfl ?_
  refine uv_iload_n O.1 dJ5_append_cf1ce_19 0 rfl rfl ?_
  refine uv_iaddE (z := nI (c + n)) O.1 dJ5_append_cf1ce_20 (zI.1 _ _) ?_
  refine uv_eq (ws' := [] ++ [(a, .inr (13, [.ref w, .int (nI 0), .int (nI 0), .int (nI c)])), (w, .inl (zc Z 0, (cap, .inl g)))]) rfl ?_
  refine j_call O (jc_V (y := yJ5_ensureCapacityInternal_d00df) (C0 := RJ4) (b := a) (as' := [.int (nI (c + n))]) (rest := []) O.1 dJ5_append_cf1ce_21 (uq_in (by decide +kernel) (by decide +kernel)) (uq_in (by decide +kernel) (by decide +kernel)) (O.1.2.2.2.2.1 (Cond.selects RJ4 yJ5_ensureCapacityInternal_d00df yJ5_ensureCapacityInternal_d00df) (ux_in (by decide +kernel) (by decide +kernel))) (uq_in (by decide +kernel) (by decide +kernel)) (uq_in (by decide +kernel) (by decide +kernel)) ⟨by decide +kernel, by decide +kernel, (by decide +kernel : (parseMethodDescriptor yJ5_ensureCapacityInternal_d00df.desc).map (fun d => d.parameters.length) = some 1)⟩ rfl ⟨(Nat.le_of_ble_eq_true rfl), (Nat.le_of_ble_eq_true rfl)⟩ (Nat.le_of_ble_eq_true rfl)) (fun sz => j_ens Z a w cap c (c + n) g sz h hc hcap hF) jX0_mv jt_0 (j_rw (ci := 13) (q0 := 0) (ws := [] ++ [(a, .inr (13, [.ref w, .int (nI 0), .int (nI 0), .int (nI c)])), (w, .inl (zc Z 0, (cap, .inl g)))]) O.1 rfl rfl) (by omega) (by omega) (fun u hu => ?_)
  obtain ⟨w2, c2, g2⟩ := u
  dsimp only at hu
  obtain ⟨hu21, hu22, hu23, hu24⟩ := hu
  show uV Z C [(a, .inr (13, [.ref w2, .int (nI 0), .int (nI 0), .int (nI c)])), (w2, .inl (zc Z 0, (c2, .inl g2)))] _ _ _ [(2, .int (nI n)), (0, .ref a), (1, .ref q)] []
  refine uv_aload_n O.1 dJ5_append_cf1ce_24 1 rfl rfl ?_
  refine uv_aload_n O.1 dJ5_append_cf1ce_25 1 rfl rfl ?_
  refine uv_getJ O.1 dJ5_append_cf1ce_26 0 rfl rfl uxJ4 3 (Nat.le_of_ble_eq_true rfl) (uq_in (by decide +kernel) (by decide +kernel)) rfl ?_
  refine uv_aload_n O.1 dJ5_append_cf1ce_29 2 rfl rfl ?_
  refine uv_eq (ws' := [] ++ [(a, .inr (13, [.ref w2, .int (nI 0), .int (nI 0), .int (nI c)])), (w2, .inl (zc Z 0, (c2, .inl g2)))]) rfl ?_
  refine j_call O (jc_V (y := yJ5_putStringAt_47b60) (C0 := RJ4) (b := a) (as' := [.int (nI c), .ref q]) (rest := []) O.1 dJ5_append_cf1ce_30 (uq_in (by decide +kernel) (by decide +kernel)) (uq_in (by decide +kernel) (by decide +kernel)) (O.1.2.2.2.2.1 (Cond.selects RJ4 yJ5_putStringAt_47b60 yJ5_putStringAt_47b60) (ux_in (by decide +kernel) (by decide +kernel))) (uq_in (by decide +kernel) (by decide +kernel)) (uq_in (by decide +kernel) (by decide +kernel)) ⟨by decide +kernel, by decide +kernel, (by decide +kernel : (parseMethodDescriptor yJ5_putStringAt_47b60.desc).map (fun d => d.parameters.length) = some 2)⟩ rfl ⟨(Nat.le_of_ble_eq_true rfl), (Nat.le_of_ble_eq_true rfl)⟩ (Nat.le_of_ble_eq_true rfl)) (fun sz => j_putS Z a w2 c2 c c g2 q v n f sz hu21 hu22 hFf) (jS_mv _ _ _ _) (jt_up O.1 (jS_mv _ _ _ _) hX) (j_rw (ci := 13) (q0 := 0) (ws := [] ++ [(a, .inr (13, [.ref w2, .int (nI 0), .int (nI 0), .int (nI c)])), (w2, .inl (zc Z 0, (c2, .inl g2)))]) O.1 rfl rfl) (by omega) (by omega) (fun u hu => ?_)
  show uV Z C [(a, .inr (13, [.ref w2, .int (nI 0), .int (nI 0), .int (nI c)])), (w2, .inl (zc Z 0, (c2, .inl (va_cpy f g2 0 c n))))] _ _ _ [(2, .int (nI n)), (0, .ref a), (1, .ref q)] []
  refine uv_aload_n O.1 dJ5_append_cf1ce_33 1 rfl rfl ?_
  refine uv_dup O.1 dJ5_append_cf1ce_34 rfl ?_
  refine uv_getJ O.1 dJ5_append_cf1ce_35 0 rfl rfl uxJ4 3 (Nat.le_of_ble_eq_true rfl) (uq_in (by decide +kernel) (by decide +kernel)) rfl ?_
  refine uv_iload_n O.1 dJ5_append_cf1ce_38 0 rfl rfl ?_
  refine uv_iaddE (z := nI (c + n)) O.1 dJ5_append_cf1ce_39 (zI.1 _ _) ?_
  refine uv_putJ O.1 dJ5_append_cf1ce_40 0 rfl rfl uxJ4 tyJ4 tyJ4_ok nmJ4 3 (Nat.le_of_ble_eq_true rfl) (uq_in (by decide +kernel) (by decide +kernel)) rfl rfl (by first | rfl | decide +kernel) (by first | rfl | decide +kernel) (Nat.le_of_ble_eq_true rfl) ?_
  show uV Z C [(a, .inr (13, [.ref w2, .int (nI 0), .int (nI 0), .int (nI (c + n))])), (w2, .inl (zc Z 0, (c2, .inl (va_cpy f g2 0 c n))))] _ _ _ [(2, .int (nI n)), (0, .ref a), (1, .ref q)] []
  refine uv_aload_n O.1 dJ5_append_cf1ce_43 1 rfl rfl ?_
  refine uv_widen (k' := 1) (n' := 150) (by omega) (by omega) ?_
  exact jr_a (w2, c2, va_cpy f g2 0 c n) O hr (Or.inl ⟨_, rfl⟩) hlk hE ⟨by show c + n ≤ c2; omega, hu22, ⟨fun j hj => by show va_cpy f g2 0 c n j = g j; rw [pk_cpy_out (by omega)]; exact hu23 j hj, fun j hj => by show va_cpy f g2 0 c n (c + j) = f j; rw [pk_cpy_in (by omega) (by omega)]; congr 1; omega⟩, jF_cpy hFf hu24⟩ rfl dJ5_append_cf1ce_44

set_option maxHeartbeats 4000000 in
theorem j_sbS (Z : ZT) (a w cap c : Nat) (g : Nat → Int32) (q v n : Nat) (f : Nat → Int32) (sz : Nat) (h : c + n ≤ 70) (hc : c ≤ cap) (hcap : cap ≤ 150) (hF : jF g) (hFf : jF f) : MkJ (S := Nat × Nat × (Nat → Int32)) Z yJ4_append_15ec4 cJ4_append_15ec4 2 (some (.object "java/lang/StringBuilder")) 5 1 150 113 [.ref a, .ref q] (jS q v n f) [(a, .inr (13, [.ref w, .int (nI 0), .int (nI 0), .int (nI c)])), (w, .inl (zc Z 0, (cap, .inl g)))] (fun u => some (.ref a)) (fun u => c + n ≤ u.2.1 ∧ u.2.1 ≤ 150 ∧ ((∀ j, j < c → u.2.2 j = g j) ∧ ∀ j, j < n → u.2.2 (c + j) = f j) ∧ jF u.2.2) (fun u => [(a, .inr (13, [.ref u.1, .int (nI 0), .int (nI 0), .int (nI (c + n))])), (u.1, .inl (zc Z 0, (u.2.1, .inl u.2.2)))]) sz := by
  refine j_mk (by decide +kernel) (Nat.le_of_ble_eq_true rfl) (fun C O hnm hX hr hlk hE => ?_)
  have O : jOk Z C RJ4 cJ4_append_15ec4 2 5 113 1 150 := O
  have hnm : (c_h C).name = "append" := hnm
  show uV Z C [(a, .inr (13, [.ref w, .int (nI 0), .int (nI 0), .int (nI c)])), (w, .inl (zc Z 0, (cap, .inl g)))] 0 0 0 [(0, .ref a), (1, .ref q)] []
  refine uv_aload_n O.1 dJ4_append_15ec4_0 0 rfl rfl ?_
  refine uv_aload_n O.1 dJ4_append_15ec4_1 1 rfl rfl ?_
  refine uv_eq (ws' := [] ++ [(a, .inr (13, [.ref w, .int (nI 0), .int (nI 0), .int (nI c)])), (w, .inl (zc Z 0, (cap, .inl g)))]) rfl ?_
  refine j_call O (jc_SU (ci := 13) (b := a) (as' := [.ref q]) (rest := []) O.1 dJ4_append_15ec4_2 (uq_in (by decide +kernel) (by decide +kernel)) (uq_in (by decide +kernel) (by decide +kernel)) (uq_in (by decide +kernel) (by decide +kernel)) (uq_in (by decide +kernel) (by decide +kernel)) rfl (uq_in (by decide +kernel) (by decide +kernel)) (uq_in (by decide +kernel) (by decide +kernel)) ⟨by decide +kernel, (by decide +kernel : (parseMethodDescriptor yJ5_append_cf1ce.desc).map (fun d => d.parameters.length) = some 1)⟩ rfl ⟨(Nat.le_of_ble_eq_true rfl), (Nat.le_of_ble_eq_true rfl)⟩ (Nat.le_of_ble_eq_true rfl)) (fun sz => j_asbS Z a w cap c g q v n f sz h hc hcap hF hFf) (jS_mv _ _ _ _) (jt_up O.1 (jS_mv _ _ _ _) hX) (j_rw (ci := 13) (q0 := 0) (ws := [] ++ [(a, .inr (13, [.ref w, .int (nI 0), .int (nI 0), .int (nI c)])), (w, .inl (zc Z 0, (cap, .inl g)))]) O.1 rfl rfl) (by omega) (by omega) (fun u hu => ?_)
  obtain ⟨w2, c2, g2⟩ := u
  dsimp only at hu
  obtain ⟨hu21, hu22, hu23, hu24⟩ := hu
  show uV Z C [(a, .inr (13, [.ref w2, .int (nI 0), .int (nI 0), .int (nI (c + n))])), (w2, .inl (zc Z 0, (c2, .inl g2)))] _ _ _ [(0, .ref a), (1, .ref q)] [.ref a]
  refine uv_pop O.1 dJ4_append_15ec4_5 rfl ?_
  refine uv_aload_n O.1 dJ4_append_15ec4_6 0 rfl rfl ?_
  refine uv_widen (k' := 1) (n' := 150) (by omega) (by omega) ?_
  exact jr_a (w2, c2, g2) O hr (Or.inl ⟨_, rfl⟩) hlk hE ⟨hu21, hu22, hu23, hu24⟩ rfl dJ4_append_15ec4_7

set_option maxHeartbeats 4000000 in
theorem j_canE (Z : ZT) (b : Nat) (sz : Nat) (hb : b < 256) : MkJ (S := Unit) Z yJ1_canEncode_fc78d cJ1_canEncode_fc78d 1 (some .boolean) 0 0 0 0 [.int (nI b)] jX0 [] (fun u => some (.int (nI 1))) (fun u => True) (fun u => []) sz := by
  refine j_mk (by decide +kernel) (Nat.le_of_ble_eq_true rfl) (fun C O hnm hX hr hlk hE => ?_)
  have O : jOk Z C RJ1 cJ1_canEncode_fc78d 1 0 0 0 0 := O
  have hnm : (c_h C).name = "canEncode" := hnm
  show uV Z C [] 0 0 0 [(0, .int (nI b))] []
  refine uv_iload_n O.1 dJ1_canEncode_fc78d_0 0 rfl rfl ?_
  refine uv_sipush O.1 dJ1_canEncode_fc78d_1 (nI 255) rfl ?_
  refine uv_icmp_gt 11 O.1 dJ1_canEncode_fc78d_4 rfl (fun hh => absurd hh (j_nlt (by omega) (by omega))) (fun _ => ?_)
  refine uv_iconst O.1 dJ1_canEncode_fc78d_7 (nI 1) rfl ?_
  refine uv_goto 12 O.1 dJ1_canEncode_fc78d_8 rfl ?_
  refine uv_widen (k' := 0) (n' := 0) (by omega) (by omega) ?_
  exact jr_z () O hr rfl hlk hE trivial rfl dJ1_canEncode_fc78d_12

set_option maxHeartbeats 4000000 in
theorem j_asbL (Z : ZT) (a w cap c : Nat) (g : Nat → Int32) (sz : Nat)  : MkJ (S := Unit) Z yJ5_isLatin1_aae02 cJ5_isLatin1_aae02 1 (some .boolean) 0 0 0 0 [.ref a] jX0 [(a, .inr (13, [.ref w, .int (nI 0), .int (nI 0), .int (nI c)])), (w, .inl (zc Z 0, (cap, .inl g)))] (fun u => some (.int (nI 1))) (fun u => True) (fun u => [(a, .inr (13, [.ref w, .int (nI 0), .int (nI 0), .int (nI c)])), (w, .inl (zc Z 0, (cap, .inl g)))]) sz := by
  refine j_mk (by decide +kernel) (Nat.le_of_ble_eq_true rfl) (fun C O hnm hX hr hlk hE => ?_)
  have O : jOk Z C RJ5 cJ5_isLatin1_aae02 1 0 0 0 0 := O
  have hnm : (c_h C).name = "isLatin1" := hnm
  show uV Z C [(a, .inr (13, [.ref w, .int (nI 0), .int (nI 0), .int (nI c)])), (w, .inl (zc Z 0, (cap, .inl g)))] 0 0 0 [(0, .ref a)] []
  refine uv_compact O dJ5_isLatin1_aae02_0 (uq_in (by decide +kernel) (by decide +kernel)) ?_
  refine uv_eqF 17 O.1 dJ5_isLatin1_aae02_3 rfl (by decide +kernel) ?_
  refine uv_aload_n O.1 dJ5_isLatin1_aae02_6 0 rfl rfl ?_
  refine uv_getJ O.1 dJ5_isLatin1_aae02_7 0 rfl rfl uxJ4 1 (Nat.le_of_ble_eq_true rfl) (uq_in (by decide +kernel) (by decide +kernel)) rfl ?_
  refine uv_neF 17 O.1 dJ5_isLatin1_aae02_10 rfl rfl ?_
  refine uv_iconst O.1 dJ5_isLatin1_aae02_13 (nI 1) rfl ?_
  refine uv_goto 18 O.1 dJ5_isLatin1_aae02_14 rfl ?_
  refine uv_widen (k' := 0) (n' := 0) (by omega) (by omega) ?_
  exact jr_z () O hr rfl hlk hE trivial rfl dJ5_isLatin1_aae02_18

set_option maxHeartbeats 4000000 in
theorem j_asbC (Z : ZT) (a w cap c b : Nat) (g : Nat → Int32) (sz : Nat) (h : c + 1 ≤ 70) (hc : c ≤ cap) (hcap : cap ≤ 150) (hF : jF g) (hb : b < 256) : MkJ (S := Nat × Nat × (Nat → Int32)) Z yJ5_append_3fe6f cJ5_append_3fe6f 2 (some (.object "java/lang/AbstractStringBuilder")) 4 1 150 91 [.ref a, .int (nI b)] jX0 [(a, .inr (13, [.ref w, .int (nI 0), .int (nI 0), .int (nI c)])), (w, .inl (zc Z 0, (cap, .inl g)))] (fun u => some (.ref a)) (fun u => c + 1 ≤ u.2.1 ∧ u.2.1 ≤ 150 ∧ ((∀ j, j < c → u.2.2 j = g j) ∧ u.2.2 c = zsg b) ∧ jF u.2.2) (fun u => [(a, .inr (13, [.ref u.1, .int (nI 0), .int (nI 0), .int (nI (c + 1))])), (u.1, .inl (zc Z 0, (u.2.1, .inl u.2.2)))]) sz := by
  refine j_mk (by decide +kernel) (Nat.le_of_ble_eq_true rfl) (fun C O hnm hX hr hlk hE => ?_)
  have O : jOk Z C RJ5 cJ5_append_3fe6f 2 4 91 1 150 := O
  have hnm : (c_h C).name = "append" := hnm
  show uV Z C [(a, .inr (13, [.ref w, .int (nI 0), .int (nI 0), .int (nI c)])), (w, .inl (zc Z 0, (cap, .inl g)))] 0 0 0 [(0, .ref a), (1, .int (nI b))] []
  refine uv_aload_n O.1 dJ5_append_3fe6f_0 0 rfl rfl ?_
  refine uv_aload_n O.1 dJ5_append_3fe6f_1 0 rfl rfl ?_
  refine uv_getJ O.1 dJ5_append_3fe6f_2 0 rfl rfl uxJ4 3 (Nat.le_of_ble_eq_true rfl) (uq_in (by decide +kernel) (by decide +kernel)) rfl ?_
  refine uv_iconst O.1 dJ5_append_3fe6f_5 (nI 1) rfl ?_
  refine uv_iaddE (z := nI (c + 1)) O.1 dJ5_append_3fe6f_6 (zI.1 _ _) ?_
  refine uv_eq (ws' := [] ++ [(a, .inr (13, [.ref w, .int (nI 0), .int (nI 0), .int (nI c)])), (w, .inl (zc Z 0, (cap, .inl g)))]) rfl ?_
  refine j_call O (jc_V (y := yJ5_ensureCapacityInternal_d00df) (C0 := RJ4) (b := a) (as' := [.int (nI (c + 1))]) (rest := []) O.1 dJ5_append_3fe6f_7 (uq_in (by decide +kernel) (by decide +kernel)) (uq_in (by decide +kernel) (by decide +kernel)) (O.1.2.2.2.2.1 (Cond.selects RJ4 yJ5_ensureCapacityInternal_d00df yJ5_ensureCapacityInternal_d00df) (ux_in (by decide +kernel) (by decide +kernel))) (uq_in (by decide +kernel) (by decide +kernel)) (uq_in (by decide +kernel) (by decide +kernel)) ⟨by decide +kernel, by decide +kernel, (by decide +kernel : (parseMethodDescriptor yJ5_ensureCapacityInternal_d00df.desc).map (fun d => d.parameters.length) = some 1)⟩ rfl ⟨(Nat.le_of_ble_eq_true rfl), (Nat.le_of_ble_eq_true rfl)⟩ (Nat.le_of_ble_eq_true rfl)) (fun sz => j_ens Z a w cap c (c + 1) g sz h hc hcap hF) jX0_mv jt_0 (j_rw (ci := 13) (q0 := 0) (ws := [] ++ [(a, .inr (13, [.ref w, .int (nI 0), .int (nI 0), .int (nI c)])), (w, .inl (zc Z 0, (cap, .inl g)))]) O.1 rfl rfl) (by omega) (by omega) (fun u hu => ?_)
  obtain ⟨w2, c2, g2⟩ := u
  dsimp only at hu
  obtain ⟨hu21, hu22, hu23, hu24⟩ := hu
  show uV Z C [(a, .inr (13, [.ref w2, .int (nI 0), .int (nI 0), .int (nI c)])), (w2, .inl (zc Z 0, (c2, .inl g2)))] _ _ _ [(0, .ref a), (1, .int (nI b))] []
  refine uv_aload_n O.1 dJ5_append_3fe6f_10 0 rfl rfl ?_
  refine uv_eq (ws' := [] ++ [(a, .inr (13, [.ref w2, .int (nI 0), .int (nI 0), .int (nI c)])), (w2, .inl (zc Z 0, (c2, .inl g2)))]) rfl ?_
  refine j_call O (jc_V (y := yJ5_isLatin1_aae02) (C0 := RJ4) (b := a) (as' := []) (rest := []) O.1 dJ5_append_3fe6f_11 (uq_in (by decide +kernel) (by decide +kernel)) (uq_in (by decide +kernel) (by decide +kernel)) (O.1.2.2.2.2.1 (Cond.selects RJ4 yJ5_isLatin1_aae02 yJ5_isLatin1_aae02) (uq_in (by decide +kernel) (by decide +kernel))) (uq_in (by decide +kernel) (by decide +kernel)) (uq_in (by decide +kernel) (by decide +kernel)) ⟨by decide +kernel, by decide +kernel, (by decide +kernel : (parseMethodDescriptor yJ5_isLatin1_aae02.desc).map (fun d => d.parameters.length) = some 0)⟩ rfl ⟨(Nat.le_of_ble_eq_true rfl), (Nat.le_of_ble_eq_true rfl)⟩ (Nat.le_of_ble_eq_true rfl)) (fun sz => j_asbL Z a w2 c2 c g2 sz) jX0_mv jt_0 (j_rw (ci := 13) (q0 := 0) (ws := [] ++ [(a, .inr (13, [.ref w2, .int (nI 0), .int (nI 0), .int (nI c)])), (w2, .inl (zc Z 0, (c2, .inl g2)))]) O.1 rfl rfl) (by omega) (by omega) (fun u hu => ?_)
  show uV Z C [(a, .inr (13, [.ref w2, .int (nI 0), .int (nI 0), .int (nI c)])), (w2, .inl (zc Z 0, (c2, .inl g2)))] _ _ _ [(0, .ref a), (1, .int (nI b))] [.int (nI 1)]
  refine uv_eqF 45 O.1 dJ5_append_3fe6f_14 rfl (by decide +kernel) ?_
  refine uv_iload_n O.1 dJ5_append_3fe6f_17 1 rfl rfl ?_
  refine uv_eq (ws' := [(a, .inr (13, [.ref w2, .int (nI 0), .int (nI 0), .int (nI c)])), (w2, .inl (zc Z 0, (c2, .inl g2)))] ++ []) rfl ?_
  refine j_call O (jc_S (as := [.int (nI b)]) (rest := []) O.1 dJ5_append_3fe6f_18 (uq_in (by decide +kernel) (by decide +kernel)) (uq_in (by decide +kernel) (by decide +kernel)) (uq_in (by decide +kernel) (by decide +kernel)) (uq_in (by decide +kernel) (by decide +kernel)) ⟨by decide +kernel, by decide +kernel, (by decide +kernel : (parseMethodDescriptor yJ1_canEncode_fc78d.desc).map (fun d => d.parameters.length) = some 1)⟩ rfl ⟨(Nat.le_of_ble_eq_true rfl), (Nat.le_of_ble_eq_true rfl)⟩ (Nat.le_of_ble_eq_true rfl)) (fun sz => j_canE Z b sz hb) jX0_mv jt_0 j_r0 (by omega) (by omega) (fun u hu => ?_)
  show uV Z C [(a, .inr (13, [.ref w2, .int (nI 0), .int (nI 0), .int (nI c)])), (w2, .inl (zc Z 0, (c2, .inl g2)))] _ _ _ [(0, .ref a), (1, .int (nI b))] [.int (nI 1)]
  refine uv_eqF 45 O.1 dJ5_append_3fe6f_21 rfl (by decide +kernel) ?_
  refine uv_aload_n O.1 dJ5_append_3fe6f_24 0 rfl rfl ?_
  refine uv_getJ O.1 dJ5_append_3fe6f_25 0 rfl rfl uxJ4 0 (Nat.le_of_ble_eq_true rfl) (uq_in (by decide +kernel) (by decide +kernel)) rfl ?_
  refine uv_aload_n O.1 dJ5_append_3fe6f_28 0 rfl rfl ?_
  refine uv_dup O.1 dJ5_append_3fe6f_29 rfl ?_
  refine uv_getJ O.1 dJ5_append_3fe6f_30 0 rfl rfl uxJ4 3 (Nat.le_of_ble_eq_true rfl) (uq_in (by decide +kernel) (by decide +kernel)) rfl ?_
  refine uv_dup_x1 O.1 dJ5_append_3fe6f_33 rfl rfl ?_
  refine uv_iconst O.1 dJ5_append_3fe6f_34 (nI 1) rfl ?_
  refine uv_iaddE (z := nI (c + 1)) O.1 dJ5_append_3fe6f_35 (zI.1 _ _) ?_
  refine uv_putJ O.1 dJ5_append_3fe6f_36 0 rfl rfl uxJ4 tyJ4 tyJ4_ok nmJ4 3 (Nat.le_of_ble_eq_true rfl) (uq_in (by decide +kernel) (by decide +kernel)) rfl rfl (by first | rfl | decide +kernel) (by first | rfl | decide +kernel) (Nat.le_of_ble_eq_true rfl) ?_
  show uV Z C [(a, .inr (13, [.ref w2, .int (nI 0), .int (nI 0), .int (nI (c + 1))])), (w2, .inl (zc Z 0, (c2, .inl g2)))] _ _ _ [(0, .ref a), (1, .int (nI b))] [.int (nI c), .ref w2]
  refine uv_iload_n O.1 dJ5_append_3fe6f_39 1 rfl rfl ?_
  refine uv_i2b (z := (nI b).toInt8.toInt32) O.1 dJ5_append_3fe6f_40 rfl ?_
  refine uv_bast (w := c) O.1 dJ5_append_3fe6f_41 1 rfl rfl (by omega) (by omega) ?_
  show uV Z C [(a, .inr (13, [.ref w2, .int (nI 0), .int (nI 0), .int (nI (c + 1))])), (w2, .inl (zc Z 0, (c2, .inl (upd g2 c ((nI b).toInt8.toInt32).toInt8.toInt32))))] _ _ _ [(0, .ref a), (1, .int (nI b))] []
  refine uv_goto 75 O.1 dJ5_append_3fe6f_42 rfl ?_
  refine uv_aload_n O.1 dJ5_append_3fe6f_75 0 rfl rfl ?_
  refine uv_widen (k' := 1) (n' := 150) (by omega) (by omega) ?_
  exact jr_a (w2, c2, (upd g2 c (nI b).toInt8.toInt32.toInt8.toInt32)) O hr (Or.inl ⟨_, rfl⟩) hlk hE ⟨hu21, hu22, ⟨fun j hj => by show (upd g2 c (nI b).toInt8.toInt32.toInt8.toInt32) j = g j; rw [pk_un (by omega)]; exact hu23 j hj, by show (upd g2 c (nI b).toInt8.toInt32.toInt8.toInt32) c = zsg b; rw [pk_us]; exact zsg_nn b⟩, jF_upd hu24⟩ rfl dJ5_append_3fe6f_76

set_option maxHeartbeats 4000000 in
theorem j_sbC (Z : ZT) (a w cap c b : Nat) (g : Nat → Int32) (sz : Nat) (h : c + 1 ≤ 70) (hc : c ≤ cap) (hcap : cap ≤ 150) (hF : jF g) (hb : b < 256) : MkJ (S := Nat × Nat × (Nat → Int32)) Z yJ4_append_cf468 cJ4_append_cf468 2 (some (.object "java/lang/StringBuilder")) 5 1 150 112 [.ref a, .int (nI b)] jX0 [(a, .inr (13, [.ref w, .int (nI 0), .int (nI 0), .int (nI c)])), (w, .inl (zc Z 0, (cap, .inl g)))] (fun u => some (.ref a)) (fun u => c + 1 ≤ u.2.1 ∧ u.2.1 ≤ 150 ∧ ((∀ j, j < c → u.2.2 j = g j) ∧ u.2.2 c = zsg b) ∧ jF u.2.2) (fun u => [(a, .inr (13, [.ref u.1, .int (nI 0), .int (nI 0), .int (nI (c + 1))])), (u.1, .inl (zc Z 0, (u.2.1, .inl u.2.2)))]) sz := by
  refine j_mk (by decide +kernel) (Nat.le_of_ble_eq_true rfl) (fun C O hnm hX hr hlk hE => ?_)
  have O : jOk Z C RJ4 cJ4_append_cf468 2 5 112 1 150 := O
  have hnm : (c_h C).name = "append" := hnm
  show uV Z C [(a, .inr (13, [.ref w, .int (nI 0), .int (nI 0), .int (nI c)])), (w, .inl (zc Z 0, (cap, .inl g)))] 0 0 0 [(0, .ref a), (1, .int (nI b))] []
  refine uv_aload_n O.1 dJ4_append_cf468_0 0 rfl rfl ?_
  refine uv_iload_n O.1 dJ4_append_cf468_1 1 rfl rfl ?_
  refine uv_eq (ws' := [] ++ [(a, .inr (13, [.ref w, .int (nI 0), .int (nI 0), .int (nI c)])), (w, .inl (zc Z 0, (cap, .inl g)))]) rfl ?_
  refine j_call O (jc_SU (ci := 13) (b := a) (as' := [.int (nI b)]) (rest := []) O.1 dJ4_append_cf468_2 (uq_in (by decide +kernel) (by decide +kernel)) (uq_in (by decide +kernel) (by decide +kernel)) (uq_in (by decide +kernel) (by decide +kernel)) (uq_in (by decide +kernel) (by decide +kernel)) rfl (uq_in (by decide +kernel) (by decide +kernel)) (uq_in (by decide +kernel) (by decide +kernel)) ⟨by decide +kernel, (by decide +kernel : (parseMethodDescriptor yJ5_append_3fe6f.desc).map (fun d => d.parameters.length) = some 1)⟩ rfl ⟨(Nat.le_of_ble_eq_true rfl), (Nat.le_of_ble_eq_true rfl)⟩ (Nat.le_of_ble_eq_true rfl)) (fun sz => j_asbC Z a w cap c b g sz h hc hcap hF hb) jX0_mv jt_0 (j_rw (ci := 13) (q0 := 0) (ws := [] ++ [(a, .inr (13, [.ref w, .int (nI 0), .int (nI 0), .int (nI c)])), (w, .inl (zc Z 0, (cap, .inl g)))]) O.1 rfl rfl) (by omega) (by omega) (fun u hu => ?_)
  obtain ⟨w2, c2, g2⟩ := u
  dsimp only at hu
  obtain ⟨hu21, hu22, hu23, hu24⟩ := hu
  show uV Z C [(a, .inr (13, [.ref w2, .int (nI 0), .int (nI 0), .int (nI (c + 1))])), (w2, .inl (zc Z 0, (c2, .inl g2)))] _ _ _ [(0, .ref a), (1, .int (nI b))] [.ref a]
  refine uv_pop O.1 dJ4_append_cf468_5 rfl ?_
  refine uv_aload_n O.1 dJ4_append_cf468_6 0 rfl rfl ?_
  refine uv_widen (k' := 1) (n' := 150) (by omega) (by omega) ?_
  exact jr_a (w2, c2, g2) O hr (Or.inl ⟨_, rfl⟩) hlk hE ⟨hu21, hu22, hu23, hu24⟩ rfl dJ4_append_cf468_7

set_option maxHeartbeats 4000000 in
theorem j_getV (Z : ZT) (a w cap c : Nat) (g : Nat → Int32) (sz : Nat)  : MkJ (S := Unit) Z yJ5_getValue_6d5f1 cJ5_getValue_6d5f1 1 (some (.array .byte)) 0 0 0 0 [.ref a] jX0 [(a, .inr (13, [.ref w, .int (nI 0), .int (nI 0), .int (nI c)])), (w, .inl (zc Z 0, (cap, .inl g)))] (fun u => some (.ref w)) (fun u => True) (fun u => [(a, .inr (13, [.ref w, .int (nI 0), .int (nI 0), .int (nI c)])), (w, .inl (zc Z 0, (cap, .inl g)))]) sz := by
  refine j_mk (by decide +kernel) (Nat.le_of_ble_eq_true rfl) (fun C O hnm hX hr hlk hE => ?_)
  have O : jOk Z C RJ5 cJ5_getValue_6d5f1 1 0 0 0 0 := O
  have hnm : (c_h C).name = "getValue" := hnm
  show uV Z C [(a, .inr (13, [.ref w, .int (nI 0), .int (nI 0), .int (nI c)])), (w, .inl (zc Z 0, (cap, .inl g)))] 0 0 0 [(0, .ref a)] []
  refine uv_aload_n O.1 dJ5_getValue_6d5f1_0 0 rfl rfl ?_
  refine uv_getJ O.1 dJ5_getValue_6d5f1_1 0 rfl rfl uxJ4 0 (Nat.le_of_ble_eq_true rfl) (uq_in (by decide +kernel) (by decide +kernel)) rfl ?_
  refine uv_widen (k' := 0) (n' := 0) (by omega) (by omega) ?_
  exact jr_a () O hr (Or.inr ⟨_, rfl⟩) hlk hE trivial rfl dJ5_getValue_6d5f1_4

set_option maxHeartbeats 4000000 in
theorem j_asbLen (Z : ZT) (a w cap c : Nat) (g : Nat → Int32) (sz : Nat)  : MkJ (S := Unit) Z yJ5_length_8abf5 cJ5_length_8abf5 1 (some .int) 0 0 0 0 [.ref a] jX0 [(a, .inr (13, [.ref w, .int (nI 0), .int (nI 0), .int (nI c)])), (w, .inl (zc Z 0, (cap, .inl g)))] (fun u => some (.int (nI c))) (fun u => True) (fun u => [(a, .inr (13, [.ref w, .int (nI 0), .int (nI 0), .int (nI c)])), (w, .inl (zc Z 0, (cap, .inl g)))]) sz := by
  refine j_mk (by decide +kernel) (Nat.le_of_ble_eq_true rfl) (fun C O hnm hX hr hlk hE => ?_)
  have O : jOk Z C RJ5 cJ5_length_8abf5 1 0 0 0 0 := O
  have hnm : (c_h C).name = "length" := hnm
  show uV Z C [(a, .inr (13, [.ref w, .int (nI 0), .int (nI 0), .int (nI c)])), (w, .inl (zc Z 0, (cap, .inl g)))] 0 0 0 [(0, .ref a)] []
  refine uv_aload_n O.1 dJ5_length_8abf5_0 0 rfl rfl ?_
  refine uv_getJ O.1 dJ5_length_8abf5_1 0 rfl rfl uxJ4 3 (Nat.le_of_ble_eq_true rfl) (uq_in (by decide +kernel) (by decide +kernel)) rfl ?_
  refine uv_widen (k' := 0) (n' := 0) (by omega) (by omega) ?_
  exact jr_i () O hr hlk hE trivial rfl dJ5_length_8abf5_4

set_option maxHeartbeats 4000000 in
theorem j_sbLen (Z : ZT) (a w cap c : Nat) (g : Nat → Int32) (sz : Nat)  : MkJ (S := Unit) Z yJ4_length_8abf5 cJ4_length_8abf5 1 (some .int) 1 0 0 20 [.ref a] jX0 [(a, .inr (13, [.ref w, .int (nI 0), .int (nI 0), .int (nI c)])), (w, .inl (zc Z 0, (cap, .inl g)))] (fun u => some (.int (nI c))) (fun u => True) (fun u => [(a, .inr (13, [.ref w, .int (nI 0), .int (nI 0), .int (nI c)])), (w, .inl (zc Z 0, (cap, .inl g)))]) sz := by
  refine j_mk (by decide +kernel) (Nat.le_of_ble_eq_true rfl) (fun C O hnm hX hr hlk hE => ?_)
  have O : jOk Z C RJ4 cJ4_length_8abf5 1 1 20 0 0 := O
  have hnm : (c_h C).name = "length" := hnm
  show uV Z C [(a, .inr (13, [.ref w, .int (nI 0), .int (nI 0), .int (nI c)])), (w, .inl (zc Z 0, (cap, .inl g)))] 0 0 0 [(0, .ref a)] []
  refine uv_aload_n O.1 dJ4_length_8abf5_0 0 rfl rfl ?_
  refine uv_eq (ws' := [] ++ [(a, .inr (13, [.ref w, .int (nI 0), .int (nI 0), .int (nI c)])), (w, .inl (zc Z 0, (cap, .inl g)))]) rfl ?_
  refine j_call O (jc_SU (ci := 13) (b := a) (as' := []) (rest := []) O.1 dJ4_length_8abf5_1 (uq_in (by decide +kernel) (by decide +kernel)) (uq_in (by decide +kernel) (by decide +kernel)) (uq_in (by decide +kernel) (by decide +kernel)) (uq_in (by decide +kernel) (by decide +kernel)) rfl (uq_in (by decide +kernel) (by decide +kernel)) (uq_in (by decide +kernel) (by decide +kernel)) ⟨by decide +kernel, (by decide +kernel : (parseMethodDescriptor yJ5_length_8abf5.desc).map (fun d => d.parameters.length) = some 0)⟩ rfl ⟨(Nat.le_of_ble_eq_true rfl), (Nat.le_of_ble_eq_true rfl)⟩ (Nat.le_of_ble_eq_true rfl)) (fun sz => j_asbLen Z a w cap c g sz) jX0_mv jt_0 (j_rw (ci := 13) (q0 := 0) (ws := [] ++ [(a, .inr (13, [.ref w, .int (nI 0), .int (nI 0), .int (nI c)])), (w, .inl (zc Z 0, (cap, .inl g)))]) O.1 rfl rfl) (by omega) (by omega) (fun u hu => ?_)
  show uV Z C [(a, .inr (13, [.ref w, .int (nI 0), .int (nI 0), .int (nI c)])), (w, .inl (zc Z 0, (cap, .inl g)))] _ _ _ [(0, .ref a)] [.int (nI c)]
  refine uv_widen (k' := 0) (n' := 0) (by omega) (by omega) ?_
  exact jr_i () O hr hlk hE trivial rfl dJ4_length_8abf5_4

set_option maxHeartbeats 4000000 in
theorem j_chkL (Z : ZT) (m : Nat) (sz : Nat) (hm : m ≤ 600) : MkJ (S := Unit) Z yJ7_checkLength_df160 cJ7_checkLength_df160 2 none 0 0 0 0 [.int (nI 0), .int (nI m)] jX0 [] (fun u => none) (fun u => True) (fun u => []) sz := by
  refine j_mk (by decide +kernel) (Nat.le_of_ble_eq_true rfl) (fun C O hnm hX hr hlk hE => ?_)
  have O : jOk Z C RJ7 cJ7_checkLength_df160 2 0 0 0 0 := O
  have hnm : (c_h C).name = "checkLength" := hnm
  show uV Z C [] 0 0 0 [(0, .int (nI 0)), (1, .int (nI m))] []
  refine uv_iload_n O.1 dJ7_checkLength_df160_0 1 rfl rfl ?_
  refine uv_iload_n O.1 dJ7_checkLength_df160_1 0 rfl rfl ?_
  refine uv_icmp_ge 37 O.1 dJ7_checkLength_df160_2 rfl (fun _ => ?_) (fun hh => absurd (j_le (Nat.zero_le _) (by omega)) hh)
  refine uv_widen (k' := 0) (n' := 0) (by omega) (by omega) ?_
  exact jr_v () O hr hlk hE trivial rfl dJ7_checkLength_df160_37

set_option maxHeartbeats 4000000 in
theorem j_corY (Z : ZT) (v cap m : Nat) (g : Nat → Int32) (sz : Nat) (hm : m ≤ cap) (h : m ≤ 70) (hcap : cap ≤ 150) (hF : jF g) : MkJ (S := Nat × (Nat → Int32)) Z yJ7_copyOfRangeByte_39247 cJ7_copyOfRangeByte_39247 5 (some (.array .byte)) 1 1 70 40 [.ref v, .int (nI 0), .int (nI m)] jX0 [(v, .inl (zc Z 0, (cap, .inl g)))] (fun u => some (.ref u.1)) (fun u => (∀ j, j < m → u.2 j = g j) ∧ jF u.2) (fun u => [(v, .inl (zc Z 0, (cap, .inl g))), (u.1, .inl (zc Z 0, (m, .inl u.2)))]) sz := by
  refine j_mk (by decide +kernel) (Nat.le_of_ble_eq_true rfl) (fun C O hnm hX hr hlk hE => ?_)
  have O : jOk Z C RJ7 cJ7_copyOfRangeByte_39247 5 1 40 1 70 := O
  have hnm : (c_h C).name = "copyOfRangeByte" := hnm
  show uV Z C [(v, .inl (zc Z 0, (cap, .inl g)))] 0 0 0 [(0, .ref v), (1, .int (nI 0)), (2, .int (nI m))] []
  refine uv_iload_n O.1 dJ7_copyOfRangeByte_39247_0 1 rfl rfl ?_
  refine uv_iload_n O.1 dJ7_copyOfRangeByte_39247_1 2 rfl rfl ?_
  refine uv_eq (ws' := [(v, .inl (zc Z 0, (cap, .inl g)))] ++ []) rfl ?_
  refine j_call O (jc_S (as := [.int (nI 0), .int (nI m)]) (rest := []) O.1 dJ7_copyOfRangeByte_39247_2 (uq_in (by decide +kernel) (by decide +kernel)) (uq_in (by decide +kernel) (by decide +kernel)) (uq_in (by decide +kernel) (by decide +kernel)) (uq_in (by decide +kernel) (by decide +kernel)) ⟨by decide +kernel, by decide +kernel, (by decide +kernel : (parseMethodDescriptor yJ7_checkLength_df160.desc).map (fun d => d.parameters.length) = some 2)⟩ rfl ⟨(Nat.le_of_ble_eq_true rfl), (Nat.le_of_ble_eq_true rfl)⟩ (Nat.le_of_ble_eq_true rfl)) (fun sz => j_chkL Z m sz (by omega)) jX0_mv jt_0 j_r0 (by omega) (by omega) (fun u hu => ?_)
  show uV Z C [(v, .inl (zc Z 0, (cap, .inl g)))] _ _ _ [(0, .ref v), (1, .int (nI 0)), (2, .int (nI m))] []
  refine uv_iload_n O.1 dJ7_copyOfRangeByte_39247_5 2 rfl rfl ?_
  refine uv_iload_n O.1 dJ7_copyOfRangeByte_39247_6 1 rfl rfl ?_
  refine uv_isub (z := nI m) O.1 dJ7_copyOfRangeByte_39247_7 (zi_sub (b := 0) (by omega)) ?_
  refine uv_istore_n O.1 dJ7_copyOfRangeByte_39247_8 rfl (by omega) [(3, .int (nI m)), (0, .ref v), (1, .int (nI 0)), (2, .int (nI m))] rfl ?_
  refine uv_iload_n O.1 dJ7_copyOfRangeByte_39247_9 0 rfl rfl ?_
  refine uv_newb (N := m) O.1 dJ7_copyOfRangeByte_39247_10 (uq_in (by decide +kernel) (by decide +kernel)) rfl (by omega) (by omega) (by omega) (fun b1 => ?_)
  show uV Z C [(v, .inl (zc Z 0, (cap, .inl g))), (b1, .inl (zc Z 0, (m, .inl (fun _ => 0))))] _ _ _ [(3, .int (nI m)), (0, .ref v), (1, .int (nI 0)), (2, .int (nI m))] [.ref b1]
  refine uv_astore O.1 dJ7_copyOfRangeByte_39247_12 (by omega) [(4, .ref b1), (3, .int (nI m)), (0, .ref v), (1, .int (nI 0)), (2, .int (nI m))] rfl ?_
  refine uv_aload_n O.1 dJ7_copyOfRangeByte_39247_14 2 rfl rfl ?_
  refine uv_iload_n O.1 dJ7_copyOfRangeByte_39247_15 3 rfl rfl ?_
  refine uv_aload O.1 dJ7_copyOfRangeByte_39247_16 0 rfl ?_
  refine uv_iconst O.1 dJ7_copyOfRangeByte_39247_18 (nI 0) rfl ?_
  refine uv_aload_n O.1 dJ7_copyOfRangeByte_39247_19 2 rfl rfl ?_
  refine uv_alen O.1 dJ7_copyOfRangeByte_39247_20 0 0 rfl rfl (v := nI cap) rfl ?_
  refine uv_iload_n O.1 dJ7_copyOfRangeByte_39247_21 3 rfl rfl ?_
  refine uv_isub (z := nI cap) O.1 dJ7_copyOfRangeByte_39247_22 (zi_sub (b := 0) (by omega)) ?_
  refine uv_iload_n O.1 dJ7_copyOfRangeByte_39247_23 1 rfl rfl ?_
  refine uv_mmin (z := nI m) O.1 dJ7_copyOfRangeByte_39247_24 (uq_in (by decide +kernel) (by decide +kernel)) (uq_in (by decide +kernel) (by decide +kernel)) (uq_in (by decide +kernel) (by decide +kernel)) (uq_in (by decide +kernel) (by decide +kernel)) (Nat.le_of_ble_eq_true rfl) (Nat.le_of_ble_eq_true rfl) (Nat.le_of_ble_eq_true rfl) (j_minR (by omega) (by omega)) (by omega) (by omega) ?_
  refine uv_copyW (sp := 0) (dp := 0) (c := m) O.1 dJ7_copyOfRangeByte_39247_27 (uq_in (by decide +kernel) (by decide +kernel)) (uq_in (by decide +kernel) (by decide +kernel)) (uq_in (by decide +kernel) (by decide +kernel)) (uq_in (by decide +kernel) (by decide +kernel)) 0 1 rfl rfl hF (by omega) (by omega) (by omega) (Nat.le_of_ble_eq_true rfl) (Nat.le_of_ble_eq_true rfl) (Nat.le_of_ble_eq_true rfl) ?_
  show uV Z C [(v, .inl (zc Z 0, (cap, .inl g))), (b1, .inl (zc Z 0, (m, .inl (va_cpy g (fun _ => 0) 0 0 m))))] _ _ _ [(4, .ref b1), (3, .int (nI m)), (0, .ref v), (1, .int (nI 0)), (2, .int (nI m))] []
  refine uv_aload O.1 dJ7_copyOfRangeByte_39247_30 0 rfl ?_
  refine uv_widen (k' := 1) (n' := 70) (by omega) (by omega) ?_
  exact jr_a (b1, va_cpy g (fun _ => 0) 0 0 m) O hr (Or.inr ⟨_, rfl⟩) hlk hE ⟨fun j hj => by show va_cpy g (fun _ => 0) 0 0 m j = g j; rw [pk_cpy_in (by omega) (by omega)]; congr 1; omega, jF_cpy hF jF_0⟩ rfl dJ7_copyOfRangeByte_39247_32

set_option maxHeartbeats 4000000 in
theorem j_corA (Z : ZT) (v cap : Nat) (g : Nat → Int32) (sz : Nat) (h : cap ≤ 70) (hF : jF g) : MkJ (S := Nat × (Nat → Int32)) Z yJ7_copyOfRange_39247 cJ7_copyOfRange_39247 3 (some (.array .byte)) 2 1 70 64 [.ref v, .int (nI 0), .int (nI cap)] jX0 [(v, .inl (zc Z 0, (cap, .inl g)))] (fun u => some (.ref u.1)) (fun u => (∀ j, j < cap → u.2 j = g j) ∧ jF u.2) (fun u => [(v, .inl (zc Z 0, (cap, .inl g))), (u.1, .inl (zc Z 0, (cap, .inl u.2)))]) sz := by
  refine j_mk (by decide +kernel) (Nat.le_of_ble_eq_true rfl) (fun C O hnm hX hr hlk hE => ?_)
  have O : jOk Z C RJ7 cJ7_copyOfRange_39247 3 2 64 1 70 := O
  have hnm : (c_h C).name = "copyOfRange" := hnm
  show uV Z C [(v, .inl (zc Z 0, (cap, .inl g)))] 0 0 0 [(0, .ref v), (1, .int (nI 0)), (2, .int (nI cap))] []
  refine uv_iload_n O.1 dJ7_copyOfRange_39247_0 1 rfl rfl ?_
  refine uv_neF 10 O.1 dJ7_copyOfRange_39247_1 rfl rfl ?_
  refine uv_iload_n O.1 dJ7_copyOfRange_39247_4 2 rfl rfl ?_
  refine uv_aload_n O.1 dJ7_copyOfRange_39247_5 0 rfl rfl ?_
  refine uv_alen O.1 dJ7_copyOfRange_39247_6 0 0 rfl rfl (v := nI cap) rfl ?_
  refine uv_icmp_eq 17 O.1 dJ7_copyOfRange_39247_7 rfl (fun _ => ?_) (fun hh => absurd rfl hh)
  refine uv_aload_n O.1 dJ7_copyOfRange_39247_17 0 rfl rfl ?_
  refine uv_clone O.1 dJ7_copyOfRange_39247_18 (uq_in (by decide +kernel) (by decide +kernel)) (uq_in (by decide +kernel) (by decide +kernel)) (uq_in (by decide +kernel) (by decide +kernel)) (uq_in (by decide +kernel) (by decide +kernel)) (uq_in (by decide +kernel) (by decide +kernel)) 0 rfl hF (Nat.le_of_ble_eq_true rfl) (Nat.le_of_ble_eq_true rfl) (Nat.le_of_ble_eq_true rfl) (by omega) (by omega) (fun b1 => ?_)
  show uV Z C [(v, .inl (zc Z 0, (cap, .inl g))), (b1, .inl (zc Z 0, (cap, .inl g)))] _ _ _ [(0, .ref v), (1, .int (nI 0)), (2, .int (nI cap))] [.ref b1]
  refine uv_castB O.1 dJ7_copyOfRange_39247_21 (uq_in (by decide +kernel) (by decide +kernel)) 1 rfl ?_
  refine uv_widen (k' := 1) (n' := 70) (by omega) (by omega) ?_
  exact jr_a (b1, g) O hr (Or.inr ⟨_, rfl⟩) hlk hE ⟨fun _ _ => rfl, hF⟩ rfl dJ7_copyOfRange_39247_24

set_option maxHeartbeats 4000000 in
theorem j_corB (Z : ZT) (v cap m : Nat) (g : Nat → Int32) (sz : Nat) (hne : m ≠ cap) (hm : m ≤ cap) (h : m ≤ 70) (hcap : cap ≤ 150) (hF : jF g) : MkJ (S := Nat × (Nat → Int32)) Z yJ7_copyOfRange_39247 cJ7_copyOfRange_39247 3 (some (.array .byte)) 2 1 70 64 [.ref v, .int (nI 0), .int (nI m)] jX0 [(v, .inl (zc Z 0, (cap, .inl g)))] (fun u => some (.ref u.1)) (fun u => (∀ j, j < m → u.2 j = g j) ∧ jF u.2) (fun u => [(v, .inl (zc Z 0, (cap, .inl g))), (u.1, .inl (zc Z 0, (m, .inl u.2)))]) sz := by
  refine j_mk (by decide +kernel) (Nat.le_of_ble_eq_true rfl) (fun C O hnm hX hr hlk hE => ?_)
  have O : jOk Z C RJ7 cJ7_copyOfRange_39247 3 2 64 1 70 := O
  have hnm : (c_h C).name = "copyOfRange" := hnm
  show uV Z C [(v, .inl (zc Z 0, (cap, .inl g)))] 0 0 0 [(0, .ref v), (1, .int (nI 0)), (2, .int (nI m))] []
  refine uv_iload_n O.1 dJ7_copyOfRange_39247_0 1 rfl rfl ?_
  refine uv_neF 10 O.1 dJ7_copyOfRange_39247_1 rfl rfl ?_
  refine uv_iload_n O.1 dJ7_copyOfRange_39247_4 2 rfl rfl ?_
  refine uv_aload_n O.1 dJ7_copyOfRange_39247_5 0 rfl rfl ?_
  refine uv_alen O.1 dJ7_copyOfRange_39247_6 0 0 rfl rfl (v := nI cap) rfl ?_
  refine uv_icmp_eq 17 O.1 dJ7_copyOfRange_39247_7 rfl (fun hh => absurd hh (j_ne hne (by omega) (by omega))) (fun _ => ?_)
  refine uv_aload_n O.1 dJ7_copyOfRange_39247_10 0 rfl rfl ?_
  refine uv_iload_n O.1 dJ7_copyOfRange_39247_11 1 rfl rfl ?_
  refine uv_iload_n O.1 dJ7_copyOfRange_39247_12 2 rfl rfl ?_
  refine uv_eq (ws' := [] ++ [(v, .inl (zc Z 0, (cap, .inl g)))]) rfl ?_
  refine j_call O (jc_S (as := [.ref v, .int (nI 0), .int (nI m)]) (rest := []) O.1 dJ7_copyOfRange_39247_13 (uq_in (by decide +kernel) (by decide +kernel)) (uq_in (by decide +kernel) (by decide +kernel)) (uq_in (by decide +kernel) (by decide +kernel)) (uq_in (by decide +kernel) (by decide +kernel)) ⟨by decide +kernel, by decide +kernel, (by decide +kernel : (parseMethodDescriptor yJ7_copyOfRangeByte_39247.desc).map (fun d => d.parameters.length) = some 3)⟩ rfl ⟨(Nat.le_of_ble_eq_true rfl), (Nat.le_of_ble_eq_true rfl)⟩ (Nat.le_of_ble_eq_true rfl)) (fun sz => j_corY Z v cap m g sz hm h hcap hF) jX0_mv jt_0 j_r0 (by omega) (by omega) (fun u hu => ?_)
  obtain ⟨w1, g1⟩ := u
  dsimp only at hu
  obtain ⟨hu11, hu12⟩ := hu
  show uV Z C [(v, .inl (zc Z 0, (cap, .inl g))), (w1, .inl (zc Z 0, (m, .inl g1)))] _ _ _ [(0, .ref v), (1, .int (nI 0)), (2, .int (nI m))] [.ref w1]
  refine uv_widen (k' := 1) (n' := 70) (by omega) (by omega) ?_
  exact jr_a (w1, g1) O hr (Or.inr ⟨_, rfl⟩) hlk hE ⟨hu11, hu12⟩ rfl dJ7_copyOfRange_39247_16

theorem j_cor (Z : ZT) (v cap m : Nat) (g : Nat → Int32) (sz : Nat) (hm : m ≤ cap) (h : m ≤ 70) (hcap : cap ≤ 150) (hF : jF g) : MkJ (S := Nat × (Nat → Int32)) Z yJ7_copyOfRange_39247 cJ7_copyOfRange_39247 3 (some (.array .byte)) 2 1 70 64 [.ref v, .int (nI 0), .int (nI m)] jX0 [(v, .inl (zc Z 0, (cap, .inl g)))] (fun u => some (.ref u.1)) (fun u => (∀ j, j < m → u.2 j = g j) ∧ jF u.2) (fun u => [(v, .inl (zc Z 0, (cap, .inl g))), (u.1, .inl (zc Z 0, (m, .inl u.2)))]) sz := by
  by_cases hne : m = cap
  · subst hne; exact j_corA Z v m g sz h hF
  · exact j_corB Z v cap m g sz hne hm h hcap hF

set_option maxHeartbeats 4000000 in
theorem j_strI2 (Z : ZT) (q : Nat) (a w cap c : Nat) (g : Nat → Int32) (sz : Nat) (h : c ≤ 70) (hc : c ≤ cap) (hcap : cap ≤ 150) (hF : jF g) : MkJ (S := Nat × (Nat → Int32)) Z yJ0_init_db425 cJ0_init_db425 5 none 3 1 70 86 [.ref q, .ref a, .null] jX0 [(q, .inr (12, [.null, .int (nI 0), .int (nI 0), .int (nI 0)])), (a, .inr (13, [.ref w, .int (nI 0), .int (nI 0), .int (nI c)])), (w, .inl (zc Z 0, (cap, .inl g)))] (fun u => none) (fun u => (∀ j, j < c → u.2 j = g j) ∧ jF u.2) (fun u => [(q, .inr (12, [.ref u.1, .int (nI 0), .int (nI 0), .int (nI 0)])), (a, .inr (13, [.ref w, .int (nI 0), .int (nI 0), .int (nI c)])), (w, .inl (zc Z 0, (cap, .inl g))), (u.1, .inl (zc Z 0, (c, .inl u.2)))]) sz := by
  refine j_mk (by decide +kernel) (Nat.le_of_ble_eq_true rfl) (fun C O hnm hX hr hlk hE => ?_)
  have O : jOk Z C RJ0 cJ0_init_db425 5 3 86 1 70 := O
  have hnm : (c_h C).name = "<init>" := hnm
  show uV Z C [(q, .inr (12, [.null, .int (nI 0), .int (nI 0), .int (nI 0)])), (a, .inr (13, [.ref w, .int (nI 0), .int (nI 0), .int (nI c)])), (w, .inl (zc Z 0, (cap, .inl g)))] 0 0 0 [(0, .ref q), (1, .ref a), (2, .null)] []
  refine uv_aload_n O.1 dJ0_init_db425_0 0 rfl rfl ?_
  refine uv_obj O.1 dJ0_init_db425_1 (uq_in (by decide +kernel) (by decide +kernel)) (uq_in (by decide +kernel) (by decide +kernel)) (uq_in (by decide +kernel) (by decide +kernel)) (Nat.le_of_ble_eq_true rfl) (Nat.le_of_ble_eq_true rfl) (Nat.le_of_ble_eq_true rfl) ?_
  refine uv_aload_n O.1 dJ0_init_db425_4 1 rfl rfl ?_
  refine uv_eq (ws' := [(q, .inr (12, [.null, .int (nI 0), .int (nI 0), .int (nI 0)]))] ++ [(a, .inr (13, [.ref w, .int (nI 0), .int (nI 0), .int (nI c)])), (w, .inl (zc Z 0, (cap, .inl g)))]) rfl ?_
  refine j_call O (jc_V (y := yJ5_getValue_6d5f1) (C0 := RJ4) (b := a) (as' := []) (rest := []) O.1 dJ0_init_db425_5 (uq_in (by decide +kernel) (by decide +kernel)) (uq_in (by decide +kernel) (by decide +kernel)) (O.1.2.2.2.2.1 (Cond.selects RJ4 yJ5_getValue_6d5f1 yJ5_getValue_6d5f1) (uq_in (by decide +kernel) (by decide +kernel))) (uq_in (by decide +kernel) (by decide +kernel)) (uq_in (by decide +kernel) (by decide +kernel)) ⟨by decide +kernel, by decide +kernel, (by decide +kernel : (parseMethodDescriptor yJ5_getValue_6d5f1.desc).map (fun d => d.parameters.length) = some 0)⟩ rfl ⟨(Nat.le_of_ble_eq_true rfl), (Nat.le_of_ble_eq_true rfl)⟩ (Nat.le_of_ble_eq_true rfl)) (fun sz => j_getV Z a w cap c g sz) jX0_mv jt_0 (j_rw (ci := 13) (q0 := 1) (ws := [(q, .inr (12, [.null, .int (nI 0), .int (nI 0), .int (nI 0)]))] ++ [(a, .inr (13, [.ref w, .int (nI 0), .int (nI 0), .int (nI c)])), (w, .inl (zc Z 0, (cap, .inl g)))]) O.1 rfl rfl) (by omega) (by omega) (fun u hu => ?_)
  show uV Z C [(q, .inr (12, [.null, .int (nI 0), .int (nI 0), .int (nI 0)])), (a, .inr (13, [.ref w, .int (nI 0), .int (nI 0), .int (nI c)])), (w, .inl (zc Z 0, (cap, .inl g)))] _ _ _ [(0, .ref q), (1, .ref a), (2, .null)] [.ref w]
  refine uv_astore_n O.1 dJ0_init_db425_8 rfl (by omega) [(3, .ref w), (0, .ref q), (1, .ref a), (2, .null)] rfl ?_
  refine uv_aload_n O.1 dJ0_init_db425_9 2 rfl rfl ?_
  refine uv_eq (ws' := [(q, .inr (12, [.null, .int (nI 0), .int (nI 0), .int (nI 0)]))] ++ [(a, .inr (13, [.ref w, .int (nI 0), .int (nI 0), .int (nI c)])), (w, .inl (zc Z 0, (cap, .inl g)))]) rfl ?_
  refine j_call O (jc_O (b0 := cJ5_length_8abf5) (m0 := 1) (r0 := some .int) (C0 := RJ4) (owner := RJ5) (x := yJ5_length_8abf5) (b := a) (as' := []) (rest := []) O.1 dJ0_init_db425_10 (uq_in (by decide +kernel) (by decide +kernel)) (uq_in (by decide +kernel) (by decide +kernel)) (uq_in (by decide +kernel) (by decide +kernel)) (uq_in (by decide +kernel) (by decide +kernel)) (uq_in (by decide +kernel) (by decide +kernel)) (uq_in (by decide +kernel) (by decide +kernel)) (uq_in (by decide +kernel) (by decide +kernel)) (uq_in (by decide +kernel) (by decide +kernel)) ⟨by decide +kernel, by decide +kernel, (by decide +kernel : (parseMethodDescriptor yJ5_length_8abf5.desc).map (fun d => d.parameters.length) = some 0)⟩ rfl ⟨(Nat.le_of_ble_eq_true rfl), (Nat.le_of_ble_eq_true rfl)⟩ (Nat.le_of_ble_eq_true rfl)) (fun sz => j_sbLen Z a w cap c g sz) jX0_mv jt_0 (j_rw (ci := 13) (q0 := 1) (ws := [(q, .inr (12, [.null, .int (nI 0), .int (nI 0), .int (nI 0)]))] ++ [(a, .inr (13, [.ref w, .int (nI 0), .int (nI 0), .int (nI c)])), (w, .inl (zc Z 0, (cap, .inl g)))]) O.1 rfl rfl) (by omega) (by omega) (fun u hu => ?_)
  show uV Z C [(q, .inr (12, [.null, .int (nI 0), .int (nI 0), .int (nI 0)])), (a, .inr (13, [.ref w, .int (nI 0), .int (nI 0), .int (nI c)])), (w, .inl (zc Z 0, (cap, .inl g)))] _ _ _ [(3, .ref w), (0, .ref q), (1, .ref a), (2, .null)] [.int (nI c)]
  refine uv_istore O.1 dJ0_init_db425_13 (by omega) [(4, .int (nI c)), (3, .ref w), (0, .ref q), (1, .ref a), (2, .null)] rfl ?_
  refine uv_aload_n O.1 dJ0_init_db425_15 3 rfl rfl ?_
  refine uv_eq (ws' := [(q, .inr (12, [.null, .int (nI 0), .int (nI 0), .int (nI 0)]))] ++ [(a, .inr (13, [.ref w, .int (nI 0), .int (nI 0), .int (nI c)])), (w, .inl (zc Z 0, (cap, .inl g)))]) rfl ?_
  refine j_call O (jc_V (y := yJ5_isLatin1_aae02) (C0 := RJ4) (b := a) (as' := []) (rest := []) O.1 dJ0_init_db425_16 (uq_in (by decide +kernel) (by decide +kernel)) (uq_in (by decide +kernel) (by decide +kernel)) (O.1.2.2.2.2.1 (Cond.selects RJ4 yJ5_isLatin1_aae02 yJ5_isLatin1_aae02) (uq_in (by decide +kernel) (by decide +kernel))) (uq_in (by decide +kernel) (by decide +kernel)) (uq_in (by decide +kernel) (by decide +kernel)) ⟨by decide +kernel, by decide +kernel, (by decide +kernel : (parseMethodDescriptor yJ5_isLatin1_aae02.desc).map (fun d => d.parameters.length) = some 0)⟩ rfl ⟨(Nat.le_of_ble_eq_true rfl), (Nat.le_of_ble_eq_true rfl)⟩ (Nat.le_of_ble_eq_true rfl)) (fun sz => j_asbL Z a w cap c g sz) jX0_mv jt_0 (j_rw (ci := 13) (q0 := 1) (ws := [(q, .inr (12, [.null, .int (nI 0), .int (nI 0), .int (nI 0)]))] ++ [(a, .inr (13, [.ref w, .int (nI 0), .int (nI 0), .int (nI c)])), (w, .inl (zc Z 0, (cap, .inl g)))]) O.1 rfl rfl) (by omega) (by omega) (fun u hu => ?_)
  show uV Z C [(q, .inr (12, [.null, .int (nI 0), .int (nI 0), .int (nI 0)])), (a, .inr (13, [.ref w, .int (nI 0), .int (nI 0), .int (nI c)])), (w, .inl (zc Z 0, (cap, .inl g)))] _ _ _ [(4, .int (nI c)), (3, .ref w), (0, .ref q), (1, .ref a), (2, .null)] [.int (nI 1)]
  refine uv_eqF 41 O.1 dJ0_init_db425_19 rfl (by decide +kernel) ?_
  refine uv_aload_n O.1 dJ0_init_db425_22 2 rfl rfl ?_
  refine uv_iconst O.1 dJ0_init_db425_23 (nI 0) rfl ?_
  refine uv_putF O.1 hnm dJ0_init_db425_24 0 rfl rfl uxJ0 tyJ0 tyJ0_ok nmJ0 1 (Nat.le_of_ble_eq_true rfl) (uq_in (by decide +kernel) (by decide +kernel)) rfl rfl rfl (by first | rfl | decide +kernel) rfl (Nat.le_of_ble_eq_true rfl) ?_
  show uV Z C [(q, .inr (12, [.null, .int (nI 0), .int (nI 0), .int (nI 0)])), (a, .inr (13, [.ref w, .int (nI 0), .int (nI 0), .int (nI c)])), (w, .inl (zc Z 0, (cap, .inl g)))] _ _ _ [(4, .int (nI c)), (3, .ref w), (0, .ref q), (1, .ref a), (2, .null)] []
  refine uv_aload_n O.1 dJ0_init_db425_27 2 rfl rfl ?_
  refine uv_aload_n O.1 dJ0_init_db425_28 1 rfl rfl ?_
  refine uv_iconst O.1 dJ0_init_db425_29 (nI 0) rfl ?_
  refine uv_iload O.1 dJ0_init_db425_30 0 rfl ?_
  refine uv_eq (ws' := [(q, .inr (12, [.null, .int (nI 0), .int (nI 0), .int (nI 0)])), (a, .inr (13, [.ref w, .int (nI 0), .int (nI 0), .int (nI c)]))] ++ [(w, .inl (zc Z 0, (cap, .inl g)))]) rfl ?_
  refine j_call O (jc_S (as := [.ref w, .int (nI 0), .int (nI c)]) (rest := [.ref q]) O.1 dJ0_init_db425_32 (uq_in (by decide +kernel) (by decide +kernel)) (uq_in (by decide +kernel) (by decide +kernel)) (uq_in (by decide +kernel) (by decide +kernel)) (uq_in (by decide +kernel) (by decide +kernel)) ⟨by decide +kernel, by decide +kernel, (by decide +kernel : (parseMethodDescriptor yJ7_copyOfRange_39247.desc).map (fun d => d.parameters.length) = some 3)⟩ rfl ⟨(Nat.le_of_ble_eq_true rfl), (Nat.le_of_ble_eq_true rfl)⟩ (Nat.le_of_ble_eq_true rfl)) (fun sz => j_cor Z w cap c g sz hc h hcap hF) jX0_mv jt_0 j_r0 (by omega) (by omega) (fun u hu => ?_)
  obtain ⟨w1, g1⟩ := u
  dsimp only at hu
  obtain ⟨hu11, hu12⟩ := hu
  show uV Z C [(q, .inr (12, [.null, .int (nI 0), .int (nI 0), .int (nI 0)])), (a, .inr (13, [.ref w, .int (nI 0), .int (nI 0), .int (nI c)])), (w, .inl (zc Z 0, (cap, .inl g))), (w1, .inl (zc Z 0, (c, .inl g1)))] _ _ _ [(4, .int (nI c)), (3, .ref w), (0, .ref q), (1, .ref a), (2, .null)] [.ref w1, .ref q]
  refine uv_putF O.1 hnm dJ0_init_db425_35 0 rfl rfl uxJ0 tyJ0 tyJ0_ok nmJ0 0 (Nat.le_of_ble_eq_true rfl) (uq_in (by decide +kernel) (by decide +kernel)) rfl rfl rfl (by first | rfl | decide +kernel) rfl (Nat.le_of_ble_eq_true rfl) ?_
  show uV Z C [(q, .inr (12, [.ref w1, .int (nI 0), .int (nI 0), .int (nI 0)])), (a, .inr (13, [.ref w, .int (nI 0), .int (nI 0), .int (nI c)])), (w, .inl (zc Z 0, (cap, .inl g))), (w1, .inl (zc Z 0, (c, .inl g1)))] _ _ _ [(4, .int (nI c)), (3, .ref w), (0, .ref q), (1, .ref a), (2, .null)] []
  refine uv_goto 97 O.1 dJ0_init_db425_38 rfl ?_
  refine uv_widen (k' := 1) (n' := 70) (by omega) (by omega) ?_
  exact jr_v (w1, g1) O hr hlk hE ⟨hu11, hu12⟩ rfl dJ0_init_db425_97

set_option maxHeartbeats 4000000 in
theorem j_strI1 (Z : ZT) (q : Nat) (a w cap c : Nat) (g : Nat → Int32) (sz : Nat) (h : c ≤ 70) (hc : c ≤ cap) (hcap : cap ≤ 150) (hF : jF g) : MkJ (S := Nat × (Nat → Int32)) Z yJ0_init_81219 cJ0_init_81219 2 none 4 1 70 110 [.ref q, .ref a] jX0 [(q, .inr (12, [.null, .int (nI 0), .int (nI 0), .int (nI 0)])), (a, .inr (13, [.ref w, .int (nI 0), .int (nI 0), .int (nI c)])), (w, .inl (zc Z 0, (cap, .inl g)))] (fun u => none) (fun u => (∀ j, j < c → u.2 j = g j) ∧ jF u.2) (fun u => [(q, .inr (12, [.ref u.1, .int (nI 0), .int (nI 0), .int (nI 0)])), (a, .inr (13, [.ref w, .int (nI 0), .int (nI 0), .int (nI c)])), (w, .inl (zc Z 0, (cap, .inl g))), (u.1, .inl (zc Z 0, (c, .inl u.2)))]) sz := by
  refine j_mk (by decide +kernel) (Nat.le_of_ble_eq_true rfl) (fun C O hnm hX hr hlk hE => ?_)
  have O : jOk Z C RJ0 cJ0_init_81219 2 4 110 1 70 := O
  have hnm : (c_h C).name = "<init>" := hnm
  show uV Z C [(q, .inr (12, [.null, .int (nI 0), .int (nI 0), .int (nI 0)])), (a, .inr (13, [.ref w, .int (nI 0), .int (nI 0), .int (nI c)])), (w, .inl (zc Z 0, (cap, .inl g)))] 0 0 0 [(0, .ref q), (1, .ref a)] []
  refine uv_aload_n O.1 dJ0_init_81219_0 0 rfl rfl ?_
  refine uv_aload_n O.1 dJ0_init_81219_1 1 rfl rfl ?_
  refine uv_null O.1 dJ0_init_81219_2 ?_
  refine uv_eq (ws' := [] ++ [(q, .inr (12, [.null, .int (nI 0), .int (nI 0), .int (nI 0)])), (a, .inr (13, [.ref w, .int (nI 0), .int (nI 0), .int (nI c)])), (w, .inl (zc Z 0, (cap, .inl g)))]) rfl ?_
  refine j_call O (jc_I (b := q) (as' := [.ref a, .null]) (rest := []) O.1 dJ0_init_81219_3 (uq_in (by decide +kernel) (by decide +kernel)) (uq_in (by decide +kernel) (by decide +kernel)) rfl (uq_in (by decide +kernel) (by decide +kernel)) (uq_in (by decide +kernel) (by decide +kernel)) ⟨by decide +kernel, by decide +kernel, (by decide +kernel : (parseMethodDescriptor yJ0_init_db425.desc).map (fun d => d.parameters.length) = some 2)⟩ rfl ⟨(Nat.le_of_ble_eq_true rfl), (Nat.le_of_ble_eq_true rfl)⟩ (Nat.le_of_ble_eq_true rfl)) (fun sz => j_strI2 Z q a w cap c g sz h hc hcap hF) jX0_mv jt_0 j_r0 (by omega) (by omega) (fun u hu => ?_)
  obtain ⟨w1, g1⟩ := u
  dsimp only at hu
  obtain ⟨hu11, hu12⟩ := hu
  show uV Z C [(q, .inr (12, [.ref w1, .int (nI 0), .int (nI 0), .int (nI 0)])), (a, .inr (13, [.ref w, .int (nI 0), .int (nI 0), .int (nI c)])), (w, .inl (zc Z 0, (cap, .inl g))), (w1, .inl (zc Z 0, (c, .inl g1)))] _ _ _ [(0, .ref q), (1, .ref a)] []
  refine uv_widen (k' := 1) (n' := 70) (by omega) (by omega) ?_
  exact jr_v (w1, g1) O hr hlk hE ⟨hu11, hu12⟩ rfl dJ0_init_81219_6

set_option maxHeartbeats 4000000 in
theorem j_toS (Z : ZT) (a w cap c : Nat) (g : Nat → Int32) (sz : Nat) (h : c ≤ 70) (hc : c ≤ cap) (hcap : cap ≤ 150) (hF : jF g) : MkJ (S := Nat × Nat × (Nat → Int32)) Z yJ4_toString_0e30d cJ4_toString_0e30d 1 (some (.object "java/lang/String")) 5 2 74 131 [.ref a] jX0 [(a, .inr (13, [.ref w, .int (nI 0), .int (nI 0), .int (nI c)])), (w, .inl (zc Z 0, (cap, .inl g)))] (fun u => some (.ref u.1)) (fun u => (∀ j, j < c → u.2.2 j = g j) ∧ jF u.2.2) (fun u => [(u.1, .inr (12, [.ref u.2.1, .int (nI 0), .int (nI 0), .int (nI 0)])), (u.2.1, .inl (zc Z 0, (c, .inl u.2.2)))]) sz := by
  refine j_mk (by decide +kernel) (Nat.le_of_ble_eq_true rfl) (fun C O hnm hX hr hlk hE => ?_)
  have O : jOk Z C RJ4 cJ4_toString_0e30d 1 5 131 2 74 := O
  have hnm : (c_h C).name = "toString" := hnm
  show uV Z C [(a, .inr (13, [.ref w, .int (nI 0), .int (nI 0), .int (nI c)])), (w, .inl (zc Z 0, (cap, .inl g)))] 0 0 0 [(0, .ref a)] []
  refine uv_new (Cn := RJ0) (T := TJ0) (N := 4) (ci := 12) (fs := [.null, .int (nI 0), .int (nI 0), .int (nI 0)]) O.1 dJ4_toString_0e30d_0 tyJ0 tyJ0_ok uxJ0 (uq_in (by decide +kernel) (by decide +kernel)) (uq_in (by decide +kernel) (by decide +kernel)) (uq_in (by decide +kernel) (by decide +kernel)) rfl (fun j hj => by rcases (show j = 0 ∨ j = 1 ∨ j = 2 ∨ j = 3 by omega) with rfl | rfl | rfl | rfl <;> rfl) (by omega) (by omega) (fun b1 => ?_)
  show uV Z C [(a, .inr (13, [.ref w, .int (nI 0), .int (nI 0), .int (nI c)])), (w, .inl (zc Z 0, (cap, .inl g))), (b1, .inr (12, [.null, .int (nI 0), .int (nI 0), .int (nI 0)]))] _ _ _ [(0, .ref a)] [.ref b1]
  refine uv_dup O.1 dJ4_toString_0e30d_3 rfl ?_
  refine uv_aload_n O.1 dJ4_toString_0e30d_4 0 rfl rfl ?_
  refine uv_perm (ws' := [(b1, .inr (12, [.null, .int (nI 0), .int (nI 0), .int (nI 0)])), (a, .inr (13, [.ref w, .int (nI 0), .int (nI 0), .int (nI c)])), (w, .inl (zc Z 0, (cap, .inl g)))]) (show ([(a, .inr (13, [.ref w, .int (nI 0), .int (nI 0), .int (nI c)])), (w, .inl (zc Z 0, (cap, .inl g))), (b1, .inr (12, [.null, .int (nI 0), .int (nI 0), .int (nI 0)]))] : va_W).Perm [(b1, .inr (12, [.null, .int (nI 0), .int (nI 0), .int (nI 0)])), (a, .inr (13, [.ref w, .int (nI 0), .int (nI 0), .int (nI c)])), (w, .inl (zc Z 0, (cap, .inl g)))] from List.perm_append_comm (l₁ := ([(a, .inr (13, [.ref w, .int (nI 0), .int (nI 0), .int (nI c)])), (w, .inl (zc Z 0, (cap, .inl g)))] : va_W)) (l₂ := ([(b1, .inr (12, [.null, .int (nI 0), .int (nI 0), .int (nI 0)]))] : va_W))) ?_
  refine uv_eq (ws' := [] ++ [(b1, .inr (12, [.null, .int (nI 0), .int (nI 0), .int (nI 0)])), (a, .inr (13, [.ref w, .int (nI 0), .int (nI 0), .int (nI c)])), (w, .inl (zc Z 0, (cap, .inl g)))]) rfl ?_
  refine j_call O (jc_I (b := b1) (as' := [.ref a]) (rest := [.ref b1]) O.1 dJ4_toString_0e30d_5 (uq_in (by decide +kernel) (by decide +kernel)) (uq_in (by decide +kernel) (by decide +kernel)) rfl (uq_in (by decide +kernel) (by decide +kernel)) (uq_in (by decide +kernel) (by decide +kernel)) ⟨by decide +kernel, by decide +kernel, (by decide +kernel : (parseMethodDescriptor yJ0_init_81219.desc).map (fun d => d.parameters.length) = some 1)⟩ rfl ⟨(Nat.le_of_ble_eq_true rfl), (Nat.le_of_ble_eq_true rfl)⟩ (Nat.le_of_ble_eq_true rfl)) (fun sz => j_strI1 Z b1 a w cap c g sz h hc hcap hF) jX0_mv jt_0 j_r0 (by omega) (by omega) (fun u hu => ?_)
  obtain ⟨w2, g2⟩ := u
  dsimp only at hu
  obtain ⟨hu21, hu22⟩ := hu
  show uV Z C [(b1, .inr (12, [.ref w2, .int (nI 0), .int (nI 0), .int (nI 0)])), (a, .inr (13, [.ref w, .int (nI 0), .int (nI 0), .int (nI c)])), (w, .inl (zc Z 0, (cap, .inl g))), (w2, .inl (zc Z 0, (c, .inl g2)))] _ _ _ [(0, .ref a)] [.ref b1]
  refine uv_pick (ws' := [(b1, .inr (12, [.ref w2, .int (nI 0), .int (nI 0), .int (nI 0)])), (w2, .inl (zc Z 0, (c, .inl g2)))]) [0, 3] rfl rfl ?_
  refine uv_widen (k' := 2) (n' := 74) (by omega) (by omega) ?_
  exact jr_a (b1, w2, g2) O hr (Or.inl ⟨_, rfl⟩) hlk hE ⟨hu21, hu22⟩ rfl dJ4_toString_0e30d_8
