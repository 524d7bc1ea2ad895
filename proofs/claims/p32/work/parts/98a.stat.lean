/-- a receiver of what the law made -/
theorem j_rwE {Z : ZT} {C : CX} {own : String} {cc : ByteArray} {nL fr lo kR nR b i ci : Nat} {r : vw_C} {σ : Mem} {E1 wc : va_W} {fs : List Value} (O : uOk Z C own cc nL fr lo kR nR) (hc : vwCl[ci]? = some r) (he : (E1 ++ wc)[i]? = some (b, .inr (ci, fs))) : ∀ (H : Heap) (locs : List Loc), va_P (zD Z) vwCl ((wlB Z σ ++ E1) ++ wc) H → va_S (c_A C) (c_s C).heap H locs → jRcv C b r.1 H := fun H _ hP _ => by
  rw [List.append_assoc] at hP
  refine va_recv (q0 := NN + i) (fs := fs) O.2.2.2.2.2.1 hP hc ?_
  rw [List.getElem?_append_right (by rw [wlB_len]; omega), wlB_len, Nat.add_sub_cancel_left]
  exact he
theorem uE_nil {Z : ZT} {C : CX} {σ : Mem} {k n pc : Nat} {L : List (Nat × Value)} {st : List Value} (kk : uE Z C σ [] k n pc L st) : uV Z C (wlB Z σ) k n pc L st := uv_eq (List.append_nil _).symm kk
def jAnd (X Y : JX) : JX := fun A U H => X A U H ∧ Y A U H
theorem jAnd_mv {X Y : JX} (hX : jMv X) (hY : jMv Y) : jMv (jAnd X Y) := fun _ _ _ _ _ _ hvm h hq hAB => ⟨hX _ _ _ _ _ _ hvm h.1 hq hAB, hY _ _ _ _ _ _ hvm h.2 hq hAB⟩

set_option maxHeartbeats 4000000 in
theorem l_cell (Z : ZT) (b L i : Nat) (xs : Nat → Int32) (sz : Nat) (hL : L ≤ 600) (hI : i ≤ 600) : MkJ (S := Int32) Z yL_cell cL_cell 3 (some .int) 0 0 0 0 [.ref b, .int (nI i)] (jXs b L xs) [] (fun u => some (.int u)) (fun u => True) (fun u => []) sz := by
  refine j_mk (by decide +kernel) (Nat.le_of_ble_eq_true rfl) (fun C O hnm hX hr hlk hE => ?_)
  have O : jOk Z C RL cL_cell 3 0 0 0 0 := O
  have J : ∀ x : Int32, uV Z C [] 0 0 15 [(0, .ref b), (1, .int (nI i))] [.int x, .int (nI 69069)] := fun x => by
    refine uv_sipush O.1 dL_cell_15 (nI 1009) rfl ?_
    refine uv_iload_n O.1 dL_cell_18 1 rfl rfl ?_
    refine uv_imul (z := _) O.1 dL_cell_19 rfl ?_
    refine uv_iaddE (z := _) O.1 dL_cell_20 rfl ?_
    refine uv_imul (z := _) O.1 dL_cell_21 rfl ?_
    refine uv_sipush O.1 dL_cell_22 (nI 12345) rfl ?_
    refine uv_iaddE (z := _) O.1 dL_cell_25 rfl ?_
    refine uv_istore_n O.1 dL_cell_26 rfl (by omega) [(2, _), (0, .ref b), (1, .int (nI i))] rfl ?_
    refine uv_iload_n O.1 dL_cell_27 0 rfl rfl ?_
    refine uv_iload_n O.1 dL_cell_28 0 rfl rfl ?_
    refine uv_bipush O.1 dL_cell_29 (nI 13) rfl ?_
    refine uv_iushr (z := _) O.1 dL_cell_31 rfl ?_
    refine uv_ixor (z := _) O.1 dL_cell_32 rfl ?_
    refine uv_ldc (v := nI 1103515245) O.1 dL_cell_33 (uq_in (by decide +kernel) (by decide +kernel)) ?_
    refine uv_imul (z := _) O.1 dL_cell_35 rfl ?_
    refine uv_istore_n O.1 dL_cell_36 rfl (by omega) [(2, _), (0, .ref b), (1, .int (nI i))] rfl ?_
    refine uv_iload_n O.1 dL_cell_37 0 rfl rfl ?_
    refine uv_iload_n O.1 dL_cell_38 0 rfl rfl ?_
    refine uv_bipush O.1 dL_cell_39 (nI 16) rfl ?_
    refine uv_iushr (z := _) O.1 dL_cell_41 rfl ?_
    refine uv_ixor (z := _) O.1 dL_cell_42 rfl ?_
    exact jr_i _ O hr hlk hE trivial rfl dL_cell_43
  show uV Z C [] 0 0 0 [(0, .ref b), (1, .int (nI i))] []
  refine uv_ldc (v := nI 69069) O.1 dL_cell_0 (uq_in (by decide +kernel) (by decide +kernel)) ?_
  refine uv_iload_n O.1 dL_cell_2 1 rfl rfl ?_
  refine uv_aload_n O.1 dL_cell_3 0 rfl rfl ?_
  refine uv_slen O.1 hX dL_cell_4 ?_
  refine uv_icmp_ge 14 O.1 dL_cell_5 rfl (fun hh => ?_) (fun hh => ?_)
  · refine uv_iconst O.1 dL_cell_14 (nI 0) rfl ?_
    exact J _
  · have hi : i < L := by
      simp (disch := omega) only [zC] at hh; omega
    refine uv_aload_n O.1 dL_cell_8 0 rfl rfl ?_
    refine uv_iload_n O.1 dL_cell_9 1 rfl rfl ?_
    refine uv_sld O.1 hX hi hL dL_cell_10 ?_
    refine uv_goto 15 O.1 dL_cell_11 rfl ?_
    exact J _

/-- the letters that the law picks from -/
def yal : List Nat := [97, 101, 111, 98, 116, 107, 108, 101]
theorem yal_lt {r : Nat} (h : r ≤ 7) : 97 ≤ yal.getD r 0 ∧ yal.getD r 0 ≤ 122 := (by decide +kernel : ∀ r : Fin 8, 97 ≤ yal.getD r.1 0 ∧ yal.getD r.1 0 ≤ 122) ⟨r, by omega⟩
theorem y_and (x : Int32) (m : Nat) (hm : m < 2 ^ 30) : x &&& nI m = nI (ix (x &&& nI m)) ∧ ix (x &&& nI m) ≤ m := by
  have key : ∃ k, k ≤ m ∧ x &&& nI m = nI k := by
    refine ⟨(x &&& nI m).toBitVec.toNat, ?_, ?_⟩
    · rw [Int32.toBitVec_and, BitVec.toNat_and]
      refine Nat.le_trans Nat.and_le_right ?_
      show (BitVec.ofNat 32 m).toNat ≤ m
      rw [BitVec.toNat_ofNat]
      exact Nat.mod_le _ _
    · apply Int32.toBitVec.inj
      show (x &&& nI m).toBitVec = BitVec.ofNat 32 _
      exact ((BitVec.ofNat_toNat 32 _).trans (BitVec.setWidth_eq _)).symm
  obtain ⟨k, hk, e⟩ := key
  rw [e, zi_ix (by omega)]
  exact ⟨rfl, hk⟩
/-- the letters of some(x, m) -/
def ysm (x : Int32) (k : Nat) : Nat := yal.getD (ix ((x >>> ((nI 3 * nI k) &&& 31)) &&& nI 7)) 0
theorem ysm_ok (x : Int32) (k : Nat) : 97 ≤ ysm x k ∧ ysm x k ≤ 122 := yal_lt (y_and _ 7 (by omega)).2
theorem y_app {j : Nat} {F : Nat → Nat} {f g1 g2 f3 : Nat → Int32} (hl : ∀ k, k < j → f k = zsg (F k)) (ha3 : ∀ i, i < j → g1 (0 + i) = f i) (hb3 : ∀ i, i < 0 + j → g2 i = g1 i) (hb5 : g2 (0 + j) = zsg (F j)) (hc1 : ∀ i, i < 0 + j + 1 → f3 i = g2 i) : ∀ k, k < j + 1 → f3 k = zsg (F k) := by
  intro k hk
  rw [hc1 k (by omega)]
  by_cases e : k = j
  · subst e
    rw [Nat.zero_add] at hb5
    exact hb5
  · have := ha3 k (by omega)
    rw [Nat.zero_add] at this
    rw [hb3 k (by omega), this, hl k (by omega)]

def yTX (n : Nat) (F : Nat → Nat) (f : Nat → Int32) : Prop := (∀ k, k < n → f k = zsg (F k)) ∧ jF f
set_option maxHeartbeats 4000000 in
theorem l_some (Z : ZT) (e ev a av m : Nat) (ef : Nat → Int32) (x : Int32) (sz : Nat) (hm : 1 ≤ m) (hm4 : m ≤ 4) (hef : jF ef) : MkJ (S := Nat × Nat × (Nat → Int32)) Z yL_some cL_some 4 (some (.object "java/lang/String")) 6 24 1576 151 [.int x, .int (nI m)] (jAnd (jK 25 "" e ev 0 ef) (jK 34 "aeobtkle" a av 8 (fun k => zsg (yal.getD k 0)))) [] (fun u => some (.ref u.1)) (fun u => yTX m (ysm x) u.2.2) (fun u => [(u.1, .inr (12, [.ref u.2.1, .int (nI 0), .int (nI 0), .int (nI 0)])), (u.2.1, .inl (zc Z 0, (m, .inl u.2.2)))]) sz := by
  refine j_mk (by decide +kernel) (Nat.le_of_ble_eq_true rfl) (fun C O hnm hX hr hlk hE => ?_)
  have O : jOk Z C RL cL_some 4 6 151 24 1576 := O
  have step : ∀ (d j q v : Nat) (f : Nat → Int32), j + d = m → 1 ≤ j → (∀ k, k < j → f k = zsg (ysm x k)) → jF f → uV Z C [(q, .inr (12, [.ref v, .int (nI 0), .int (nI 0), .int (nI 0)])), (v, .inl (zc Z 0, (j, .inl f)))] (6 * j) (394 * j) 5 [(3, .int (nI j)), (2, .ref q), (0, .int x), (1, .int (nI m))] [] := by
    intro d
    induction d with
    | zero =>
      intro j q v f hj h1 hl hf
      have : j = m := by omega
      subst this
      refine uv_iload_n O.1 dL_some_5 0 rfl rfl ?_
      refine uv_iload_n O.1 dL_some_6 3 rfl rfl ?_
      refine uv_icmp_ge 47 O.1 dL_some_7 rfl (fun _ => ?_) (fun hh => absurd (Int32.le_refl _) hh)
      refine uv_aload_n O.1 dL_some_47 1 rfl rfl ?_
      refine uv_widen (k' := 24) (n' := 1576) (by omega) (by omega) ?_
      exact jr_a (q, v, f) O hr (Or.inl ⟨_, rfl⟩) hlk hE ⟨hl, hf⟩ rfl dL_some_48
    | succ d ih =>
      intro j q v f hj h1 hl hf
      show uV Z C [(q, .inr (12, [.ref v, .int (nI 0), .int (nI 0), .int (nI 0)])), (v, .inl (zc Z 0, (j, .inl f)))] _ _ _ [(3, .int (nI j)), (2, .ref q), (0, .int x), (1, .int (nI m))] []
      refine uv_iload_n O.1 dL_some_5 0 rfl rfl ?_
      refine uv_iload_n O.1 dL_some_6 3 rfl rfl ?_
      refine uv_icmp_ge 47 O.1 dL_some_7 rfl (fun hh => absurd hh (j_nle (by omega) (by omega))) (fun _ => ?_)
      show uV Z C [(q, .inr (12, [.ref v, .int (nI 0), .int (nI 0), .int (nI 0)])), (v, .inl (zc Z 0, (j, .inl f)))] _ _ _ [(3, .int (nI j)), (2, .ref q), (0, .int x), (1, .int (nI m))] []
      refine uv_new (Cn := RJ4) (T := TJ4) (N := 4) (ci := 13) (fs := [.null, .int (nI 0), .int (nI 0), .int (nI 0)]) O.1 dL_some_10 tyJ4 tyJ4_ok uxJ4 (uq_in (by decide +kernel) (by decide +kernel)) (uq_in (by decide +kernel) (by decide +kernel)) (uq_in (by decide +kernel) (by decide +kernel)) rfl (fun j hj => by rcases (show j = 0 ∨ j = 1 ∨ j = 2 ∨ j = 3 by omega) with rfl | rfl | rfl | rfl <;> rfl) (by omega) (by omega) (fun b1 => ?_)
      show uV Z C [(q, .inr (12, [.ref v, .int (nI 0), .int (nI 0), .int (nI 0)])), (v, .inl (zc Z 0, (j, .inl f))), (b1, .inr (13, [.null, .int (nI 0), .int (nI 0), .int (nI 0)]))] _ _ _ [(3, .int (nI j)), (2, .ref q), (0, .int x), (1, .int (nI m))] [.ref b1]
      refine uv_dup O.1 dL_some_13 rfl ?_
      refine uv_eq (ws' := [(q, .inr (12, [.ref v, .int (nI 0), .int (nI 0), .int (nI 0)])), (v, .inl (zc Z 0, (j, .inl f)))] ++ [(b1, .inr (13, [.null, .int (nI 0), .int (nI 0), .int (nI 0)]))]) rfl ?_
      refine j_call (rest := [.ref b1]) O (jc_I (b := b1) (as' := []) (rest := [.ref b1]) O.1 dL_some_14 (uq_in (by decide +kernel) (by decide +kernel)) (uq_in (by decide +kernel) (by decide +kernel)) rfl (uq_in (by decide +kernel) (by decide +kernel)) (uq_in (by decide +kernel) (by decide +kernel)) ⟨by decide +kernel, by decide +kernel, (by decide +kernel : (parseMethodDescriptor yJ4_init_da8c8.desc).map (fun d => d.parameters.length) = some 0)⟩ rfl ⟨(Nat.le_of_ble_eq_true rfl), (Nat.le_of_ble_eq_true rfl)⟩ (Nat.le_of_ble_eq_true rfl)) (fun sz => j_sbI Z b1 sz) jX0_mv jt_0 j_r0 (by omega) (by omega) (fun w0 hu => ?_)
      show uV Z C [(q, .inr (12, [.ref v, .int (nI 0), .int (nI 0), .int (nI 0)])), (v, .inl (zc Z 0, (j, .inl f))), (b1, .inr (13, [.ref w0, .int (nI 0), .int (nI 0), .int (nI 0)])), (w0, .inl (zc Z 0, (16, .inl (fun _ => 0))))] _ _ _ [(3, .int (nI j)), (2, .ref q), (0, .int x), (1, .int (nI m))] [.ref b1]
      refine uv_aload_n O.1 dL_some_17 1 rfl rfl ?_
      refine uv_eq (ws' := [(q, .inr (12, [.ref v, .int (nI 0), .int (nI 0), .int (nI 0)])), (v, .inl (zc Z 0, (j, .inl f)))] ++ [(b1, .inr (13, [.ref w0, .int (nI 0), .int (nI 0), .int (nI 0)])), (w0, .inl (zc Z 0, (16, .inl (fun _ => 0))))]) rfl ?_
      refine j_call (rest := []) O (jc_V (y := yJ4_append_15ec4) (C0 := RJ4) (b := b1) (as' := [.ref q]) (rest := []) O.1 dL_some_18 (uq_in (by decide +kernel) (by decide +kernel)) (uq_in (by decide +kernel) (by decide +kernel)) (O.1.2.2.2.2.1 (Cond.selects RJ4 yJ4_append_15ec4 yJ4_append_15ec4) (uq_in (by decide +kernel) (by decide +kernel))) (uq_in (by decide +kernel) (by decide +kernel)) (uq_in (by decide +kernel) (by decide +kernel)) ⟨by decide +kernel, by decide +kernel, (by decide +kernel : (parseMethodDescriptor yJ4_append_15ec4.desc).map (fun d => d.parameters.length) = some 1)⟩ rfl ⟨(Nat.le_of_ble_eq_true rfl), (Nat.le_of_ble_eq_true rfl)⟩ (Nat.le_of_ble_eq_true rfl)) (fun sz => j_sbS Z b1 w0 16 0 (fun _ => 0) q v j f sz (by omega) (by omega) (by omega) jF_0 hf) (jS_mv _ _ _ _) (jt_w (i := 0) (j := 1) O.1 rfl rfl) (j_rw (ci := 13) (q0 := 2) (ws := [(q, .inr (12, [.ref v, .int (nI 0), .int (nI 0), .int (nI 0)])), (v, .inl (zc Z 0, (j, .inl f)))] ++ [(b1, .inr (13, [.ref w0, .int (nI 0), .int (nI 0), .int (nI 0)])), (w0, .inl (zc Z 0, (16, .inl (fun _ => 0))))]) O.1 rfl rfl) (by omega) (by omega) (fun u hu => ?_)
      obtain ⟨w1, c1, g1⟩ := u
      dsimp only at hu
      obtain ⟨ha1, ha2, ⟨-, ha3⟩, ha4⟩ := hu
      show uV Z C [(q, .inr (12, [.ref v, .int (nI 0), .int (nI 0), .int (nI 0)])), (v, .inl (zc Z 0, (j, .inl f))), (b1, .inr (13, [.ref w1, .int (nI 0), .int (nI 0), .int (nI (0 + j))])), (w1, .inl (zc Z 0, (c1, .inl g1)))] _ _ _ [(3, .int (nI j)), (2, .ref q), (0, .int x), (1, .int (nI m))] [.ref b1]
      refine uv_ldcS O.1 dL_some_21 hX.2.1 ?_
      refine uv_iload_n O.1 dL_some_23 2 rfl rfl ?_
      refine uv_iconst O.1 dL_some_24 (nI 3) rfl ?_
      refine uv_iload_n O.1 dL_some_25 0 rfl rfl ?_
      refine uv_imul (z := _) O.1 dL_some_26 rfl ?_
      refine uv_ishr (z := _) O.1 dL_some_27 rfl ?_
      refine uv_bipush O.1 dL_some_28 (nI 7) rfl ?_
      have er := y_and (x >>> ((nI 3 * nI j) &&& 31)) 7 (by omega)
      refine uv_iand (z := nI (ix ((x >>> ((nI 3 * nI j) &&& 31)) &&& nI 7))) O.1 dL_some_30 er.1 ?_
      show uV Z C [(q, .inr (12, [.ref v, .int (nI 0), .int (nI 0), .int (nI 0)])), (v, .inl (zc Z 0, (j, .inl f))), (b1, .inr (13, [.ref w1, .int (nI 0), .int (nI 0), .int (nI (0 + j))])), (w1, .inl (zc Z 0, (c1, .inl g1)))] _ _ _ [(3, .int (nI j)), (2, .ref q), (0, .int x), (1, .int (nI m))] [.int (nI (ix ((x >>> ((nI 3 * nI j) &&& 31)) &&& nI 7))), .ref a, .ref b1]
      have hb : ysm x j < 256 := by have := ysm_ok x j; omega
      refine uv_eq (ws' := [(q, .inr (12, [.ref v, .int (nI 0), .int (nI 0), .int (nI 0)])), (v, .inl (zc Z 0, (j, .inl f))), (b1, .inr (13, [.ref w1, .int (nI 0), .int (nI 0), .int (nI (0 + j))])), (w1, .inl (zc Z 0, (c1, .inl g1)))] ++ []) rfl ?_
      refine j_call (rest := [.ref b1]) O (jc_V (y := yJ0_charAt_5068e) (C0 := RJ0) (b := a) (as' := [.int (nI (ix ((x >>> ((nI 3 * nI j) &&& 31)) &&& nI 7)))]) (rest := [.ref b1]) O.1 dL_some_31 (uq_in (by decide +kernel) (by decide +kernel)) (uq_in (by decide +kernel) (by decide +kernel)) (O.1.2.2.2.2.1 (Cond.selects RJ0 yJ0_charAt_5068e yJ0_charAt_5068e) (uq_in (by decide +kernel) (by decide +kernel))) (uq_in (by decide +kernel) (by decide +kernel)) (uq_in (by decide +kernel) (by decide +kernel)) ⟨by decide +kernel, by decide +kernel, (by decide +kernel : (parseMethodDescriptor yJ0_charAt_5068e.desc).map (fun d => d.parameters.length) = some 1)⟩ rfl ⟨(Nat.le_of_ble_eq_true rfl), (Nat.le_of_ble_eq_true rfl)⟩ (Nat.le_of_ble_eq_true rfl)) (fun sz => j_chr Z a av 8 (ix ((x >>> ((nI 3 * nI j) &&& 31)) &&& nI 7)) (ysm x j) (fun k => zsg (yal.getD k 0)) sz (Nat.lt_succ_of_le er.2) (by omega) hb rfl) (jS_mv _ _ _ _) (jt_up O.1 (jS_mv _ _ _ _) hX.2.2) (j_rs hX.2.2) (by omega) (by omega) (fun u hu => ?_)
      show uV Z C [(q, .inr (12, [.ref v, .int (nI 0), .int (nI 0), .int (nI 0)])), (v, .inl (zc Z 0, (j, .inl f))), (b1, .inr (13, [.ref w1, .int (nI 0), .int (nI 0), .int (nI (0 + j))])), (w1, .inl (zc Z 0, (c1, .inl g1)))] _ _ _ [(3, .int (nI j)), (2, .ref q), (0, .int x), (1, .int (nI m))] [.int (nI (ysm x j)), .ref b1]
      refine uv_eq (ws' := [(q, .inr (12, [.ref v, .int (nI 0), .int (nI 0), .int (nI 0)])), (v, .inl (zc Z 0, (j, .inl f)))] ++ [(b1, .inr (13, [.ref w1, .int (nI 0), .int (nI 0), .int (nI (0 + j))])), (w1, .inl (zc Z 0, (c1, .inl g1)))]) rfl ?_
      refine j_call (rest := []) O (jc_V (y := yJ4_append_cf468) (C0 := RJ4) (b := b1) (as' := [.int (nI (ysm x j))]) (rest := []) O.1 dL_some_34 (uq_in (by decide +kernel) (by decide +kernel)) (uq_in (by decide +kernel) (by decide +kernel)) (O.1.2.2.2.2.1 (Cond.selects RJ4 yJ4_append_cf468 yJ4_append_cf468) (uq_in (by decide +kernel) (by decide +kernel))) (uq_in (by decide +kernel) (by decide +kernel)) (uq_in (by decide +kernel) (by decide +kernel)) ⟨by decide +kernel, by decide +kernel, (by decide +kernel : (parseMethodDescriptor yJ4_append_cf468.desc).map (fun d => d.parameters.length) = some 1)⟩ rfl ⟨(Nat.le_of_ble_eq_true rfl), (Nat.le_of_ble_eq_true rfl)⟩ (Nat.le_of_ble_eq_true rfl)) (fun sz => j_sbC Z b1 w1 c1 (0 + j) (ysm x j) g1 sz (by omega) ha1 ha2 ha4 hb) jX0_mv jt_0 (j_rw (ci := 13) (q0 := 2) (ws := [(q, .inr (12, [.ref v, .int (nI 0), .int (nI 0), .int (nI 0)])), (v, .inl (zc Z 0, (j, .inl f)))] ++ [(b1, .inr (13, [.ref w1, .int (nI 0), .int (nI 0), .int (nI (0 + j))])), (w1, .inl (zc Z 0, (c1, .inl g1)))]) O.1 rfl rfl) (by omega) (by omega) (fun u hu => ?_)
      obtain ⟨w2, c2, g2⟩ := u
      dsimp only at hu
      obtain ⟨hb1, hb2, ⟨hb3, hb5⟩, hb4⟩ := hu
      show uV Z C [(q, .inr (12, [.ref v, .int (nI 0), .int (nI 0), .int (nI 0)])), (v, .inl (zc Z 0, (j, .inl f))), (b1, .inr (13, [.ref w2, .int (nI 0), .int (nI 0), .int (nI ((0 + j) + 1))])), (w2, .inl (zc Z 0, (c2, .inl g2)))] _ _ _ [(3, .int (nI j)), (2, .ref q), (0, .int x), (1, .int (nI m))] [.ref b1]
      refine uv_eq (ws' := [(q, .inr (12, [.ref v, .int (nI 0), .int (nI 0), .int (nI 0)])), (v, .inl (zc Z 0, (j, .inl f)))] ++ [(b1, .inr (13, [.ref w2, .int (nI 0), .int (nI 0), .int (nI ((0 + j) + 1))])), (w2, .inl (zc Z 0, (c2, .inl g2)))]) rfl ?_
      refine j_call (rest := []) O (jc_V (y := yJ4_toString_0e30d) (C0 := RJ4) (b := b1) (as' := []) (rest := []) O.1 dL_some_37 (uq_in (by decide +kernel) (by decide +kernel)) (uq_in (by decide +kernel) (by decide +kernel)) (O.1.2.2.2.2.1 (Cond.selects RJ4 yJ4_toString_0e30d yJ4_toString_0e30d) (uq_in (by decide +kernel) (by decide +kernel))) (uq_in (by decide +kernel) (by decide +kernel)) (uq_in (by decide +kernel) (by decide +kernel)) ⟨by decide +kernel, by decide +kernel, (by decide +kernel : (parseMethodDescriptor yJ4_toString_0e30d.desc).map (fun d => d.parameters.length) = some 0)⟩ rfl ⟨(Nat.le_of_ble_eq_true rfl), (Nat.le_of_ble_eq_true rfl)⟩ (Nat.le_of_ble_eq_true rfl)) (fun sz => j_toS Z b1 w2 c2 (0 + j + 1) g2 sz (by omega) hb1 hb2 hb4) jX0_mv jt_0 (j_rw (ci := 13) (q0 := 2) (ws := [(q, .inr (12, [.ref v, .int (nI 0), .int (nI 0), .int (nI 0)])), (v, .inl (zc Z 0, (j, .inl f)))] ++ [(b1, .inr (13, [.ref w2, .int (nI 0), .int (nI 0), .int (nI ((0 + j) + 1))])), (w2, .inl (zc Z 0, (c2, .inl g2)))]) O.1 rfl rfl) (by omega) (by omega) (fun u hu => ?_)
      obtain ⟨q3, v3, f3⟩ := u
      dsimp only at hu
      obtain ⟨hc1, hc2⟩ := hu
      show uV Z C [(q, .inr (12, [.ref v, .int (nI 0), .int (nI 0), .int (nI 0)])), (v, .inl (zc Z 0, (j, .inl f))), (q3, .inr (12, [.ref v3, .int (nI 0), .int (nI 0), .int (nI 0)])), (v3, .inl (zc Z 0, ((0 + j + 1), .inl f3)))] _ _ _ [(3, .int (nI j)), (2, .ref q), (0, .int x), (1, .int (nI m))] [.ref q3]
      refine uv_astore_n O.1 dL_some_40 rfl (by omega) [(2, .ref q3), (3, .int (nI j)), (0, .int x), (1, .int (nI m))] rfl ?_
      refine uv_iinc (z := 1) (v := nI (j + 1)) O.1 dL_some_41 1 rfl (zI.1 _ _) (by omega) [(3, .int (nI (j + 1))), (2, .ref q3), (0, .int x), (1, .int (nI m))] rfl ?_
      refine uv_goto 5 O.1 dL_some_44 rfl ?_
      refine uv_subl (ws' := [(q3, .inr (12, [.ref v3, .int (nI 0), .int (nI 0), .int (nI 0)])), (v3, .inl (zc Z 0, ((0 + j + 1), .inl f3)))]) (List.Sublist.cons _ (List.Sublist.cons _ (List.Sublist.refl _))) ?_
      refine uv_widen (k' := 6 * (j + 1)) (n' := 394 * (j + 1)) (by omega) (by omega) ?_
      have e0 : 0 + j + 1 = j + 1 := by omega
      rw [e0]
      exact ih (j + 1) q3 v3 f3 (by omega) (by omega) (y_app (F := ysm x) hl ha3 hb3 hb5 hc1) hc2
  show uV Z C [] 0 0 0 [(0, .int x), (1, .int (nI m))] []
  refine uv_ldcS O.1 dL_some_0 hX.1.1 ?_
  refine uv_astore_n O.1 dL_some_2 rfl (by omega) [(2, .ref e), (0, .int x), (1, .int (nI m))] rfl ?_
  refine uv_iconst O.1 dL_some_3 (nI 0) rfl ?_
  refine uv_istore_n O.1 dL_some_4 rfl (by omega) [(3, .int (nI 0)), (2, .ref e), (0, .int x), (1, .int (nI m))] rfl ?_
  show uV Z C [] _ _ _ [(3, .int (nI 0)), (2, .ref e), (0, .int x), (1, .int (nI m))] []
  refine uv_iload_n O.1 dL_some_5 0 rfl rfl ?_
  refine uv_iload_n O.1 dL_some_6 3 rfl rfl ?_
  refine uv_icmp_ge 47 O.1 dL_some_7 rfl (fun hh => absurd hh (j_nle (by omega) (by omega))) (fun _ => ?_)
  show uV Z C [] _ _ _ [(3, .int (nI 0)), (2, .ref e), (0, .int x), (1, .int (nI m))] []
  refine uv_new (Cn := RJ4) (T := TJ4) (N := 4) (ci := 13) (fs := [.null, .int (nI 0), .int (nI 0), .int (nI 0)]) O.1 dL_some_10 tyJ4 tyJ4_ok uxJ4 (uq_in (by decide +kernel) (by decide +kernel)) (uq_in (by decide +kernel) (by decide +kernel)) (uq_in (by decide +kernel) (by decide +kernel)) rfl (fun j hj => by rcases (show j = 0 ∨ j = 1 ∨ j = 2 ∨ j = 3 by omega) with rfl | rfl | rfl | rfl <;> rfl) (by omega) (by omega) (fun b1 => ?_)
  show uV Z C [(b1, .inr (13, [.null, .int (nI 0), .int (nI 0), .int (nI 0)]))] _ _ _ [(3, .int (nI 0)), (2, .ref e), (0, .int x), (1, .int (nI m))] [.ref b1]
  refine uv_dup O.1 dL_some_13 rfl ?_
  refine uv_eq (ws' := [] ++ [(b1, .inr (13, [.null, .int (nI 0), .int (nI 0), .int (nI 0)]))]) rfl ?_
  refine j_call (rest := [.ref b1]) O (jc_I (b := b1) (as' := []) (rest := [.ref b1]) O.1 dL_some_14 (uq_in (by decide +kernel) (by decide +kernel)) (uq_in (by decide +kernel) (by decide +kernel)) rfl (uq_in (by decide +kernel) (by decide +kernel)) (uq_in (by decide +kernel) (by decide +kernel)) ⟨by decide +kernel, by decide +kernel, (by decide +kernel : (parseMethodDescriptor yJ4_init_da8c8.desc).map (fun d => d.parameters.length) = some 0)⟩ rfl ⟨(Nat.le_of_ble_eq_true rfl), (Nat.le_of_ble_eq_true rfl)⟩ (Nat.le_of_ble_eq_true rfl)) (fun sz => j_sbI Z b1 sz) jX0_mv jt_0 j_r0 (by omega) (by omega) (fun w0 hu => ?_)
  show uV Z C [(b1, .inr (13, [.ref w0, .int (nI 0), .int (nI 0), .int (nI 0)])), (w0, .inl (zc Z 0, (16, .inl (fun _ => 0))))] _ _ _ [(3, .int (nI 0)), (2, .ref e), (0, .int x), (1, .int (nI m))] [.ref b1]
  refine uv_aload_n O.1 dL_some_17 1 rfl rfl ?_
  refine uv_eq (ws' := [] ++ [(b1, .inr (13, [.ref w0, .int (nI 0), .int (nI 0), .int (nI 0)])), (w0, .inl (zc Z 0, (16, .inl (fun _ => 0))))]) rfl ?_
  refine j_call (rest := []) O (jc_V (y := yJ4_append_15ec4) (C0 := RJ4) (b := b1) (as' := [.ref e]) (rest := []) O.1 dL_some_18 (uq_in (by decide +kernel) (by decide +kernel)) (uq_in (by decide +kernel) (by decide +kernel)) (O.1.2.2.2.2.1 (Cond.selects RJ4 yJ4_append_15ec4 yJ4_append_15ec4) (uq_in (by decide +kernel) (by decide +kernel))) (uq_in (by decide +kernel) (by decide +kernel)) (uq_in (by decide +kernel) (by decide +kernel)) ⟨by decide +kernel, by decide +kernel, (by decide +kernel : (parseMethodDescriptor yJ4_append_15ec4.desc).map (fun d => d.parameters.length) = some 1)⟩ rfl ⟨(Nat.le_of_ble_eq_true rfl), (Nat.le_of_ble_eq_true rfl)⟩ (Nat.le_of_ble_eq_true rfl)) (fun sz => j_sbS Z b1 w0 16 0 (fun _ => 0) e ev 0 ef sz (by omega) (by omega) (by omega) jF_0 hef) (jS_mv _ _ _ _) (jt_up O.1 (jS_mv _ _ _ _) hX.1.2) (j_rw (ci := 13) (q0 := 0) (ws := [] ++ [(b1, .inr (13, [.ref w0, .int (nI 0), .int (nI 0), .int (nI 0)])), (w0, .inl (zc Z 0, (16, .inl (fun _ => 0))))]) O.1 rfl rfl) (by omega) (by omega) (fun u hu => ?_)
  obtain ⟨w1, c1, g1⟩ := u
  dsimp only at hu
  obtain ⟨ha1, ha2, ⟨-, ha3⟩, ha4⟩ := hu
  show uV Z C [(b1, .inr (13, [.ref w1, .int (nI 0), .int (nI 0), .int (nI (0 + 0))])), (w1, .inl (zc Z 0, (c1, .inl g1)))] _ _ _ [(3, .int (nI 0)), (2, .ref e), (0, .int x), (1, .int (nI m))] [.ref b1]
  refine uv_ldcS O.1 dL_some_21 hX.2.1 ?_
  refine uv_iload_n O.1 dL_some_23 2 rfl rfl ?_
  refine uv_iconst O.1 dL_some_24 (nI 3) rfl ?_
  refine uv_iload_n O.1 dL_some_25 0 rfl rfl ?_
  refine uv_imul (z := _) O.1 dL_some_26 rfl ?_
  refine uv_ishr (z := _) O.1 dL_some_27 rfl ?_
  refine uv_bipush O.1 dL_some_28 (nI 7) rfl ?_
  have er := y_and (x >>> ((nI 3 * nI 0) &&& 31)) 7 (by omega)
  refine uv_iand (z := nI (ix ((x >>> ((nI 3 * nI 0) &&& 31)) &&& nI 7))) O.1 dL_some_30 er.1 ?_
  show uV Z C [(b1, .inr (13, [.ref w1, .int (nI 0), .int (nI 0), .int (nI (0 + 0))])), (w1, .inl (zc Z 0, (c1, .inl g1)))] _ _ _ [(3, .int (nI 0)), (2, .ref e), (0, .int x), (1, .int (nI m))] [.int (nI (ix ((x >>> ((nI 3 * nI 0) &&& 31)) &&& nI 7))), .ref a, .ref b1]
  have hb : ysm x 0 < 256 := by have := ysm_ok x 0; omega
  refine uv_eq (ws' := [(b1, .inr (13, [.ref w1, .int (nI 0), .int (nI 0), .int (nI (0 + 0))])), (w1, .inl (zc Z 0, (c1, .inl g1)))] ++ []) rfl ?_
  refine j_call (rest := [.ref b1]) O (jc_V (y := yJ0_charAt_5068e) (C0 := RJ0) (b := a) (as' := [.int (nI (ix ((x >>> ((nI 3 * nI 0) &&& 31)) &&& nI 7)))]) (rest := [.ref b1]) O.1 dL_some_31 (uq_in (by decide +kernel) (by decide +kernel)) (uq_in (by decide +kernel) (by decide +kernel)) (O.1.2.2.2.2.1 (Cond.selects RJ0 yJ0_charAt_5068e yJ0_charAt_5068e) (uq_in (by decide +kernel) (by decide +kernel))) (uq_in (by decide +kernel) (by decide +kernel)) (uq_in (by decide +kernel) (by decide +kernel)) ⟨by decide +kernel, by decide +kernel, (by decide +kernel : (parseMethodDescriptor yJ0_charAt_5068e.desc).map (fun d => d.parameters.length) = some 1)⟩ rfl ⟨(Nat.le_of_ble_eq_true rfl), (Nat.le_of_ble_eq_true rfl)⟩ (Nat.le_of_ble_eq_true rfl)) (fun sz => j_chr Z a av 8 (ix ((x >>> ((nI 3 * nI 0) &&& 31)) &&& nI 7)) (ysm x 0) (fun k => zsg (yal.getD k 0)) sz (Nat.lt_succ_of_le er.2) (by omega) hb rfl) (jS_mv _ _ _ _) (jt_up O.1 (jS_mv _ _ _ _) hX.2.2) (j_rs hX.2.2) (by omega) (by omega) (fun u hu => ?_)
  show uV Z C [(b1, .inr (13, [.ref w1, .int (nI 0), .int (nI 0), .int (nI (0 + 0))])), (w1, .inl (zc Z 0, (c1, .inl g1)))] _ _ _ [(3, .int (nI 0)), (2, .ref e), (0, .int x), (1, .int (nI m))] [.int (nI (ysm x 0)), .ref b1]
  refine uv_eq (ws' := [] ++ [(b1, .inr (13, [.ref w1, .int (nI 0), .int (nI 0), .int (nI (0 + 0))])), (w1, .inl (zc Z 0, (c1, .inl g1)))]) rfl ?_
  refine j_call (rest := []) O (jc_V (y := yJ4_append_cf468) (C0 := RJ4) (b := b1) (as' := [.int (nI (ysm x 0))]) (rest := []) O.1 dL_some_34 (uq_in (by decide +kernel) (by decide +kernel)) (uq_in (by decide +kernel) (by decide +kernel)) (O.1.2.2.2.2.1 (Cond.selects RJ4 yJ4_append_cf468 yJ4_append_cf468) (uq_in (by decide +kernel) (by decide +kernel))) (uq_in (by decide +kernel) (by decide +kernel)) (uq_in (by decide +kernel) (by decide +kernel)) ⟨by decide +kernel, by decide +kernel, (by decide +kernel : (parseMethodDescriptor yJ4_append_cf468.desc).map (fun d => d.parameters.length) = some 1)⟩ rfl ⟨(Nat.le_of_ble_eq_true rfl), (Nat.le_of_ble_eq_true rfl)⟩ (Nat.le_of_ble_eq_true rfl)) (fun sz => j_sbC Z b1 w1 c1 (0 + 0) (ysm x 0) g1 sz (by omega) ha1 ha2 ha4 hb) jX0_mv jt_0 (j_rw (ci := 13) (q0 := 0) (ws := [] ++ [(b1, .inr (13, [.ref w1, .int (nI 0), .int (nI 0), .int (nI (0 + 0))])), (w1, .inl (zc Z 0, (c1, .inl g1)))]) O.1 rfl rfl) (by omega) (by omega) (fun u hu => ?_)
  obtain ⟨w2, c2, g2⟩ := u
  dsimp only at hu
  obtain ⟨hb1, hb2, ⟨hb3, hb5⟩, hb4⟩ := hu
  show uV Z C [(b1, .inr (13, [.ref w2, .int (nI 0), .int (nI 0), .int (nI ((0 + 0) + 1))])), (w2, .inl (zc Z 0, (c2, .inl g2)))] _ _ _ [(3, .int (nI 0)), (2, .ref e), (0, .int x), (1, .int (nI m))] [.ref b1]
  refine uv_eq (ws' := [] ++ [(b1, .inr (13, [.ref w2, .int (nI 0), .int (nI 0), .int (nI ((0 + 0) + 1))])), (w2, .inl (zc Z 0, (c2, .inl g2)))]) rfl ?_
  refine j_call (rest := []) O (jc_V (y := yJ4_toString_0e30d) (C0 := RJ4) (b := b1) (as' := []) (rest := []) O.1 dL_some_37 (uq_in (by decide +kernel) (by decide +kernel)) (uq_in (by decide +kernel) (by decide +kernel)) (O.1.2.2.2.2.1 (Cond.selects RJ4 yJ4_toString_0e30d yJ4_toString_0e30d) (uq_in (by decide +kernel) (by decide +kernel))) (uq_in (by decide +kernel) (by decide +kernel)) (uq_in (by decide +kernel) (by decide +kernel)) ⟨by decide +kernel, by decide +kernel, (by decide +kernel : (parseMethodDescriptor yJ4_toString_0e30d.desc).map (fun d => d.parameters.length) = some 0)⟩ rfl ⟨(Nat.le_of_ble_eq_true rfl), (Nat.le_of_ble_eq_true rfl)⟩ (Nat.le_of_ble_eq_true rfl)) (fun sz => j_toS Z b1 w2 c2 (0 + 0 + 1) g2 sz (by omega) hb1 hb2 hb4) jX0_mv jt_0 (j_rw (ci := 13) (q0 := 0) (ws := [] ++ [(b1, .inr (13, [.ref w2, .int (nI 0), .int (nI 0), .int (nI ((0 + 0) + 1))])), (w2, .inl (zc Z 0, (c2, .inl g2)))]) O.1 rfl rfl) (by omega) (by omega) (fun u hu => ?_)
  obtain ⟨q3, v3, f3⟩ := u
  dsimp only at hu
  obtain ⟨hc1, hc2⟩ := hu
  show uV Z C [(q3, .inr (12, [.ref v3, .int (nI 0), .int (nI 0), .int (nI 0)])), (v3, .inl (zc Z 0, ((0 + 0 + 1), .inl f3)))] _ _ _ [(3, .int (nI 0)), (2, .ref e), (0, .int x), (1, .int (nI m))] [.ref q3]
  refine uv_astore_n O.1 dL_some_40 rfl (by omega) [(2, .ref q3), (3, .int (nI 0)), (0, .int x), (1, .int (nI m))] rfl ?_
  refine uv_iinc (z := 1) (v := nI (0 + 1)) O.1 dL_some_41 1 rfl (zI.1 _ _) (by omega) [(3, .int (nI (0 + 1))), (2, .ref q3), (0, .int x), (1, .int (nI m))] rfl ?_
  refine uv_goto 5 O.1 dL_some_44 rfl ?_
  refine uv_widen (k' := 6 * (0 + 1)) (n' := 394 * (0 + 1)) (by omega) (by omega) ?_
  have e0 : 0 + 0 + 1 = 0 + 1 := by omega
  rw [e0]
  exact step (m - 1) 1 q3 v3 f3 (by omega) (by omega) (y_app (F := ysm x) (fun k hk => absurd hk (by omega)) ha3 hb3 hb5 hc1) hc2

theorem y_zsl {l : List Nat} {k : Nat} (hk : k < l.length) (hl : l.length ≤ 66) : zsl l (nI k) = nI (l.getD k 0) := by
  unfold zsl
  rw [if_neg (yn1 (by omega)), if_neg, zi_ix (by omega)]
  rintro (q | q)
  · exact nI_pos (by omega) q
  · simp (disch := omega) only [zC] at q; omega
theorem ySay_b {σ : Mem} {g : Nat → Int32} (h : yB σ g) (hG : yG g) {k : Nat} (hk : k < (ySay g).length) : (ySay g).getD k 0 < 256 := by
  obtain ⟨τ, -, t2, -⟩ := y_sayDesk h hG
  exact zL_get t2 hk
theorem ySay_1 {g : Nat → Int32} (hg : zBG g) (h : yG g) : 1 ≤ (ySay g).length := (zps_zlc (F := zsi g 0 yws 0 1) (n := 4) (fun k hk => ⟨(ySay_ok hg h k hk).1, (ySay_ok hg h k hk).2.1⟩)).2.1 (by omega)

set_option maxHeartbeats 4000000 in
theorem l_said (Z : ZT) (e ev : Nat) (ef : Nat → Int32) (σ : Mem) (g : Nat → Int32) (sz : Nat) (hB : yB σ g) (hG : yG g) (hfit : hFit σ) (hef : jF ef) : MkJ (S := Mem × Nat × Nat × (Nat → Int32)) Z yL_said cL_said 4 (some (.object "java/lang/String")) 6 264 17336 157 [.ref (za Z 0)] (jK 25 "" e ev 0 ef) (wlB Z σ) (fun u => some (.ref u.2.1)) (fun u => zSy σ u.1 ∧ hFit u.1 ∧ yTX (ySay g).length (fun k => (ySay g).getD k 0) u.2.2.2) (fun u => wlB Z u.1 ++ [(u.2.1, .inr (12, [.ref u.2.2.1, .int (nI 0), .int (nI 0), .int (nI 0)])), (u.2.2.1, .inl (zc Z 0, ((ySay g).length, .inl u.2.2.2)))]) sz := by
  refine j_mk (by decide +kernel) (Nat.le_of_ble_eq_true rfl) (fun C O hnm hX hr hlk hE => ?_)
  have O : jOk Z C RL cL_said 4 6 157 264 17336 := O
  have h44 := ySay_len hB.1 hG
  have h01 := ySay_1 hB.1 hG
  have step : ∀ (d j q v : Nat) (f : Nat → Int32) (τ : Mem), j + d = (ySay g).length → 1 ≤ j → zSy σ τ → hFit τ → (∀ k, k < j → f k = zsg ((ySay g).getD k 0)) → jF f → uE Z C τ [(q, .inr (12, [.ref v, .int (nI 0), .int (nI 0), .int (nI 0)])), (v, .inl (zc Z 0, (j, .inl f)))] (6 * j) (394 * j) 11 [(3, .int (nI j)), (2, .int (nI (ySay g).length)), (1, .ref q), (0, .ref (za Z 0))] [] := by
    intro d
    induction d with
    | zero =>
      intro j q v f τ hj h1 hS hfit hl hf
      have : j = (ySay g).length := by omega
      rw [this] at hl ⊢
      refine uv_iload_n O.1 dL_said_11 0 rfl rfl ?_
      refine uv_iload_n O.1 dL_said_12 1 rfl rfl ?_
      refine uv_icmp_ge 46 O.1 dL_said_13 rfl (fun _ => ?_) (fun hh => absurd (Int32.le_refl _) hh)
      refine uv_aload_n O.1 dL_said_46 2 rfl rfl ?_
      refine uv_widen (k' := 264) (n' := 17336) (by omega) (by omega) ?_
      exact jr_a (τ, q, v, f) O hr (Or.inl ⟨_, rfl⟩) hlk hE ⟨hS, hfit, hl, hf⟩ rfl dL_said_47
    | succ d ih =>
      intro j q v f τ hj h1 hS hfit hl hf
      show uE Z C τ [(q, .inr (12, [.ref v, .int (nI 0), .int (nI 0), .int (nI 0)])), (v, .inl (zc Z 0, (j, .inl f)))] _ _ _ [(3, .int (nI j)), (2, .int (nI (ySay g).length)), (1, .ref q), (0, .ref (za Z 0))] []
      refine uv_iload_n O.1 dL_said_11 0 rfl rfl ?_
      refine uv_iload_n O.1 dL_said_12 1 rfl rfl ?_
      refine uv_icmp_ge 46 O.1 dL_said_13 rfl (fun hh => absurd hh (j_nle (by omega) (by omega))) (fun _ => ?_)
      show uE Z C τ [(q, .inr (12, [.ref v, .int (nI 0), .int (nI 0), .int (nI 0)])), (v, .inl (zc Z 0, (j, .inl f)))] _ _ _ [(3, .int (nI j)), (2, .int (nI (ySay g).length)), (1, .ref q), (0, .ref (za Z 0))] []
      refine ue_newB O dL_said_16 (uq_in (by decide +kernel) (by decide +kernel)) (uq_in (by decide +kernel) (by decide +kernel)) (uq_in (by decide +kernel) (by decide +kernel)) (by omega) (by omega) (fun b1 => ?_)
      show uE Z C τ [(q, .inr (12, [.ref v, .int (nI 0), .int (nI 0), .int (nI 0)])), (v, .inl (zc Z 0, (j, .inl f))), (b1, .inr (13, [.null, .int (nI 0), .int (nI 0), .int (nI 0)]))] _ _ _ [(3, .int (nI j)), (2, .int (nI (ySay g).length)), (1, .ref q), (0, .ref (za Z 0))] [.ref b1]
      refine uv_dup O.1 dL_said_19 rfl ?_
      refine ue_call (E1 := [(q, .inr (12, [.ref v, .int (nI 0), .int (nI 0), .int (nI 0)])), (v, .inl (zc Z 0, (j, .inl f)))]) (wc := [(b1, .inr (13, [.null, .int (nI 0), .int (nI 0), .int (nI 0)]))]) (rest := [.ref b1]) O (jc_I (b := b1) (as' := []) (rest := [.ref b1]) O.1 dL_said_20 (uq_in (by decide +kernel) (by decide +kernel)) (uq_in (by decide +kernel) (by decide +kernel)) rfl (uq_in (by decide +kernel) (by decide +kernel)) (uq_in (by decide +kernel) (by decide +kernel)) ⟨by decide +kernel, by decide +kernel, (by decide +kernel : (parseMethodDescriptor yJ4_init_da8c8.desc).map (fun d => d.parameters.length) = some 0)⟩ rfl ⟨(Nat.le_of_ble_eq_true rfl), (Nat.le_of_ble_eq_true rfl)⟩ (Nat.le_of_ble_eq_true rfl)) (fun sz => j_sbI Z b1 sz) jX0_mv jt_0 j_r0 rfl (by omega) (by omega) (fun w0 hu => ?_)
      show uE Z C τ [(q, .inr (12, [.ref v, .int (nI 0), .int (nI 0), .int (nI 0)])), (v, .inl (zc Z 0, (j, .inl f))), (b1, .inr (13, [.ref w0, .int (nI 0), .int (nI 0), .int (nI 0)])), (w0, .inl (zc Z 0, (16, .inl (fun _ => 0))))] _ _ _ [(3, .int (nI j)), (2, .int (nI (ySay g).length)), (1, .ref q), (0, .ref (za Z 0))] [.ref b1]
      refine uv_aload_n O.1 dL_said_23 2 rfl rfl ?_
      refine ue_call (E1 := [(q, .inr (12, [.ref v, .int (nI 0), .int (nI 0), .int (nI 0)])), (v, .inl (zc Z 0, (j, .inl f)))]) (wc := [(b1, .inr (13, [.ref w0, .int (nI 0), .int (nI 0), .int (nI 0)])), (w0, .inl (zc Z 0, (16, .inl (fun _ => 0))))]) (rest := []) O (jc_V (y := yJ4_append_15ec4) (C0 := RJ4) (b := b1) (as' := [.ref q]) (rest := []) O.1 dL_said_24 (uq_in (by decide +kernel) (by decide +kernel)) (uq_in (by decide +kernel) (by decide +kernel)) (O.1.2.2.2.2.1 (Cond.selects RJ4 yJ4_append_15ec4 yJ4_append_15ec4) (uq_in (by decide +kernel) (by decide +kernel))) (uq_in (by decide +kernel) (by decide +kernel)) (uq_in (by decide +kernel) (by decide +kernel)) ⟨by decide +kernel, by decide +kernel, (by decide +kernel : (parseMethodDescriptor yJ4_append_15ec4.desc).map (fun d => d.parameters.length) = some 1)⟩ rfl ⟨(Nat.le_of_ble_eq_true rfl), (Nat.le_of_ble_eq_true rfl)⟩ (Nat.le_of_ble_eq_true rfl)) (fun sz => j_sbS Z b1 w0 16 0 (fun _ => 0) q v j f sz (by omega) (by omega) (by omega) jF_0 hf) (jS_mv _ _ _ _) (jt_e (i := 0) (j := 1) O rfl rfl) (j_rwE (r := (RJ4, TJ4, 4)) (ci := 13) (i := 2) (E1 := [(q, .inr (12, [.ref v, .int (nI 0), .int (nI 0), .int (nI 0)])), (v, .inl (zc Z 0, (j, .inl f)))]) (wc := [(b1, .inr (13, [.ref w0, .int (nI 0), .int (nI 0), .int (nI 0)])), (w0, .inl (zc Z 0, (16, .inl (fun _ => 0))))]) O.1 rfl rfl) rfl (by omega) (by omega) (fun u hu => ?_)
      obtain ⟨w1, c1, g1⟩ := u
      dsimp only at hu
      obtain ⟨ha1, ha2, ⟨-, ha3⟩, ha4⟩ := hu
      show uE Z C τ [(q, .inr (12, [.ref v, .int (nI 0), .int (nI 0), .int (nI 0)])), (v, .inl (zc Z 0, (j, .inl f))), (b1, .inr (13, [.ref w1, .int (nI 0), .int (nI 0), .int (nI (0 + j))])), (w1, .inl (zc Z 0, (c1, .inl g1)))] _ _ _ [(3, .int (nI j)), (2, .int (nI (ySay g).length)), (1, .ref q), (0, .ref (za Z 0))] [.ref b1]
      refine uv_aload_n O.1 dL_said_27 3 rfl rfl ?_
      refine uv_iload_n O.1 dL_said_28 0 rfl rfl ?_
      have hk : j < (ySay g).length := by omega
      obtain ⟨τ2, u1, u2⟩ := y_said (yB_sy hB hS) hG (nI j)
      rw [y_zsl hk (by omega)] at u1
      refine ue_ctV (as := [.int (nI j)]) (rest := [.ref b1]) O hfit dL_said_29 (fun Z2 hZ2 => ct_X11_said hZ2 rfl u1) vx_RL_43 rfl rfl rfl ⟨(Nat.le_of_ble_eq_true rfl), (Nat.le_of_ble_eq_true rfl)⟩ (Nat.le_of_ble_eq_true rfl) (by omega) (by omega) (fun _ hfit => ?_)
      show uE Z C τ2 [(q, .inr (12, [.ref v, .int (nI 0), .int (nI 0), .int (nI 0)])), (v, .inl (zc Z 0, (j, .inl f))), (b1, .inr (13, [.ref w1, .int (nI 0), .int (nI 0), .int (nI (0 + j))])), (w1, .inl (zc Z 0, (c1, .inl g1)))] _ _ _ [(3, .int (nI j)), (2, .int (nI (ySay g).length)), (1, .ref q), (0, .ref (za Z 0))] [.int (nI ((ySay g).getD j 0)), .ref b1]
      have hb : (ySay g).getD j 0 < 256 := ySay_b hB hG hk
      refine uv_i2c (z := nI ((ySay g).getD j 0)) O.1 dL_said_32 (j_i2c (by omega)) ?_
      refine ue_call (E1 := [(q, .inr (12, [.ref v, .int (nI 0), .int (nI 0), .int (nI 0)])), (v, .inl (zc Z 0, (j, .inl f)))]) (wc := [(b1, .inr (13, [.ref w1, .int (nI 0), .int (nI 0), .int (nI (0 + j))])), (w1, .inl (zc Z 0, (c1, .inl g1)))]) (rest := []) O (jc_V (y := yJ4_append_cf468) (C0 := RJ4) (b := b1) (as' := [.int (nI ((ySay g).getD j 0))]) (rest := []) O.1 dL_said_33 (uq_in (by decide +kernel) (by decide +kernel)) (uq_in (by decide +kernel) (by decide +kernel)) (O.1.2.2.2.2.1 (Cond.selects RJ4 yJ4_append_cf468 yJ4_append_cf468) (uq_in (by decide +kernel) (by decide +kernel))) (uq_in (by decide +kernel) (by decide +kernel)) (uq_in (by decide +kernel) (by decide +kernel)) ⟨by decide +kernel, by decide +kernel, (by decide +kernel : (parseMethodDescriptor yJ4_append_cf468.desc).map (fun d => d.parameters.length) = some 1)⟩ rfl ⟨(Nat.le_of_ble_eq_true rfl), (Nat.le_of_ble_eq_true rfl)⟩ (Nat.le_of_ble_eq_true rfl)) (fun sz => j_sbC Z b1 w1 c1 (0 + j) ((ySay g).getD j 0) g1 sz (by omega) ha1 ha2 ha4 hb) jX0_mv jt_0 (j_rwE (r := (RJ4, TJ4, 4)) (ci := 13) (i := 2) (E1 := [(q, .inr (12, [.ref v, .int (nI 0), .int (nI 0), .int (nI 0)])), (v, .inl (zc Z 0, (j, .inl f)))]) (wc := [(b1, .inr (13, [.ref w1, .int (nI 0), .int (nI 0), .int (nI (0 + j))])), (w1, .inl (zc Z 0, (c1, .inl g1)))]) O.1 rfl rfl) rfl (by omega) (by omega) (fun u hu => ?_)
      obtain ⟨w2, c2, g2⟩ := u
      dsimp only at hu
      obtain ⟨hb1, hb2, ⟨hb3, hb5⟩, hb4⟩ := hu
      show uE Z C τ2 [(q, .inr (12, [.ref v, .int (nI 0), .int (nI 0), .int (nI 0)])), (v, .inl (zc Z 0, (j, .inl f))), (b1, .inr (13, [.ref w2, .int (nI 0), .int (nI 0), .int (nI ((0 + j) + 1))])), (w2, .inl (zc Z 0, (c2, .inl g2)))] _ _ _ [(3, .int (nI j)), (2, .int (nI (ySay g).length)), (1, .ref q), (0, .ref (za Z 0))] [.ref b1]
      refine ue_call (E1 := [(q, .inr (12, [.ref v, .int (nI 0), .int (nI 0), .int (nI 0)])), (v, .inl (zc Z 0, (j, .inl f)))]) (wc := [(b1, .inr (13, [.ref w2, .int (nI 0), .int (nI 0), .int (nI ((0 + j) + 1))])), (w2, .inl (zc Z 0, (c2, .inl g2)))]) (rest := []) O (jc_V (y := yJ4_toString_0e30d) (C0 := RJ4) (b := b1) (as' := []) (rest := []) O.1 dL_said_36 (uq_in (by decide +kernel) (by decide +kernel)) (uq_in (by decide +kernel) (by decide +kernel)) (O.1.2.2.2.2.1 (Cond.selects RJ4 yJ4_toString_0e30d yJ4_toString_0e30d) (uq_in (by decide +kernel) (by decide +kernel))) (uq_in (by decide +kernel) (by decide +kernel)) (uq_in (by decide +kernel) (by decide +kernel)) ⟨by decide +kernel, by decide +kernel, (by decide +kernel : (parseMethodDescriptor yJ4_toString_0e30d.desc).map (fun d => d.parameters.length) = some 0)⟩ rfl ⟨(Nat.le_of_ble_eq_true rfl), (Nat.le_of_ble_eq_true rfl)⟩ (Nat.le_of_ble_eq_true rfl)) (fun sz => j_toS Z b1 w2 c2 (0 + j + 1) g2 sz (by omega) hb1 hb2 hb4) jX0_mv jt_0 (j_rwE (r := (RJ4, TJ4, 4)) (ci := 13) (i := 2) (E1 := [(q, .inr (12, [.ref v, .int (nI 0), .int (nI 0), .int (nI 0)])), (v, .inl (zc Z 0, (j, .inl f)))]) (wc := [(b1, .inr (13, [.ref w2, .int (nI 0), .int (nI 0), .int (nI ((0 + j) + 1))])), (w2, .inl (zc Z 0, (c2, .inl g2)))]) O.1 rfl rfl) rfl (by omega) (by omega) (fun u hu => ?_)
      obtain ⟨q3, v3, f3⟩ := u
      dsimp only at hu
      obtain ⟨hc1, hc2⟩ := hu
      show uE Z C τ2 [(q, .inr (12, [.ref v, .int (nI 0), .int (nI 0), .int (nI 0)])), (v, .inl (zc Z 0, (j, .inl f))), (q3, .inr (12, [.ref v3, .int (nI 0), .int (nI 0), .int (nI 0)])), (v3, .inl (zc Z 0, ((0 + j + 1), .inl f3)))] _ _ _ [(3, .int (nI j)), (2, .int (nI (ySay g).length)), (1, .ref q), (0, .ref (za Z 0))] [.ref q3]
      refine uv_astore_n O.1 dL_said_39 rfl (by omega) [(1, .ref q3), (3, .int (nI j)), (2, .int (nI (ySay g).length)), (0, .ref (za Z 0))] rfl ?_
      refine uv_iinc (z := 1) (v := nI (j + 1)) O.1 dL_said_40 1 rfl (zI.1 _ _) (by omega) [(3, .int (nI (j + 1))), (1, .ref q3), (2, .int (nI (ySay g).length)), (0, .ref (za Z 0))] rfl ?_
      refine uv_goto 11 O.1 dL_said_43 rfl ?_
      refine uv_sub [0, 2, 1, 3] rfl ?_
      refine ue_drop (E' := [(q3, .inr (12, [.ref v3, .int (nI 0), .int (nI 0), .int (nI 0)])), (v3, .inl (zc Z 0, ((0 + j + 1), .inl f3)))]) (by refine List.Sublist.cons _ (List.Sublist.cons _ (List.Sublist.refl _))) ?_
      refine uv_widen (k' := 6 * (j + 1)) (n' := 394 * (j + 1)) (by omega) (by omega) ?_
      have e0 : 0 + j + 1 = j + 1 := by omega
      rw [e0]
      exact ih (j + 1) q3 v3 f3 τ2 (by omega) (by omega) (zSy_t hS u2) hfit (y_app (F := fun k => (ySay g).getD k 0) hl ha3 hb3 hb5 hc1) hc2
  refine uE_nil ?_
  show uE Z C σ [] _ _ _ [(0, .ref (za Z 0))] []
  refine uv_ldcS O.1 dL_said_0 hX.1 ?_
  refine uv_astore_n O.1 dL_said_2 rfl (by omega) [(1, .ref e), (0, .ref (za Z 0))] rfl ?_
  refine uv_aload_n O.1 dL_said_3 1 rfl rfl ?_
  refine uv_iconst O.1 dL_said_4 (-nI 1) rfl ?_
  obtain ⟨τ, u1, hS⟩ := y_said hB hG (-nI 1)
  rw [show zsl (ySay g) (-nI 1) = nI (ySay g).length from if_pos rfl] at u1
  refine ue_ctV (as := [.int (-nI 1)]) (rest := []) O hfit dL_said_5 (fun Z2 hZ2 => ct_X11_said hZ2 rfl u1) vx_RL_43 rfl rfl rfl ⟨(Nat.le_of_ble_eq_true rfl), (Nat.le_of_ble_eq_true rfl)⟩ (Nat.le_of_ble_eq_true rfl) (by omega) (by omega) (fun _ hfit => ?_)
  show uE Z C τ [] _ _ _ [(1, .ref e), (0, .ref (za Z 0))] [.int (nI (ySay g).length)]
  refine uv_istore_n O.1 dL_said_8 rfl (by omega) [(2, .int (nI (ySay g).length)), (1, .ref e), (0, .ref (za Z 0))] rfl ?_
  refine uv_iconst O.1 dL_said_9 (nI 0) rfl ?_
  refine uv_istore_n O.1 dL_said_10 rfl (by omega) [(3, .int (nI 0)), (2, .int (nI (ySay g).length)), (1, .ref e), (0, .ref (za Z 0))] rfl ?_
  refine uv_sub [0, 1, 2, 3] rfl ?_
  show uE Z C τ [] _ _ _ [(3, .int (nI 0)), (2, .int (nI (ySay g).length)), (1, .ref e), (0, .ref (za Z 0))] []
  refine uv_iload_n O.1 dL_said_11 0 rfl rfl ?_
  refine uv_iload_n O.1 dL_said_12 1 rfl rfl ?_
  refine uv_icmp_ge 46 O.1 dL_said_13 rfl (fun hh => absurd hh (j_nle (by omega) (by omega))) (fun _ => ?_)
  show uE Z C τ [] _ _ _ [(3, .int (nI 0)), (2, .int (nI (ySay g).length)), (1, .ref e), (0, .ref (za Z 0))] []
  refine ue_newB O dL_said_16 (uq_in (by decide +kernel) (by decide +kernel)) (uq_in (by decide +kernel) (by decide +kernel)) (uq_in (by decide +kernel) (by decide +kernel)) (by omega) (by omega) (fun b1 => ?_)
  show uE Z C τ [(b1, .inr (13, [.null, .int (nI 0), .int (nI 0), .int (nI 0)]))] _ _ _ [(3, .int (nI 0)), (2, .int (nI (ySay g).length)), (1, .ref e), (0, .ref (za Z 0))] [.ref b1]
  refine uv_dup O.1 dL_said_19 rfl ?_
  refine ue_call (E1 := []) (wc := [(b1, .inr (13, [.null, .int (nI 0), .int (nI 0), .int (nI 0)]))]) (rest := [.ref b1]) O (jc_I (b := b1) (as' := []) (rest := [.ref b1]) O.1 dL_said_20 (uq_in (by decide +kernel) (by decide +kernel)) (uq_in (by decide +kernel) (by decide +kernel)) rfl (uq_in (by decide +kernel) (by decide +kernel)) (uq_in (by decide +kernel) (by decide +kernel)) ⟨by decide +kernel, by decide +kernel, (by decide +kernel : (parseMethodDescriptor yJ4_init_da8c8.desc).map (fun d => d.parameters.length) = some 0)⟩ rfl ⟨(Nat.le_of_ble_eq_true rfl), (Nat.le_of_ble_eq_true rfl)⟩ (Nat.le_of_ble_eq_true rfl)) (fun sz => j_sbI Z b1 sz) jX0_mv jt_0 j_r0 rfl (by omega) (by omega) (fun w0 hu => ?_)
  show uE Z C τ [(b1, .inr (13, [.ref w0, .int (nI 0), .int (nI 0), .int (nI 0)])), (w0, .inl (zc Z 0, (16, .inl (fun _ => 0))))] _ _ _ [(3, .int (nI 0)), (2, .int (nI (ySay g).length)), (1, .ref e), (0, .ref (za Z 0))] [.ref b1]
  refine uv_aload_n O.1 dL_said_23 2 rfl rfl ?_
  refine ue_call (E1 := []) (wc := [(b1, .inr (13, [.ref w0, .int (nI 0), .int (nI 0), .int (nI 0)])), (w0, .inl (zc Z 0, (16, .inl (fun _ => 0))))]) (rest := []) O (jc_V (y := yJ4_append_15ec4) (C0 := RJ4) (b := b1) (as' := [.ref e]) (rest := []) O.1 dL_said_24 (uq_in (by decide +kernel) (by decide +kernel)) (uq_in (by decide +kernel) (by decide +kernel)) (O.1.2.2.2.2.1 (Cond.selects RJ4 yJ4_append_15ec4 yJ4_append_15ec4) (uq_in (by decide +kernel) (by decide +kernel))) (uq_in (by decide +kernel) (by decide +kernel)) (uq_in (by decide +kernel) (by decide +kernel)) ⟨by decide +kernel, by decide +kernel, (by decide +kernel : (parseMethodDescriptor yJ4_append_15ec4.desc).map (fun d => d.parameters.length) = some 1)⟩ rfl ⟨(Nat.le_of_ble_eq_true rfl), (Nat.le_of_ble_eq_true rfl)⟩ (Nat.le_of_ble_eq_true rfl)) (fun sz => j_sbS Z b1 w0 16 0 (fun _ => 0) e ev 0 ef sz (by omega) (by omega) (by omega) jF_0 hef) (jS_mv _ _ _ _) (jt_up O.1 (jS_mv _ _ _ _) hX.2) (j_rwE (r := (RJ4, TJ4, 4)) (ci := 13) (i := 0) (E1 := []) (wc := [(b1, .inr (13, [.ref w0, .int (nI 0), .int (nI 0), .int (nI 0)])), (w0, .inl (zc Z 0, (16, .inl (fun _ => 0))))]) O.1 rfl rfl) rfl (by omega) (by omega) (fun u hu => ?_)
  obtain ⟨w1, c1, g1⟩ := u
  dsimp only at hu
  obtain ⟨ha1, ha2, ⟨-, ha3⟩, ha4⟩ := hu
  show uE Z C τ [(b1, .inr (13, [.ref w1, .int (nI 0), .int (nI 0), .int (nI (0 + 0))])), (w1, .inl (zc Z 0, (c1, .inl g1)))] _ _ _ [(3, .int (nI 0)), (2, .int (nI (ySay g).length)), (1, .ref e), (0, .ref (za Z 0))] [.ref b1]
  refine uv_aload_n O.1 dL_said_27 3 rfl rfl ?_
  refine uv_iload_n O.1 dL_said_28 0 rfl rfl ?_
  have hk : 0 < (ySay g).length := by omega
  obtain ⟨τ2, u1, u2⟩ := y_said (yB_sy hB hS) hG (nI 0)
  rw [y_zsl hk (by omega)] at u1
  refine ue_ctV (as := [.int (nI 0)]) (rest := [.ref b1]) O hfit dL_said_29 (fun Z2 hZ2 => ct_X11_said hZ2 rfl u1) vx_RL_43 rfl rfl rfl ⟨(Nat.le_of_ble_eq_true rfl), (Nat.le_of_ble_eq_true rfl)⟩ (Nat.le_of_ble_eq_true rfl) (by omega) (by omega) (fun _ hfit => ?_)
  show uE Z C τ2 [(b1, .inr (13, [.ref w1, .int (nI 0), .int (nI 0), .int (nI (0 + 0))])), (w1, .inl (zc Z 0, (c1, .inl g1)))] _ _ _ [(3, .int (nI 0)), (2, .int (nI (ySay g).length)), (1, .ref e), (0, .ref (za Z 0))] [.int (nI ((ySay g).getD 0 0)), .ref b1]
  have hb : (ySay g).getD 0 0 < 256 := ySay_b hB hG hk
  refine uv_i2c (z := nI ((ySay g).getD 0 0)) O.1 dL_said_32 (j_i2c (by omega)) ?_
  refine ue_call (E1 := []) (wc := [(b1, .inr (13, [.ref w1, .int (nI 0), .int (nI 0), .int (nI (0 + 0))])), (w1, .inl (zc Z 0, (c1, .inl g1)))]) (rest := []) O (jc_V (y := yJ4_append_cf468) (C0 := RJ4) (b := b1) (as' := [.int (nI ((ySay g).getD 0 0))]) (rest := []) O.1 dL_said_33 (uq_in (by decide +kernel) (by decide +kernel)) (uq_in (by decide +kernel) (by decide +kernel)) (O.1.2.2.2.2.1 (Cond.selects RJ4 yJ4_append_cf468 yJ4_append_cf468) (uq_in (by decide +kernel) (by decide +kernel))) (uq_in (by decide +kernel) (by decide +kernel)) (uq_in (by decide +kernel) (by decide +kernel)) ⟨by decide +kernel, by decide +kernel, (by decide +kernel : (parseMethodDescriptor yJ4_append_cf468.desc).map (fun d => d.parameters.length) = some 1)⟩ rfl ⟨(Nat.le_of_ble_eq_true rfl), (Nat.le_of_ble_eq_true rfl)⟩ (Nat.le_of_ble_eq_true rfl)) (fun sz => j_sbC Z b1 w1 c1 (0 + 0) ((ySay g).getD 0 0) g1 sz (by omega) ha1 ha2 ha4 hb) jX0_mv jt_0 (j_rwE (r := (RJ4, TJ4, 4)) (ci := 13) (i := 0) (E1 := []) (wc := [(b1, .inr (13, [.ref w1, .int (nI 0), .int (nI 0), .int (nI (0 + 0))])), (w1, .inl (zc Z 0, (c1, .inl g1)))]) O.1 rfl rfl) rfl (by omega) (by omega) (fun u hu => ?_)
  obtain ⟨w2, c2, g2⟩ := u
  dsimp only at hu
  obtain ⟨hb1, hb2, ⟨hb3, hb5⟩, hb4⟩ := hu
  show uE Z C τ2 [(b1, .inr (13, [.ref w2, .int (nI 0), .int (nI 0), .int (nI ((0 + 0) + 1))])), (w2, .inl (zc Z 0, (c2, .inl g2)))] _ _ _ [(3, .int (nI 0)), (2, .int (nI (ySay g).length)), (1, .ref e), (0, .ref (za Z 0))] [.ref b1]
  refine ue_call (E1 := []) (wc := [(b1, .inr (13, [.ref w2, .int (nI 0), .int (nI 0), .int (nI ((0 + 0) + 1))])), (w2, .inl (zc Z 0, (c2, .inl g2)))]) (rest := []) O (jc_V (y := yJ4_toString_0e30d) (C0 := RJ4) (b := b1) (as' := []) (rest := []) O.1 dL_said_36 (uq_in (by decide +kernel) (by decide +kernel)) (uq_in (by decide +kernel) (by decide +kernel)) (O.1.2.2.2.2.1 (Cond.selects RJ4 yJ4_toString_0e30d yJ4_toString_0e30d) (uq_in (by decide +kernel) (by decide +kernel))) (uq_in (by decide +kernel) (by decide +kernel)) (uq_in (by decide +kernel) (by decide +kernel)) ⟨by decide +kernel, by decide +kernel, (by decide +kernel : (parseMethodDescriptor yJ4_toString_0e30d.desc).map (fun d => d.parameters.length) = some 0)⟩ rfl ⟨(Nat.le_of_ble_eq_true rfl), (Nat.le_of_ble_eq_true rfl)⟩ (Nat.le_of_ble_eq_true rfl)) (fun sz => j_toS Z b1 w2 c2 (0 + 0 + 1) g2 sz (by omega) hb1 hb2 hb4) jX0_mv jt_0 (j_rwE (r := (RJ4, TJ4, 4)) (ci := 13) (i := 0) (E1 := []) (wc := [(b1, .inr (13, [.ref w2, .int (nI 0), .int (nI 0), .int (nI ((0 + 0) + 1))])), (w2, .inl (zc Z 0, (c2, .inl g2)))]) O.1 rfl rfl) rfl (by omega) (by omega) (fun u hu => ?_)
  obtain ⟨q3, v3, f3⟩ := u
  dsimp only at hu
  obtain ⟨hc1, hc2⟩ := hu
  show uE Z C τ2 [(q3, .inr (12, [.ref v3, .int (nI 0), .int (nI 0), .int (nI 0)])), (v3, .inl (zc Z 0, ((0 + 0 + 1), .inl f3)))] _ _ _ [(3, .int (nI 0)), (2, .int (nI (ySay g).length)), (1, .ref e), (0, .ref (za Z 0))] [.ref q3]
  refine uv_astore_n O.1 dL_said_39 rfl (by omega) [(1, .ref q3), (3, .int (nI 0)), (2, .int (nI (ySay g).length)), (0, .ref (za Z 0))] rfl ?_
  refine uv_iinc (z := 1) (v := nI (0 + 1)) O.1 dL_said_40 1 rfl (zI.1 _ _) (by omega) [(3, .int (nI (0 + 1))), (1, .ref q3), (2, .int (nI (ySay g).length)), (0, .ref (za Z 0))] rfl ?_
  refine uv_goto 11 O.1 dL_said_43 rfl ?_
  refine uv_sub [0, 2, 1, 3] rfl ?_
  refine uv_widen (k' := 6 * (0 + 1)) (n' := 394 * (0 + 1)) (by omega) (by omega) ?_
  have e0 : 0 + 0 + 1 = 0 + 1 := by omega
  rw [e0]
  exact step ((ySay g).length - 1) 1 q3 v3 f3 τ2 (by omega) (by omega) (zSy_t hS u2) hfit (y_app (F := fun k => (ySay g).getD k 0) (fun k hk => absurd hk (by omega)) ha3 hb3 hb5 hc1) hc2

theorem y_take5 {l : List Nat} {p n : Nat} {B : Nat → Nat} (hn : n = min 5 (l.length - p)) (hB : ∀ c, c < n → B c = l.getD (p + c) 0) : l.take p ++ [B 0, B 1, B 2, B 3, B 4].take n = l.take (p + 5) := by
  rw [List.take_add]
  congr 1
  have h5 : [B 0, B 1, B 2, B 3, B 4].length = 5 := rfl
  apply List.ext_getElem
  · rw [List.length_take, List.length_take, List.length_drop, h5]; omega
  · intro i h1 h2
    rw [List.length_take, h5] at h1
    rw [List.length_take, List.length_drop] at h2
    rw [List.getElem_take, List.getElem_take, List.getElem_drop]
    have e : l.getD (p + i) 0 = l[p + i]'(by omega) := by simp [List.getD_eq_getElem?_getD, List.getElem?_eq_getElem (show p + i < l.length by omega)]
    rw [← e, ← hB i (by omega)]
    rcases (show i = 0 ∨ i = 1 ∨ i = 2 ∨ i = 3 ∨ i = 4 by omega) with rfl | rfl | rfl | rfl | rfl <;> rfl

set_option maxHeartbeats 4000000 in
theorem l_types (Z : ZT) (q v : Nat) (f : Nat → Int32) (l : List Nat) (σ : Mem) (sz : Nat) (hl : l.length ≤ 50) (hb : ∀ k, k < l.length → l.getD k 0 < 256) (hf : ∀ k, k < l.length → f k = zsg (l.getD k 0)) (hz0 : zL σ 1 []) (hfit : hFit σ) : MkJ (S := Mem) Z yL_types cL_types 5 (some .boolean) 4 0 0 85 [.ref (za Z 0), .ref q] (jS q v l.length f) (wlB Z σ) (fun u => some (.int (nI 1))) (fun u => zL u 1 l ∧ hFit u ∧ ∀ x c, x ≠ 1 → x ≠ 2 → u x c = σ x c) (fun u => wlB Z u) sz := by
  refine j_mk (by decide +kernel) (Nat.le_of_ble_eq_true rfl) (fun C O hnm hX hr hlk hE => ?_)
  have O : jOk Z C RL cL_types 5 4 85 0 0 := O
  have fin : ∀ (p : Nat) (τ : Mem), l.length ≤ p → zL τ 1 (l.take p) → hFit τ → (∀ x c, x ≠ 1 → x ≠ 2 → τ x c = σ x c) → uE Z C τ [] 0 0 134 [(3, .int (nI p)), (2, .int (nI 1)), (0, .ref (za Z 0)), (1, .ref q)] [] := by
    intro p τ hp hz hfit hfr
    rw [List.take_of_length_le hp] at hz
    refine uv_iload_n O.1 dL_types_134 1 rfl rfl ?_
    exact uv_eq (List.append_nil _) (jr_z τ O hr rfl hlk hE ⟨hz, hfit, hfr⟩ rfl dL_types_135)
  have loop : ∀ (d p : Nat) (τ : Mem), l.length ≤ p + 5 * d → p ≤ 60 → zL τ 1 (l.take p) → hFit τ → (∀ x c, x ≠ 1 → x ≠ 2 → τ x c = σ x c) → uE Z C τ [] 0 0 4 [(3, .int (nI p)), (2, .int (nI 1)), (0, .ref (za Z 0)), (1, .ref q)] [] := by
    intro d
    induction d with
    | zero =>
      intro p τ hd hp hz hfit hfr
      refine uv_iload_n O.1 dL_types_4 0 rfl rfl ?_
      refine uv_aload_n O.1 dL_types_5 3 rfl rfl ?_
      refine ue_call (E1 := []) (wc := []) (rest := [.int (nI p)]) O (jc_V (y := yJ0_length_8abf5) (C0 := RJ0) (b := q) (as' := []) (rest := [.int (nI p)]) O.1 dL_types_6 (uq_in (by decide +kernel) (by decide +kernel)) (uq_in (by decide +kernel) (by decide +kernel)) (O.1.2.2.2.2.1 (Cond.selects RJ0 yJ0_length_8abf5 yJ0_length_8abf5) (uq_in (by decide +kernel) (by decide +kernel))) (uq_in (by decide +kernel) (by decide +kernel)) (uq_in (by decide +kernel) (by decide +kernel)) ⟨by decide +kernel, by decide +kernel, (by decide +kernel : (parseMethodDescriptor yJ0_length_8abf5.desc).map (fun d => d.parameters.length) = some 0)⟩ rfl ⟨(Nat.le_of_ble_eq_true rfl), (Nat.le_of_ble_eq_true rfl)⟩ (Nat.le_of_ble_eq_true rfl)) (fun sz => j_len Z q v l.length f sz) (jS_mv _ _ _ _) (jt_up O.1 (jS_mv _ _ _ _) hX) (j_rs hX) rfl (by omega) (by omega) (fun u hu => ?_)
      show uE Z C τ [] _ _ _ [(3, .int (nI p)), (2, .int (nI 1)), (0, .ref (za Z 0)), (1, .ref q)] [.int (nI l.length), .int (nI p)]
      refine uv_icmp_ge 134 O.1 dL_types_9 rfl (fun _ => fin p τ (by omega) hz hfit hfr) (fun hh => absurd (j_le (by omega) (by omega)) hh)
    | succ d ih =>
      intro p τ hd hp hz hfit hfr
      refine uv_iload_n O.1 dL_types_4 0 rfl rfl ?_
      refine uv_aload_n O.1 dL_types_5 3 rfl rfl ?_
      refine ue_call (E1 := []) (wc := []) (rest := [.int (nI p)]) O (jc_V (y := yJ0_length_8abf5) (C0 := RJ0) (b := q) (as' := []) (rest := [.int (nI p)]) O.1 dL_types_6 (uq_in (by decide +kernel) (by decide +kernel)) (uq_in (by decide +kernel) (by decide +kernel)) (O.1.2.2.2.2.1 (Cond.selects RJ0 yJ0_length_8abf5 yJ0_length_8abf5) (uq_in (by decide +kernel) (by decide +kernel))) (uq_in (by decide +kernel) (by decide +kernel)) (uq_in (by decide +kernel) (by decide +kernel)) ⟨by decide +kernel, by decide +kernel, (by decide +kernel : (parseMethodDescriptor yJ0_length_8abf5.desc).map (fun d => d.parameters.length) = some 0)⟩ rfl ⟨(Nat.le_of_ble_eq_true rfl), (Nat.le_of_ble_eq_true rfl)⟩ (Nat.le_of_ble_eq_true rfl)) (fun sz => j_len Z q v l.length f sz) (jS_mv _ _ _ _) (jt_up O.1 (jS_mv _ _ _ _) hX) (j_rs hX) rfl (by omega) (by omega) (fun u hu => ?_)
      show uE Z C τ [] _ _ _ [(3, .int (nI p)), (2, .int (nI 1)), (0, .ref (za Z 0)), (1, .ref q)] [.int (nI l.length), .int (nI p)]
      refine uv_icmp_ge 134 O.1 dL_types_9 rfl (fun hh => fin p τ (by simp (disch := omega) only [zC] at hh; omega) hz hfit hfr) (fun hh => ?_)
      have hpl : p < l.length := by simp (disch := omega) only [zC] at hh; omega
      obtain ⟨n, hn⟩ : ∃ n, n = min 5 (l.length - p) := ⟨_, rfl⟩
      have hlt : (l.take p).length = p := by rw [List.length_take]; omega
      let B : Nat → Nat := fun c => if c < n then l.getD (p + c) 0 else 0
      have hB6 : ∀ c, B c < 256 := fun c => by
        show (if c < n then l.getD (p + c) 0 else 0) < 256
        split
        · exact hb _ (by omega)
        · omega
      have J111 : uE Z C τ [] 0 0 111 [(4, .int (nI n)), (3, .int (nI p)), (2, .int (nI 1)), (0, .ref (za Z 0)), (1, .ref q)] [.int (nI (B 4)), .int (nI (B 3)), .int (nI (B 2)), .int (nI (B 1)), .int (nI (B 0)), .int (nI n), .ref (za Z 0), .int (nI 1)] := by
        obtain ⟨τ2, u1, u2, u3⟩ := y_feed (l := l.take p) (n := n) (j2 := B 0) (j3 := B 1) (j4 := B 2) (j5 := B 3) (j6 := B 4) (by omega) (by omega) (by rw [hlt]; omega) hz (hB6 _) (hB6 _) (hB6 _) (hB6 _) (hB6 _)
        rw [hlt] at u1
        rw [y_take5 hn (fun c hc => if_pos hc)] at u2
        refine ue_ctV (as := [.int (nI n), .int (nI (B 0)), .int (nI (B 1)), .int (nI (B 2)), .int (nI (B 3)), .int (nI (B 4))]) (rest := [.int (nI 1)]) O hfit dL_types_111 (fun Z2 hZ2 => ct_X11_feed hZ2 rfl u1) vx_RL_19 rfl rfl rfl ⟨(Nat.le_of_ble_eq_true rfl), (Nat.le_of_ble_eq_true rfl)⟩ (Nat.le_of_ble_eq_true rfl) (by omega) (by omega) (fun _ hfit => ?_)
        show uE Z C τ2 [] _ _ _ [(4, .int (nI n)), (3, .int (nI p)), (2, .int (nI 1)), (0, .ref (za Z 0)), (1, .ref q)] [.int (nI (p + n)), .int (nI 1)]
        refine uv_iload_n O.1 dL_types_114 1 rfl rfl ?_
        refine uv_iload O.1 dL_types_115 0 rfl ?_
        refine uv_iaddE (z := nI (p + n)) O.1 dL_types_117 (zI.1 _ _) ?_
        refine uv_icmp_ne 125 O.1 dL_types_118 rfl (fun hh => absurd rfl hh) (fun _ => ?_)
        refine uv_iconst O.1 dL_types_121 (nI 1) rfl ?_
        refine uv_goto 126 O.1 dL_types_122 rfl ?_
        refine uv_iand (z := nI 1) O.1 dL_types_126 (by decide +kernel) ?_
        refine uv_istore_n O.1 dL_types_127 rfl (by omega) [(2, .int (nI 1)), (4, .int (nI n)), (3, .int (nI p)), (0, .ref (za Z 0)), (1, .ref q)] rfl ?_
        refine uv_iinc (z := 5) (v := nI (p + 5)) O.1 dL_types_128 2 rfl (zI.1 _ _) (by omega) [(3, .int (nI (p + 5))), (2, .int (nI 1)), (4, .int (nI n)), (0, .ref (za Z 0)), (1, .ref q)] rfl ?_
        refine uv_goto 4 O.1 dL_types_131 rfl ?_
        refine uv_sub [0, 1, 3, 4] rfl ?_
        exact ih (p + 5) τ2 (by omega) (by omega) u2 hfit (fun x c h1 h2 => (u3 x c h1 h2).trans (hfr x c h1 h2))
      have J94 : uE Z C τ [] 0 0 94 [(4, .int (nI n)), (3, .int (nI p)), (2, .int (nI 1)), (0, .ref (za Z 0)), (1, .ref q)] [.int (nI (B 3)), .int (nI (B 2)), .int (nI (B 1)), .int (nI (B 0)), .int (nI n), .ref (za Z 0), .int (nI 1)] := by
        refine uv_iload O.1 dL_types_94 0 rfl ?_
        refine uv_iconst O.1 dL_types_96 (nI 4) rfl ?_
        refine uv_icmp_le 110 O.1 dL_types_97 rfl (fun hh => ?_) (fun hh => ?_)
        · have hc : ¬ 4 < n := by simp (disch := omega) only [zC] at hh; omega
          refine uv_iconst O.1 dL_types_110 (nI (B 4)) (show (nI 0 : Int32) = nI (B 4) by rw [show B 4 = 0 from if_neg hc]) ?_
          exact J111
        · have hc : 4 < n := by simp (disch := omega) only [zC] at hh; omega
          refine uv_aload_n O.1 dL_types_100 4 rfl rfl ?_
          refine uv_iload_n O.1 dL_types_101 1 rfl rfl ?_
          refine uv_iconst O.1 dL_types_102 (nI 4) rfl ?_
          refine uv_iaddE (z := nI (p + 4)) O.1 dL_types_103 (zI.1 _ _) ?_
          refine ue_call (E1 := []) (wc := []) (rest := [.int (nI (B 3)), .int (nI (B 2)), .int (nI (B 1)), .int (nI (B 0)), .int (nI n), .ref (za Z 0), .int (nI 1)]) O (jc_V (y := yJ0_charAt_5068e) (C0 := RJ0) (b := q) (as' := [.int (nI (p + 4))]) (rest := [.int (nI (B 3)), .int (nI (B 2)), .int (nI (B 1)), .int (nI (B 0)), .int (nI n), .ref (za Z 0), .int (nI 1)]) O.1 dL_types_104 (uq_in (by decide +kernel) (by decide +kernel)) (uq_in (by decide +kernel) (by decide +kernel)) (O.1.2.2.2.2.1 (Cond.selects RJ0 yJ0_charAt_5068e yJ0_charAt_5068e) (uq_in (by decide +kernel) (by decide +kernel))) (uq_in (by decide +kernel) (by decide +kernel)) (uq_in (by decide +kernel) (by decide +kernel)) ⟨by decide +kernel, by decide +kernel, (by decide +kernel : (parseMethodDescriptor yJ0_charAt_5068e.desc).map (fun d => d.parameters.length) = some 1)⟩ rfl ⟨(Nat.le_of_ble_eq_true rfl), (Nat.le_of_ble_eq_true rfl)⟩ (Nat.le_of_ble_eq_true rfl)) (fun sz => j_chr Z q v l.length (p + 4) (B 4) f sz (by omega) (by omega) (hB6 _) (by rw [show B 4 = l.getD (p + 4) 0 from if_pos hc]; exact hf _ (by omega))) (jS_mv _ _ _ _) (jt_up O.1 (jS_mv _ _ _ _) hX) (j_rs hX) rfl (by omega) (by omega) (fun u hu => ?_)
          show uE Z C τ [] _ _ _ [(4, .int (nI n)), (3, .int (nI p)), (2, .int (nI 1)), (0, .ref (za Z 0)), (1, .ref q)] [.int (nI (B 4)), .int (nI (B 3)), .int (nI (B 2)), .int (nI (B 1)), .int (nI (B 0)), .int (nI n), .ref (za Z 0), .int (nI 1)]
          refine uv_goto 111 O.1 dL_types_107 rfl ?_
          exact J111
      have J77 : uE Z C τ [] 0 0 77 [(4, .int (nI n)), (3, .int (nI p)), (2, .int (nI 1)), (0, .ref (za Z 0)), (1, .ref q)] [.int (nI (B 2)), .int (nI (B 1)), .int (nI (B 0)), .int (nI n), .ref (za Z 0), .int (nI 1)] := by
        refine uv_iload O.1 dL_types_77 0 rfl ?_
        refine uv_iconst O.1 dL_types_79 (nI 3) rfl ?_
        refine uv_icmp_le 93 O.1 dL_types_80 rfl (fun hh => ?_) (fun hh => ?_)
        · have hc : ¬ 3 < n := by simp (disch := omega) only [zC] at hh; omega
          refine uv_iconst O.1 dL_types_93 (nI (B 3)) (show (nI 0 : Int32) = nI (B 3) by rw [show B 3 = 0 from if_neg hc]) ?_
          exact J94
        · have hc : 3 < n := by simp (disch := omega) only [zC] at hh; omega
          refine uv_aload_n O.1 dL_types_83 4 rfl rfl ?_
          refine uv_iload_n O.1 dL_types_84 1 rfl rfl ?_
          refine uv_iconst O.1 dL_types_85 (nI 3) rfl ?_
          refine uv_iaddE (z := nI (p + 3)) O.1 dL_types_86 (zI.1 _ _) ?_
          refine ue_call (E1 := []) (wc := []) (rest := [.int (nI (B 2)), .int (nI (B 1)), .int (nI (B 0)), .int (nI n), .ref (za Z 0), .int (nI 1)]) O (jc_V (y := yJ0_charAt_5068e) (C0 := RJ0) (b := q) (as' := [.int (nI (p + 3))]) (rest := [.int (nI (B 2)), .int (nI (B 1)), .int (nI (B 0)), .int (nI n), .ref (za Z 0), .int (nI 1)]) O.1 dL_types_87 (uq_in (by decide +kernel) (by decide +kernel)) (uq_in (by decide +kernel) (by decide +kernel)) (O.1.2.2.2.2.1 (Cond.selects RJ0 yJ0_charAt_5068e yJ0_charAt_5068e) (uq_in (by decide +kernel) (by decide +kernel))) (uq_in (by decide +kernel) (by decide +kernel)) (uq_in (by decide +kernel) (by decide +kernel)) ⟨by decide +kernel, by decide +kernel, (by decide +kernel : (parseMethodDescriptor yJ0_charAt_5068e.desc).map (fun d => d.parameters.length) = some 1)⟩ rfl ⟨(Nat.le_of_ble_eq_true rfl), (Nat.le_of_ble_eq_true rfl)⟩ (Nat.le_of_ble_eq_true rfl)) (fun sz => j_chr Z q v l.length (p + 3) (B 3) f sz (by omega) (by omega) (hB6 _) (by rw [show B 3 = l.getD (p + 3) 0 from if_pos hc]; exact hf _ (by omega))) (jS_mv _ _ _ _) (jt_up O.1 (jS_mv _ _ _ _) hX) (j_rs hX) rfl (by omega) (by omega) (fun u hu => ?_)
          show uE Z C τ [] _ _ _ [(4, .int (nI n)), (3, .int (nI p)), (2, .int (nI 1)), (0, .ref (za Z 0)), (1, .ref q)] [.int (nI (B 3)), .int (nI (B 2)), .int (nI (B 1)), .int (nI (B 0)), .int (nI n), .ref (za Z 0), .int (nI 1)]
          refine uv_goto 94 O.1 dL_types_90 rfl ?_
          exact J94
      have J60 : uE Z C τ [] 0 0 60 [(4, .int (nI n)), (3, .int (nI p)), (2, .int (nI 1)), (0, .ref (za Z 0)), (1, .ref q)] [.int (nI (B 1)), .int (nI (B 0)), .int (nI n), .ref (za Z 0), .int (nI 1)] := by
        refine uv_iload O.1 dL_types_60 0 rfl ?_
        refine uv_iconst O.1 dL_types_62 (nI 2) rfl ?_
        refine uv_icmp_le 76 O.1 dL_types_63 rfl (fun hh => ?_) (fun hh => ?_)
        · have hc : ¬ 2 < n := by simp (disch := omega) only [zC] at hh; omega
          refine uv_iconst O.1 dL_types_76 (nI (B 2)) (show (nI 0 : Int32) = nI (B 2) by rw [show B 2 = 0 from if_neg hc]) ?_
          exact J77
        · have hc : 2 < n := by simp (disch := omega) only [zC] at hh; omega
          refine uv_aload_n O.1 dL_types_66 4 rfl rfl ?_
          refine uv_iload_n O.1 dL_types_67 1 rfl rfl ?_
          refine uv_iconst O.1 dL_types_68 (nI 2) rfl ?_
          refine uv_iaddE (z := nI (p + 2)) O.1 dL_types_69 (zI.1 _ _) ?_
          refine ue_call (E1 := []) (wc := []) (rest := [.int (nI (B 1)), .int (nI (B 0)), .int (nI n), .ref (za Z 0), .int (nI 1)]) O (jc_V (y := yJ0_charAt_5068e) (C0 := RJ0) (b := q) (as' := [.int (nI (p + 2))]) (rest := [.int (nI (B 1)), .int (nI (B 0)), .int (nI n), .ref (za Z 0), .int (nI 1)]) O.1 dL_types_70 (uq_in (by decide +kernel) (by decide +kernel)) (uq_in (by decide +kernel) (by decide +kernel)) (O.1.2.2.2.2.1 (Cond.selects RJ0 yJ0_charAt_5068e yJ0_charAt_5068e) (uq_in (by decide +kernel) (by decide +kernel))) (uq_in (by decide +kernel) (by decide +kernel)) (uq_in (by decide +kernel) (by decide +kernel)) ⟨by decide +kernel, by decide +kernel, (by decide +kernel : (parseMethodDescriptor yJ0_charAt_5068e.desc).map (fun d => d.parameters.length) = some 1)⟩ rfl ⟨(Nat.le_of_ble_eq_true rfl), (Nat.le_of_ble_eq_true rfl)⟩ (Nat.le_of_ble_eq_true rfl)) (fun sz => j_chr Z q v l.length (p + 2) (B 2) f sz (by omega) (by omega) (hB6 _) (by rw [show B 2 = l.getD (p + 2) 0 from if_pos hc]; exact hf _ (by omega))) (jS_mv _ _ _ _) (jt_up O.1 (jS_mv _ _ _ _) hX) (j_rs hX) rfl (by omega) (by omega) (fun u hu => ?_)
          show uE Z C τ [] _ _ _ [(4, .int (nI n)), (3, .int (nI p)), (2, .int (nI 1)), (0, .ref (za Z 0)), (1, .ref q)] [.int (nI (B 2)), .int (nI (B 1)), .int (nI (B 0)), .int (nI n), .ref (za Z 0), .int (nI 1)]
          refine uv_goto 77 O.1 dL_types_73 rfl ?_
          exact J77
      have J43 : uE Z C τ [] 0 0 43 [(4, .int (nI n)), (3, .int (nI p)), (2, .int (nI 1)), (0, .ref (za Z 0)), (1, .ref q)] [.int (nI (B 0)), .int (nI n), .ref (za Z 0), .int (nI 1)] := by
        refine uv_iload O.1 dL_types_43 0 rfl ?_
        refine uv_iconst O.1 dL_types_45 (nI 1) rfl ?_
        refine uv_icmp_le 59 O.1 dL_types_46 rfl (fun hh => ?_) (fun hh => ?_)
        · have hc : ¬ 1 < n := by simp (disch := omega) only [zC] at hh; omega
          refine uv_iconst O.1 dL_types_59 (nI (B 1)) (show (nI 0 : Int32) = nI (B 1) by rw [show B 1 = 0 from if_neg hc]) ?_
          exact J60
        · have hc : 1 < n := by simp (disch := omega) only [zC] at hh; omega
          refine uv_aload_n O.1 dL_types_49 4 rfl rfl ?_
          refine uv_iload_n O.1 dL_types_50 1 rfl rfl ?_
          refine uv_iconst O.1 dL_types_51 (nI 1) rfl ?_
          refine uv_iaddE (z := nI (p + 1)) O.1 dL_types_52 (zI.1 _ _) ?_
          refine ue_call (E1 := []) (wc := []) (rest := [.int (nI (B 0)), .int (nI n), .ref (za Z 0), .int (nI 1)]) O (jc_V (y := yJ0_charAt_5068e) (C0 := RJ0) (b := q) (as' := [.int (nI (p + 1))]) (rest := [.int (nI (B 0)), .int (nI n), .ref (za Z 0), .int (nI 1)]) O.1 dL_types_53 (uq_in (by decide +kernel) (by decide +kernel)) (uq_in (by decide +kernel) (by decide +kernel)) (O.1.2.2.2.2.1 (Cond.selects RJ0 yJ0_charAt_5068e yJ0_charAt_5068e) (uq_in (by decide +kernel) (by decide +kernel))) (uq_in (by decide +kernel) (by decide +kernel)) (uq_in (by decide +kernel) (by decide +kernel)) ⟨by decide +kernel, by decide +kernel, (by decide +kernel : (parseMethodDescriptor yJ0_charAt_5068e.desc).map (fun d => d.parameters.length) = some 1)⟩ rfl ⟨(Nat.le_of_ble_eq_true rfl), (Nat.le_of_ble_eq_true rfl)⟩ (Nat.le_of_ble_eq_true rfl)) (fun sz => j_chr Z q v l.length (p + 1) (B 1) f sz (by omega) (by omega) (hB6 _) (by rw [show B 1 = l.getD (p + 1) 0 from if_pos hc]; exact hf _ (by omega))) (jS_mv _ _ _ _) (jt_up O.1 (jS_mv _ _ _ _) hX) (j_rs hX) rfl (by omega) (by omega) (fun u hu => ?_)
          show uE Z C τ [] _ _ _ [(4, .int (nI n)), (3, .int (nI p)), (2, .int (nI 1)), (0, .ref (za Z 0)), (1, .ref q)] [.int (nI (B 1)), .int (nI (B 0)), .int (nI n), .ref (za Z 0), .int (nI 1)]
          refine uv_goto 60 O.1 dL_types_56 rfl ?_
          exact J60
      have J32 : uE Z C τ [] 0 0 32 [(3, .int (nI p)), (2, .int (nI 1)), (0, .ref (za Z 0)), (1, .ref q)] [.int (nI n)] := by
        refine uv_istore O.1 dL_types_32 (by omega) [(4, .int (nI n)), (3, .int (nI p)), (2, .int (nI 1)), (0, .ref (za Z 0)), (1, .ref q)] rfl ?_
        refine uv_sub [0, 1, 2, 3, 4] rfl ?_
        refine uv_iload_n O.1 dL_types_34 2 rfl rfl ?_
        refine uv_aload_n O.1 dL_types_35 3 rfl rfl ?_
        refine uv_iload O.1 dL_types_36 0 rfl ?_
        refine uv_aload_n O.1 dL_types_38 4 rfl rfl ?_
        refine uv_iload_n O.1 dL_types_39 1 rfl rfl ?_
        refine ue_call (E1 := []) (wc := []) (rest := [.int (nI n), .ref (za Z 0), .int (nI 1)]) O (jc_V (y := yJ0_charAt_5068e) (C0 := RJ0) (b := q) (as' := [.int (nI p)]) (rest := [.int (nI n), .ref (za Z 0), .int (nI 1)]) O.1 dL_types_40 (uq_in (by decide +kernel) (by decide +kernel)) (uq_in (by decide +kernel) (by decide +kernel)) (O.1.2.2.2.2.1 (Cond.selects RJ0 yJ0_charAt_5068e yJ0_charAt_5068e) (uq_in (by decide +kernel) (by decide +kernel))) (uq_in (by decide +kernel) (by decide +kernel)) (uq_in (by decide +kernel) (by decide +kernel)) ⟨by decide +kernel, by decide +kernel, (by decide +kernel : (parseMethodDescriptor yJ0_charAt_5068e.desc).map (fun d => d.parameters.length) = some 1)⟩ rfl ⟨(Nat.le_of_ble_eq_true rfl), (Nat.le_of_ble_eq_true rfl)⟩ (Nat.le_of_ble_eq_true rfl)) (fun sz => j_chr Z q v l.length p (B 0) f sz (by omega) (by omega) (hB6 _) (by rw [show B 0 = l.getD (p + 0) 0 from if_pos (by omega)]; exact hf _ (by omega))) (jS_mv _ _ _ _) (jt_up O.1 (jS_mv _ _ _ _) hX) (j_rs hX) rfl (by omega) (by omega) (fun u hu => ?_)
        show uE Z C τ [] _ _ _ [(4, .int (nI n)), (3, .int (nI p)), (2, .int (nI 1)), (0, .ref (za Z 0)), (1, .ref q)] [.int (nI (B 0)), .int (nI n), .ref (za Z 0), .int (nI 1)]
        exact J43
      refine uv_aload_n O.1 dL_types_12 3 rfl rfl ?_
      refine ue_call (E1 := []) (wc := []) (rest := []) O (jc_V (y := yJ0_length_8abf5) (C0 := RJ0) (b := q) (as' := []) (rest := []) O.1 dL_types_13 (uq_in (by decide +kernel) (by decide +kernel)) (uq_in (by decide +kernel) (by decide +kernel)) (O.1.2.2.2.2.1 (Cond.selects RJ0 yJ0_length_8abf5 yJ0_length_8abf5) (uq_in (by decide +kernel) (by decide +kernel))) (uq_in (by decide +kernel) (by decide +kernel)) (uq_in (by decide +kernel) (by decide +kernel)) ⟨by decide +kernel, by decide +kernel, (by decide +kernel : (parseMethodDescriptor yJ0_length_8abf5.desc).map (fun d => d.parameters.length) = some 0)⟩ rfl ⟨(Nat.le_of_ble_eq_true rfl), (Nat.le_of_ble_eq_true rfl)⟩ (Nat.le_of_ble_eq_true rfl)) (fun sz => j_len Z q v l.length f sz) (jS_mv _ _ _ _) (jt_up O.1 (jS_mv _ _ _ _) hX) (j_rs hX) rfl (by omega) (by omega) (fun u hu => ?_)
      show uE Z C τ [] _ _ _ [(3, .int (nI p)), (2, .int (nI 1)), (0, .ref (za Z 0)), (1, .ref q)] [.int (nI l.length)]
      refine uv_iload_n O.1 dL_types_16 0 rfl rfl ?_
      refine uv_isub (z := nI (l.length - p)) O.1 dL_types_17 (zi_sub (by omega)) ?_
      refine uv_iconst O.1 dL_types_18 (nI 5) rfl ?_
      refine uv_icmp_ge 31 O.1 dL_types_19 rfl (fun hh => ?_) (fun hh => ?_)
      · refine uv_iconst O.1 dL_types_31 (nI n) (show (nI 5 : Int32) = nI n from congrArg nI (by simp (disch := omega) only [zC] at hh; omega)) ?_
        exact J32
      · refine uv_aload_n O.1 dL_types_22 3 rfl rfl ?_
        refine ue_call (E1 := []) (wc := []) (rest := []) O (jc_V (y := yJ0_length_8abf5) (C0 := RJ0) (b := q) (as' := []) (rest := []) O.1 dL_types_23 (uq_in (by decide +kernel) (by decide +kernel)) (uq_in (by decide +kernel) (by decide +kernel)) (O.1.2.2.2.2.1 (Cond.selects RJ0 yJ0_length_8abf5 yJ0_length_8abf5) (uq_in (by decide +kernel) (by decide +kernel))) (uq_in (by decide +kernel) (by decide +kernel)) (uq_in (by decide +kernel) (by decide +kernel)) ⟨by decide +kernel, by decide +kernel, (by decide +kernel : (parseMethodDescriptor yJ0_length_8abf5.desc).map (fun d => d.parameters.length) = some 0)⟩ rfl ⟨(Nat.le_of_ble_eq_true rfl), (Nat.le_of_ble_eq_true rfl)⟩ (Nat.le_of_ble_eq_true rfl)) (fun sz => j_len Z q v l.length f sz) (jS_mv _ _ _ _) (jt_up O.1 (jS_mv _ _ _ _) hX) (j_rs hX) rfl (by omega) (by omega) (fun u hu => ?_)
        show uE Z C τ [] _ _ _ [(3, .int (nI p)), (2, .int (nI 1)), (0, .ref (za Z 0)), (1, .ref q)] [.int (nI l.length)]
        refine uv_iload_n O.1 dL_types_26 0 rfl rfl ?_
        refine uv_isub (z := nI n) O.1 dL_types_27 ((zi_sub (by omega)).trans (congrArg nI (by simp (disch := omega) only [zC] at hh; omega))) ?_
        refine uv_goto 32 O.1 dL_types_28 rfl ?_
        exact J32
  refine uE_nil ?_
  show uE Z C σ [] 0 0 0 [(0, .ref (za Z 0)), (1, .ref q)] []
  refine uv_iconst O.1 dL_types_0 (nI 1) rfl ?_
  refine uv_istore_n O.1 dL_types_1 rfl (by omega) [(2, .int (nI 1)), (0, .ref (za Z 0)), (1, .ref q)] rfl ?_
  refine uv_iconst O.1 dL_types_2 (nI 0) rfl ?_
  refine uv_istore_n O.1 dL_types_3 rfl (by omega) [(3, .int (nI 0)), (2, .int (nI 1)), (0, .ref (za Z 0)), (1, .ref q)] rfl ?_
  exact loop 10 0 σ (by omega) (by omega) (by simpa using hz0) hfit (fun _ _ _ _ => rfl)
