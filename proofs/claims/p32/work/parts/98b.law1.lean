section LB
variable {Z : ZT} {C : CX} {own : String} {cc : ByteArray} {nL fr lo kR nR : Nat} {ws : va_W} {k n pc : Nat} {L : List (Nat × Value)} {st : List Value}
theorem uv_if_eq {x : Int32} {off : Int} (tgt : Nat) (O : uOk Z C own cc nL fr lo kR nR) (hd : decode cc pc = .ok (.ifCond .eq off, 3)) (ht : (pc : Int) + off = (tgt : Int)) (kt : x = 0 → uV Z C ws k n tgt L st) (kf : ¬ x = 0 → uV Z C ws k n (pc + 3) L st) : uV Z C ws k n pc L (.int x :: st) := fun H locs ls hP hD hS h => lv_if_eq O.1 O.2.1 hd ht (fun q => kt q H locs ls hP hD hS h) (fun q => kf q H locs ls hP hD hS h)
end LB
theorem y_rem : (∀ k : Fin 8, irm (nI k.1) (nI 6) = nI (k.1 % 6) ∧ irm (nI k.1) (nI 4) = nI (k.1 % 4) ∧ irm (nI k.1) (nI 3) = nI (k.1 % 3)) ∧ (∀ k : Fin 32, irm (nI k.1) (nI 22) = nI (k.1 % 22) ∧ irm (nI k.1) (nI 24) = nI (k.1 % 24)) ∧ ∀ (k : Fin 32) (n : Fin 21), irm (nI k.1) (nI (n.1 + 1)) = nI (k.1 % (n.1 + 1)) := ⟨by decide +kernel, by decide +kernel, by decide +kernel⟩
theorem y_mpred : (∀ k : Fin 32, k.1 = 0 ∧ nI k.1 - nI 1 = -nI 1 ∨ 0 < k.1 ∧ nI k.1 - nI 1 = nI (k.1 - 1)) := by decide +kernel
/-- the words' phase -/
def yW0 (σ : Mem) (g f : Nat → Int32) (j : Nat) : Prop := yB σ g ∧ zL σ 1 [] ∧ znF g = 0 ∧ znW g = j ∧ g 13 = nI 0 ∧ g (zea 10) = nI 0 ∧ (∀ w, w < j → g (zwa w) = nI w ∧ f w = nI w) ∧ ∀ t, t < 4 → σ (375 + 2 * t) 0 = -nI 1
theorem yAl_map {m : Nat} {F : Nat → Nat} (h : ∀ k, 97 ≤ F k ∧ F k ≤ 122) : ((List.range m).map F).length = m ∧ (∀ k, k < m → ((List.range m).map F).getD k 0 = F k) ∧ zAl ((List.range m).map F) := by
  have e1 : ((List.range m).map F).length = m := by simp
  have e2 : ∀ k, k < m → ((List.range m).map F).getD k 0 = F k := fun k hk => by simp [List.getD_eq_getElem?_getD, List.getElem?_map, List.getElem?_range, hk]
  refine ⟨e1, e2, fun k hk => ?_⟩
  rw [e1] at hk
  rw [e2 k hk]
  unfold zlt
  have := h k
  simp only [Bool.and_eq_true, decide_eq_true_eq]
  exact this
theorem yW0_word {σ τ υ : Mem} {g f : Nat → Int32} {j : Nat} {l : List Nat} (h : yW0 σ g f j) (hj : j < 6) (hfr : ∀ x c, x ≠ 1 → x ≠ 2 → τ x c = σ x c) (u2 : yB υ (ywd g j j (j % 4) (j % 3) l)) (u3 : zL υ 1 []) (u4 : ∀ x k, x ≠ 1 → ¬ (x = 3 ∧ k = 1) → ¬ (12 + 3 * j ≤ x ∧ x < 15 + 3 * j) → υ x k = τ x k) : yW0 υ (ywd g j j (j % 4) (j % 3) l) (upd f j (nI j)) (j + 1) := by
  obtain ⟨hB, hz, h1, h2, h3, h4, h5, h6⟩ := h
  refine ⟨u2, u3, ?_, ?_, ?_, ?_, fun w hw => ?_, fun t ht => ?_⟩
  · exact (congrArg ix (ywd_o (by omega) (by omega))).trans h1
  · show ix (nI (j + 1)) = _
    rw [zi_ix (by omega)]
  · rw [ywd_o (by omega) (by omega)]; exact h3
  · rw [ywd_o (by unfold zea; omega) (by unfold zea; omega)]; exact h4
  · by_cases e : w = j
    · subst e
      refine ⟨?_, yu_eq⟩
      unfold ywd zwa
      rw [if_neg (by omega), if_pos rfl]
    · rw [yu_ne e, ywd_o (by unfold zwa; omega) (by unfold zwa; omega)]
      exact h5 w (by omega)
  · rw [u4 _ _ (by omega) (by omega) (by omega), hfr _ _ (by omega) (by omega)]; exact h6 t ht

set_option maxHeartbeats 4000000 in
theorem w_words {Z : ZT} {C : CX} {b N k25 v25 k34 v34 : Nat} {xs ef : Nat → Int32} (O : jOk Z C RL cL_law 19 13 494 600000 7302249) (hXs : jXs b N xs (c_A C) (c_s C) (c_s C).heap) (hN : N ≤ 600) (h25 : jK 25 "" k25 v25 0 ef (c_A C) (c_s C) (c_s C).heap) (hef : jF ef) (h34 : jK 34 "aeobtkle" k34 v34 8 (fun k => zsg (yal.getD k 0)) (c_A C) (c_s C) (c_s C).heap) {ak K M : Nat} (hK : K ≤ 5000) (hM : M ≤ 50000) (kk : ∀ (σ : Mem) (g f : Nat → Int32), yW0 σ g f 6 → hFit σ → uE Z C σ [(ak, .inl (zc Z 1, (20, .inl f)))] (K + 24 * 6) (M + 1576 * 6) 99 [(5, .int (nI 6)), (4, .int (nI 6)), (3, .ref ak), (2, .int (nI 1)), (1, .ref (za Z 0)), (0, .ref b)] []) : ∀ (d j : Nat) (σ : Mem) (g f : Nat → Int32), j + d = 6 → yW0 σ g f j → hFit σ → uE Z C σ [(ak, .inl (zc Z 1, (20, .inl f)))] (K + 24 * j) (M + 1576 * j) 21 [(5, .int (nI j)), (4, .int (nI j)), (3, .ref ak), (2, .int (nI 1)), (1, .ref (za Z 0)), (0, .ref b)] [] := by
  intro d
  induction d with
  | zero =>
    intro j σ g f hj hw hfit
    have : j = 6 := by omega
    subst this
    refine uv_iload O.1 dL_law_21 0 rfl ?_
    refine uv_bipush O.1 dL_law_23 (nI 6) rfl ?_
    refine uv_icmp_ge 99 O.1 dL_law_25 rfl (fun _ => kk σ g f hw hfit) (fun hh => absurd (Int32.le_refl _) hh)
  | succ d ih =>
    intro j σ g f hj hw hfit
    show uE Z C σ [(ak, .inl (zc Z 1, (20, .inl f)))] _ _ _ [(5, .int (nI j)), (4, .int (nI j)), (3, .ref ak), (2, .int (nI 1)), (1, .ref (za Z 0)), (0, .ref b)] []
    refine uv_iload O.1 dL_law_21 0 rfl ?_
    refine uv_bipush O.1 dL_law_23 (nI 6) rfl ?_
    refine uv_icmp_ge 99 O.1 dL_law_25 rfl (fun hh => absurd hh (j_nle (by omega) (by omega))) (fun _ => ?_)
    refine uv_iload_n O.1 dL_law_28 3 rfl rfl ?_
    refine uv_aload_n O.1 dL_law_29 4 rfl rfl ?_
    refine uv_aload_n O.1 dL_law_30 5 rfl rfl ?_
    refine uv_iload O.1 dL_law_31 0 rfl ?_
    refine ue_call (E1 := [(ak, .inl (zc Z 1, (20, .inl f)))]) (wc := []) (rest := [.ref (za Z 0), .int (nI 1)]) O (jc_S (as := [.ref b, .int (nI j)]) (rest := [.ref (za Z 0), .int (nI 1)]) O.1 dL_law_33 (uq_in (by decide +kernel) (by decide +kernel)) (uq_in (by decide +kernel) (by decide +kernel)) (uq_in (by decide +kernel) (by decide +kernel)) (uq_in (by decide +kernel) (by decide +kernel)) ⟨by decide +kernel, by decide +kernel, (by decide +kernel : (parseMethodDescriptor yL_cell.desc).map (fun d => d.parameters.length) = some 2)⟩ rfl ⟨(Nat.le_of_ble_eq_true rfl), (Nat.le_of_ble_eq_true rfl)⟩ (Nat.le_of_ble_eq_true rfl)) (fun sz => l_cell Z b N j xs sz hN (by omega)) (jXs_mv _ _ _) (jt_up O.1 (jXs_mv _ _ _) hXs) j_r0 rfl (by omega) (by omega) (fun x1 hu => ?_)
    show uE Z C σ [(ak, .inl (zc Z 1, (20, .inl f)))] _ _ _ [(5, .int (nI j)), (4, .int (nI j)), (3, .ref ak), (2, .int (nI 1)), (1, .ref (za Z 0)), (0, .ref b)] [.int x1, .ref (za Z 0), .int (nI 1)]
    refine uv_iconst O.1 dL_law_36 (nI 1) rfl ?_
    refine uv_aload_n O.1 dL_law_37 5 rfl rfl ?_
    refine uv_iload O.1 dL_law_38 0 rfl ?_
    refine ue_call (E1 := [(ak, .inl (zc Z 1, (20, .inl f)))]) (wc := []) (rest := [.int (nI 1), .int x1, .ref (za Z 0), .int (nI 1)]) O (jc_S (as := [.ref b, .int (nI j)]) (rest := [.int (nI 1), .int x1, .ref (za Z 0), .int (nI 1)]) O.1 dL_law_40 (uq_in (by decide +kernel) (by decide +kernel)) (uq_in (by decide +kernel) (by decide +kernel)) (uq_in (by decide +kernel) (by decide +kernel)) (uq_in (by decide +kernel) (by decide +kernel)) ⟨by decide +kernel, by decide +kernel, (by decide +kernel : (parseMethodDescriptor yL_cell.desc).map (fun d => d.parameters.length) = some 2)⟩ rfl ⟨(Nat.le_of_ble_eq_true rfl), (Nat.le_of_ble_eq_true rfl)⟩ (Nat.le_of_ble_eq_true rfl)) (fun sz => l_cell Z b N j xs sz hN (by omega)) (jXs_mv _ _ _) (jt_up O.1 (jXs_mv _ _ _) hXs) j_r0 rfl (by omega) (by omega) (fun x2 hu => ?_)
    show uE Z C σ [(ak, .inl (zc Z 1, (20, .inl f)))] _ _ _ [(5, .int (nI j)), (4, .int (nI j)), (3, .ref ak), (2, .int (nI 1)), (1, .ref (za Z 0)), (0, .ref b)] [.int x2, .int (nI 1), .int x1, .ref (za Z 0), .int (nI 1)]
    refine uv_bipush O.1 dL_law_43 (nI 12) rfl ?_
    refine uv_ishr (z := (x2 >>> ((nI 12) &&& 31))) O.1 dL_law_45 rfl ?_
    obtain ⟨m, hm, em⟩ : ∃ m, m ≤ 3 ∧ (x2 >>> (nI 12 &&& 31)) &&& nI 3 = nI m := ⟨_, (y_and _ 3 (by omega)).2, (y_and _ 3 (by omega)).1⟩
    refine uv_iconst O.1 dL_law_46 (nI 3) rfl ?_
    refine uv_iand (z := nI m) O.1 dL_law_47 em ?_
    refine uv_iaddE (z := nI (1 + m)) O.1 dL_law_48 (zI.1 _ _) ?_
    refine ue_call (E1 := [(ak, .inl (zc Z 1, (20, .inl f)))]) (wc := []) (rest := [.ref (za Z 0), .int (nI 1)]) O (jc_S (as := [.int x1, .int (nI (1 + m))]) (rest := [.ref (za Z 0), .int (nI 1)]) O.1 dL_law_49 (uq_in (by decide +kernel) (by decide +kernel)) (uq_in (by decide +kernel) (by decide +kernel)) (uq_in (by decide +kernel) (by decide +kernel)) (uq_in (by decide +kernel) (by decide +kernel)) ⟨by decide +kernel, by decide +kernel, (by decide +kernel : (parseMethodDescriptor yL_some.desc).map (fun d => d.parameters.length) = some 2)⟩ rfl ⟨(Nat.le_of_ble_eq_true rfl), (Nat.le_of_ble_eq_true rfl)⟩ (Nat.le_of_ble_eq_true rfl)) (fun sz => l_some Z k25 v25 k34 v34 (1 + m) ef x1 sz (by omega) (by omega) hef) (jAnd_mv (jK_mv _ _ _ _ _ _) (jK_mv _ _ _ _ _ _)) (jt_up O.1 (jAnd_mv (jK_mv _ _ _ _ _ _) (jK_mv _ _ _ _ _ _)) ⟨h25, h34⟩) j_r0 rfl (by omega) (by omega) (fun u hu => ?_)
    obtain ⟨q1, v1, f1⟩ := u
    try dsimp only at hu
    obtain ⟨hs1, hs2⟩ := hu
    show uE Z C σ [(ak, .inl (zc Z 1, (20, .inl f))), (q1, .inr (12, [.ref v1, .int (nI 0), .int (nI 0), .int (nI 0)])), (v1, .inl (zc Z 0, ((1 + m), .inl f1)))] _ _ _ [(5, .int (nI j)), (4, .int (nI j)), (3, .ref ak), (2, .int (nI 1)), (1, .ref (za Z 0)), (0, .ref b)] [.ref q1, .ref (za Z 0), .int (nI 1)]
    obtain ⟨l1, l2, l3⟩ := yAl_map (m := 1 + m) (ysm_ok x1)
    generalize hl : (List.range (1 + m)).map (ysm x1) = l at l1 l2 l3
    have hw0 : yW0 σ g f j := hw
    obtain ⟨hB, hz, -, hW, -⟩ := hw
    have hs1' : ∀ k, k < l.length → f1 k = zsg (l.getD k 0) := fun k hk => by rw [l1] at hk; rw [l2 k hk]; exact hs1 k hk
    have hb : ∀ k, k < l.length → l.getD k 0 < 256 := fun k hk => by rw [l1] at hk; rw [l2 k hk]; have := ysm_ok x1 k; omega
    rw [← l1]
    refine ue_callB (rest := [.int (nI 1)]) O (jc_S (as := [.ref (za Z 0), .ref q1]) (rest := [.int (nI 1)]) O.1 dL_law_52 (uq_in (by decide +kernel) (by decide +kernel)) (uq_in (by decide +kernel) (by decide +kernel)) (uq_in (by decide +kernel) (by decide +kernel)) (uq_in (by decide +kernel) (by decide +kernel)) ⟨by decide +kernel, by decide +kernel, (by decide +kernel : (parseMethodDescriptor yL_types.desc).map (fun d => d.parameters.length) = some 2)⟩ rfl ⟨(Nat.le_of_ble_eq_true rfl), (Nat.le_of_ble_eq_true rfl)⟩ (Nat.le_of_ble_eq_true rfl)) (fun sz => l_types Z q1 v1 f1 l σ sz (by omega) hb hs1' hz hfit) (jS_mv _ _ _ _) (jt_w (i := 1) (j := 2) O.1 rfl rfl) j_r0 (by omega) (by omega) (fun u => u) (fun u => []) (fun u => (List.append_nil _).symm) (fun τ hu => ?_)
    try dsimp only at hu
    obtain ⟨hz, hfit, hfr⟩ := hu
    show uE Z C τ [(ak, .inl (zc Z 1, (20, .inl f))), (q1, .inr (12, [.ref v1, .int (nI 0), .int (nI 0), .int (nI 0)])), (v1, .inl (zc Z 0, (l.length, .inl f1)))] _ _ _ [(5, .int (nI j)), (4, .int (nI j)), (3, .ref ak), (2, .int (nI 1)), (1, .ref (za Z 0)), (0, .ref b)] [.int (nI 1), .int (nI 1)]
    refine uv_eqF 81 O.1 dL_law_55 rfl (by decide +kernel) ?_
    refine uv_aload_n O.1 dL_law_58 4 rfl rfl ?_
    refine uv_iload O.1 dL_law_59 0 rfl ?_
    refine uv_iload O.1 dL_law_61 0 rfl ?_
    refine uv_iconst O.1 dL_law_63 (nI 4) rfl ?_
    refine uv_irem (z := nI (j % 4)) O.1 dL_law_64 (by decide +kernel) (y_rem.1 ⟨j, by omega⟩).2.1 ?_
    refine uv_iload O.1 dL_law_65 0 rfl ?_
    refine uv_iconst O.1 dL_law_67 (nI 3) rfl ?_
    refine uv_irem (z := nI (j % 3)) O.1 dL_law_68 (by decide +kernel) (y_rem.1 ⟨j, by omega⟩).2.2 ?_
    obtain ⟨υ, u1, u2, u3, u4⟩ := y_word (yB_co hB (fun x c p q => hfr x c (by omega) (by omega))) (a := j) (b := j % 4) (c := j % 3) (l := l) (by omega) (by omega) (by omega) (by omega) hz (by rw [l1]; exact ⟨by omega, by omega, l3⟩) hW (by omega)
    refine ue_ctV (as := [.int (nI j), .int (nI (j % 4)), .int (nI (j % 3))]) (rest := [.int (nI 1)]) O hfit dL_law_69 (fun Z2 hZ2 => ct_X11_word hZ2 rfl u1) vx_RL_62 rfl rfl rfl ⟨(Nat.le_of_ble_eq_true rfl), (Nat.le_of_ble_eq_true rfl)⟩ (Nat.le_of_ble_eq_true rfl) (by omega) (by omega) (fun _ hfit => ?_)
    show uE Z C υ [(ak, .inl (zc Z 1, (20, .inl f))), (q1, .inr (12, [.ref v1, .int (nI 0), .int (nI 0), .int (nI 0)])), (v1, .inl (zc Z 0, (l.length, .inl f1)))] _ _ _ [(5, .int (nI j)), (4, .int (nI j)), (3, .ref ak), (2, .int (nI 1)), (1, .ref (za Z 0)), (0, .ref b)] [.int (nI j), .int (nI 1)]
    refine uv_iload O.1 dL_law_72 0 rfl ?_
    refine uv_icmp_ne 81 O.1 dL_law_74 rfl (fun hh => absurd rfl hh) (fun _ => ?_)
    refine uv_iconst O.1 dL_law_77 (nI 1) rfl ?_
    refine uv_goto 82 O.1 dL_law_78 rfl ?_
    refine uv_iand (z := nI 1) O.1 dL_law_82 (by decide +kernel) ?_
    refine uv_istore_n O.1 dL_law_83 rfl (by omega) [(2, .int (nI 1)), (5, .int (nI j)), (4, .int (nI j)), (3, .ref ak), (1, .ref (za Z 0)), (0, .ref b)] rfl ?_
    refine uv_aload_n O.1 dL_law_84 3 rfl rfl ?_
    refine uv_iload O.1 dL_law_85 1 rfl ?_
    refine uv_iload O.1 dL_law_87 1 rfl ?_
    refine ue_ist (j := 0) (w := j) (E' := [(ak, .inl (zc Z 1, (20, .inl (upd f j (nI j))))), (q1, .inr (12, [.ref v1, .int (nI 0), .int (nI 0), .int (nI 0)])), (v1, .inl (zc Z 0, (l.length, .inl f1)))]) O dL_law_89 rfl rfl (by omega) (by omega) rfl ?_
    refine uv_iinc (z := 1) (v := nI (j + 1)) O.1 dL_law_90 2 rfl (zI.1 _ _) (by omega) [(4, .int (nI (j + 1))), (2, .int (nI 1)), (5, .int (nI j)), (3, .ref ak), (1, .ref (za Z 0)), (0, .ref b)] rfl ?_
    refine uv_iinc (z := 1) (v := nI (j + 1)) O.1 dL_law_93 2 rfl (zI.1 _ _) (by omega) [(5, .int (nI (j + 1))), (4, .int (nI (j + 1))), (2, .int (nI 1)), (3, .ref ak), (1, .ref (za Z 0)), (0, .ref b)] rfl ?_
    refine uv_goto 21 O.1 dL_law_96 rfl ?_
    refine uv_sub [0, 1, 3, 2, 4, 5] rfl ?_
    refine ue_drop (E' := [(ak, .inl (zc Z 1, (20, .inl (upd f j (nI j)))))]) (List.Sublist.cons₂ _ (List.Sublist.cons _ (List.Sublist.cons _ (List.Sublist.refl _)))) ?_
    refine uv_widen (k' := K + 24 * (j + 1)) (n' := M + 1576 * (j + 1)) (by omega) (by omega) ?_
    exact ih (j + 1) υ _ _ (by omega) (yW0_word hw0 (by omega) hfr u2 u3 u4) hfit
