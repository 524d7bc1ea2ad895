abbrev mk3_0 (a : Nat) : va_W := [(a, .inr (3, [.int 0, .null, .null, .null, .null, .null]))]
abbrev mk3_1 (Z : ZT) (a q1 q2 q3 q4 q5 : Nat) : va_W := [(a, .inr (3, [.int 0, .ref q1, .ref q2, .ref q3, .ref q4, .ref q5])), (q1, .inl (zc Z 1, (6, .inl (fun _ => 0)))), (q2, .inl (zc Z 1, (6, .inl (fun _ => 0)))), (q3, .inl (zc Z 1, (6, .inl (fun _ => 0)))), (q4, .inl (zc Z 1, (6, .inl (fun _ => 0)))), (q5, .inl (zc Z 1, (3, .inl (fun _ => 0))))]
set_option maxHeartbeats 4000000 in
theorem mk3 (Z : ZT) (a sz : Nat) : Met (zl Z) yX3_init (Cond.code yX3_init cX3_init 1 none :: uW) ({ frames := 2, cells := 5, slots := 27, locals := 60 }) (va_Pc [.ref a] (fun U => U.heap.size = sz ∧ va_P (zD Z) vwCl (mk3_0 a) U.heap ∧ va_K (zD Z) vwCl (utys Z) U ∧ va_D (fun _ => True) (mk3_0 a) ∧ NW U)) (va_Qv (fun _ : Nat × Nat × Nat × Nat × Nat => True) (fun q U => va_P (zD Z) vwCl (mk3_1 Z a q.1 q.2.1 q.2.2.1 q.2.2.2.1 q.2.2.2.2) U.heap ∧ va_K (zD Z) vwCl (utys Z) U ∧ va_D (va_A (mk3_0 a) sz) (mk3_1 Z a q.1 q.2.1 q.2.2.1 q.2.2.2.1 q.2.2.2.2)) (va_A (mk3_0 a) sz)) 5 27 (va_A (mk3_0 a) sz) := by
  refine Met.ofW (cc := cX3_init) (maxL := 1) (ret := none) (by decide) rfl ?_
  intro p e s m args below meth c s₁ B hml hv
  obtain ⟨rfl, hsz, hP, hK, hD0, hNw⟩ := hv
  have hx := B.exec
  have hb := B.bytes
  have hr := B.returns
  have hts0 := atoms_spec (ws := Cond.code yX3_init cX3_init 1 none :: uW) B.pre
  have hts : ∀ w ∈ uW, w.before _ s = true := fun w hw => hts0 w (List.mem_cons_of_mem _ hw)
  have hown : s.vm.findClass RX3 = some m.cls := findClass_of_methodNamed B.named
  have hlocks := B.notSynchronized
  have hin : meth.name = "<init>" := (name_of_methodNamed B.named B.method).1
  subst hsz
  have hD := hD0.self (sz := s.heap.size)
  generalize hAe : va_A (mk3_0 a) s.heap.size = A at hD ⊢
  have hA : ∀ q : Nat, s.heap.size ≤ q → A q := fun q h => by rw [← hAe]; exact Or.inr h
  have hS : va_S A s.heap s.heap [] := va_S.rf
  have hl := lv_entry ([.ref a]) (n := 1) (Nat.le_of_ble_eq_true rfl)
  rw [lg_entry_eq]
  generalize (lg_sl ([.ref a]) ++ List.replicate (1 - (lg_sl ([.ref a])).length) Slot.unset).toArray = ls at hl ⊢
  have hl : lv_has ls 1 [(0, .ref a)] := hl
  refine lv_aload_n hx hb dX3_init_0 rfl (lv_at hl 0 rfl) ?_
  refine W.objInit hx hb hown (hts (.methodLink RX3 3 objectInit) (uq_in (by decide +kernel) (by decide +kernel))) (hts (.instanceMethod objectInit) (uq_in (by decide +kernel) (by decide +kernel))) (hts _ (uq_in (by decide +kernel) (by decide +kernel))) rfl (by rw [hml]; exact hl.1) rfl dX3_init_1 (Nat.le_of_ble_eq_true rfl) (Nat.le_of_ble_eq_true rfl) ?_
  refine W.eq (g2 := F0 m 4 ls []) rfl ?_
  refine lv_aload_n hx hb dX3_init_4 rfl (lv_at hl 0 rfl) ?_
  refine lv_bipush hx hb dX3_init_5 (v := nI 6) rfl ?_
  refine va_newa (atype := .int) (ty := .int) (N' := 6) (a0 := (6, .inl (fun _ => 0))) hx hb (hts _ (uq_in (by decide +kernel) (by decide +kernel))) rfl hK hP hD hS hA (fun cA => rfl) (nI_pos (by omega)) (zi_ix (by omega)) (by show 6 * 4 ≤ _; omega) (by show 0 + 1 ≤ 5; omega) (by show 0 + 6 ≤ 27; omega) dX3_init_7 (fun q1 cA H hK1 hP hD hS => ?_)
  have ec : cA = zc Z 1 := uc_same (t := 1) hK1 rfl
  subst ec
  refine W.widen (k := 1) (n := 6) (by omega) (by omega) ?_
  refine va_putF (own := RX3) (ref := RX3) (Ts := uW) hx hb hts ux_3 tyX3 tyX3_ok nmX3 hown hK1 hP hD hS 0 (fs := [.int 0, .null, .null, .null, .null, .null]) rfl (ci := 3) rfl 1 (by decide) (hts (.fieldLink RX3 9 RX3 (TX3 1).2.1 (TX3 1).2.2.1) (uq_in (by decide +kernel) (by decide +kernel))) (fun _ h9 => h9) rfl hin rfl rfl rfl rfl (Nat.le_of_ble_eq_true rfl) dX3_init_9 (fun H1 locs1 hP hD hS => ?_)
  have hP : va_P (zD Z) vwCl [(a, .inr (3, [.int 0, .ref q1, .null, .null, .null, .null])), (q1, .inl (zc Z 1, (6, .inl (fun _ => 0))))] H1 := hP
  have hD : va_D A [(a, .inr (3, [.int 0, .ref q1, .null, .null, .null, .null])), (q1, .inl (zc Z 1, (6, .inl (fun _ => 0))))] := hD
  have hK := hK1.sub (tys' := utys Z) [0, 1, 2, 3, 4, 5, 6, 7] rfl
  refine W.eq (g2 := F0 m 12 ls []) rfl ?_
  refine lv_aload_n hx hb dX3_init_12 rfl (lv_at hl 0 rfl) ?_
  refine lv_bipush hx hb dX3_init_13 (v := nI 6) rfl ?_
  refine va_newa (atype := .int) (ty := .int) (N' := 6) (a0 := (6, .inl (fun _ => 0))) hx hb (hts _ (uq_in (by decide +kernel) (by decide +kernel))) rfl hK hP hD hS hA (fun cA => rfl) (nI_pos (by omega)) (zi_ix (by omega)) (by show 6 * 4 ≤ _; omega) (by show 1 + 1 ≤ 5; omega) (by show 6 + 6 ≤ 27; omega) dX3_init_15 (fun q2 cA H hK1 hP hD hS => ?_)
  have ec : cA = zc Z 1 := uc_same (t := 1) hK1 rfl
  subst ec
  refine W.widen (k := 2) (n := 12) (by omega) (by omega) ?_
  refine va_putF (own := RX3) (ref := RX3) (Ts := uW) hx hb hts ux_3 tyX3 tyX3_ok nmX3 hown hK1 hP hD hS 0 (fs := [.int 0, .ref q1, .null, .null, .null, .null]) rfl (ci := 3) rfl 2 (by decide) (hts (.fieldLink RX3 15 RX3 (TX3 2).2.1 (TX3 2).2.2.1) (uq_in (by decide +kernel) (by decide +kernel))) (fun _ h9 => h9) rfl hin rfl rfl rfl rfl (Nat.le_of_ble_eq_true rfl) dX3_init_17 (fun H1 locs1 hP hD hS => ?_)
  have hP : va_P (zD Z) vwCl [(a, .inr (3, [.int 0, .ref q1, .ref q2, .null, .null, .null])), (q1, .inl (zc Z 1, (6, .inl (fun _ => 0)))), (q2, .inl (zc Z 1, (6, .inl (fun _ => 0))))] H1 := hP
  have hD : va_D A [(a, .inr (3, [.int 0, .ref q1, .ref q2, .null, .null, .null])), (q1, .inl (zc Z 1, (6, .inl (fun _ => 0)))), (q2, .inl (zc Z 1, (6, .inl (fun _ => 0))))] := hD
  have hK := hK1.sub (tys' := utys Z) [0, 1, 2, 3, 4, 5, 6, 7] rfl
  refine W.eq (g2 := F0 m 20 ls []) rfl ?_
  refine lv_aload_n hx hb dX3_init_20 rfl (lv_at hl 0 rfl) ?_
  refine lv_bipush hx hb dX3_init_21 (v := nI 6) rfl ?_
  refine va_newa (atype := .int) (ty := .int) (N' := 6) (a0 := (6, .inl (fun _ => 0))) hx hb (hts _ (uq_in (by decide +kernel) (by decide +kernel))) rfl hK hP hD hS hA (fun cA => rfl) (nI_pos (by omega)) (zi_ix (by omega)) (by show 6 * 4 ≤ _; omega) (by show 2 + 1 ≤ 5; omega) (by show 12 + 6 ≤ 27; omega) dX3_init_23 (fun q3 cA H hK1 hP hD hS => ?_)
  have ec : cA = zc Z 1 := uc_same (t := 1) hK1 rfl
  subst ec
  refine W.widen (k := 3) (n := 18) (by omega) (by omega) ?_
  refine va_putF (own := RX3) (ref := RX3) (Ts := uW) hx hb hts ux_3 tyX3 tyX3_ok nmX3 hown hK1 hP hD hS 0 (fs := [.int 0, .ref q1, .ref q2, .null, .null, .null]) rfl (ci := 3) rfl 3 (by decide) (hts (.fieldLink RX3 18 RX3 (TX3 3).2.1 (TX3 3).2.2.1) (uq_in (by decide +kernel) (by decide +kernel))) (fun _ h9 => h9) rfl hin rfl rfl rfl rfl (Nat.le_of_ble_eq_true rfl) dX3_init_25 (fun H1 locs1 hP hD hS => ?_)
  have hP : va_P (zD Z) vwCl [(a, .inr (3, [.int 0, .ref q1, .ref q2, .ref q3, .null, .null])), (q1, .inl (zc Z 1, (6, .inl (fun _ => 0)))), (q2, .inl (zc Z 1, (6, .inl (fun _ => 0)))), (q3, .inl (zc Z 1, (6, .inl (fun _ => 0))))] H1 := hP
  have hD : va_D A [(a, .inr (3, [.int 0, .ref q1, .ref q2, .ref q3, .null, .null])), (q1, .inl (zc Z 1, (6, .inl (fun _ => 0)))), (q2, .inl (zc Z 1, (6, .inl (fun _ => 0)))), (q3, .inl (zc Z 1, (6, .inl (fun _ => 0))))] := hD
  have hK := hK1.sub (tys' := utys Z) [0, 1, 2, 3, 4, 5, 6, 7] rfl
  refine W.eq (g2 := F0 m 28 ls []) rfl ?_
  refine lv_aload_n hx hb dX3_init_28 rfl (lv_at hl 0 rfl) ?_
  refine lv_bipush hx hb dX3_init_29 (v := nI 6) rfl ?_
  refine va_newa (atype := .int) (ty := .int) (N' := 6) (a0 := (6, .inl (fun _ => 0))) hx hb (hts _ (uq_in (by decide +kernel) (by decide +kernel))) rfl hK hP hD hS hA (fun cA => rfl) (nI_pos (by omega)) (zi_ix (by omega)) (by show 6 * 4 ≤ _; omega) (by show 3 + 1 ≤ 5; omega) (by show 18 + 6 ≤ 27; omega) dX3_init_31 (fun q4 cA H hK1 hP hD hS => ?_)
  have ec : cA = zc Z 1 := uc_same (t := 1) hK1 rfl
  subst ec
  refine W.widen (k := 4) (n := 24) (by omega) (by omega) ?_
  refine va_putF (own := RX3) (ref := RX3) (Ts := uW) hx hb hts ux_3 tyX3 tyX3_ok nmX3 hown hK1 hP hD hS 0 (fs := [.int 0, .ref q1, .ref q2, .ref q3, .null, .null]) rfl (ci := 3) rfl 4 (by decide) (hts (.fieldLink RX3 21 RX3 (TX3 4).2.1 (TX3 4).2.2.1) (uq_in (by decide +kernel) (by decide +kernel))) (fun _ h9 => h9) rfl hin rfl rfl rfl rfl (Nat.le_of_ble_eq_true rfl) dX3_init_33 (fun H1 locs1 hP hD hS => ?_)
  have hP : va_P (zD Z) vwCl [(a, .inr (3, [.int 0, .ref q1, .ref q2, .ref q3, .ref q4, .null])), (q1, .inl (zc Z 1, (6, .inl (fun _ => 0)))), (q2, .inl (zc Z 1, (6, .inl (fun _ => 0)))), (q3, .inl (zc Z 1, (6, .inl (fun _ => 0)))), (q4, .inl (zc Z 1, (6, .inl (fun _ => 0))))] H1 := hP
  have hD : va_D A [(a, .inr (3, [.int 0, .ref q1, .ref q2, .ref q3, .ref q4, .null])), (q1, .inl (zc Z 1, (6, .inl (fun _ => 0)))), (q2, .inl (zc Z 1, (6, .inl (fun _ => 0)))), (q3, .inl (zc Z 1, (6, .inl (fun _ => 0)))), (q4, .inl (zc Z 1, (6, .inl (fun _ => 0))))] := hD
  have hK := hK1.sub (tys' := utys Z) [0, 1, 2, 3, 4, 5, 6, 7] rfl
  refine W.eq (g2 := F0 m 36 ls []) rfl ?_
  refine lv_aload_n hx hb dX3_init_36 rfl (lv_at hl 0 rfl) ?_
  refine lv_iconst hx hb dX3_init_37 (v := nI 3) rfl ?_
  refine va_newa (atype := .int) (ty := .int) (N' := 3) (a0 := (3, .inl (fun _ => 0))) hx hb (hts _ (uq_in (by decide +kernel) (by decide +kernel))) rfl hK hP hD hS hA (fun cA => rfl) (nI_pos (by omega)) (zi_ix (by omega)) (by show 3 * 4 ≤ _; omega) (by show 4 + 1 ≤ 5; omega) (by show 24 + 3 ≤ 27; omega) dX3_init_38 (fun q5 cA H hK1 hP hD hS => ?_)
  have ec : cA = zc Z 1 := uc_same (t := 1) hK1 rfl
  subst ec
  refine W.widen (k := 5) (n := 27) (by omega) (by omega) ?_
  refine va_putF (own := RX3) (ref := RX3) (Ts := uW) hx hb hts ux_3 tyX3 tyX3_ok nmX3 hown hK1 hP hD hS 0 (fs := [.int 0, .ref q1, .ref q2, .ref q3, .ref q4, .null]) rfl (ci := 3) rfl 5 (by decide) (hts (.fieldLink RX3 24 RX3 (TX3 5).2.1 (TX3 5).2.2.1) (uq_in (by decide +kernel) (by decide +kernel))) (fun _ h9 => h9) rfl hin rfl rfl rfl rfl (Nat.le_of_ble_eq_true rfl) dX3_init_40 (fun H1 locs1 hP hD hS => ?_)
  have hP : va_P (zD Z) vwCl [(a, .inr (3, [.int 0, .ref q1, .ref q2, .ref q3, .ref q4, .ref q5])), (q1, .inl (zc Z 1, (6, .inl (fun _ => 0)))), (q2, .inl (zc Z 1, (6, .inl (fun _ => 0)))), (q3, .inl (zc Z 1, (6, .inl (fun _ => 0)))), (q4, .inl (zc Z 1, (6, .inl (fun _ => 0)))), (q5, .inl (zc Z 1, (3, .inl (fun _ => 0))))] H1 := hP
  have hD : va_D A [(a, .inr (3, [.int 0, .ref q1, .ref q2, .ref q3, .ref q4, .ref q5])), (q1, .inl (zc Z 1, (6, .inl (fun _ => 0)))), (q2, .inl (zc Z 1, (6, .inl (fun _ => 0)))), (q3, .inl (zc Z 1, (6, .inl (fun _ => 0)))), (q4, .inl (zc Z 1, (6, .inl (fun _ => 0)))), (q5, .inl (zc Z 1, (3, .inl (fun _ => 0))))] := hD
  have hK := hK1.sub (tys' := utys Z) [0, 1, 2, 3, 4, 5, 6, 7] rfl
  refine W.eq (g2 := F0 m 43 ls []) rfl ?_
  exact W.vret hx hb hr (fun t ht hW => ⟨⟨(q1, q2, q3, q4, q5), rfl, trivial, by rw [ht]; exact hP, va_K.moved hW.alike hK, hD⟩, hS.F ht⟩) hS.2.2 dX3_init_43 hlocks
