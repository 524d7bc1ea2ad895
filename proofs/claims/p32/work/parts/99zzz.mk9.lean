abbrev mk9_0 (a : Nat) : va_W := [(a, .inr (9, [.int 0, .int 0, .null]))]
abbrev mk9_1 (Z : ZT) (a q : Nat) : va_W := [(a, .inr (9, [.int (-nI 1), .int 0, .ref q])), (q, .inl (zc Z 1, (20, .inl (fun _ => 0))))]
set_option maxHeartbeats 4000000 in
theorem mk9 (Z : ZT) (a sz : Nat) : Met (zl Z) yX9_init (Cond.code yX9_init cX9_init 1 none :: uW) ({ frames := 2, cells := 1, slots := 20, locals := 60 }) (va_Pc [.ref a] (fun U => U.heap.size = sz ∧ va_P (zD Z) vwCl (mk9_0 a) U.heap ∧ va_K (zD Z) vwCl (utys Z) U ∧ va_D (fun _ => True) (mk9_0 a) ∧ NW U)) (va_Qv (fun _ : Nat => True) (fun q U => va_P (zD Z) vwCl (mk9_1 Z a q) U.heap ∧ va_K (zD Z) vwCl (utys Z) U ∧ va_D (va_A (mk9_0 a) sz) (mk9_1 Z a q)) (va_A (mk9_0 a) sz)) 1 20 (va_A (mk9_0 a) sz) := by
  refine Met.ofW (cc := cX9_init) (maxL := 1) (ret := none) (by decide) rfl ?_
  intro p e s m args below meth c s₁ B hml hv
  obtain ⟨rfl, hsz, hP, hK, hD0, hNw⟩ := hv
  have hx := B.exec
  have hb := B.bytes
  have hr := B.returns
  have hts0 := atoms_spec (ws := Cond.code yX9_init cX9_init 1 none :: uW) B.pre
  have hts : ∀ w ∈ uW, w.before _ s = true := fun w hw => hts0 w (List.mem_cons_of_mem _ hw)
  have hown : s.vm.findClass RX9 = some m.cls := findClass_of_methodNamed B.named
  have hlocks := B.notSynchronized
  have hin : meth.name = "<init>" := (name_of_methodNamed B.named B.method).1
  subst hsz
  have hD := hD0.self (sz := s.heap.size)
  generalize hAe : va_A (mk9_0 a) s.heap.size = A at hD ⊢
  have hA : ∀ q : Nat, s.heap.size ≤ q → A q := fun q h => by rw [← hAe]; exact Or.inr h
  have hS : va_S A s.heap s.heap [] := va_S.rf
  have hl := lv_entry ([.ref a]) (n := 1) (Nat.le_of_ble_eq_true rfl)
  rw [lg_entry_eq]
  generalize (lg_sl ([.ref a]) ++ List.replicate (1 - (lg_sl ([.ref a])).length) Slot.unset).toArray = ls at hl ⊢
  have hl : lv_has ls 1 [(0, .ref a)] := hl
  refine lv_aload_n hx hb dX9_init_0 rfl (lv_at hl 0 rfl) ?_
  refine W.objInit hx hb hown (hts (.methodLink RX9 3 objectInit) (uq_in (by decide +kernel) (by decide +kernel))) (hts (.instanceMethod objectInit) (uq_in (by decide +kernel) (by decide +kernel))) (hts _ (uq_in (by decide +kernel) (by decide +kernel))) rfl (by rw [hml]; exact hl.1) rfl dX9_init_1 (Nat.le_of_ble_eq_true rfl) (Nat.le_of_ble_eq_true rfl) ?_
  refine W.eq (g2 := F0 m 4 ls []) rfl ?_
  refine lv_aload_n hx hb dX9_init_4 rfl (lv_at hl 0 rfl) ?_
  refine lv_iconst hx hb dX9_init_5 (v := -nI 1) rfl ?_
  refine va_put (own := RX9) (ref := RX9) (Ts := uW) hx hb hts ux_9 tyX9 tyX9_ok nmX9 hown hK hP hD hS 0 (fs := [.int 0, .int 0, .null]) rfl (ci := 9) rfl 0 (by decide) (hts (.fieldLink RX9 9 RX9 (TX9 0).2.1 (TX9 0).2.2.1) (uq_in (by decide +kernel) (by decide +kernel))) (fun _ h9 => h9) rfl (ty := .int) (by decide +kernel) rfl rfl (by decide) dX9_init_6 (fun H1 locs1 hP hD hS => ?_)
  have hP : va_P (zD Z) vwCl [(a, .inr (9, [.int (-nI 1), .int 0, .null]))] H1 := hP
  have hD : va_D A [(a, .inr (9, [.int (-nI 1), .int 0, .null]))] := hD
  refine lv_aload_n hx hb dX9_init_9 rfl (lv_at hl 0 rfl) ?_
  refine lv_bipush hx hb dX9_init_10 (v := nI 20) rfl ?_
  refine va_newa (atype := .int) (ty := .int) (N' := 20) (a0 := (20, .inl (fun _ => 0))) hx hb (hts _ (uq_in (by decide +kernel) (by decide +kernel))) rfl hK hP hD hS hA (fun cA => rfl) (nI_pos (by omega)) (zi_ix (by omega)) (by show 20 * 4 ≤ _; omega) (by show 0 + 1 ≤ 1; omega) (by show 0 + 20 ≤ 20; omega) dX9_init_12 (fun q cA H hK1 hP hD hS => ?_)
  have ec : cA = zc Z 1 := uc_same (t := 1) hK1 rfl
  subst ec
  refine va_putF (own := RX9) (ref := RX9) (Ts := uW) hx hb hts ux_9 tyX9 tyX9_ok nmX9 hown hK1 hP hD hS 0 (fs := [.int (-nI 1), .int 0, .null]) rfl (ci := 9) rfl 2 (by decide) (hts (.fieldLink RX9 15 RX9 (TX9 2).2.1 (TX9 2).2.2.1) (uq_in (by decide +kernel) (by decide +kernel))) (fun _ h9 => h9) rfl hin rfl rfl rfl rfl (by decide) dX9_init_14 (fun H1 locs1 hP hD hS => ?_)
  have hP9 : va_P (zD Z) vwCl (mk9_1 Z a q) H1 := hP
  have hK9 := hK1.sub (tys' := utys Z) [0, 1, 2, 3, 4, 5, 6, 7] rfl
  have hD9 : va_D A (mk9_1 Z a q) := hD
  refine W.widen (k := 1) (n := 20) (by omega) (by omega) ?_
  refine W.eq (g2 := F0 m 17 ls []) rfl ?_
  exact W.vret hx hb hr (fun t ht hW => ⟨⟨q, rfl, trivial, by rw [ht]; exact hP9, va_K.moved hW.alike hK9, hD9⟩, hS.F ht⟩) hS.2.2 dX9_init_17 hlocks
abbrev mk7_0 (a : Nat) : va_W := [(a, .inr (7, [.int 0, .int 0, .null]))]
abbrev mk7_1 (Z : ZT) (a q : Nat) : va_W := [(a, .inr (7, [.int (-nI 1), .int 0, .ref q])), (q, .inl (zc Z 1, (40, .inl (fun _ => 0))))]
set_option maxHeartbeats 4000000 in
theorem mk7 (Z : ZT) (a sz : Nat) : Met (zl Z) yX7_init (Cond.code yX7_init cX7_init 1 none :: uW) ({ frames := 2, cells := 1, slots := 40, locals := 60 }) (va_Pc [.ref a] (fun U => U.heap.size = sz ∧ va_P (zD Z) vwCl (mk7_0 a) U.heap ∧ va_K (zD Z) vwCl (utys Z) U ∧ va_D (fun _ => True) (mk7_0 a) ∧ NW U)) (va_Qv (fun _ : Nat => True) (fun q U => va_P (zD Z) vwCl (mk7_1 Z a q) U.heap ∧ va_K (zD Z) vwCl (utys Z) U ∧ va_D (va_A (mk7_0 a) sz) (mk7_1 Z a q)) (va_A (mk7_0 a) sz)) 1 40 (va_A (mk7_0 a) sz) := by
  refine Met.ofW (cc := cX7_init) (maxL := 1) (ret := none) (by decide) rfl ?_
  intro p e s m args below meth c s₁ B hml hv
  obtain ⟨rfl, hsz, hP, hK, hD0, hNw⟩ := hv
  have hx := B.exec
  have hb := B.bytes
  have hr := B.returns
  have hts0 := atoms_spec (ws := Cond.code yX7_init cX7_init 1 none :: uW) B.pre
  have hts : ∀ w ∈ uW, w.before _ s = true := fun w hw => hts0 w (List.mem_cons_of_mem _ hw)
  have hown : s.vm.findClass RX7 = some m.cls := findClass_of_methodNamed B.named
  have hlocks := B.notSynchronized
  have hin : meth.name = "<init>" := (name_of_methodNamed B.named B.method).1
  subst hsz
  have hD := hD0.self (sz := s.heap.size)
  generalize hAe : va_A (mk7_0 a) s.heap.size = A at hD ⊢
  have hA : ∀ q : Nat, s.heap.size ≤ q → A q := fun q h => by rw [← hAe]; exact Or.inr h
  have hS : va_S A s.heap s.heap [] := va_S.rf
  have hl := lv_entry ([.ref a]) (n := 1) (Nat.le_of_ble_eq_true rfl)
  rw [lg_entry_eq]
  generalize (lg_sl ([.ref a]) ++ List.replicate (1 - (lg_sl ([.ref a])).length) Slot.unset).toArray = ls at hl ⊢
  have hl : lv_has ls 1 [(0, .ref a)] := hl
  refine lv_aload_n hx hb dX7_init_0 rfl (lv_at hl 0 rfl) ?_
  refine W.objInit hx hb hown (hts (.methodLink RX7 3 objectInit) (uq_in (by decide +kernel) (by decide +kernel))) (hts (.instanceMethod objectInit) (uq_in (by decide +kernel) (by decide +kernel))) (hts _ (uq_in (by decide +kernel) (by decide +kernel))) rfl (by rw [hml]; exact hl.1) rfl dX7_init_1 (Nat.le_of_ble_eq_true rfl) (Nat.le_of_ble_eq_true rfl) ?_
  refine W.eq (g2 := F0 m 4 ls []) rfl ?_
  refine lv_aload_n hx hb dX7_init_4 rfl (lv_at hl 0 rfl) ?_
  refine lv_iconst hx hb dX7_init_5 (v := -nI 1) rfl ?_
  refine va_put (own := RX7) (ref := RX7) (Ts := uW) hx hb hts ux_7 tyX7 tyX7_ok nmX7 hown hK hP hD hS 0 (fs := [.int 0, .int 0, .null]) rfl (ci := 7) rfl 0 (by decide) (hts (.fieldLink RX7 9 RX7 (TX7 0).2.1 (TX7 0).2.2.1) (uq_in (by decide +kernel) (by decide +kernel))) (fun _ h9 => h9) rfl (ty := .int) (by decide +kernel) rfl rfl (by decide) dX7_init_6 (fun H1 locs1 hP hD hS => ?_)
  have hP : va_P (zD Z) vwCl [(a, .inr (7, [.int (-nI 1), .int 0, .null]))] H1 := hP
  have hD : va_D A [(a, .inr (7, [.int (-nI 1), .int 0, .null]))] := hD
  refine lv_aload_n hx hb dX7_init_9 rfl (lv_at hl 0 rfl) ?_
  refine lv_bipush hx hb dX7_init_10 (v := nI 40) rfl ?_
  refine va_newa (atype := .int) (ty := .int) (N' := 40) (a0 := (40, .inl (fun _ => 0))) hx hb (hts _ (uq_in (by decide +kernel) (by decide +kernel))) rfl hK hP hD hS hA (fun cA => rfl) (nI_pos (by omega)) (zi_ix (by omega)) (by show 40 * 4 ≤ _; omega) (by show 0 + 1 ≤ 1; omega) (by show 0 + 40 ≤ 40; omega) dX7_init_12 (fun q cA H hK1 hP hD hS => ?_)
  have ec : cA = zc Z 1 := uc_same (t := 1) hK1 rfl
  subst ec
  refine va_putF (own := RX7) (ref := RX7) (Ts := uW) hx hb hts ux_7 tyX7 tyX7_ok nmX7 hown hK1 hP hD hS 0 (fs := [.int (-nI 1), .int 0, .null]) rfl (ci := 7) rfl 2 (by decide) (hts (.fieldLink RX7 15 RX7 (TX7 2).2.1 (TX7 2).2.2.1) (uq_in (by decide +kernel) (by decide +kernel))) (fun _ h9 => h9) rfl hin rfl rfl rfl rfl (by decide) dX7_init_14 (fun H1 locs1 hP hD hS => ?_)
  have hP9 : va_P (zD Z) vwCl (mk7_1 Z a q) H1 := hP
  have hK9 := hK1.sub (tys' := utys Z) [0, 1, 2, 3, 4, 5, 6, 7] rfl
  have hD9 : va_D A (mk7_1 Z a q) := hD
  refine W.widen (k := 1) (n := 40) (by omega) (by omega) ?_
  refine W.eq (g2 := F0 m 17 ls []) rfl ?_
  exact W.vret hx hb hr (fun t ht hW => ⟨⟨q, rfl, trivial, by rw [ht]; exact hP9, va_K.moved hW.alike hK9, hD9⟩, hS.F ht⟩) hS.2.2 dX7_init_17 hlocks
abbrev mk2_0 (a : Nat) : va_W := [(a, .inr (2, [.int 0, .int 0, .int 0, .null]))]
abbrev mk2_1 (Z : ZT) (a q : Nat) : va_W := [(a, .inr (2, [.int (-nI 1), .int 0, .int 0, .ref q])), (q, .inl (zc Z 1, (6, .inl (fun _ => 0))))]
set_option maxHeartbeats 4000000 in
theorem mk2 (Z : ZT) (a sz : Nat) : Met (zl Z) yX2_init (Cond.code yX2_init cX2_init 1 none :: uW) ({ frames := 2, cells := 1, slots := 6, locals := 60 }) (va_Pc [.ref a] (fun U => U.heap.size = sz ∧ va_P (zD Z) vwCl (mk2_0 a) U.heap ∧ va_K (zD Z) vwCl (utys Z) U ∧ va_D (fun _ => True) (mk2_0 a) ∧ NW U)) (va_Qv (fun _ : Nat => True) (fun q U => va_P (zD Z) vwCl (mk2_1 Z a q) U.heap ∧ va_K (zD Z) vwCl (utys Z) U ∧ va_D (va_A (mk2_0 a) sz) (mk2_1 Z a q)) (va_A (mk2_0 a) sz)) 1 6 (va_A (mk2_0 a) sz) := by
  refine Met.ofW (cc := cX2_init) (maxL := 1) (ret := none) (by decide) rfl ?_
  intro p e s m args below meth c s₁ B hml hv
  obtain ⟨rfl, hsz, hP, hK, hD0, hNw⟩ := hv
  have hx := B.exec
  have hb := B.bytes
  have hr := B.returns
  have hts0 := atoms_spec (ws := Cond.code yX2_init cX2_init 1 none :: uW) B.pre
  have hts : ∀ w ∈ uW, w.before _ s = true := fun w hw => hts0 w (List.mem_cons_of_mem _ hw)
  have hown : s.vm.findClass RX2 = some m.cls := findClass_of_methodNamed B.named
  have hlocks := B.notSynchronized
  have hin : meth.name = "<init>" := (name_of_methodNamed B.named B.method).1
  subst hsz
  have hD := hD0.self (sz := s.heap.size)
  generalize hAe : va_A (mk2_0 a) s.heap.size = A at hD ⊢
  have hA : ∀ q : Nat, s.heap.size ≤ q → A q := fun q h => by rw [← hAe]; exact Or.inr h
  have hS : va_S A s.heap s.heap [] := va_S.rf
  have hl := lv_entry ([.ref a]) (n := 1) (Nat.le_of_ble_eq_true rfl)
  rw [lg_entry_eq]
  generalize (lg_sl ([.ref a]) ++ List.replicate (1 - (lg_sl ([.ref a])).length) Slot.unset).toArray = ls at hl ⊢
  have hl : lv_has ls 1 [(0, .ref a)] := hl
  refine lv_aload_n hx hb dX2_init_0 rfl (lv_at hl 0 rfl) ?_
  refine W.objInit hx hb hown (hts (.methodLink RX2 3 objectInit) (uq_in (by decide +kernel) (by decide +kernel))) (hts (.instanceMethod objectInit) (uq_in (by decide +kernel) (by decide +kernel))) (hts _ (uq_in (by decide +kernel) (by decide +kernel))) rfl (by rw [hml]; exact hl.1) rfl dX2_init_1 (Nat.le_of_ble_eq_true rfl) (Nat.le_of_ble_eq_true rfl) ?_
  refine W.eq (g2 := F0 m 4 ls []) rfl ?_
  refine lv_aload_n hx hb dX2_init_4 rfl (lv_at hl 0 rfl) ?_
  refine lv_iconst hx hb dX2_init_5 (v := -nI 1) rfl ?_
  refine va_put (own := RX2) (ref := RX2) (Ts := uW) hx hb hts ux_2 tyX2 tyX2_ok nmX2 hown hK hP hD hS 0 (fs := [.int 0, .int 0, .int 0, .null]) rfl (ci := 2) rfl 0 (by decide) (hts (.fieldLink RX2 9 RX2 (TX2 0).2.1 (TX2 0).2.2.1) (uq_in (by decide +kernel) (by decide +kernel))) (fun _ h9 => h9) rfl (ty := .int) (by decide +kernel) rfl rfl (by decide) dX2_init_6 (fun H1 locs1 hP hD hS => ?_)
  have hP : va_P (zD Z) vwCl [(a, .inr (2, [.int (-nI 1), .int 0, .int 0, .null]))] H1 := hP
  have hD : va_D A [(a, .inr (2, [.int (-nI 1), .int 0, .int 0, .null]))] := hD
  refine lv_aload_n hx hb dX2_init_9 rfl (lv_at hl 0 rfl) ?_
  refine lv_bipush hx hb dX2_init_10 (v := nI 6) rfl ?_
  refine va_newa (atype := .int) (ty := .int) (N' := 6) (a0 := (6, .inl (fun _ => 0))) hx hb (hts _ (uq_in (by decide +kernel) (by decide +kernel))) rfl hK hP hD hS hA (fun cA => rfl) (nI_pos (by omega)) (zi_ix (by omega)) (by show 6 * 4 ≤ _; omega) (by show 0 + 1 ≤ 1; omega) (by show 0 + 6 ≤ 6; omega) dX2_init_12 (fun q cA H hK1 hP hD hS => ?_)
  have ec : cA = zc Z 1 := uc_same (t := 1) hK1 rfl
  subst ec
  refine va_putF (own := RX2) (ref := RX2) (Ts := uW) hx hb hts ux_2 tyX2 tyX2_ok nmX2 hown hK1 hP hD hS 0 (fs := [.int (-nI 1), .int 0, .int 0, .null]) rfl (ci := 2) rfl 3 (by decide) (hts (.fieldLink RX2 15 RX2 (TX2 3).2.1 (TX2 3).2.2.1) (uq_in (by decide +kernel) (by decide +kernel))) (fun _ h9 => h9) rfl hin rfl rfl rfl rfl (by decide) dX2_init_14 (fun H1 locs1 hP hD hS => ?_)
  have hP9 : va_P (zD Z) vwCl (mk2_1 Z a q) H1 := hP
  have hK9 := hK1.sub (tys' := utys Z) [0, 1, 2, 3, 4, 5, 6, 7] rfl
  have hD9 : va_D A (mk2_1 Z a q) := hD
  refine W.widen (k := 1) (n := 6) (by omega) (by omega) ?_
  refine W.eq (g2 := F0 m 17 ls []) rfl ?_
  exact W.vret hx hb hr (fun t ht hW => ⟨⟨q, rfl, trivial, by rw [ht]; exact hP9, va_K.moved hW.alike hK9, hD9⟩, hS.F ht⟩) hS.2.2 dX2_init_17 hlocks
