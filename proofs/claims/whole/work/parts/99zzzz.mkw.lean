abbrev mk10_0 (a : Nat) : va_W := [(a, .inr (10, [.int 0, .null, .int 0, .int 0, .int 0]))]
abbrev mk10_1 (Z : ZT) (a w q r : Nat) : va_W := [(a, .inr (10, [.int (nI w), .ref q, .int 0, .int 0, .int 0])), (q, .inr (5, [.ref r, .int 0])), (r, .inl (zc Z 0, (6, .inl (fun _ => 0))))]
set_option maxHeartbeats 4000000 in
theorem mk10 (Z : ZT) (a w sz : Nat) : Met (zl Z) yX10_init (Cond.code yX10_init cX10_init 2 none :: uW) ({ frames := 3, cells := 2, slots := 8, locals := 100 }) (va_Pc [.ref a, .int (nI w)] (fun U => U.heap.size = sz ∧ va_P (zD Z) vwCl (mk10_0 a) U.heap ∧ va_K (zD Z) vwCl (utys Z) U ∧ va_D (fun _ => True) (mk10_0 a))) (va_Qv (fun _ : Nat × Nat => True) (fun q U => va_P (zD Z) vwCl (mk10_1 Z a w q.1 q.2) U.heap ∧ va_K (zD Z) vwCl (utys Z) U ∧ va_D (va_A (mk10_0 a) sz) (mk10_1 Z a w q.1 q.2)) (va_A (mk10_0 a) sz)) 2 8 (va_A (mk10_0 a) sz) := by
  refine Met.ofW (cc := cX10_init) (maxL := 2) (ret := none) (by decide) rfl ?_
  intro p e s m args below meth c s₁ B hml hv
  obtain ⟨rfl, hsz, hP, hK, hD0⟩ := hv
  have hx := B.exec
  have hb := B.bytes
  have hr := B.returns
  have hts0 := atoms_spec (ws := Cond.code yX10_init cX10_init 2 none :: uW) B.pre
  have hts : ∀ w ∈ uW, w.before _ s = true := fun w hw => hts0 w (List.mem_cons_of_mem _ hw)
  have hown : s.vm.findClass RX10 = some m.cls := findClass_of_methodNamed B.named
  have hlocks := B.notSynchronized
  have hin : meth.name = "<init>" := (name_of_methodNamed B.named B.method).1
  subst hsz
  have hD := hD0.self (sz := s.heap.size)
  generalize hAe : va_A (mk10_0 a) s.heap.size = A at hD ⊢
  have hA : ∀ q : Nat, s.heap.size ≤ q → A q := fun q h => by rw [← hAe]; exact Or.inr h
  have hS : va_S A s.heap s.heap [] := va_S.rf
  have hl := lv_entry ([.ref a, .int (nI w)]) (n := 2) (Nat.le_of_ble_eq_true rfl)
  rw [lg_entry_eq]
  generalize (lg_sl ([.ref a, .int (nI w)]) ++ List.replicate (2 - (lg_sl ([.ref a, .int (nI w)])).length) Slot.unset).toArray = ls at hl ⊢
  have hl : lv_has ls 2 [(0, .ref a), (1, .int (nI w))] := hl
  refine lv_aload_n hx hb dX10_init_0 rfl (lv_at hl 0 rfl) ?_
  refine W.objInit hx hb hown (hts (.methodLink RX10 3 objectInit) (uq_in (by decide +kernel) (by decide +kernel))) (hts (.instanceMethod objectInit) (uq_in (by decide +kernel) (by decide +kernel))) (hts _ (uq_in (by decide +kernel) (by decide +kernel))) rfl (by rw [hml]; exact hl.1) rfl dX10_init_1 (Nat.le_of_ble_eq_true rfl) (Nat.le_of_ble_eq_true rfl) ?_
  refine W.eq (g2 := F0 m 4 ls []) rfl ?_
  refine lv_aload_n hx hb dX10_init_4 rfl (lv_at hl 0 rfl) ?_
  refine va_new (ci := 5) (fs := [.null, .int 0]) (C := RX5) (T := TX5) (N := 2) (Ts := uW) hx hb hts ux_5 tyX5 tyX5_ok hown (hts (.classLink RX10 9 RX5) (uq_in (by decide +kernel) (by decide +kernel))) (hts (.instantiable RX5 2) (uq_in (by decide +kernel) (by decide +kernel))) (hts (.initialized RX5) (uq_in (by decide +kernel) (by decide +kernel))) hK hP hD hS hA rfl (fun j hj => by rcases (show j = 0 ∨ j = 1 by omega) with rfl | rfl <;> rfl) (by show 0 + 1 ≤ 2; omega) (by show 0 + 2 ≤ 8; omega) dX10_init_5 (fun q H hP hD hS => ?_)
  have hP : va_P (zD Z) vwCl [(a, .inr (10, [.int 0, .null, .int 0, .int 0, .int 0])), (q, .inr (5, [.null, .int 0]))] H := hP
  have hD : va_D A [(a, .inr (10, [.int 0, .null, .int 0, .int 0, .int 0])), (q, .inr (5, [.null, .int 0]))] := hD
  refine W.widen (k := 1) (n := 2) (by omega) (by omega) ?_
  refine lv_dup hx hb dX10_init_8 rfl ?_
  refine lv_bipush hx hb dX10_init_9 (v := nI 6) rfl ?_
  have hPc := hP.sub (ws' := mk5_0 q) [1] rfl
  have hDc := hD.sub (ws' := mk5_0 q) [1] (by decide) rfl
  have hFc := va_free (wc := mk5_0 q) hD hS hA [1] rfl
  have hcode : Cond.code yX5_init cX5_init 2 none ∈ uW := uq_in (by decide +kernel) (by decide +kernel)
  refine va_callv (va_runI (As := [.int (nI 6)]) (rest := [.ref q, .ref a]) ⟨hx, hb, hml, hown, hts⟩ (mk5 Z q 6 H.size (by omega)) (cwI 1 hts (uw_goodIn hcode) rfl rfl rfl (hts (.initialized RX5) (uq_in (by decide +kernel) (by decide +kernel))) (hts (.methodLink RX10 11 yX5_init) (uq_in (by decide +kernel) (by decide +kernel))) (hts (.instanceMethod yX5_init) (uq_in (by decide +kernel) (by decide +kernel))) rfl (by decide +kernel) ⟨Nat.le_of_ble_eq_true rfl, Nat.le_of_ble_eq_true rfl⟩) ⟨fun a U g mk q => by obtain ⟨q0, q1, qP, qK, qD⟩ := q; exact ⟨q0, q1, qP, va_K.moved (u := U) (U := U.calling g mk a) (Vm.Alike.refl U.vm) qK, qD⟩, fun U hU hW => ⟨rfl, by rw [hU], by rw [hU]; exact hPc, va_K.moved hW.alike hK, hDc.weaken (fun _ _ _ _ => trivial)⟩⟩ rfl rfl hl.1 rfl (lv_room (Nat.le_of_ble_eq_true rfl)) dX10_init_11 ⟨by show 1 + 1 ≤ 2; omega, by show 2 + 6 ≤ 8; omega⟩) hS (fun q _ h => hFc q h) hFc (fun u t H1 locs ht hvm h5 hB hz1 hk1 hS => ?_)
  obtain ⟨r, rfl⟩ : ∃ z, z = u := ⟨_, rfl⟩
  obtain ⟨hP1, hK1, hD1⟩ := hB
  rw [ht] at hP1
  obtain ⟨hP, hD⟩ := va_join (wr := mk10_0 a) (w1 := mk5_1 Z q 6 r) hP hD [1] [0] rfl rfl (by decide) (by decide) hk1 hFc hP1 hD1
  generalize H1 = H at hP hS ⊢
  have hP : va_P (zD Z) vwCl [(a, .inr (10, [.int 0, .null, .int 0, .int 0, .int 0])), (q, .inr (5, [.ref r, .int 0])), (r, .inl (zc Z 0, (6, .inl (fun _ => 0))))] H := hP
  have hD : va_D A [(a, .inr (10, [.int 0, .null, .int 0, .int 0, .int 0])), (q, .inr (5, [.ref r, .int 0])), (r, .inl (zc Z 0, (6, .inl (fun _ => 0))))] := hD
  refine W.widen (k := 2) (n := 8) (by omega) (by omega) ?_
  refine va_putF (own := RX10) (ref := RX10) (Ts := uW) hx hb hts ux_10 tyX10 tyX10_ok nmX10 hown hK hP hD hS 0 (fs := [.int 0, .null, .int 0, .int 0, .int 0]) rfl (ci := 10) rfl 1 (by decide) (hts (.fieldLink RX10 14 RX10 (TX10 1).2.1 (TX10 1).2.2.1) (uq_in (by decide +kernel) (by decide +kernel))) (fun _ h9 => h9) rfl hin rfl rfl rfl rfl (Nat.le_of_ble_eq_true rfl) dX10_init_14 (fun H1 locs1 hP hD hS => ?_)
  have hP : va_P (zD Z) vwCl [(a, .inr (10, [.int 0, .ref q, .int 0, .int 0, .int 0])), (q, .inr (5, [.ref r, .int 0])), (r, .inl (zc Z 0, (6, .inl (fun _ => 0))))] H1 := hP
  have hD : va_D A [(a, .inr (10, [.int 0, .ref q, .int 0, .int 0, .int 0])), (q, .inr (5, [.ref r, .int 0])), (r, .inl (zc Z 0, (6, .inl (fun _ => 0))))] := hD
  refine W.eq (g2 := F0 m 17 ls []) rfl ?_
  refine lv_aload_n hx hb dX10_init_17 rfl (lv_at hl 0 rfl) ?_
  refine lv_iload_n hx hb dX10_init_18 rfl (lv_at hl 1 rfl) ?_
  refine va_putF (own := RX10) (ref := RX10) (Ts := uW) hx hb hts ux_10 tyX10 tyX10_ok nmX10 hown hK hP hD hS 0 (fs := [.int 0, .ref q, .int 0, .int 0, .int 0]) rfl (ci := 10) rfl 0 (by decide) (hts (.fieldLink RX10 20 RX10 (TX10 0).2.1 (TX10 0).2.2.1) (uq_in (by decide +kernel) (by decide +kernel))) (fun _ h9 => h9) rfl hin rfl (ty := .int) (by decide +kernel) rfl rfl (Nat.le_of_ble_eq_true rfl) dX10_init_19 (fun H1 locs1 hP hD hS => ?_)
  have hP : va_P (zD Z) vwCl (mk10_1 Z a w q r) H1 := hP
  have hD : va_D A (mk10_1 Z a w q r) := hD
  refine W.eq (g2 := F0 m 22 ls []) rfl ?_
  exact W.vret hx hb hr (fun t ht hW => ⟨⟨(q, r), rfl, trivial, by rw [ht]; exact hP, va_K.moved hW.alike hK, hD⟩, hS.F ht⟩) hS.2.2 dX10_init_22 hlocks
