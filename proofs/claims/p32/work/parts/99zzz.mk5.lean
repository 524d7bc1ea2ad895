abbrev mk5_0 (a : Nat) : va_W := [(a, .inr (5, [.null, .int 0]))]
abbrev mk5_1 (Z : ZT) (a n q : Nat) : va_W := [(a, .inr (5, [.ref q, .int 0])), (q, .inl (zc Z 0, (n, .inl (fun _ => 0))))]
set_option maxHeartbeats 4000000 in
theorem mk5 (Z : ZT) (a n sz : Nat) (hn : n ≤ 100) : Met (zl Z) yX5_init (Cond.code yX5_init cX5_init 2 none :: uW) ({ frames := 2, cells := 1, slots := n, locals := 60 }) (va_Pc [.ref a, .int (nI n)] (fun U => U.heap.size = sz ∧ va_P (zD Z) vwCl (mk5_0 a) U.heap ∧ va_K (zD Z) vwCl (utys Z) U ∧ va_D (fun _ => True) (mk5_0 a) ∧ NW U)) (va_Qv (fun _ : Nat => True) (fun q U => va_P (zD Z) vwCl (mk5_1 Z a n q) U.heap ∧ va_K (zD Z) vwCl (utys Z) U ∧ va_D (va_A (mk5_0 a) sz) (mk5_1 Z a n q)) (va_A (mk5_0 a) sz)) 1 n (va_A (mk5_0 a) sz) := by
  refine Met.ofW (cc := cX5_init) (maxL := 2) (ret := none) (by decide) rfl ?_
  intro p e s m args below meth c s₁ B hml hv
  obtain ⟨rfl, hsz, hP, hK, hD0, hNw⟩ := hv
  have hx := B.exec
  have hb := B.bytes
  have hr := B.returns
  have hts0 := atoms_spec (ws := Cond.code yX5_init cX5_init 2 none :: uW) B.pre
  have hts : ∀ w ∈ uW, w.before _ s = true := fun w hw => hts0 w (List.mem_cons_of_mem _ hw)
  have hown : s.vm.findClass RX5 = some m.cls := findClass_of_methodNamed B.named
  have hlocks := B.notSynchronized
  have hin : meth.name = "<init>" := (name_of_methodNamed B.named B.method).1
  subst hsz
  have hD := hD0.self (sz := s.heap.size)
  generalize hAe : va_A (mk5_0 a) s.heap.size = A at hD ⊢
  have hA : ∀ q : Nat, s.heap.size ≤ q → A q := fun q h => by rw [← hAe]; exact Or.inr h
  have hS : va_S A s.heap s.heap [] := va_S.rf
  have hl := lv_entry ([.ref a, .int (nI n)]) (n := 2) (Nat.le_of_ble_eq_true rfl)
  rw [lg_entry_eq]
  generalize (lg_sl ([.ref a, .int (nI n)]) ++ List.replicate (2 - (lg_sl ([.ref a, .int (nI n)])).length) Slot.unset).toArray = ls at hl ⊢
  have hl : lv_has ls 2 [(0, .ref a), (1, .int (nI n))] := hl
  refine lv_aload_n hx hb dX5_init_0 rfl (lv_at hl 0 rfl) ?_
  refine W.objInit hx hb hown (hts (.methodLink RX5 3 objectInit) (uq_in (by decide +kernel) (by decide +kernel))) (hts (.instanceMethod objectInit) (uq_in (by decide +kernel) (by decide +kernel))) (hts _ (uq_in (by decide +kernel) (by decide +kernel))) rfl (by rw [hml]; exact hl.1) rfl dX5_init_1 (Nat.le_of_ble_eq_true rfl) (Nat.le_of_ble_eq_true rfl) ?_
  refine W.eq (g2 := F0 m 4 ls []) rfl ?_
  refine lv_aload_n hx hb dX5_init_4 rfl (lv_at hl 0 rfl) ?_
  refine lv_iload_n hx hb dX5_init_5 rfl (lv_at hl 1 rfl) ?_
  refine lv_iconst hx hb dX5_init_6 (v := nI 0) rfl ?_
  refine va_mmax hx hb (by rw [hml]; exact hl.1.symm) hown (hts _ (uq_in (by decide +kernel) (by decide +kernel))) (hts _ (uq_in (by decide +kernel) (by decide +kernel))) (hts _ (uq_in (by decide +kernel) (by decide +kernel))) (hts _ (uq_in (by decide +kernel) (by decide +kernel))) (Nat.le_of_ble_eq_true rfl) (Nat.le_of_ble_eq_true rfl) (by show 0 + 0 ≤ 1; omega) (by show 0 + 0 ≤ n; omega) dX5_init_7 ?_
  refine W.eq (g2 := F0 m 10 ls [.int (nI n), .ref a]) (by show F0 m (7 + 3) ls [.int (imx (nI n) (nI 0)), .ref a] = _; rw [zi_max (by omega) (by omega), Nat.max_eq_left (Nat.zero_le _)]) ?_
  refine va_newa (atype := .byte) (ty := .byte) (N' := n) (a0 := (n, .inl (fun _ => 0))) hx hb (hts _ (uq_in (by decide +kernel) (by decide +kernel))) rfl hK hP hD hS hA (fun cA => rfl) (nI_pos (by omega)) (zi_ix (by omega)) (by show n * 1 ≤ _; omega) (by show 0 + 1 ≤ 1; omega) (by show 0 + n ≤ n; omega) dX5_init_10 (fun q cA H hK1 hP hD hS => ?_)
  have ec : cA = zc Z 0 := uc_same (t := 0) hK1 rfl
  subst ec
  refine va_putF (own := RX5) (ref := RX5) (Ts := uW) hx hb hts ux_5 tyX5 tyX5_ok nmX5 hown hK1 hP hD hS 0 (fs := [.null, .int 0]) rfl (ci := 5) rfl 0 (by decide) (hts (.fieldLink RX5 15 RX5 (TX5 0).2.1 (TX5 0).2.2.1) (uq_in (by decide +kernel) (by decide +kernel))) (fun _ h9 => h9) rfl hin rfl rfl rfl rfl (by decide) dX5_init_12 (fun H1 locs1 hP hD hS => ?_)
  have hP9 : va_P (zD Z) vwCl (mk5_1 Z a n q) H1 := hP
  have hK9 := hK1.sub (tys' := utys Z) [0, 1, 2, 3, 4, 5, 6, 7] rfl
  have hD9 : va_D A (mk5_1 Z a n q) := hD
  refine W.widen (k := 1) (n := n) (by omega) (by omega) ?_
  refine W.eq (g2 := F0 m 15 ls []) rfl ?_
  exact W.vret hx hb hr (fun t ht hW => ⟨⟨q, rfl, trivial, by rw [ht]; exact hP9, va_K.moved hW.alike hK9, hD9⟩, hS.F ht⟩) hS.2.2 dX5_init_15 hlocks
