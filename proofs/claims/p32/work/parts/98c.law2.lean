theorem y_lt256 {l : List Nat} (h : l.all (fun b => decide (b < 256)) = true) {k : Nat} (hk : k < l.length) : l.getD k 0 < 256 := by
  have e : l.getD k 0 = l[k] := by simp [List.getD_eq_getElem?_getD, List.getElem?_eq_getElem hk]
  rw [e]
  have := List.all_eq_true.mp h _ (List.getElem_mem hk)
  simpa using this
/-- what holds at the head of each turn -/
def yI (σ : Mem) (g kd md sz ld : Nat → Int32) (words : Nat) : Prop := yB σ g ∧ yG g ∧ zL σ 1 [] ∧ znW g = words ∧ (∀ w, w < words → g (zwa w) = kd w) ∧ yT σ md sz ld
theorem yI_co {σ τ : Mem} {g kd md sz ld : Nat → Int32} {words : Nat} (h : yI σ g kd md sz ld words) (e : ∀ x c, (x < 172 ∨ (375 ≤ x ∧ x < 383)) → x ≠ 2 → τ x c = σ x c) : yI τ g kd md sz ld words :=
  ⟨yB_co h.1 (fun a k p q => e a k (by omega) (by omega)), h.2.1, y_nil ((e 1 1 (by omega) (by omega)).trans h.2.2.1.1), h.2.2.2.1, h.2.2.2.2.1, yT_co h.2.2.2.2.2 (fun x c p q => e x c (by omega) (by omega))⟩
theorem yI_tr {σ τ : Mem} {g kd md sz ld md' sz' ld' : Nat → Int32} {words : Nat} (h : yI σ g kd md sz ld words) (e : ∀ x c, ¬ (375 ≤ x ∧ x < 383) → τ x c = σ x c) (hT : yT τ md' sz' ld') : yI τ g kd md' sz' ld' words :=
  ⟨yB_co h.1 (fun a k p q => e a k (by omega)), h.2.1, zL_cb h.2.2.1 (fun a k p q => e a k (by omega)), h.2.2.2.1, h.2.2.2.2.1, hT⟩
theorem yL_co {σ τ : Mem} {i : Nat} {l : List Nat} (h : zL σ i l) (e : ∀ k, τ i k = σ i k ∧ τ (i + 1) k = σ (i + 1) k) : zL τ i l := zL_cb h (fun a k p q => by rcases (show a = i ∨ a = i + 1 by omega) with rfl | rfl <;> first | exact (e k).1 | exact (e k).2)

set_option maxHeartbeats 4000000 in
theorem w_frame {Z : ZT} {C : CX} {b N k25 v25 k34 v34 : Nat} {xs ef : Nat → Int32} (O : jOk Z C RL cL_law 19 13 494 600000 7302249) (hXs : jXs b N xs (c_A C) (c_s C) (c_s C).heap) (hN : N ≤ 600) (h25 : jK 25 "" k25 v25 0 ef (c_A C) (c_s C) (c_s C).heap) (hef : jF ef) (h34 : jK 34 "aeobtkle" k34 v34 8 (fun k => zsg (yal.getD k 0)) (c_A C) (c_s C) (c_s C).heap) {ak K M k66 v66 : Nat} {σ : Mem} {g f : Nat → Int32} (h66 : jK 66 "n01 v0 f02 p0" k66 v66 13 (fun k => zsg (yfl.getD k 0)) (c_A C) (c_s C) (c_s C).heap) (hK : K ≤ 5000) (hM : M ≤ 50000) (hw : yW0 σ g f 6) (hfit : hFit σ) (kk : ∀ (σ : Mem) (g kd md sz ld : Nat → Int32) (am as al : Nat), yI σ g kd md sz ld 6 → hFit σ → uE Z C σ [(ak, .inl (zc Z 1, (20, .inl kd))), (am, .inl (zc Z 1, (4, .inl md))), (as, .inl (zc Z 1, (4, .inl sz))), (al, .inl (zc Z 1, (80, .inl ld)))] 10000 100000 173 [(8, .int (nI 0)), (7, .ref al), (6, .ref as), (5, .ref am), (4, .int (nI 6)), (3, .ref ak), (2, .int (nI 1)), (1, .ref (za Z 0)), (0, .ref b)] []) : uE Z C σ [(ak, .inl (zc Z 1, (20, .inl f)))] (K + 24 * 6) (M + 1576 * 6) 99 [(5, .int (nI 6)), (4, .int (nI 6)), (3, .ref ak), (2, .int (nI 1)), (1, .ref (za Z 0)), (0, .ref b)] [] := by
  show uE Z C σ [(ak, .inl (zc Z 1, (20, .inl f)))] _ _ _ [(5, .int (nI 6)), (4, .int (nI 6)), (3, .ref ak), (2, .int (nI 1)), (1, .ref (za Z 0)), (0, .ref b)] []
  obtain ⟨hB, hz, hF0, hW, h13, he, hkd, hmiss⟩ := hw
  refine uv_iload_n O.1 dL_law_99 3 rfl rfl ?_
  refine uv_aload_n O.1 dL_law_100 4 rfl rfl ?_
  refine uv_ldcS O.1 dL_law_101 h66.1 ?_
  refine ue_callB (rest := [.int (nI 1)]) O (jc_S (as := [.ref (za Z 0), .ref k66]) (rest := [.int (nI 1)]) O.1 dL_law_103 (uq_in (by decide +kernel) (by decide +kernel)) (uq_in (by decide +kernel) (by decide +kernel)) (uq_in (by decide +kernel) (by decide +kernel)) (uq_in (by decide +kernel) (by decide +kernel)) ⟨by decide +kernel, by decide +kernel, (by decide +kernel : (parseMethodDescriptor yL_types.desc).map (fun d => d.parameters.length) = some 2)⟩ rfl ⟨(Nat.le_of_ble_eq_true rfl), (Nat.le_of_ble_eq_true rfl)⟩ (Nat.le_of_ble_eq_true rfl)) (fun sz => l_types Z k66 v66 (fun k => zsg (yfl.getD k 0)) yfl σ sz (by decide +kernel) (fun k hk => y_lt256 (by decide +kernel) hk) (fun _ _ => rfl) hz hfit) (jS_mv _ _ _ _) (jt_up O.1 (jS_mv _ _ _ _) h66.2) j_r0 (by omega) (by omega) (fun u => u) (fun u => []) (fun u => (List.append_nil _).symm) (fun τ hu => ?_)
  try dsimp only at hu
  obtain ⟨hz, hfit, hfr⟩ := hu
  show uE Z C τ [(ak, .inl (zc Z 1, (20, .inl f)))] _ _ _ [(5, .int (nI 6)), (4, .int (nI 6)), (3, .ref ak), (2, .int (nI 1)), (1, .ref (za Z 0)), (0, .ref b)] [.int (nI 1), .int (nI 1)]
  refine uv_eqF 130 O.1 dL_law_106 rfl (by decide +kernel) ?_
  refine uv_aload_n O.1 dL_law_109 4 rfl rfl ?_
  obtain ⟨τ2, a1, a2, a3, a4⟩ := y_frame (yB_co hB (fun x c p q => hfr x c (by omega) (by omega))) hz hF0 (by rw [hW]; omega) (hkd 0 (by omega)).1
  refine ue_ctV (as := []) (rest := [.int (nI 1)]) O hfit dL_law_110 (fun Z2 hZ2 => ct_X11_frame hZ2 rfl a1) vx_RL_68 rfl rfl rfl ⟨(Nat.le_of_ble_eq_true rfl), (Nat.le_of_ble_eq_true rfl)⟩ (Nat.le_of_ble_eq_true rfl) (by omega) (by omega) (fun _ hfit => ?_)
  show uE Z C τ2 [(ak, .inl (zc Z 1, (20, .inl f)))] _ _ _ [(5, .int (nI 6)), (4, .int (nI 6)), (3, .ref ak), (2, .int (nI 1)), (1, .ref (za Z 0)), (0, .ref b)] [.int (nI 0), .int (nI 1)]
  refine uv_neF 130 O.1 dL_law_113 rfl rfl ?_
  refine uv_aload_n O.1 dL_law_116 4 rfl rfl ?_
  refine uv_iconst O.1 dL_law_117 (nI 0) rfl ?_
  refine uv_iconst O.1 dL_law_118 (nI 1) rfl ?_
  obtain ⟨b1, b2, b3, b4, b5⟩ := y_start hF0 hW (fun k hk => (hkd k hk).1) h13 he
  obtain ⟨τ3, c1, c2, c3⟩ := y_desk (f := 0) (m := 1) a2 (by rw [b3]; omega) (by omega)
  have c1' : fX11_desk τ2 0 (nI 0) (nI 1) = some (nI 4, τ3) := by rw [← b2]; exact c1
  refine ue_ctV (as := [.int (nI 0), .int (nI 1)]) (rest := [.int (nI 1)]) O hfit dL_law_119 (fun Z2 hZ2 => ct_X11_desk hZ2 rfl c1') vx_RL_71 rfl rfl rfl ⟨(Nat.le_of_ble_eq_true rfl), (Nat.le_of_ble_eq_true rfl)⟩ (Nat.le_of_ble_eq_true rfl) (by omega) (by omega) (fun _ hfit => ?_)
  show uE Z C τ3 [(ak, .inl (zc Z 1, (20, .inl f)))] _ _ _ [(5, .int (nI 6)), (4, .int (nI 6)), (3, .ref ak), (2, .int (nI 1)), (1, .ref (za Z 0)), (0, .ref b)] [.int (nI 4), .int (nI 1)]
  refine uv_iconst O.1 dL_law_122 (nI 4) rfl ?_
  refine uv_icmp_ne 130 O.1 dL_law_123 rfl (fun hh => absurd rfl hh) (fun _ => ?_)
  refine uv_iconst O.1 dL_law_126 (nI 1) rfl ?_
  refine uv_goto 131 O.1 dL_law_127 rfl ?_
  refine uv_iand (z := nI 1) O.1 dL_law_131 (by decide +kernel) ?_
  refine uv_istore_n O.1 dL_law_132 rfl (by omega) [(2, .int (nI 1)), (5, .int (nI 6)), (4, .int (nI 6)), (3, .ref ak), (1, .ref (za Z 0)), (0, .ref b)] rfl ?_
  refine uv_iconst O.1 dL_law_133 (nI 4) rfl ?_
  refine ue_newi (N := 4) O dL_law_134 (uq_in (by decide +kernel) (by decide +kernel)) rfl (by omega) (by omega) (by omega) (fun am => ?_)
  show uE Z C τ3 [(ak, .inl (zc Z 1, (20, .inl f))), (am, .inl (zc Z 1, (4, .inl (fun _ => 0))))] _ _ _ [(2, .int (nI 1)), (5, .int (nI 6)), (4, .int (nI 6)), (3, .ref ak), (1, .ref (za Z 0)), (0, .ref b)] [.ref am]
  refine uv_astore O.1 dL_law_136 (by omega) [(5, .ref am), (2, .int (nI 1)), (4, .int (nI 6)), (3, .ref ak), (1, .ref (za Z 0)), (0, .ref b)] rfl ?_
  refine uv_iconst O.1 dL_law_138 (nI 4) rfl ?_
  refine ue_newi (N := 4) O dL_law_139 (uq_in (by decide +kernel) (by decide +kernel)) rfl (by omega) (by omega) (by omega) (fun as => ?_)
  show uE Z C τ3 [(ak, .inl (zc Z 1, (20, .inl f))), (am, .inl (zc Z 1, (4, .inl (fun _ => 0)))), (as, .inl (zc Z 1, (4, .inl (fun _ => 0))))] _ _ _ [(5, .ref am), (2, .int (nI 1)), (4, .int (nI 6)), (3, .ref ak), (1, .ref (za Z 0)), (0, .ref b)] [.ref as]
  refine uv_astore O.1 dL_law_141 (by omega) [(6, .ref as), (5, .ref am), (2, .int (nI 1)), (4, .int (nI 6)), (3, .ref ak), (1, .ref (za Z 0)), (0, .ref b)] rfl ?_
  refine uv_bipush O.1 dL_law_143 (nI 80) rfl ?_
  refine ue_newi (N := 80) O dL_law_145 (uq_in (by decide +kernel) (by decide +kernel)) rfl (by omega) (by omega) (by omega) (fun al => ?_)
  show uE Z C τ3 [(ak, .inl (zc Z 1, (20, .inl f))), (am, .inl (zc Z 1, (4, .inl (fun _ => 0)))), (as, .inl (zc Z 1, (4, .inl (fun _ => 0)))), (al, .inl (zc Z 1, (80, .inl (fun _ => 0))))] _ _ _ [(6, .ref as), (5, .ref am), (2, .int (nI 1)), (4, .int (nI 6)), (3, .ref ak), (1, .ref (za Z 0)), (0, .ref b)] [.ref al]
  refine uv_astore O.1 dL_law_147 (by omega) [(7, .ref al), (6, .ref as), (5, .ref am), (2, .int (nI 1)), (4, .int (nI 6)), (3, .ref ak), (1, .ref (za Z 0)), (0, .ref b)] rfl ?_
  refine uv_iconst O.1 dL_law_149 (nI 0) rfl ?_
  refine uv_istore O.1 dL_law_150 (by omega) [(8, .int (nI 0)), (7, .ref al), (6, .ref as), (5, .ref am), (2, .int (nI 1)), (4, .int (nI 6)), (3, .ref ak), (1, .ref (za Z 0)), (0, .ref b)] rfl ?_
  refine uv_iload O.1 dL_law_152 0 rfl ?_
  refine uv_iconst O.1 dL_law_154 (nI 4) rfl ?_
  refine uv_icmp_ge 170 O.1 dL_law_155 rfl (fun hh => absurd hh (by decide +kernel)) (fun _ => ?_)
  refine uv_aload O.1 dL_law_158 3 rfl ?_
  refine uv_iload O.1 dL_law_160 0 rfl ?_
  refine uv_iconst O.1 dL_law_162 (-nI 1) rfl ?_
  refine ue_ist (j := 1) (w := 0) (E' := [(ak, .inl (zc Z 1, (20, .inl f))), (am, .inl (zc Z 1, (4, .inl (upd (fun _ => 0) 0 (-nI 1))))), (as, .inl (zc Z 1, (4, .inl (fun _ => 0)))), (al, .inl (zc Z 1, (80, .inl (fun _ => 0))))]) O dL_law_163 rfl rfl (by omega) (by omega) rfl ?_
  refine uv_iinc (z := 1) (v := nI 1) O.1 dL_law_164 0 rfl (by decide +kernel) (by omega) [(8, .int (nI 1)), (7, .ref al), (6, .ref as), (5, .ref am), (2, .int (nI 1)), (4, .int (nI 6)), (3, .ref ak), (1, .ref (za Z 0)), (0, .ref b)] rfl ?_
  refine uv_goto 152 O.1 dL_law_167 rfl ?_
  refine uv_iload O.1 dL_law_152 0 rfl ?_
  refine uv_iconst O.1 dL_law_154 (nI 4) rfl ?_
  refine uv_icmp_ge 170 O.1 dL_law_155 rfl (fun hh => absurd hh (by decide +kernel)) (fun _ => ?_)
  refine uv_aload O.1 dL_law_158 3 rfl ?_
  refine uv_iload O.1 dL_law_160 0 rfl ?_
  refine uv_iconst O.1 dL_law_162 (-nI 1) rfl ?_
  refine ue_ist (j := 1) (w := 1) (E' := [(ak, .inl (zc Z 1, (20, .inl f))), (am, .inl (zc Z 1, (4, .inl (upd (upd (fun _ => 0) 0 (-nI 1)) 1 (-nI 1))))), (as, .inl (zc Z 1, (4, .inl (fun _ => 0)))), (al, .inl (zc Z 1, (80, .inl (fun _ => 0))))]) O dL_law_163 rfl rfl (by omega) (by omega) rfl ?_
  refine uv_iinc (z := 1) (v := nI 2) O.1 dL_law_164 0 rfl (by decide +kernel) (by omega) [(8, .int (nI 2)), (7, .ref al), (6, .ref as), (5, .ref am), (2, .int (nI 1)), (4, .int (nI 6)), (3, .ref ak), (1, .ref (za Z 0)), (0, .ref b)] rfl ?_
  refine uv_goto 152 O.1 dL_law_167 rfl ?_
  refine uv_iload O.1 dL_law_152 0 rfl ?_
  refine uv_iconst O.1 dL_law_154 (nI 4) rfl ?_
  refine uv_icmp_ge 170 O.1 dL_law_155 rfl (fun hh => absurd hh (by decide +kernel)) (fun _ => ?_)
  refine uv_aload O.1 dL_law_158 3 rfl ?_
  refine uv_iload O.1 dL_law_160 0 rfl ?_
  refine uv_iconst O.1 dL_law_162 (-nI 1) rfl ?_
  refine ue_ist (j := 1) (w := 2) (E' := [(ak, .inl (zc Z 1, (20, .inl f))), (am, .inl (zc Z 1, (4, .inl (upd (upd (upd (fun _ => 0) 0 (-nI 1)) 1 (-nI 1)) 2 (-nI 1))))), (as, .inl (zc Z 1, (4, .inl (fun _ => 0)))), (al, .inl (zc Z 1, (80, .inl (fun _ => 0))))]) O dL_law_163 rfl rfl (by omega) (by omega) rfl ?_
  refine uv_iinc (z := 1) (v := nI 3) O.1 dL_law_164 0 rfl (by decide +kernel) (by omega) [(8, .int (nI 3)), (7, .ref al), (6, .ref as), (5, .ref am), (2, .int (nI 1)), (4, .int (nI 6)), (3, .ref ak), (1, .ref (za Z 0)), (0, .ref b)] rfl ?_
  refine uv_goto 152 O.1 dL_law_167 rfl ?_
  refine uv_iload O.1 dL_law_152 0 rfl ?_
  refine uv_iconst O.1 dL_law_154 (nI 4) rfl ?_
  refine uv_icmp_ge 170 O.1 dL_law_155 rfl (fun hh => absurd hh (by decide +kernel)) (fun _ => ?_)
  refine uv_aload O.1 dL_law_158 3 rfl ?_
  refine uv_iload O.1 dL_law_160 0 rfl ?_
  refine uv_iconst O.1 dL_law_162 (-nI 1) rfl ?_
  refine ue_ist (j := 1) (w := 3) (E' := [(ak, .inl (zc Z 1, (20, .inl f))), (am, .inl (zc Z 1, (4, .inl (upd (upd (upd (upd (fun _ => 0) 0 (-nI 1)) 1 (-nI 1)) 2 (-nI 1)) 3 (-nI 1))))), (as, .inl (zc Z 1, (4, .inl (fun _ => 0)))), (al, .inl (zc Z 1, (80, .inl (fun _ => 0))))]) O dL_law_163 rfl rfl (by omega) (by omega) rfl ?_
  refine uv_iinc (z := 1) (v := nI 4) O.1 dL_law_164 0 rfl (by decide +kernel) (by omega) [(8, .int (nI 4)), (7, .ref al), (6, .ref as), (5, .ref am), (2, .int (nI 1)), (4, .int (nI 6)), (3, .ref ak), (1, .ref (za Z 0)), (0, .ref b)] rfl ?_
  refine uv_goto 152 O.1 dL_law_167 rfl ?_
  refine uv_iload O.1 dL_law_152 0 rfl ?_
  refine uv_iconst O.1 dL_law_154 (nI 4) rfl ?_
  refine uv_icmp_ge 170 O.1 dL_law_155 rfl (fun _ => ?_) (fun hh => absurd (by decide +kernel) hh)
  refine uv_iconst O.1 dL_law_170 (nI 0) rfl ?_
  refine uv_istore O.1 dL_law_171 (by omega) [(8, .int (nI 0)), (7, .ref al), (6, .ref as), (5, .ref am), (2, .int (nI 1)), (4, .int (nI 6)), (3, .ref ak), (1, .ref (za Z 0)), (0, .ref b)] rfl ?_
  refine uv_sub [0, 1, 2, 3, 5, 6, 4, 7, 8] rfl ?_
  refine uv_widen (k' := 10000) (n' := 100000) (by omega) (by omega) ?_
  refine kk τ3 _ _ _ _ _ _ _ _ ⟨c2, b1, ?_, b4, fun w hw => ?_, fun t ht => Or.inl ⟨?_, ?_⟩⟩ hfit
  · exact yL_co a3 (fun k => ⟨c3 _ _ (by omega) (by omega), c3 _ _ (by omega) (by omega)⟩)
  · rw [(hkd w hw).2]; exact b5 w hw
  · rcases (show t = 0 ∨ t = 1 ∨ t = 2 ∨ t = 3 by omega) with rfl | rfl | rfl | rfl <;> rfl
  · rw [c3 _ _ (by omega) (by omega), a4 _ _ (by omega) (by omega) (by omega) (by omega), hfr _ _ (by omega) (by omega)]; exact hmiss t ht
