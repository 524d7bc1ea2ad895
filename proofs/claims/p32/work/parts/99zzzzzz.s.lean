/-! THE CLAIM OUT OF ONE WALK OF THE LAW'S BODY. Your part is whole_start (and what it stands on); all else here is the same for every law, but numbers. -/
def R_law : String := "PhraseMoodsLaw"
def lw_P (b : Addr) (xs : List Int32) (args : Array Value) (s : State) : Prop := args = #[.ref b] ∧ s.IntsAt b xs ∧ xs.length ≤ 260 ∧ (Jvm.Cond.and given_1 narrow_1).before args s = true
def lw_Q (_ : Array Value) (s : State) (o : Outcome) (t : State) : Prop := o = .returned (some (.int 1)) ∧ Framed s o t [] 600000 7302249
def lw_Z (below : List Frame) (a : Array Value) (s : State) : State → Prop := fun t => ∃ o, t.status = .running ∧ Ended t below o ∧ lw_Q a s o t
/-- the law's own end, with 1 on the stack, nothing written that was there before, its room as the claim has it -/
theorem lw_ret {p : Program} {l : Launch} {e : Env} {s : State} {m : MethodId} {below : List Frame} {meth : Method} {c : Code} {b : Nat} (hx : p.tables.exec = Jvm.exec) (hb : c.code = code) (hr : meth.sig.returnType = ret) (hlocks : meth.locks = false) {pc : Nat} {H : Heap} {ls : Array Slot} (hdg : decode code pc = .ok (.ireturn, 1)) : W p l e room_1 s m #[Value.ref b] below meth c H [] 600000 7302249 (lw_Z below #[Value.ref b] s) (F0 m pc ls [.int 1]) := by
  intro T hT X
  obtain ⟨fs, hret, hrun, hended, hW, hframe⟩ := X.leave (v := some (.int 1)) (hlocks := hlocks) (fun h => by rw [hr] at h; cases h)
  have hmeth' : T.vm.method? m = some meth := X.method'
  refine ⟨T.setFrames fs, ?_, .returned (some (.int 1)), hrun, hended, rfl, ⟨_, rfl⟩, hW, hframe⟩
  jvm_step X.here [X.here.top, hx, hb, hdg, hmeth', hr, ret, narrow_b1]
  (try refine ⟨rfl, ?_⟩); (try refine ⟨rfl, ?_⟩)
  first | (intro acts; rw [hret _ acts rfl rfl rfl]) | rw [hret _ _ rfl rfl rfl]
  exact Steps.refl _
/-- what holds at the law's entry: the machine, the code, the tables' words (any of lw_tbl by 'hts w (by decide +kernel)'), the script of L ints xs at the cell b, what the Statement gives of the start (any of its parts by flat_of_before) -/
def lw_At (p : Program) (s : State) (m : MethodId) (meth : Method) (c : Code) (b L : Nat) (xs : Nat → Int32) : Prop :=
  p.tables.exec = Jvm.exec ∧ c.code = code ∧ meth.sig.returnType = ret ∧ c.maxLocals = 19 ∧ s.vm.findClass R_law = some m.cls ∧ (∀ w ∈ lw_tbl, w.before #[Value.ref b] s = true) ∧ va_X b L xs s s.heap ∧ b < s.heap.size ∧ meth.locks = false ∧ (Jvm.Cond.and given_1 narrow_1).before #[Value.ref b] s = true
/-- from the makers' world to the book's cells -/
theorem us_conv {Z0 Z : ZT} {C : CX} {a k n pc : Nat} {u : S11} {L : List (Nat × Value)} {st : List Value} (hZ : Z = (Z0.1, Z0.2.1, Z0.2.2.1, zaM a 0 u (fun _ => 0), Z0.2.2.2.2)) (kk : uV Z C (wlB Z zM0) k n pc L st) : uV Z0 C (mk11_1 Z0 a u) k n pc L st := by
  intro H locs ls hP hD hS hl
  have hza : ∀ i, za Z i = zaM a 0 u (fun _ => 0) i := fun i => by rw [hZ]
  have hw : mk11_1 Z0 a u = mk11_1 Z a u := by rw [hZ]; rfl
  rw [hw] at hP hD
  obtain ⟨W, hp, hr⟩ := zs_all hza
  have hP2 : va_P (zD Z) vwCl (wlB Z zM0) H := by
    have := hr.2 _ _ _ (uv_Pperm hp hP)
    rw [hZ] at this ⊢
    exact this
  have hD2 : va_D (c_A C) (wlB Z zM0) := by
    have h1 := uv_Dnd.mp (uv_Dperm hp hD)
    refine uv_Dnd.mpr ⟨by rw [← hr.1]; exact h1.1, fun q hq => ?_⟩
    have h2 : q.1 ∈ W.map Prod.fst := by rw [hr.1]; exact List.mem_map.mpr ⟨q, hq, rfl⟩
    obtain ⟨q', h3, h4⟩ := List.mem_map.mp h2
    rw [← h4]
    exact h1.2 q' h3
  have g := kk H locs ls hP2 hD2 hS hl
  rw [hZ] at g
  exact g
theorem yW0_0 : yW0 zM0 (zM0 384) (fun _ => 0) 0 := by
  have h := z_init
  refine ⟨⟨h.2.1, h.2.2.1, h.2.2.2.1⟩, y_nil (by decide +kernel), by decide +kernel, by decide +kernel, by decide +kernel, by decide +kernel, fun w hw => absurd hw (by omega), fun t ht => ?_⟩
  exact (by decide +kernel : ∀ t : Fin 4, zM0 (375 + 2 * t.1) 0 = -nI 1) ⟨t, ht⟩
set_option maxHeartbeats 4000000 in
/-- from pc 7: the book is made -/
theorem us_law {Z : ZT} {C : CX} {b N k25 v25 k34 v34 k66 v66 k112 v112 k117 v117 k119 v119 : Nat} {xs ef : Nat → Int32} (O : jOk Z C RL cL_law 19 13 494 600000 7302249) (hXs : jXs b N xs (c_A C) (c_s C) (c_s C).heap) (hN : N ≤ 600) (h25 : jK 25 "" k25 v25 0 ef (c_A C) (c_s C) (c_s C).heap) (hef : jF ef) (h34 : jK 34 "aeobtkle" k34 v34 8 (fun k => zsg (yal.getD k 0)) (c_A C) (c_s C) (c_s C).heap) (h66 : jK 66 "n01 v0 f02 p0" k66 v66 13 (fun k => zsg (yfl.getD k 0)) (c_A C) (c_s C) (c_s C).heap) (h112 : jK 112 "o" k112 v112 1 (fun k => zsg (yco.getD k 0)) (c_A C) (c_s C) (c_s C).heap) (h117 : jK 117 "ka" k117 v117 2 (fun k => zsg (yck.getD k 0)) (c_A C) (c_s C) (c_s C).heap) (h119 : jK 119 "a a" k119 v119 3 (fun k => zsg (ycx.getD k 0)) (c_A C) (c_s C) (c_s C).heap)
    (fin : ∀ (ws : va_W) (L : List (Nat × Value)), uV Z C ws 600000 7302249 1701 L [.int (nI 1)]) : uE Z C zM0 [] 383 1977 7 [(0, .ref b)] [.ref (za Z 0)] := by
  refine uv_astore_n O.1 dL_law_7 rfl (by omega) [(1, .ref (za Z 0)), (0, .ref b)] rfl ?_
  refine uv_iconst O.1 dL_law_8 (nI 1) rfl ?_
  refine uv_istore_n O.1 dL_law_9 rfl (by omega) [(2, .int (nI 1)), (1, .ref (za Z 0)), (0, .ref b)] rfl ?_
  refine uv_bipush O.1 dL_law_10 (nI 20) rfl ?_
  refine ue_newi (N := 20) O dL_law_12 (uq_in (by decide +kernel) (by decide +kernel)) rfl (by omega) (by omega) (by omega) (fun ak => ?_)
  refine uv_astore_n O.1 dL_law_14 rfl (by omega) [(3, .ref ak), (2, .int (nI 1)), (1, .ref (za Z 0)), (0, .ref b)] rfl ?_
  refine uv_iconst O.1 dL_law_15 (nI 0) rfl ?_
  refine uv_istore O.1 dL_law_16 (by omega) [(4, .int (nI 0)), (3, .ref ak), (2, .int (nI 1)), (1, .ref (za Z 0)), (0, .ref b)] rfl ?_
  refine uv_iconst O.1 dL_law_18 (nI 0) rfl ?_
  refine uv_istore O.1 dL_law_19 (by omega) [(5, .int (nI 0)), (4, .int (nI 0)), (3, .ref ak), (2, .int (nI 1)), (1, .ref (za Z 0)), (0, .ref b)] rfl ?_
  refine uv_widen (k' := 400 + 24 * 0) (n' := 3000 + 1576 * 0) (by omega) (by omega) ?_
  refine w_words (ak := ak) (K := 400) (M := 3000) O hXs hN h25 hef h34 (by omega) (by omega) (fun σ g f hw hfit => ?_) 6 0 zM0 (zM0 384) (fun _ => 0) rfl yW0_0 zM_fits
  refine w_frame O hXs hN h25 hef h34 h66 (by omega) (by omega) hw hfit (fun σ2 g2 kd md sz ld am as al hI hfit2 => ?_)
  refine w_turns O hXs hN h25 hef h34 h112 h117 h119 (fun σ3 g3 kd3 md3 sz3 ld3 words hI3 hfit3 => ?_) 24 0 σ2 g2 kd md sz ld 6 rfl hI hfit2
  exact w_end O hXs hN h25 hef h34 hI3 hfit3 (fin _ _)
set_option maxHeartbeats 4000000 in
/-- from the entry, for every script of at most 260 ints, the law comes to its end with true -/
theorem whole_start {p : Program} {e : Env} {s : State} {m : MethodId} {below : List Frame} {meth : Method} {c : Code} (l : Launch) (hflags : l.flags = flags0) {b L : Nat} {xs : Nat → Int32} (hL : L ≤ 260) (C0 : lw_At p s m meth c b L xs) : W p l e room_1 s m #[Value.ref b] below meth c s.heap [] 0 0 (lw_Z below #[Value.ref b] s) (entryFrame m ([Value.ref b] : List Value).toArray 19) := by
  obtain ⟨hx, hb, hr, hml, hown, hts, hX, hbl, hlocks, hgv⟩ := C0
  have hA0 : ∀ a : Nat, a < s.heap.size → ¬ (fun q : Nat => s.heap.size ≤ q) a := fun a h => Nat.not_le.mpr h
  obtain ⟨t, hT⟩ := us_ST hts hgv hA0
  have hT2 := us_S2 hts hgv hA0
  obtain ⟨D, cs, hK⟩ := us_K l (fun _ => 0) t [] hts
  obtain ⟨Ks, Vs, hstr⟩ := us_str hts hgv hA0
  have hun := us_un hts
  have htu := us_tu hts
  obtain ⟨Z0, hZ0⟩ : ∃ Z0 : ZT, Z0 = (l, D, cs, fun _ => 0, t, []) := ⟨_, rfl⟩
  obtain ⟨C, hC⟩ : ∃ C : CX, C = (p, e, room_1, s, m, #[Value.ref b], below, meth, c, 600000, 7302249, lw_Z below #[Value.ref b] s, fun q : Nat => s.heap.size ≤ q) := ⟨_, rfl⟩
  have O0 : ∀ q : Nat → Nat, jOk (l, D, cs, q, t, []) C RL cL_law 19 13 494 600000 7302249 := by
    intro q
    rw [hC]
    exact ⟨⟨hx, hb, hml, hown, htu, hK, fun q h => h, hun, (Nat.le_of_ble_eq_true rfl), (Nat.le_of_ble_eq_true rfl), (Nat.le_of_ble_eq_true rfl), (Nat.le_of_ble_eq_true rfl)⟩, hT.1, hT.2, hT2.1, hT2.2⟩
  have O : jOk Z0 C RL cL_law 19 13 494 600000 7302249 := by rw [hZ0]; exact O0 _
  have hl := lv_entry ([.ref b]) (n := 19) (Nat.le_of_ble_eq_true rfl)
  rw [lg_entry_eq]
  generalize (lg_sl ([.ref b]) ++ List.replicate (19 - (lg_sl ([.ref b])).length) Slot.unset).toArray = ls at hl ⊢
  have hl : lv_has ls 19 [(0, .ref b)] := hl
  suffices K : uV Z0 C [] 0 0 0 [(0, .ref b)] [] by
    have k := K s.heap [] ls (fun k q h => by simp at h) ⟨fun i j p q h => by simp at h, fun k q h => by simp at h⟩
    rw [hC, hZ0] at k
    exact k va_S.rf (by show lv_has ls c.maxLocals _; rw [hml]; exact hl)
  refine uv_new (Cn := RX11) (T := TX11) (N := 11) (ci := 11) (fs := [.null, .null, .null, .int 0, .null, .null, .null, .null, .null, .null, .null]) O.1 dL_law_0 tyX11 tyX11_ok ux_11 (uq_in (by decide +kernel) (by decide +kernel)) (uq_in (by decide +kernel) (by decide +kernel)) (uq_in (by decide +kernel) (by decide +kernel)) rfl (fun j hj => by rcases (show j = 0 ∨ j = 1 ∨ j = 2 ∨ j = 3 ∨ j = 4 ∨ j = 5 ∨ j = 6 ∨ j = 7 ∨ j = 8 ∨ j = 9 ∨ j = 10 by omega) with rfl | rfl | rfl | rfl | rfl | rfl | rfl | rfl | rfl | rfl | rfl <;> rfl) (Nat.le_of_ble_eq_true rfl) (Nat.le_of_ble_eq_true rfl) (fun a => ?_)
  refine uv_dup O.1 dL_law_3 rfl ?_
  refine uv_call (y := yX11_init) (ccY := cX11_init) (maxL := 2) (as := []) (rest := [.ref a]) (W1 := fun u : S11 => mk11_1 Z0 a u) O.1 (fun sz => mk11 Z0 a sz) rfl (Or.inl ⟨dL_law_4, (Or.inl (uq_in (by decide +kernel) (by decide +kernel))), rfl⟩) (uq_in (by decide +kernel) (by decide +kernel)) (uq_in (by decide +kernel) (by decide +kernel)) (uq_in (by decide +kernel) (by decide +kernel)) (by decide +kernel) ⟨(Nat.le_of_ble_eq_true rfl), (Nat.le_of_ble_eq_true rfl)⟩ (Nat.le_of_ble_eq_true rfl) (Nat.le_of_ble_eq_true rfl) (Nat.le_of_ble_eq_true rfl) (fun u => ?_)
  refine uv_eq (ws' := mk11_1 Z0 a u) rfl ?_
  obtain ⟨Z, hZ⟩ : ∃ Z : ZT, Z = (Z0.1, Z0.2.1, Z0.2.2.1, zaM a 0 u (fun _ => 0), Z0.2.2.2.2) := ⟨_, rfl⟩
  have hZ2 : Z = (l, D, cs, zaM a 0 u (fun _ => 0), t, []) := by rw [hZ, hZ0]
  have O2 : jOk Z C RL cL_law 19 13 494 600000 7302249 := by rw [hZ2]; exact O0 _
  have ha : za Z 0 = a := by rw [hZ2]; rfl
  refine us_conv hZ ?_
  have hcA : c_A C = fun q : Nat => s.heap.size ≤ q := by rw [hC]
  have hcs : c_s C = s := by rw [hC]
  have hXs : jXs b L xs (c_A C) (c_s C) (c_s C).heap := by
    rw [hcA, hcs]
    exact ⟨hX, hbl, Nat.not_le.mpr hbl⟩
  have hk : ∀ i, i < 6 → ∀ tx, (Cond.stringRef "PhraseMoodsLaw" (ycI i) tx) ∈ lw_tbl → jK (ycI i) tx (Ks i) (Vs i) (ycN.getD i 0) (fun k => zsg ((ycL i).getD k 0)) (c_A C) (c_s C) (c_s C).heap := by
    intro i hi tx hm
    rw [hcA, hcs]
    exact ⟨vk_R.of (hts _ hm) (hstr i hi).2, (hstr i hi).1⟩
  have k := us_law (b := b) (N := L) (xs := xs) O2 hXs (by omega) (hk 0 (by omega) "" (by decide +kernel)) (fun j => by show fits .byte (.int (zsg (([] : List Nat).getD j 0))) = true; exact pk_fb _) (hk 1 (by omega) "aeobtkle" (by decide +kernel)) (hk 2 (by omega) "n01 v0 f02 p0" (by decide +kernel)) (hk 3 (by omega) "o" (by decide +kernel)) (hk 4 (by omega) "ka" (by decide +kernel)) (hk 5 (by omega) "a a" (by decide +kernel)) (fun ws M => ?_)
  · rw [ha] at k
    exact uv_eq (List.append_nil _).symm k
  · intro H locs ls hP hD hS h
    refine va_forget (fun q hq => by have := hS.2.2 q hq; rw [hcA] at this; rw [hcs]; exact this) ?_
    rw [hZ2, hC]
    exact lw_ret hx hb hr hlocks dL_law_1701
