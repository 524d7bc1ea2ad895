/-! THE CLAIM OUT OF ONE WALK OF THE LAW'S BODY. Your part is whole_start (and what it stands on); all else here is the same for every law, but numbers. -/
def R_law : String := "PhraseMoodsLaw"
def lw_P (b : Addr) (xs : List Int32) (args : Array Value) (s : State) : Prop := args = #[.ref b] ∧ s.IntsAt b xs ∧ xs.length ≤ 3584 ∧ (Jvm.Cond.and given_1 narrow_1).before args s = true
/-- what a walk over the start with the record d0 says of its end, said of the start itself -/
theorem lw_closed {s t : State} {o : Outcome} {d0 : Drawn} {L : List Loc} {k n : Nat} (hd0 : s.drawn.sameBut d0 lw_cs) (hv : ∃ v, o = .returned v) (hW : (s.setDrawn d0).WarmedH t.vm) (hs : (s.setDrawn d0).sameButNew ({ t with vm := s.vm } : State) L k n) : State.butDraws s t lw_cs (fun t1 => Framed s o t1 L k n) := by
  have h2 : t.drawn = d0 := congrArg State.drawn hs.1
  refine ⟨⟨hv, hW, State.sameButNew.setDrawn hs s.drawn⟩, ?_, by decide⟩
  rw [h2]
  exact hd0
def lw_Q (_ : Array Value) (s : State) (o : Outcome) (t : State) : Prop := o = .returned (some (.int 1)) ∧ State.butDraws s t lw_cs (fun t1 => Framed s o t1 [] 600000 7302250)
def lw_Z (below : List Frame) (a : Array Value) (s : State) : State → Prop := fun t => ∃ o, t.status = .running ∧ Ended t below o ∧ lw_Q a s o t
/-- the law's own end, with 1 on the stack, nothing written that was there before, its room as the claim has it; d0: the record of draws at this point (at the entry s.drawn: begin with 'refine W.base ?_' and 'have hd0 := Drawn.sameBut.refl s.drawn lw_cs') -/
theorem lw_ret {p : Program} {l : Launch} {e : Env} {s : State} {m : MethodId} {below : List Frame} {meth : Method} {c : Code} {b : Nat} {d0 : Drawn} (hd0 : s.drawn.sameBut d0 lw_cs) (hx : p.tables.exec = Jvm.exec) (hb : c.code = code) (hr : meth.sig.returnType = ret) (hlocks : meth.locks = false) {pc : Nat} {H : Heap} {ls : Array Slot} (hdg : decode code pc = .ok (.ireturn, 1)) : W p l e room_1 (s.setDrawn d0) m #[Value.ref b] below meth c H [] 600000 7302250 (lw_Z below #[Value.ref b] s) (F0 m pc ls [.int 1]) := by
  intro T hT X
  obtain ⟨fs, hret, hrun, hended, hW, hframe⟩ := X.leave (v := some (.int 1)) (hlocks := hlocks) (fun h => by rw [hr] at h; cases h)
  have hmeth' : T.vm.method? m = some meth := X.method'
  refine ⟨T.setFrames fs, ?_, .returned (some (.int 1)), hrun, hended, rfl, lw_closed hd0 ⟨_, rfl⟩ hW hframe⟩
  jvm_step X.here [X.here.top, hx, hb, hdg, hmeth', hr, ret, narrow_b1]
  (try refine ⟨rfl, ?_⟩); (try refine ⟨rfl, ?_⟩)
  first | (intro acts; rw [hret _ acts rfl rfl rfl]) | rw [hret _ _ rfl rfl rfl]
  exact Steps.refl _
/-- what holds at the law's entry: the machine, the code, the tables' words (any of lw_tbl by 'hts w (by decide +kernel)'), the script of L ints xs at the cell b, what the Statement gives of the start (any of its parts by flat_of_before) -/
def lw_At (p : Program) (s : State) (m : MethodId) (meth : Method) (c : Code) (b L : Nat) (xs : Nat → Int32) : Prop :=
  p.tables.exec = Jvm.exec ∧ c.code = code ∧ meth.sig.returnType = ret ∧ c.maxLocals = 4 ∧ s.vm.findClass R_law = some m.cls ∧ (∀ w ∈ lw_tbl, w.before #[Value.ref b] s = true) ∧ va_X b L xs s s.heap ∧ b < s.heap.size ∧ meth.locks = false ∧ (Jvm.Cond.and given_1 narrow_1).before #[Value.ref b] s = true
/-- from the makers' world to the memory: at the law's loop -/
theorem us_loop {Z0 : ZT} {C : CX} {a b m L : Nat} {xs : Nat → Int32} {u : S11} {v : Nat → Nat} (O : uOk Z0 C RL code 4 12 510 (c_k C) (c_n C)) (hT : va_Z "PhraseMoods$Word" "ABOVE" "[I" (.ref (zt Z0)) (c_A C) (c_s C) (c_s C).heap ∧ va_T .int (zt Z0) 6 (fun j => .int (abv j)) (c_A C) (c_s C) (c_s C).heap) (S : lwS C b L xs) (fin : ∀ Z : ZT, zl Z = zl Z0 → ∀ σ g i, zIv σ g → G Z C σ 1160 (lwL Z b i) [.int (nI 1)]) : uV Z0 C (mk11_1 Z0 a u ++ mk12_1 Z0 m (v 0) (v 1) (v 2) (v 3) (v 4) (v 5) (v 6) (v 7) (v 8) (v 9) (v 10) (v 11) (v 12) (v 13) (v 14) (v 15) (v 16) (v 17)) (c_k C) (c_n C) 18 [(3, .int (nI 0)), (0, .ref b), (1, .ref a), (2, .ref m)] [] := by
  intro H locs ls hP hD hS hl
  obtain ⟨Z, hZ⟩ : ∃ Z : ZT, Z = (Z0.1, Z0.2.1, Z0.2.2.1, zaM a m u v, Z0.2.2.2.2) := ⟨_, rfl⟩
  have hza : ∀ i, za Z i = zaM a m u v i := fun i => by rw [hZ]
  have hw : mk11_1 Z0 a u ++ mk12_1 Z0 m (v 0) (v 1) (v 2) (v 3) (v 4) (v 5) (v 6) (v 7) (v 8) (v 9) (v 10) (v 11) (v 12) (v 13) (v 14) (v 15) (v 16) (v 17) = mk11_1 Z a u ++ mk12_1 Z m (v 0) (v 1) (v 2) (v 3) (v 4) (v 5) (v 6) (v 7) (v 8) (v 9) (v 10) (v 11) (v 12) (v 13) (v 14) (v 15) (v 16) (v 17) := by rw [hZ]; rfl
  rw [hw] at hP hD
  obtain ⟨W, hp, hr⟩ := zs_all hza
  have hP2 : va_P (zD Z) vwCl (wl Z zM0) H := by
    have := hr.2 _ _ _ (uv_Pperm hp hP)
    rw [hZ] at this ⊢
    exact this
  have hD2 : va_D (c_A C) (wl Z zM0) := by
    have h1 := uv_Dnd.mp (uv_Dperm hp hD)
    refine uv_Dnd.mpr ⟨by rw [← hr.1]; exact h1.1, fun q hq => ?_⟩
    have h2 : q.1 ∈ W.map Prod.fst := by rw [hr.1]; exact List.mem_map.mpr ⟨q, hq, rfl⟩
    obtain ⟨q', h3, h4⟩ := List.mem_map.mp h2
    rw [← h4]
    exact h1.2 q' h3
  have hZO : ZOk Z := fun i j hi hj he => hD2.1 i j _ _ (wl_at Z zM0 hi) (wl_at Z zM0 hj) he
  have hA : ∀ i, i < NN → c_A C (za Z i) := fun i hi => hD2.2 i _ (wl_at Z zM0 hi)
  obtain ⟨hx, hb, hml, hown, hts, hK, hA0, hNw, r1, r2, r3, r4⟩ := O
  have hK2 : va_K (zD Z) vwCl (utys Z) (c_s C) := by rw [hZ]; exact hK
  have hT2 : ST Z (c_A C) (c_s C) (c_s C).heap := by
    rw [hZ]
    exact hT
  have O2 : Ok Z C RL code 4 12 510 := ⟨hx, hb, hml, hown, hts, hK2, hT2, hA, hZO, r1, r2, r3, r4, hNw.1⟩
  have hz : zl Z = zl Z0 := by rw [hZ]
  have go := lw_loop O2 S (fin Z hz) (L + 7) 0 zM0 (zM0 384) (by omega) (by omega) z_init
  have e1 : lwL Z b (nI (7 * 0)) = [(3, .int (nI 0)), (0, .ref b), (1, .ref a), (2, .ref m)] := by
    unfold lwL
    rw [hza 0, hza 383]
    rfl
  rw [e1] at go
  have g2 := go H locs ls ⟨hP2, zM_fits⟩ hS hl
  rw [hz] at g2
  exact g2
set_option maxHeartbeats 4000000 in
/-- from the entry, for every script of at most 3584 ints, the law comes to its end with true -/
theorem whole_start {p : Program} {e : Env} {s : State} {m : MethodId} {below : List Frame} {meth : Method} {c : Code} (l : Launch) (hflags : l.flags = flags0) {b L : Nat} {xs : Nat → Int32} (hL : L ≤ 3584) (C0 : lw_At p s m meth c b L xs) : W p l e room_1 s m #[Value.ref b] below meth c s.heap [] 0 0 (lw_Z below #[Value.ref b] s) (entryFrame m ([Value.ref b] : List Value).toArray 4) := by
  obtain ⟨hx, hb, hr, hml, hown, hts, hX, hbl, hlocks, hgv⟩ := C0
  have hd0 := Drawn.sameBut.refl s.drawn lw_cs
  refine W.base ?_
  have hA0 : ∀ a : Nat, a < s.heap.size → ¬ (fun q : Nat => s.heap.size ≤ q) a := fun a h => Nat.not_le.mpr h
  obtain ⟨t, hT⟩ := us_ST hts hgv hA0
  obtain ⟨D, cs, hK⟩ := us_K l (fun _ => 0) t hts
  have hun := us_un hts
  have htu : ∀ w ∈ uW, w.before #[Value.ref b] s = true := fun w hw => hts w (List.mem_filter.mp hw).1
  obtain ⟨Z0, hZ0⟩ : ∃ Z0 : ZT, Z0 = (l, D, cs, fun _ => 0, t) := ⟨_, rfl⟩
  obtain ⟨C, hC⟩ : ∃ C : CX, C = (p, e, room_1, s.setDrawn s.drawn, m, #[Value.ref b], below, meth, c, 402, 3896, lw_Z below #[Value.ref b] s, fun q : Nat => s.heap.size ≤ q) := ⟨_, rfl⟩
  have O : uOk Z0 C RL code 4 12 510 402 3896 := by
    rw [hC, hZ0]
    exact ⟨hx, hb, hml, hown, htu, hK, fun q h => h, hun, (Nat.le_of_ble_eq_true rfl), (Nat.le_of_ble_eq_true rfl), (Nat.le_of_ble_eq_true rfl), (Nat.le_of_ble_eq_true rfl)⟩
  have hl := lv_entry ([.ref b]) (n := 4) (Nat.le_of_ble_eq_true rfl)
  rw [lg_entry_eq]
  generalize (lg_sl ([.ref b]) ++ List.replicate (4 - (lg_sl ([.ref b])).length) Slot.unset).toArray = ls at hl ⊢
  have hl : lv_has ls 4 [(0, .ref b)] := hl
  suffices K : uV Z0 C [] 0 0 0 [(0, .ref b)] [] by
    have k := K s.heap [] ls (fun k q h => by simp at h) ⟨fun i j p q h => by simp at h, fun k q h => by simp at h⟩
    rw [hC, hZ0] at k
    exact k va_S.rf (by show lv_has ls c.maxLocals _; rw [hml]; exact hl)
  refine uv_new (Cn := RX11) (T := TX11) (N := 11) (ci := 11) (fs := [.null, .null, .null, .int 0, .null, .null, .null, .null, .null, .null, .null]) O dRL_0 tyX11 tyX11_ok ux_11 (uq_in (by decide +kernel) (by decide +kernel)) (uq_in (by decide +kernel) (by decide +kernel)) (uq_in (by decide +kernel) (by decide +kernel)) rfl (fun j hj => by rcases (show j = 0 ∨ j = 1 ∨ j = 2 ∨ j = 3 ∨ j = 4 ∨ j = 5 ∨ j = 6 ∨ j = 7 ∨ j = 8 ∨ j = 9 ∨ j = 10 by omega) with rfl | rfl | rfl | rfl | rfl | rfl | rfl | rfl | rfl | rfl | rfl <;> rfl) (Nat.le_of_ble_eq_true rfl) (Nat.le_of_ble_eq_true rfl) (fun a => ?_)
  refine uv_dup O dRL_3 rfl ?_
  refine uv_call (y := yX11_init) (ccY := cX11_init) (maxL := 2) (as := []) (rest := [.ref a]) (W1 := fun u : S11 => mk11_1 Z0 a u) O (fun sz => mk11 Z0 a sz) rfl (Or.inl ⟨dRL_4, (Or.inl (uq_in (by decide +kernel) (by decide +kernel))), rfl⟩) (uq_in (by decide +kernel) (by decide +kernel)) (uq_in (by decide +kernel) (by decide +kernel)) (uq_in (by decide +kernel) (by decide +kernel)) (by decide +kernel) ⟨(Nat.le_of_ble_eq_true rfl), (Nat.le_of_ble_eq_true rfl)⟩ (Nat.le_of_ble_eq_true rfl) (Nat.le_of_ble_eq_true rfl) (Nat.le_of_ble_eq_true rfl) (fun u => ?_)
  refine uv_eq (ws' := mk11_1 Z0 a u) rfl ?_
  refine uv_astore_n O dRL_7 rfl (by omega) [(1, .ref a), (0, .ref b)] rfl ?_
  refine uv_new (Cn := RX12) (T := TX12) (N := 28) (ci := 12) (fs := [.null, .null, .int 0, .null, .int 0, .null, .int 0, .int 0, .int 0, .null, .null, .null, .null, .int 0, .int 0, .null, .null, .int 0, .int 0, .null, .int 0, .null, .null, .null, .null, .null, .null, .null]) O dRL_8 tyX12 tyX12_ok ux_12 (uq_in (by decide +kernel) (by decide +kernel)) (uq_in (by decide +kernel) (by decide +kernel)) (uq_in (by decide +kernel) (by decide +kernel)) rfl (fun j hj => by rcases (show j = 0 ∨ j = 1 ∨ j = 2 ∨ j = 3 ∨ j = 4 ∨ j = 5 ∨ j = 6 ∨ j = 7 ∨ j = 8 ∨ j = 9 ∨ j = 10 ∨ j = 11 ∨ j = 12 ∨ j = 13 ∨ j = 14 ∨ j = 15 ∨ j = 16 ∨ j = 17 ∨ j = 18 ∨ j = 19 ∨ j = 20 ∨ j = 21 ∨ j = 22 ∨ j = 23 ∨ j = 24 ∨ j = 25 ∨ j = 26 ∨ j = 27 by omega) with rfl | rfl | rfl | rfl | rfl | rfl | rfl | rfl | rfl | rfl | rfl | rfl | rfl | rfl | rfl | rfl | rfl | rfl | rfl | rfl | rfl | rfl | rfl | rfl | rfl | rfl | rfl | rfl <;> rfl) (Nat.le_of_ble_eq_true rfl) (Nat.le_of_ble_eq_true rfl) (fun q => ?_)
  refine uv_dup O dRL_11 rfl ?_
  refine uv_call (y := yX12_init) (ccY := cX12_init) (maxL := 2) (as := []) (rest := [.ref q]) (W1 := fun u : Nat × Nat × Nat × Nat × Nat × Nat × Nat × Nat × Nat × Nat × Nat × Nat × Nat × Nat × Nat × Nat × Nat × Nat => mk12_1 Z0 q u.1 u.2.1 u.2.2.1 u.2.2.2.1 u.2.2.2.2.1 u.2.2.2.2.2.1 u.2.2.2.2.2.2.1 u.2.2.2.2.2.2.2.1 u.2.2.2.2.2.2.2.2.1 u.2.2.2.2.2.2.2.2.2.1 u.2.2.2.2.2.2.2.2.2.2.1 u.2.2.2.2.2.2.2.2.2.2.2.1 u.2.2.2.2.2.2.2.2.2.2.2.2.1 u.2.2.2.2.2.2.2.2.2.2.2.2.2.1 u.2.2.2.2.2.2.2.2.2.2.2.2.2.2.1 u.2.2.2.2.2.2.2.2.2.2.2.2.2.2.2.1 u.2.2.2.2.2.2.2.2.2.2.2.2.2.2.2.2.1 u.2.2.2.2.2.2.2.2.2.2.2.2.2.2.2.2.2) O (fun sz => mk12 Z0 q sz) rfl (Or.inl ⟨dRL_12, (Or.inl (uq_in (by decide +kernel) (by decide +kernel))), rfl⟩) (uq_in (by decide +kernel) (by decide +kernel)) (uq_in (by decide +kernel) (by decide +kernel)) (uq_in (by decide +kernel) (by decide +kernel)) (by decide +kernel) ⟨(Nat.le_of_ble_eq_true rfl), (Nat.le_of_ble_eq_true rfl)⟩ (Nat.le_of_ble_eq_true rfl) (Nat.le_of_ble_eq_true rfl) (Nat.le_of_ble_eq_true rfl) (fun v => ?_)
  refine uv_astore_n O dRL_15 rfl (by omega) [(2, .ref q), (1, .ref a), (0, .ref b)] rfl ?_
  refine uv_iconst O dRL_16 (nI 0) rfl ?_
  refine uv_istore_n O dRL_17 rfl (by omega) [(3, .int (nI 0)), (2, .ref q), (1, .ref a), (0, .ref b)] rfl ?_
  refine uv_sub [0, 3, 2, 1] (L' := [(3, .int (nI 0)), (0, .ref b), (1, .ref a), (2, .ref q)]) rfl ?_
  have hck : c_k C = 402 := by rw [hC]
  have hcn : c_n C = 3896 := by rw [hC]
  have hS : lwS C b L xs := by
    rw [hC]
    exact ⟨hX, hbl, Nat.not_le.mpr hbl, hL⟩
  have hT2 : va_Z "PhraseMoods$Word" "ABOVE" "[I" (.ref (zt Z0)) (c_A C) (c_s C) (c_s C).heap ∧ va_T .int (zt Z0) 6 (fun j => .int (abv j)) (c_A C) (c_s C) (c_s C).heap := by
    rw [hC, hZ0]
    exact hT
  have fin : ∀ Z : ZT, zl Z = zl Z0 → ∀ σ g i, zIv σ g → G Z C σ 1160 (lwL Z b i) [.int (nI 1)] := by
    intro Z hz σ g i hi
    refine lw_fin (kc := 600000) (ks := 7302250) (fun q hq => by rw [hC] at hq ⊢; exact hq) (by rw [hck]; omega) (by rw [hcn]; omega) (fun H ls => ?_)
    rw [hz, hC, hZ0]
    exact lw_ret hd0 hx hb hr hlocks dRL_1160
  have k := us_loop (a := a) (m := q) (u := u) (v := uF [v.1, v.2.1, v.2.2.1, v.2.2.2.1, v.2.2.2.2.1, v.2.2.2.2.2.1, v.2.2.2.2.2.2.1, v.2.2.2.2.2.2.2.1, v.2.2.2.2.2.2.2.2.1, v.2.2.2.2.2.2.2.2.2.1, v.2.2.2.2.2.2.2.2.2.2.1, v.2.2.2.2.2.2.2.2.2.2.2.1, v.2.2.2.2.2.2.2.2.2.2.2.2.1, v.2.2.2.2.2.2.2.2.2.2.2.2.2.1, v.2.2.2.2.2.2.2.2.2.2.2.2.2.2.1, v.2.2.2.2.2.2.2.2.2.2.2.2.2.2.2.1, v.2.2.2.2.2.2.2.2.2.2.2.2.2.2.2.2.1, v.2.2.2.2.2.2.2.2.2.2.2.2.2.2.2.2.2]) (by rw [hck, hcn]; exact O) hT2 hS fin
  rw [hck, hcn] at k
  exact k
