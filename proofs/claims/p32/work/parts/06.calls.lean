theorem mcp_row {σ : Mem} {s sp d dp n j : Nat} (h : j ≠ d) : mcp σ s sp d dp n j = σ j := by
  funext b
  simp [mcp, h]
theorem mcp_rowI {σ : Mem} {s sp d dp n : Nat} : mcp σ s sp d dp n d = va_cpy (σ s) (σ d) sp dp n := by
  funext b
  simp [mcp, va_cpy]
/-- links of a call of an instance method, of a static one -/
def VX (own : String) (index : Nat) (y : MethodName) (bytes : ByteArray) (maxL : Nat) (ret : Option FieldType) (n ci : Nat) : Prop :=
  (Cond.methodLink own index y ∈ uW ∨ ∃ host, Cond.methodLinkNest own index y host ∈ nW) ∧ Cond.instanceMethod y ∈ uW ∧ Cond.selects y.cls y y ∈ uW ∧ Cond.code y bytes maxL ret ∈ uW ∧ Cond.initialized y.cls ∈ uW ∧ (y.cls ≠ "java/lang/invoke/MethodHandle" ∧ y.cls ≠ "java/lang/invoke/VarHandle" ∧ (parseMethodDescriptor y.desc).map (fun d => d.parameters.length) = some n) ∧ ci < 13 ∧ ∃ (T : u_T) (N : Nat), vwCl[ci]? = some (y.cls, T, N)
def SX (own : String) (index : Nat) (y : MethodName) (bytes : ByteArray) (maxL : Nat) (ret : Option FieldType) (n : Nat) : Prop :=
  (Cond.methodLink own index y ∈ uW ∨ ∃ host, Cond.methodLinkNest own index y host ∈ nW) ∧ Cond.static y ∈ uW ∧ Cond.code y bytes maxL ret ∈ uW ∧ Cond.initialized y.cls ∈ uW ∧ (y.cls ≠ "java/lang/invoke/MethodHandle" ∧ y.cls ≠ "java/lang/invoke/VarHandle" ∧ (parseMethodDescriptor y.desc).map (fun d => d.parameters.length) = some n)
theorem ST.move {Z : ZT} {A B : Nat → Prop} {s U : State} {H0 H : Heap} {locs : List Loc} (hvm : s.vm.Alike U.vm) (h : ST Z A s H0) (hq : ∀ a : Nat, a < H0.size → ¬ A a → H[a]? = H0[a]?) (hAB : ∀ q, B q → A q) : ST Z B U H :=
  ⟨((h.1.kept hq).narrow hAB).moved hvm, ((h.2.1.kept hq).narrow hAB).moved hvm, ((h.2.2.1.kept hq).narrow hAB).moved hvm, ((h.2.2.2.kept hq).narrow hAB).moved hvm⟩
theorem st_part {Z : ZT} {A : Nat → Prop} {s U : State} {H : Heap} {locs : List Loc} (hvm : s.vm.Alike U.vm) (h : ST Z A s s.heap) (hS : va_S A s.heap H locs) (hA : ∀ q, PA Z q → A q) : ST Z (PA Z) U H := h.move (locs := locs) hvm hS.2.1 hA
theorem bw_blind {Z : ZT} {σ : Mem} {as : List Value} : FrameBlind (va_Pc as (fun U => BW Z σ U)) := fun a U g mk q => ⟨q.1, q.2.1, va_K.moved (u := U) (U := U.calling g mk a) (Vm.Alike.refl U.vm) q.2.2.1, q.2.2.2.1.move (locs := []) (s := U) (U := U.calling g mk a) (Vm.Alike.refl U.vm) (fun _ _ _ => rfl) (fun _ h => h), NW.same (s := U) (U := U.calling g mk a) rfl q.2.2.2.2⟩
theorem uw_goodIn {y : MethodName} {bytes : ByteArray} {maxL : Nat} {ret : Option FieldType} (h : Cond.code y bytes maxL ret ∈ uW) : GoodIn uW (Cond.code y bytes maxL ret :: uW) := by
  intro w hw
  rcases List.mem_cons.mp hw with e | e
  · subst e
    exact ⟨h, good_of_word (uw_good h)⟩
  · exact ⟨e, good_of_word (uw_good e)⟩
section CALLS
variable {Z : ZT} {C : CX} {own : String} {cc : ByteArray} {nL fr lo : Nat} {σ σ' : Mem} {pc : Nat} {L L' : List (Nat × Value)} {st : List Value} {β : Type} {K : Option β → Prop}
theorem va_qm {p : Program} {l : Launch} {e : Env} {R : Room} {s : State} {m : MethodId} {args : Array Value} {below : List Frame} {meth : Method} {c : Code} {H : Heap} {locs : List Loc} {cells slots : Nat} {Q : State → Prop} {pc : Nat} {ls : Array Slot} {rest st0 : List Value} {a : Array Value} {A0 A1 : Nat → Prop} {H0 : Heap} {ro : Option Value} {φ : Prop} {B : State → Prop}
    (hr : va_Run p l e R s m args below meth c H locs cells slots 0 0 (F0 m pc ls st0) rest (Qm ro φ B A1 a) A1) (hS : va_S A0 H0 H locs) (hA : ∀ q, A1 q → A0 q)
    (kk : φ → ∀ (t : State) (H1 : Heap) (locs1 : List Loc), t.heap = H1 → s.vm.Alike t.vm → B t → va_S A0 H0 H1 locs1 → W p l e R s m args below meth c H1 locs1 cells slots Q (F0 m (pc + 3) ls (ro.toList ++ rest))) : W p l e R s m args below meth c H locs cells slots Q (F0 m pc ls st0) := by
  intro T hT X
  obtain ⟨v, st₀, t, T', L, h0, X', hL, e1, e2, ⟨⟨hv, hφ, hb⟩, hz, hk⟩, st⟩ := hr T hT X
  cases hv
  rw [h0] at hz hk
  obtain ⟨t2, a1, b1⟩ := kk hφ t T'.heap (locs ++ L) e1.symm (by rw [← e2]; exact X'.warmed.alike) hb
    ⟨Nat.le_trans hS.1 (by rw [e1]; exact hz), fun q h1 h2 => by rw [e1, hk q (Nat.lt_of_lt_of_le h1 hS.1) (fun z => h2 (hA q z))]; exact hS.2.1 q h1 h2, fun q hq => by
      rcases List.mem_append.mp hq with h | h
      · exact hS.2.2 q h
      · exact hA _ (hL q h)⟩ T' rfl X'
  exact ⟨t2, st t2 a1, b1⟩
theorem g_callV {y : MethodName} {bytes : ByteArray} {maxL fr' lo' index n ci id : Nat} {ret : Option FieldType} {as : List Value} {ro : Option Value} {φ : Prop} {rest : List Value} (O : Ok Z C own cc nL fr lo) (hd : decode cc pc = .ok (.invokevirtual index, 3)) (hct : Ct Z y bytes maxL ret fr' lo' (.ref (za Z id) :: as) σ ro φ σ') (V : VX own index y bytes maxL ret n ci) (hk : kn id = ci) (hn : as.length = n) (hst : as.reverse ++ .ref (za Z id) :: rest = st) (hr : fr' + 1 ≤ fr ∧ 8 + (maxL + 11) + lo' ≤ lo) (hc : (rest.map fun v => v.category).sum ≤ 8) (kk : φ → G Z C σ' (pc + 3) L (ro.toList ++ rest)) : G Z C σ pc L st := by
  intro H locs ls hP hS h
  subst hst
  obtain ⟨v1, v2, v3, v4, v5, v6, v7, T, N, v8⟩ := V
  have hts := O.2.2.2.2.1
  have hR := O.2.2.2.2.2.2.2.2.2
  have hA := O.2.2.2.2.2.2.2.1
  have hAB : ∀ q, PA Z q → c_A C q := hA
  have hrr : fr' + 1 ≤ (c_R C).frames ∧ 8 + (maxL + 11) + lo' ≤ (c_R C).locals := ⟨by omega, by omega⟩
  have hp : PreV (c_s C) H y.cls (za Z id) (va_Pc (.ref (za Z id) :: as) (fun U => BW Z σ U)) as := by
    refine ⟨bw_blind, ?_, fun U hU hW => ⟨rfl, by rw [hU]; exact hP, va_K.moved hW.alike O.2.2.2.2.2.1, by rw [hU]; exact st_part hW.alike O.2.2.2.2.2.2.1 hS hA, NW.warm hW hR.2.2.2.2⟩⟩
    have he : (wl Z σ)[id]? = some (za Z id, .inr (ci, fv (za Z) (σ id) id 0 (fl ci))) := by rw [wl_at Z σ (kn_lt hk (by omega)), ent_obj hk v7]
    exact va_recv O.2.2.2.2.2.1 hP.1 (ci := ci) (q0 := id) v8 he
  have hf : c_k C + 0 ≤ (c_R C).cells ∧ c_n C + 0 ≤ (c_R C).slots := ⟨hR.2.2.1, hR.2.2.2.1⟩
  have hm : (2 * (F0 (c_m C) pc ls (as.reverse ++ .ref (za Z id) :: rest)).monitorRoom + (rest.map fun v => v.category).sum) ≤ 8 := by
    show 2 * 0 + _ ≤ 8
    omega
  rcases v1 with v1 | ⟨host, v1⟩
  · refine va_qm (va_runV (As := as) (rest := rest) ⟨O.1, O.2.1, O.2.2.1, O.2.2.2.1, hts⟩ hct ⟨callB_of n hts (uw_goodIn v4) rfl rfl rfl (hts _ v5) (hts _ v1) v6 hrr, hts _ v2, hts _ v3⟩ hp rfl hn (by show ls.size = nL; rw [h.1]; exact O.2.2.1) rfl hm hd hf) hS hAB (fun hφ t H1 locs1 e1 e2 hB hS1 => ?_)
    exact kk hφ H1 locs1 ls (by rw [← e1]; exact hB.1) hS1 h
  · refine va_qm (va_runVN (As := as) (rest := rest) ⟨O.1, O.2.1, O.2.2.1, O.2.2.2.1, hts⟩ hct ⟨va_cnB n hts (uw_goodIn v4) rfl rfl rfl (hR.2.2.2.2.1 _ v1) (hts _ v5) v6 hrr, hts _ v2, hts _ v3⟩ hp rfl hn (by show ls.size = nL; rw [h.1]; exact O.2.2.1) rfl hm hd hf) hS hAB (fun hφ t H1 locs1 e1 e2 hB hS1 => ?_)
    exact kk hφ H1 locs1 ls (by rw [← e1]; exact hB.1) hS1 h
theorem g_callS {y : MethodName} {bytes : ByteArray} {maxL fr' lo' index n : Nat} {ret : Option FieldType} {as : List Value} {ro : Option Value} {φ : Prop} {rest : List Value} (O : Ok Z C own cc nL fr lo) (hd : decode cc pc = .ok (.invokestatic index, 3)) (hct : Ct Z y bytes maxL ret fr' lo' as σ ro φ σ') (V : SX own index y bytes maxL ret n) (hn : as.length = n) (hst : as.reverse ++ rest = st) (hr : fr' + 1 ≤ fr ∧ 8 + (maxL + 11) + lo' ≤ lo) (hc : (rest.map fun v => v.category).sum ≤ 8) (kk : φ → G Z C σ' (pc + 3) L (ro.toList ++ rest)) : G Z C σ pc L st := by
  intro H locs ls hP hS h
  subst hst
  obtain ⟨v1, v2, v4, v5, v6⟩ := V
  have hts := O.2.2.2.2.1
  have hR := O.2.2.2.2.2.2.2.2.2
  have hA := O.2.2.2.2.2.2.2.1
  have hAB : ∀ q, PA Z q → c_A C q := hA
  have hrr : fr' + 1 ≤ (c_R C).frames ∧ 8 + (maxL + 11) + lo' ≤ (c_R C).locals := ⟨by omega, by omega⟩
  have hp : PreS (c_s C) H (va_Pc as (fun U => BW Z σ U)) as :=
    ⟨bw_blind, fun U hU hW => ⟨rfl, by rw [hU]; exact hP, va_K.moved hW.alike O.2.2.2.2.2.1, by rw [hU]; exact st_part hW.alike O.2.2.2.2.2.2.1 hS hA, NW.warm hW hR.2.2.2.2⟩⟩
  have hf : c_k C + 0 ≤ (c_R C).cells ∧ c_n C + 0 ≤ (c_R C).slots := ⟨hR.2.2.1, hR.2.2.2.1⟩
  have hm : (2 * (F0 (c_m C) pc ls (as.reverse ++ rest)).monitorRoom + (rest.map fun v => v.category).sum) ≤ 8 := by
    show 2 * 0 + _ ≤ 8
    omega
  rcases v1 with v1 | ⟨host, v1⟩
  · refine va_qm (va_runS (As := as) (rest := rest) ⟨O.1, O.2.1, O.2.2.1, O.2.2.2.1, hts⟩ hct ⟨callB_of n hts (uw_goodIn v4) rfl rfl rfl (hts _ v5) (hts _ v1) v6 hrr, hts _ v2⟩ hp rfl hn (by show ls.size = nL; rw [h.1]; exact O.2.2.1) rfl hm hd hf) hS hAB (fun hφ t H1 locs1 e1 e2 hB hS1 => ?_)
    exact kk hφ H1 locs1 ls (by rw [← e1]; exact hB.1) hS1 h
  · refine va_qm (va_runSN (As := as) (rest := rest) ⟨O.1, O.2.1, O.2.2.1, O.2.2.2.1, hts⟩ hct ⟨va_cnB n hts (uw_goodIn v4) rfl rfl rfl (hR.2.2.2.2.1 _ v1) (hts _ v5) v6 hrr, hts _ v2, trivial⟩ hp rfl hn (by show ls.size = nL; rw [h.1]; exact O.2.2.1) rfl hm hd hf) hS hAB (fun hφ t H1 locs1 e1 e2 hB hS1 => ?_)
    exact kk hφ H1 locs1 ls (by rw [← e1]; exact hB.1) hS1 h
theorem pw_mcp {H : Heap} {s sp d dp n : Nat} (h : va_P (zD Z) vwCl (wl Z (mcp σ s sp d dp n)) H) (hk : kn s = kn d) (h0 : ∀ i, kn i = 20 → ∀ j, fits .byte (.int (σ i j)) = true) : PW Z (mcp σ s sp d dp n) H := by
  refine ⟨h, fun i hi j => ?_⟩
  unfold mcp
  split
  · rename_i q
    exact h0 s (by rw [hk, ← q.1]; exact hi) _
  · exact h0 i hi j
theorem cpk_of {sp dp n : Int32} {a b : Nat} (h : cpk sp dp n a b = true) : ¬ sp < 0 ∧ ¬ dp < 0 ∧ ¬ n < 0 ∧ ix sp + ix n ≤ a ∧ ix dp + ix n ≤ b := by
  unfold cpk at h
  exact of_decide_eq_true h
theorem g_copy {index s d c : Nat} {sp dp n : Int32} (O : Ok Z C own cc nL fr lo) (hN : ¬ K none) (hd : decode cc pc = .ok (.invokestatic index, 3)) (hw : Cond.methodLink own index arraycopyName ∈ uW) (h1 : Cond.native arraycopyName ∈ uW) (h2 : Cond.static arraycopyName ∈ uW) (h3 : Cond.initialized "java/lang/System" ∈ uW) (hks : kn s = c) (hkd : kn d = c) (hcc : c = 20 ∨ c = 21) (hr : 1 ≤ fr ∧ 40 ≤ lo) (hc : (st.map fun v => v.category).sum ≤ 8) {t : Mem → Option β} (hf : K (grd (cpk sp dp n (ln s) (ln d)) (bnd (mcp σ s (ix sp) d (ix dp) (ix n)) t))) (kk : ∀ σ', K (t σ') → G Z C σ' (pc + 3) L st) : G Z C σ pc L (.int n :: .int dp :: .ref (za Z d) :: .int sp :: .ref (za Z s) :: st) := by
  obtain ⟨hb, hf⟩ := k_grd hN hf
  obtain ⟨b1, b2, b3, b4, b5⟩ := cpk_of hb
  have hts := O.2.2.2.2.1
  have hR := O.2.2.2.2.2.2.2.2.2
  intro H locs ls hP hS h
  have hD := wl_D (A := c_A C) O.2.2.2.2.2.2.2.2.1 O.2.2.2.2.2.2.2.1 σ
  have hsz : (c_c C).maxLocals = ls.size := h.1.symm
  have hl1 : (st.map fun v => v.category).sum + (nativeFrameWords "java/lang/System" "arraycopy" 5 + 11) ≤ (c_R C).locals := by
    have : nativeFrameWords "java/lang/System" "arraycopy" 5 ≤ 21 := by decide +kernel
    omega
  rcases hcc with e | e <;> subst e
  · refine va_copyi O.1 O.2.1 hsz O.2.2.2.1 (hts _ hw) (hts _ h1) (hts _ h2) (hts _ h3) O.2.2.2.2.2.1 hP.1 hD hS s d 0 0 (wl_byte hks) (wl_byte hkd) rfl rfl rfl b1 b2 b3 b4 b5 (fun i _ => hP.2 s hks _) (by omega) hl1 hd (fun H1 locs1 a1 a2 a3 => ?_)
    rw [wl_set Z σ (mcp σ s (ix sp) d (ix dp) (ix n)) (by rw [ent_byte hkd, mcp_rowI]) (fun j hj => ent_row (mcp_row hj))] at a1
    exact kk _ hf H1 locs1 ls (pw_mcp a1 (hks.trans hkd.symm) hP.2) a3 h
  · refine va_copyi O.1 O.2.1 hsz O.2.2.2.1 (hts _ hw) (hts _ h1) (hts _ h2) (hts _ h3) O.2.2.2.2.2.1 hP.1 hD hS s d 1 1 (wl_int hks) (wl_int hkd) rfl rfl rfl b1 b2 b3 b4 b5 (fun i _ => rfl) (by omega) hl1 hd (fun H1 locs1 a1 a2 a3 => ?_)
    rw [wl_set Z σ (mcp σ s (ix sp) d (ix dp) (ix n)) (by rw [ent_int hkd, mcp_rowI]) (fun j hj => ent_row (mcp_row hj))] at a1
    exact kk _ hf H1 locs1 ls (pw_mcp a1 (hks.trans hkd.symm) hP.2) a3 h
theorem g_rawbits {index : Nat} {b : UInt32} (O : Ok Z C own cc nL fr lo) (hd : decode cc pc = .ok (.invokestatic index, 3)) (hw : Cond.methodLink own index ⟨"java/lang/Float", "floatToRawIntBits", "(F)I"⟩ ∈ uW) (h1 : Cond.native ⟨"java/lang/Float", "floatToRawIntBits", "(F)I"⟩ ∈ uW) (h2 : Cond.static ⟨"java/lang/Float", "floatToRawIntBits", "(F)I"⟩ ∈ uW) (h3 : Cond.initialized "java/lang/Float" ∈ uW) (hr : 1 ≤ fr ∧ 23 ≤ lo) (hc : (st.map fun v => v.category).sum ≤ 8) (kk : G Z C σ (pc + 3) L (.int b.toInt32 :: st)) : G Z C σ pc L (.float b :: st) := fun H locs ls hP hS h => vn_f2i O.1 O.2.1 h.1.symm O.2.2.2.1 (O.2.2.2.2.1 _ hw) (O.2.2.2.2.1 _ h1) (O.2.2.2.2.1 _ h2) (O.2.2.2.2.1 _ h3) (by have := O.2.2.2.2.2.2.2.2.2.1; omega) (by have := O.2.2.2.2.2.2.2.2.2.2.1; omega) hd (kk H locs ls hP hS h)
end CALLS
/-- from a walk to a contract: one for every kind of answer -/
theorem ct_of {Z : ZT} (hZ : ZOk Z) {y : MethodName} {cc : ByteArray} {maxL fr lo : Nat} {ret : Option FieldType} {as : List Value} {σ σ' : Mem} {ro : Option Value} {φ : Prop} (hy : plainFor y = true) (ha : (lg_sl as).length ≤ maxL)
    (body : ∀ C, Ok Z C y.cls cc maxL fr lo → (c_h C).sig.returnType = ret → (c_h C).locks = false → (c_Q C = MQ (c_b C) (Qm ro φ (fun t => BW Z σ' t) (PA Z)) (c_a C) (c_s C) (c_k C) (c_n C) (PA Z)) → c_A C = PA Z → G Z C σ 0 (lv_args 0 as) []) : Ct Z y cc maxL ret fr lo as σ ro φ σ' := by
  refine va_MetF (cc := cc) (maxL := maxL) (ret := ret) hy rfl ?_
  intro p e s m args below meth c s₁ B hml hv
  obtain ⟨rfl, hP, hK, hT, hNw⟩ := hv
  have hts := atoms_spec (ws := Cond.code y cc maxL ret :: uW) B.pre
  have hown : s.vm.findClass y.cls = some m.cls := findClass_of_methodNamed B.named
  have hl := lv_entry as (n := maxL) ha
  rw [lg_entry_eq]
  exact body (p, e, { frames := fr, cells := 0, slots := 0, locals := lo }, s, m, as.toArray, below, meth, c, 0, 0, MQ below (Qm ro φ (fun t => BW Z σ' t) (PA Z)) as.toArray s 0 0 (PA Z), PA Z)
    ⟨B.exec, B.bytes, hml, hown, fun w hw => hts w (List.mem_cons_of_mem _ hw), hK, hT, fun _ h => h, hZ, Nat.le_refl _, Nat.le_refl _, Nat.le_refl _, Nat.le_refl _, hNw⟩ B.returns B.notSynchronized rfl rfl s.heap [] _ hP va_S.rf (by rw [show (c_c (p, e, ({ frames := fr, cells := 0, slots := 0, locals := lo } : Room), s, m, as.toArray, below, meth, c, 0, 0, MQ below (Qm ro φ (fun t => BW Z σ' t) (PA Z)) as.toArray s 0 0 (PA Z), PA Z)).maxLocals = maxL from hml]; exact hl)
section RETS
variable {Z : ZT} {C : CX} {own : String} {cc : ByteArray} {nL fr lo : Nat} {σ : Mem} {pc : Nat} {L : List (Nat × Value)} {φ : Prop}
theorem bw_end (O : Ok Z C own cc nL fr lo) {H : Heap} {locs : List Loc} (hP : PW Z σ H) (hS : va_S (c_A C) (c_s C).heap H locs) {t : State} (ht : t.heap = H) (hW : (c_s C).WarmedH t.vm) : BW Z σ t := ⟨by rw [ht]; exact hP, va_K.moved hW.alike O.2.2.2.2.2.1, by rw [ht]; exact st_part hW.alike O.2.2.2.2.2.2.1 hS O.2.2.2.2.2.2.2.1, NW.warm hW O.2.2.2.2.2.2.2.2.2.2.2.2.2⟩
theorem r_i {v : Int32} (O : Ok Z C own cc nL fr lo) (hr : (c_h C).sig.returnType = some .int) (hlk : (c_h C).locks = false) (hQ : c_Q C = MQ (c_b C) (Qm (some (.int v)) φ (fun t => BW Z σ t) (PA Z)) (c_a C) (c_s C) (c_k C) (c_n C) (PA Z)) (hA : c_A C = PA Z) (hφ : φ) (hd : decode cc pc = .ok (.ireturn, 1)) : G Z C σ pc L [.int v] := by
  intro H locs ls hP hS h
  rw [hQ]
  rw [hA] at hS
  exact W.iret O.1 O.2.1 hr (fun t ht hW => ⟨⟨rfl, hφ, bw_end O hP (by rw [hA]; exact hS) ht hW⟩, hS.F ht⟩) hS.2.2 hd hlk
theorem r_z {v : Int32} (O : Ok Z C own cc nL fr lo) (hr : (c_h C).sig.returnType = some .boolean) (hlk : (c_h C).locks = false) (hQ : c_Q C = MQ (c_b C) (Qm (some (.int v)) φ (fun t => BW Z σ t) (PA Z)) (c_a C) (c_s C) (c_k C) (c_n C) (PA Z)) (hA : c_A C = PA Z) (hφ : φ) (hv : v = 0 ∨ v = 1) (hd : decode cc pc = .ok (.ireturn, 1)) : G Z C σ pc L [.int v] := by
  intro H locs ls hP hS h
  rw [hQ]
  rw [hA] at hS
  exact W.zret O.1 O.2.1 hr (by rcases hv with e | e <;> subst e <;> rfl) (fun t ht hW => ⟨⟨rfl, hφ, bw_end O hP (by rw [hA]; exact hS) ht hW⟩, hS.F ht⟩) hS.2.2 hd hlk
theorem r_f {v : UInt32} (O : Ok Z C own cc nL fr lo) (hr : (c_h C).sig.returnType = some .float) (hlk : (c_h C).locks = false) (hQ : c_Q C = MQ (c_b C) (Qm (some (.float v)) φ (fun t => BW Z σ t) (PA Z)) (c_a C) (c_s C) (c_k C) (c_n C) (PA Z)) (hA : c_A C = PA Z) (hφ : φ) (hd : decode cc pc = .ok (.freturn, 1)) : G Z C σ pc L [.float v] := by
  intro H locs ls hP hS h
  rw [hQ]
  rw [hA] at hS
  exact W.fret O.1 O.2.1 hr (fun t ht hW => ⟨⟨rfl, hφ, bw_end O hP (by rw [hA]; exact hS) ht hW⟩, hS.F ht⟩) hS.2.2 hd hlk
theorem r_v (O : Ok Z C own cc nL fr lo) (hr : (c_h C).sig.returnType = none) (hlk : (c_h C).locks = false) (hQ : c_Q C = MQ (c_b C) (Qm none φ (fun t => BW Z σ t) (PA Z)) (c_a C) (c_s C) (c_k C) (c_n C) (PA Z)) (hA : c_A C = PA Z) (hφ : φ) (hd : decode cc pc = .ok (.return_, 1)) : G Z C σ pc L [] := by
  intro H locs ls hP hS h
  rw [hQ]
  rw [hA] at hS
  exact W.vret O.1 O.2.1 hr (fun t ht hW => ⟨⟨rfl, hφ, bw_end O hP (by rw [hA]; exact hS) ht hW⟩, hS.F ht⟩) hS.2.2 hd hlk
theorem r_a {v : Value} {n : String} (O : Ok Z C own cc nL fr lo) (hr : (c_h C).sig.returnType = some (.object n)) (hlk : (c_h C).locks = false) (hQ : c_Q C = MQ (c_b C) (Qm (some v) φ (fun t => BW Z σ t) (PA Z)) (c_a C) (c_s C) (c_k C) (c_n C) (PA Z)) (hA : c_A C = PA Z) (hφ : φ) (hv : v = .null ∨ ∃ a, v = .ref a) (hd : decode cc pc = .ok (.areturn, 1)) : G Z C σ pc L [v] := by
  intro H locs ls hP hS h
  rw [hQ]
  rw [hA] at hS
  exact W.aret O.1 O.2.1 hr (Or.inl ⟨n, rfl⟩) hv (fun t ht hW => ⟨⟨rfl, hφ, bw_end O hP (by rw [hA]; exact hS) ht hW⟩, hS.F ht⟩) hS.2.2 hd hlk
end RETS
section CTS
variable {Z : ZT} {y : MethodName} {cc : ByteArray} {maxL fr lo : Nat} {as : List Value} {σ σ' : Mem}
/-- a reference that may be null -/
def rv (Z : ZT) (r : Option Nat) : Value := match r with
  | none => .null
  | some i => .ref (za Z i)
-- pure answers: int, boolean, float, reference; then the same with a new memory; void
theorem ct_i (hZ : ZOk Z) (hy : plainFor y = true) (ha : (lg_sl as).length ≤ maxL) {f : Option Int32} {r : Int32} (hf : f = some r) (body : ∀ C (K : Option Int32 → Prop), Ok Z C y.cls cc maxL fr lo → ¬ K none → (∀ v, K (some v) → ∀ pc L, decode cc pc = .ok (.ireturn, 1) → G Z C σ pc L [.int v]) → K f → G Z C σ 0 (lv_args 0 as) []) : Ct Z y cc maxL (some .int) fr lo as σ (some (.int r)) True σ :=
  ct_of hZ hy ha (fun C O hr hlk hQ hA => body C (fun o => o = some r) O (fun h => by cases h) (fun v hv pc L hd => by cases hv; exact r_i O hr hlk hQ hA trivial hd) hf)
theorem ct_z (hZ : ZOk Z) (hy : plainFor y = true) (ha : (lg_sl as).length ≤ maxL) {f : Option Int32} {r : Int32} (hf : f = some r) (body : ∀ C (K : Option Int32 → Prop), Ok Z C y.cls cc maxL fr lo → ¬ K none → (∀ v, K (some v) → (v = 0 ∨ v = 1) → ∀ pc L, decode cc pc = .ok (.ireturn, 1) → G Z C σ pc L [.int v]) → K f → G Z C σ 0 (lv_args 0 as) []) : Ct Z y cc maxL (some .boolean) fr lo as σ (some (.int r)) (r = 0 ∨ r = 1) σ :=
  ct_of hZ hy ha (fun C O hr hlk hQ hA => body C (fun o => o = some r) O (fun h => by cases h) (fun v hv h01 pc L hd => by cases hv; exact r_z O hr hlk hQ hA h01 h01 hd) hf)
theorem ct_f (hZ : ZOk Z) (hy : plainFor y = true) (ha : (lg_sl as).length ≤ maxL) {f : Option UInt32} {r : UInt32} (hf : f = some r) (body : ∀ C (K : Option UInt32 → Prop), Ok Z C y.cls cc maxL fr lo → ¬ K none → (∀ v, K (some v) → ∀ pc L, decode cc pc = .ok (.freturn, 1) → G Z C σ pc L [.float v]) → K f → G Z C σ 0 (lv_args 0 as) []) : Ct Z y cc maxL (some .float) fr lo as σ (some (.float r)) True σ :=
  ct_of hZ hy ha (fun C O hr hlk hQ hA => body C (fun o => o = some r) O (fun h => by cases h) (fun v hv pc L hd => by cases hv; exact r_f O hr hlk hQ hA trivial hd) hf)
theorem ct_a (c : Nat) {n : String} (hZ : ZOk Z) (hy : plainFor y = true) (ha : (lg_sl as).length ≤ maxL) {f : Option (Option Nat)} {r : Option Nat} (hf : f = some r) (body : ∀ C (K : Option (Option Nat) → Prop), Ok Z C y.cls cc maxL fr lo → ¬ K none → (K (some none) → ∀ pc L, decode cc pc = .ok (.areturn, 1) → G Z C σ pc L [.null]) → (∀ i, K (some (some i)) → kn i = c → ∀ pc L, decode cc pc = .ok (.areturn, 1) → G Z C σ pc L [.ref (za Z i)]) → K f → G Z C σ 0 (lv_args 0 as) []) : Ct Z y cc maxL (some (.object n)) fr lo as σ (some (rv Z r)) (∀ i, r = some i → kn i = c) σ :=
  ct_of hZ hy ha (fun C O hr hlk hQ hA => body C (fun o => o = some r) O (fun h => by cases h) (fun hv pc L hd => by cases hv; exact r_a O hr hlk hQ hA (fun i h => by cases h) (Or.inl rfl) hd) (fun i hv hk pc L hd => by cases hv; exact r_a O hr hlk hQ hA (fun j h => by cases h; exact hk) (Or.inr ⟨_, rfl⟩) hd) hf)
theorem ct_im (hZ : ZOk Z) (hy : plainFor y = true) (ha : (lg_sl as).length ≤ maxL) {f : Option (Int32 × Mem)} {r : Int32 × Mem} (hf : f = some r) (body : ∀ C (K : Option (Int32 × Mem) → Prop), Ok Z C y.cls cc maxL fr lo → ¬ K none → (∀ v σ1, K (some (v, σ1)) → ∀ pc L, decode cc pc = .ok (.ireturn, 1) → G Z C σ1 pc L [.int v]) → K f → G Z C σ 0 (lv_args 0 as) []) : Ct Z y cc maxL (some .int) fr lo as σ (some (.int r.1)) True r.2 :=
  ct_of hZ hy ha (fun C O hr hlk hQ hA => body C (fun o => o = some r) O (fun h => by cases h) (fun v σ1 hv pc L hd => by cases hv; exact r_i O hr hlk hQ hA trivial hd) hf)
theorem ct_zm (hZ : ZOk Z) (hy : plainFor y = true) (ha : (lg_sl as).length ≤ maxL) {f : Option (Int32 × Mem)} {r : Int32 × Mem} (hf : f = some r) (body : ∀ C (K : Option (Int32 × Mem) → Prop), Ok Z C y.cls cc maxL fr lo → ¬ K none → (∀ v σ1, K (some (v, σ1)) → (v = 0 ∨ v = 1) → ∀ pc L, decode cc pc = .ok (.ireturn, 1) → G Z C σ1 pc L [.int v]) → K f → G Z C σ 0 (lv_args 0 as) []) : Ct Z y cc maxL (some .boolean) fr lo as σ (some (.int r.1)) (r.1 = 0 ∨ r.1 = 1) r.2 :=
  ct_of hZ hy ha (fun C O hr hlk hQ hA => body C (fun o => o = some r) O (fun h => by cases h) (fun v σ1 hv h01 pc L hd => by cases hv; exact r_z O hr hlk hQ hA h01 h01 hd) hf)
theorem ct_v (hZ : ZOk Z) (hy : plainFor y = true) (ha : (lg_sl as).length ≤ maxL) {f : Option Mem} {r : Mem} (hf : f = some r) (body : ∀ C (K : Option Mem → Prop), Ok Z C y.cls cc maxL fr lo → ¬ K none → (∀ σ1, K (some σ1) → ∀ pc L, decode cc pc = .ok (.return_, 1) → G Z C σ1 pc L []) → K f → G Z C σ 0 (lv_args 0 as) []) : Ct Z y cc maxL none fr lo as σ none True r :=
  ct_of hZ hy ha (fun C O hr hlk hQ hA => body C (fun o => o = some r) O (fun h => by cases h) (fun σ1 hv pc L hd => by cases hv; exact r_v O hr hlk hQ hA trivial hd) hf)
end CTS
