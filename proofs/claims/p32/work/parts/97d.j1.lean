/-- a call from a walk: what the machine does with it, whatever the callee's contract -/
def jCl (Z : ZT) (C : CX) (nL pc : Nat) (st rest as : List Value) (y : MethodName) (ccY : ByteArray) (maxL : Nat) (ret : Option FieldType) (frY kY nY loY : Nat) (rcv : Heap → Prop) : Prop :=
  ∀ {Pc : Array Value → State → Prop} {Qc : Array Value → State → Outcome → State → Prop} {free : Addr → Prop} (H : Heap) (locs : List Loc) (k n : Nat) (ls : Array Slot), Met (zl Z) y (Cond.code y ccY maxL ret :: uW) ({ frames := frY, cells := kY, slots := nY, locals := loY }) Pc Qc kY nY free → FrameBlind Pc → (∀ U : State, U.heap = H → (c_s C).WarmedH U.vm → Pc as.toArray U) → rcv H → ls.size = nL → k + kY ≤ (c_R C).cells ∧ n + nY ≤ (c_R C).slots →
    va_Run (c_p C) (zl Z) (c_e C) (c_R C) (c_s C) (c_m C) (c_a C) (c_b C) (c_h C) (c_c C) H locs k n kY nY (F0 (c_m C) pc ls st) rest (Qc as.toArray) free
/-- where a receiver must stand -/
def jRcv (C : CX) (b : Nat) (Cn : String) (H : Heap) : Prop := ∃ cell : Cell, H[b]? = some cell ∧ cell.vm.isStatics = false ∧ (c_s C).vm.findClass Cn = some cell.cls
section JC
variable {Z : ZT} {C : CX} {own : String} {cc : ByteArray} {nL fr lo kR nR : Nat} {pc : Nat} {st rest as : List Value} {y : MethodName} {ccY : ByteArray} {maxL index : Nat} {ret : Option FieldType} {frY kY nY loY : Nat}
theorem jc_S (O : uOk Z C own cc nL fr lo kR nR) (hd : decode cc pc = .ok (.invokestatic index, 3)) (hl : Cond.methodLink own index y ∈ uW) (hs : Cond.static y ∈ uW) (hc : Cond.code y ccY maxL ret ∈ uW) (hi : Cond.initialized y.cls ∈ uW) (hds : y.cls ≠ "java/lang/invoke/MethodHandle" ∧ y.cls ≠ "java/lang/invoke/VarHandle" ∧ (parseMethodDescriptor y.desc).map (fun d => d.parameters.length) = some as.length) (hst : as.reverse ++ rest = st) (hrr : frY + 1 ≤ fr ∧ 8 + (maxL + 11) + loY ≤ lo) (hcat : (rest.map fun v => v.category).sum ≤ 8) : jCl Z C nL pc st rest as y ccY maxL ret frY kY nY loY (fun _ => True) := by
  intro Pc Qc free H locs k n ls hM hB hP _ hsz hf
  obtain ⟨hx, hb, hml, hown, hts, hK, hA, hNw, r1, r2, r3, r4⟩ := O
  subst hst
  have hrr2 : frY + 1 ≤ (c_R C).frames ∧ 8 + (maxL + 11) + loY ≤ (c_R C).locals := ⟨by omega, by omega⟩
  exact va_runS (As := as) (rest := rest) ⟨hx, hb, hml, hown, hts⟩ hM ⟨callB_of as.length hts (uw_goodIn hc) rfl rfl rfl (hts _ hi) (hts _ hl) hds hrr2, hts _ hs⟩ ⟨hB, hP⟩ rfl rfl hsz rfl (lv_room hcat) hd hf
theorem jc_V {b : Nat} {C0 : String} {as' : List Value} (O : uOk Z C own cc nL fr lo kR nR) (hd : decode cc pc = .ok (.invokevirtual index, 3)) (hl : Cond.methodLink own index y ∈ uW) (hin : Cond.instanceMethod y ∈ uW) (hsel : (Cond.selects C0 y y).before (c_a C) (c_s C) = true) (hc : Cond.code y ccY maxL ret ∈ uW) (hi : Cond.initialized y.cls ∈ uW) (hds : y.cls ≠ "java/lang/invoke/MethodHandle" ∧ y.cls ≠ "java/lang/invoke/VarHandle" ∧ (parseMethodDescriptor y.desc).map (fun d => d.parameters.length) = some as'.length) (hst : as'.reverse ++ .ref b :: rest = st) (hrr : frY + 1 ≤ fr ∧ 8 + (maxL + 11) + loY ≤ lo) (hcat : (rest.map fun v => v.category).sum ≤ 8) : jCl Z C nL pc st rest (.ref b :: as') y ccY maxL ret frY kY nY loY (jRcv C b C0) := by
  intro Pc Qc free H locs k n ls hM hB hP hr hsz hf
  obtain ⟨hx, hb, hml, hown, hts, hK, hA, hNw, r1, r2, r3, r4⟩ := O
  subst hst
  have hrr2 : frY + 1 ≤ (c_R C).frames ∧ 8 + (maxL + 11) + loY ≤ (c_R C).locals := ⟨by omega, by omega⟩
  exact va_runV (C := C0) (As := as') (rest := rest) ⟨hx, hb, hml, hown, hts⟩ hM ⟨callB_of as'.length hts (uw_goodIn hc) rfl rfl rfl (hts _ hi) (hts _ hl) hds hrr2, hts _ hin, hsel⟩ ⟨hB, hr, hP⟩ rfl rfl hsz rfl (lv_room hcat) hd hf
theorem jc_I {b : Nat} {as' : List Value} (O : uOk Z C own cc nL fr lo kR nR) (hd : decode cc pc = .ok (.invokespecial index, 3)) (hl : Cond.methodLink own index y ∈ uW) (hin : Cond.instanceMethod y ∈ uW) (hyn : y.name = "<init>") (hc : Cond.code y ccY maxL none ∈ uW) (hi : Cond.initialized y.cls ∈ uW) (hds : y.cls ≠ "java/lang/invoke/MethodHandle" ∧ y.cls ≠ "java/lang/invoke/VarHandle" ∧ (parseMethodDescriptor y.desc).map (fun d => d.parameters.length) = some as'.length) (hst : as'.reverse ++ .ref b :: rest = st) (hrr : frY + 1 ≤ fr ∧ 8 + (maxL + 11) + loY ≤ lo) (hcat : (rest.map fun v => v.category).sum ≤ 8) : jCl Z C nL pc st rest (.ref b :: as') y ccY maxL none frY kY nY loY (fun _ => True) := by
  intro Pc Qc free H locs k n ls hM hB hP _ hsz hf
  obtain ⟨hx, hb, hml, hown, hts, hK, hA, hNw, r1, r2, r3, r4⟩ := O
  subst hst
  have hrr2 : frY + 1 ≤ (c_R C).frames ∧ 8 + (maxL + 11) + loY ≤ (c_R C).locals := ⟨by omega, by omega⟩
  exact va_runI (As := as') (rest := rest) ⟨hx, hb, hml, hown, hts⟩ hM (cwI as'.length hts (uw_goodIn hc) rfl rfl rfl (hts _ hi) (hts _ hl) (hts _ hin) hyn hds hrr2) ⟨hB, hP⟩ rfl rfl hsz rfl (lv_room hcat) hd hf
theorem jc_SU {b ci : Nat} {as' : List Value} {r : vw_C} (O : uOk Z C own cc nL fr lo kR nR) (hd : decode cc pc = .ok (.invokespecial index, 3)) (hl : Cond.methodLink own index y ∈ uW) (hsm : Cond.sameMethod y.cls y.cls y.name y.desc ∈ uW) (hsu : Cond.superclass own y.cls ∈ uW) (hin : Cond.instanceMethod y ∈ uW) (hci : vwCl[ci]? = some r) (hc : Cond.code y ccY maxL ret ∈ uW) (hi : Cond.initialized y.cls ∈ uW) (hds : y.name ≠ "<init>" ∧ (parseMethodDescriptor y.desc).map (fun d => d.parameters.length) = some as'.length) (hst : as'.reverse ++ .ref b :: rest = st) (hrr : frY + 1 ≤ fr ∧ 8 + (maxL + 11) + loY ≤ lo) (hcat : (rest.map fun v => v.category).sum ≤ 8) : jCl Z C nL pc st rest (.ref b :: as') y ccY maxL ret frY kY nY loY (jRcv C b r.1) := by
  intro Pc Qc free H locs k n ls hM hB hP hr hsz hf
  obtain ⟨hx, hb, hml, hown, hts, hK, hA, hNw, r1, r2, r3, r4⟩ := O
  subst hst
  have hrr2 : frY + 1 ≤ (c_R C).frames ∧ 8 + (maxL + 11) + loY ≤ (c_R C).locals := ⟨by omega, by omega⟩
  refine va_runSU (As := as') (rest := rest) (hK.1 ci r hci).2 ⟨hx, hb, hml, hown, hts⟩ hM (va_cwSU as'.length hts ?_ rfl rfl rfl hds hrr2) ⟨hB, hr, hP⟩ rfl rfl hsz rfl (lv_room hcat) hd hf
  intro w hw
  unfold va_wsSU at hw
  rcases List.mem_append.mp hw with h | h
  · simp only [List.mem_cons, List.not_mem_nil, or_false] at h
    rcases h with rfl | rfl | rfl | rfl | rfl
    · exact ⟨hl, good_of_word (uw_good hl)⟩
    · exact ⟨hsm, good_of_word (uw_good hsm)⟩
    · exact ⟨hsu, good_of_word (uw_good hsu)⟩
    · exact ⟨hin, good_of_word (uw_good hin)⟩
    · exact ⟨hi, good_of_word (uw_good hi)⟩
  · exact uw_goodIn hc w h
/-- an overridden method, named by the class above -/
theorem jc_O {b : Nat} {C0 owner : String} {x : MethodName} {as' : List Value} {b0 : ByteArray} {m0 : Nat} {r0 : Option FieldType} (O : uOk Z C own cc nL fr lo kR nR) (hd : decode cc pc = .ok (.invokevirtual index, 3)) (hl : Cond.methodLink own index x ∈ uW) (hsm : Cond.sameMethod x.cls owner x.name x.desc ∈ uW) (hin0 : Cond.instanceMethod ⟨owner, x.name, x.desc⟩ ∈ uW) (hsel : Cond.selects C0 x y ∈ uW) (hin : Cond.instanceMethod y ∈ uW) (h0 : Cond.code ⟨owner, x.name, x.desc⟩ b0 m0 r0 ∈ uW) (hc : Cond.code y ccY maxL ret ∈ uW) (hi : Cond.initialized y.cls ∈ uW) (hds : owner ≠ "java/lang/invoke/MethodHandle" ∧ owner ≠ "java/lang/invoke/VarHandle" ∧ (parseMethodDescriptor x.desc).map (fun d => d.parameters.length) = some as'.length) (hst : as'.reverse ++ .ref b :: rest = st) (hrr : frY + 1 ≤ fr ∧ 8 + (maxL + 11) + loY ≤ lo) (hcat : (rest.map fun v => v.category).sum ≤ 8) : jCl Z C nL pc st rest (.ref b :: as') y ccY maxL ret frY kY nY loY (jRcv C b C0) := by
  intro Pc Qc free H locs k n ls hM hB hP hr hsz hf
  obtain ⟨hx, hb, hml, hown, hts, hK, hA, hNw, r1, r2, r3, r4⟩ := O
  subst hst
  have hrr2 : frY + 1 ≤ (c_R C).frames ∧ 8 + (maxL + 11) + loY ≤ (c_R C).locals := ⟨by omega, by omega⟩
  refine va_runU (x := x) (C := C0) (owner := owner) (As := as') (rest := rest) ⟨hx, hb, hml, hown, hts⟩ hM (va_cwO as'.length hts ?_ rfl rfl rfl h0 hds hrr2) ⟨hB, hr, hP⟩ rfl rfl hsz rfl (lv_room hcat) hd hf
  intro w hw
  unfold va_wsO at hw
  rcases List.mem_append.mp hw with h | h
  · simp only [List.mem_cons, List.not_mem_nil, or_false] at h
    rcases h with rfl | rfl | rfl | rfl | rfl | rfl
    · exact ⟨hl, good_of_word (uw_good hl)⟩
    · exact ⟨hsm, good_of_word (uw_good hsm)⟩
    · exact ⟨hin0, good_of_word (uw_good hin0)⟩
    · exact ⟨hsel, good_of_word (uw_good hsel)⟩
    · exact ⟨hin, good_of_word (uw_good hin)⟩
    · exact ⟨hi, good_of_word (uw_good hi)⟩
  · exact uw_goodIn hc w h
end JC
section JCALL
variable {Z : ZT} {C : CX} {own : String} {cc : ByteArray} {nL fr lo kR nR : Nat} {ws wc : va_W} {k n pc : Nat} {L : List (Nat × Value)} {st rest as : List Value} {y : MethodName} {ccY : ByteArray} {maxL : Nat} {ret : Option FieldType} {frY kY nY loY : Nat} {X : JX}
/-- what a callee is told of cells that lie outside its world -/
def jTold (Z : ZT) (C : CX) (ws wc : va_W) (X : JX) : Prop := ∀ (H : Heap) (locs : List Loc), va_P (zD Z) vwCl (ws ++ wc) H → va_D (c_A C) (ws ++ wc) → va_S (c_A C) (c_s C).heap H locs → X (va_A wc H.size) (c_s C) H
theorem jt_0 : jTold Z C ws wc jX0 := fun _ _ _ _ _ => trivial
/-- what the caller itself was told -/
theorem jt_up (O : uOk Z C own cc nL fr lo kR nR) (hX : jMv X) (h : X (c_A C) (c_s C) (c_s C).heap) : jTold Z C ws wc X := fun H locs hP hD hS =>
  hX _ _ _ _ _ H (Or.inl rfl) h hS.2.1 (va_free (wc := wc) hD hS O.2.2.2.2.2.2.1 (List.range' ws.length wc.length) (uv_last ws _))
/-- a string of the caller's world -/
theorem jt_w {q v i j m : Nat} {h z : Int32} {f : Nat → Int32} (O : uOk Z C own cc nL fr lo kR nR) (hi : ws[i]? = some (q, .inr (12, [.ref v, .int 0, .int h, .int z]))) (hj : ws[j]? = some (v, .inl (zc Z 0, (m, .inl f)))) : jTold Z C ws wc (jS q v m f) := by
  intro H locs hP hD hS
  have li : i < ws.length := (List.getElem?_eq_some_iff.mp hi).1
  have lj : j < ws.length := (List.getElem?_eq_some_iff.mp hj).1
  have hi' : (ws ++ wc)[i]? = some (q, .inr (12, [.ref v, .int 0, .int h, .int z])) := by rw [List.getElem?_append_left li]; exact hi
  have hj' : (ws ++ wc)[j]? = some (v, .inl (zc Z 0, (m, .inl f))) := by rw [List.getElem?_append_left lj]; exact hj
  have out : ∀ (i : Nat) (e : Nat × va_E), i < ws.length → (ws ++ wc)[i]? = some e → ¬ va_A wc H.size e.1 := by
    rintro i e hl he (⟨k, e', hk⟩ | hk)
    · have h2 : (ws ++ wc)[ws.length + k]? = some (e.1, e') := by rw [List.getElem?_append_right (by omega), Nat.add_sub_cancel_left]; exact hk
      have := hD.1 _ _ _ _ he h2 rfl
      omega
    · have := (hP i e he).lt
      omega
  exact jS_of O.2.2.2.2.1 O.2.2.2.2.2.1 hP hi' hj' (out i _ li hi') (out j _ lj hj')
set_option maxHeartbeats 1000000 in
theorem j_call {S : Type} {W1 : S → va_W} {ro : S → Option Value} {φ : S → Prop} {rcv : Heap → Prop} (O : jOk Z C own cc nL fr lo kR nR) (hc : jCl Z C nL pc st rest as y ccY maxL ret frY kY nY loY rcv) (hM : ∀ sz, MkJ Z y ccY maxL ret frY kY nY loY as X wc ro φ W1 sz) (hXm : jMv X) (hX : jTold Z C ws wc X) (hr : ∀ (H : Heap) (locs : List Loc), va_P (zD Z) vwCl (ws ++ wc) H → va_S (c_A C) (c_s C).heap H locs → rcv H) (hk : k + kY ≤ kR) (hn : n + nY ≤ nR)
    (kk : ∀ u, φ u → uV Z C (ws ++ W1 u) (k + kY) (n + nY) (pc + 3) L ((ro u).toList ++ rest)) : uV Z C (ws ++ wc) k n pc L st := by
  intro H locs ls hP hD hS h
  have hT := O.2
  obtain ⟨hx, hb, hml, hown, hts, hK, hA, hNw, r1, r2, r3, r4⟩ := O.1
  have hPc : va_P (zD Z) vwCl wc H := fun i q hi => hP (ws.length + i) q (by rw [List.getElem?_append_right (by omega), Nat.add_sub_cancel_left]; exact hi)
  have hDc : va_D (fun _ => True) wc := (hD.sub (ws' := wc) (List.range' ws.length wc.length) (uv_ndr _ _) (uv_last ws _)).weaken (fun _ _ _ _ => trivial)
  have hFc := va_free (wc := wc) hD hS hA (List.range' ws.length wc.length) (uv_last ws _)
  have hsz : ls.size = nL := by rw [h.1]; exact hml
  have hpc : ∀ U : State, U.heap = H → (c_s C).WarmedH U.vm → jPc Z as X wc H.size as.toArray U := fun U hU hW =>
    ⟨rfl, by rw [hU], by rw [hU]; exact hPc, va_K.moved hW.alike hK, hDc, NW.warm hW hNw, by rw [hU]; exact hT.move (locs := locs) hW.alike hS.2.1 hFc, by rw [hU]; exact hXm _ _ _ _ _ _ (Or.inr hW) (hX H locs hP hD hS) (fun _ _ _ => rfl) (fun _ h => h)⟩
  refine j_qm (hc H locs k n ls (hM H.size) (j_blind hXm) hpc (hr H locs hP hS) hsz ⟨by omega, by omega⟩) hS (fun q _ h => hFc q h) hFc (fun u t H1 locs1 ht hvm hB hz1 hk1 hS1 => ?_)
  obtain ⟨hφ, hP1, hK1, hD1⟩ := hB
  rw [ht] at hP1
  obtain ⟨hP2, hD2⟩ := va_join (wr := ws) (w1 := W1 u) hP hD (List.range' ws.length wc.length) (List.range' 0 ws.length) (uv_last ws _) (uv_rest ws _) (uv_ndr _ _) (fun i hi q => by rw [List.mem_range'_1] at hi q; omega) hk1 hFc hP1 hD1
  exact kk u hφ H1 locs1 ls hP2 hD2 hS1 h
end JCALL
/-- a receiver of the world -/
theorem j_rw {Z : ZT} {C : CX} {own : String} {cc : ByteArray} {nL fr lo kR nR b q0 ci : Nat} {r : vw_C} {ws : va_W} {fs : List Value} (O : uOk Z C own cc nL fr lo kR nR) (hc : vwCl[ci]? = some r) (he : ws[q0]? = some (b, .inr (ci, fs))) : ∀ (H : Heap) (locs : List Loc), va_P (zD Z) vwCl ws H → va_S (c_A C) (c_s C).heap H locs → jRcv C b r.1 H := fun _ _ hP _ => va_recv O.2.2.2.2.2.1 hP hc he
/-- a receiver that is only read -/
theorem j_rs {Z : ZT} {C : CX} {q v n : Nat} {f : Nat → Int32} {ws : va_W} (h : jS q v n f (c_A C) (c_s C) (c_s C).heap) : ∀ (H : Heap) (locs : List Loc), va_P (zD Z) vwCl ws H → va_S (c_A C) (c_s C).heap H locs → jRcv C q "java/lang/String" H := fun H locs _ hS => by
  obtain ⟨cell, h1, h2, h3, -⟩ := h.1.kept hS.2.1
  exact ⟨cell, h1, h2, h3⟩
theorem j_r0 {Z : ZT} {C : CX} {ws : va_W} : ∀ (H : Heap) (locs : List Loc), va_P (zD Z) vwCl ws H → va_S (c_A C) (c_s C).heap H locs → (fun _ : Heap => True) H := fun _ _ _ _ => trivial
/-- from a walk to a contract -/
theorem j_mk {Z : ZT} {S : Type} {y : MethodName} {cc : ByteArray} {maxL fr k n lo sz : Nat} {ret : Option FieldType} {as : List Value} {X : JX} {W0 : va_W} {W1 : S → va_W} {ro : S → Option Value} {φ : S → Prop} (hy : plainFor y = true) (ha : (lg_sl as).length ≤ maxL)
    (body : ∀ C, jOk Z C y.cls cc maxL fr lo k n → (c_h C).name = y.name → X (c_A C) (c_s C) (c_s C).heap → (c_h C).sig.returnType = ret → (c_h C).locks = false → (c_A C = va_A W0 (c_s C).heap.size ∧ (c_s C).heap.size = sz ∧ c_Q C = MQ (c_b C) (jQc Z W0 ro φ W1 sz) (c_a C) (c_s C) k n (va_A W0 sz)) → uV Z C W0 0 0 0 (lv_args 0 as) []) : MkJ Z y cc maxL ret fr k n lo as X W0 ro φ W1 sz := by
  refine va_MetF (cc := cc) (maxL := maxL) (ret := ret) hy rfl ?_
  intro p e s m args below meth c s₁ B hml hv
  obtain ⟨rfl, hsz, hP, hK, hD0, hNw, hT, hX⟩ := hv
  have hts0 := atoms_spec (ws := Cond.code y cc maxL ret :: uW) B.pre
  have hts : ∀ w ∈ uW, w.before _ s = true := fun w hw => hts0 w (List.mem_cons_of_mem _ hw)
  have hown : s.vm.findClass y.cls = some m.cls := findClass_of_methodNamed B.named
  have hin : meth.name = y.name := (name_of_methodNamed B.named B.method).1
  subst hsz
  have hD := hD0.self (sz := s.heap.size)
  have hl := lv_entry as (n := maxL) ha
  rw [lg_entry_eq]
  refine body (p, e, { frames := fr, cells := k, slots := n, locals := lo }, s, m, as.toArray, below, meth, c, 0, 0, MQ below (jQc Z W0 ro φ W1 s.heap.size) as.toArray s k n (va_A W0 s.heap.size), va_A W0 s.heap.size)
    ⟨⟨B.exec, B.bytes, hml, hown, hts, hK, fun q h => Or.inr h, hNw, Nat.le_refl _, Nat.le_refl _, Nat.le_refl _, Nat.le_refl _⟩, hT⟩ hin hX B.returns B.notSynchronized ⟨rfl, rfl, rfl⟩ s.heap [] _ hP hD va_S.rf ?_
  rw [show (c_c (p, e, ({ frames := fr, cells := k, slots := n, locals := lo } : Room), s, m, as.toArray, below, meth, c, 0, 0, MQ below (jQc Z W0 ro φ W1 s.heap.size) as.toArray s k n (va_A W0 s.heap.size), va_A W0 s.heap.size)).maxLocals = maxL from hml]
  exact hl
section JRET
variable {Z : ZT} {C : CX} {own : String} {cc : ByteArray} {nL fr lo kR nR k n sz pc : Nat} {S : Type} {W0 : va_W} {W1 : S → va_W} {ro : S → Option Value} {φ : S → Prop} {L : List (Nat × Value)}
theorem jr_end {u : S} (O : jOk Z C own cc nL fr lo kR nR) (hE : c_A C = va_A W0 (c_s C).heap.size ∧ (c_s C).heap.size = sz ∧ c_Q C = MQ (c_b C) (jQc Z W0 ro φ W1 sz) (c_a C) (c_s C) k n (va_A W0 sz)) (hφ : φ u) {H : Heap} {locs : List Loc} (hP : va_P (zD Z) vwCl (W1 u) H) (hD : va_D (c_A C) (W1 u)) (hS : va_S (c_A C) (c_s C).heap H locs) : ∀ (t : State), t.heap = H → (c_s C).WarmedH t.vm → jQc Z W0 ro φ W1 sz (c_a C) (c_s C) (.returned (ro u)) t := by
  intro t ht hW
  obtain ⟨e1, e2, -⟩ := hE
  rw [e2] at e1
  exact ⟨⟨u, rfl, hφ, by rw [ht]; exact hP, va_K.moved hW.alike O.1.2.2.2.2.2.1, by rw [← e1]; exact hD⟩, by rw [← e1]; exact hS.F ht⟩
theorem jr_v (u : S) (O : jOk Z C own cc nL fr lo kR nR) (hr : (c_h C).sig.returnType = none) (hlk : (c_h C).locks = false) (hE : c_A C = va_A W0 (c_s C).heap.size ∧ (c_s C).heap.size = sz ∧ c_Q C = MQ (c_b C) (jQc Z W0 ro φ W1 sz) (c_a C) (c_s C) k n (va_A W0 sz)) (hφ : φ u) (hro : ro u = none) (hd : decode cc pc = .ok (.return_, 1)) : uV Z C (W1 u) k n pc L [] := by
  intro H locs ls hP hD hS h
  have hS' := hS
  rw [hE.1, hE.2.1] at hS'
  rw [hE.2.2]
  refine W.vret O.1.1 O.1.2.1 hr (fun t ht hW => ?_) hS'.2.2 hd hlk
  rw [← hro]
  exact jr_end O hE hφ hP hD hS t ht hW
theorem jr_i {v : Int32} (u : S) (O : jOk Z C own cc nL fr lo kR nR) (hr : (c_h C).sig.returnType = some .int) (hlk : (c_h C).locks = false) (hE : c_A C = va_A W0 (c_s C).heap.size ∧ (c_s C).heap.size = sz ∧ c_Q C = MQ (c_b C) (jQc Z W0 ro φ W1 sz) (c_a C) (c_s C) k n (va_A W0 sz)) (hφ : φ u) (hro : ro u = some (.int v)) (hd : decode cc pc = .ok (.ireturn, 1)) : uV Z C (W1 u) k n pc L [.int v] := by
  intro H locs ls hP hD hS h
  have hS' := hS
  rw [hE.1, hE.2.1] at hS'
  rw [hE.2.2]
  refine W.iret O.1.1 O.1.2.1 hr (fun t ht hW => ?_) hS'.2.2 hd hlk
  rw [← hro]
  exact jr_end O hE hφ hP hD hS t ht hW
theorem jr_z {v : Int32} {ty : FieldType} (u : S) (O : jOk Z C own cc nL fr lo kR nR) (hr : (c_h C).sig.returnType = some ty) (hnr : narrow ty (.int v) = .int v) (hlk : (c_h C).locks = false) (hE : c_A C = va_A W0 (c_s C).heap.size ∧ (c_s C).heap.size = sz ∧ c_Q C = MQ (c_b C) (jQc Z W0 ro φ W1 sz) (c_a C) (c_s C) k n (va_A W0 sz)) (hφ : φ u) (hro : ro u = some (.int v)) (hd : decode cc pc = .ok (.ireturn, 1)) : uV Z C (W1 u) k n pc L [.int v] := by
  intro H locs ls hP hD hS h
  have hS' := hS
  rw [hE.1, hE.2.1] at hS'
  rw [hE.2.2]
  refine W.zret O.1.1 O.1.2.1 hr hnr (fun t ht hW => ?_) hS'.2.2 hd hlk
  rw [← hro]
  exact jr_end O hE hφ hP hD hS t ht hW
theorem jr_a {a : Nat} {rt : FieldType} (u : S) (O : jOk Z C own cc nL fr lo kR nR) (hr : (c_h C).sig.returnType = some rt) (hrt : (∃ n, rt = .object n) ∨ ∃ t, rt = .array t) (hlk : (c_h C).locks = false) (hE : c_A C = va_A W0 (c_s C).heap.size ∧ (c_s C).heap.size = sz ∧ c_Q C = MQ (c_b C) (jQc Z W0 ro φ W1 sz) (c_a C) (c_s C) k n (va_A W0 sz)) (hφ : φ u) (hro : ro u = some (.ref a)) (hd : decode cc pc = .ok (.areturn, 1)) : uV Z C (W1 u) k n pc L [.ref a] := by
  intro H locs ls hP hD hS h
  have hS' := hS
  rw [hE.1, hE.2.1] at hS'
  rw [hE.2.2]
  refine W.aret O.1.1 O.1.2.1 hr hrt (Or.inr ⟨_, rfl⟩) (fun t ht hW => ?_) hS'.2.2 hd hlk
  rw [← hro]
  exact jr_end O hE hφ hP hD hS t ht hW
end JRET
