/-- what a method is told beside its world: of cells outside a set, which stay as they are -/
abbrev JX : Type := (Nat → Prop) → State → Heap → Prop
def jMv (X : JX) : Prop := ∀ (A B : Nat → Prop) (s U : State) (H0 H : Heap), (s.vm = U.vm ∨ s.WarmedH U.vm) → X A s H0 → (∀ a : Nat, a < H0.size → ¬ A a → H[a]? = H0[a]?) → (∀ q, B q → A q) → X B U H
theorem j_alk {s U : State} (h : s.vm = U.vm ∨ s.WarmedH U.vm) : s.vm.Alike U.vm := h.elim (fun e => by rw [e]; exact Vm.Alike.refl _) (fun w => w.alike)
/-- two things told -/
def jA (X Y : JX) : JX := fun A U H => X A U H ∧ Y A U H
theorem jA_mv {X Y : JX} (hX : jMv X) (hY : jMv Y) : jMv (jA X Y) := fun _ _ _ _ _ _ hvm h hq hAB => ⟨hX _ _ _ _ _ _ hvm h.1 hq hAB, hY _ _ _ _ _ _ hvm h.2 hq hAB⟩
def jX0 : JX := fun _ _ _ => True
theorem jX0_mv : jMv jX0 := fun _ _ _ _ _ _ _ _ _ _ => trivial
/-- a text that is only read: string q, bytes v, n of them -/
def jS (q v n : Nat) (f : Nat → Int32) : JX := fun A U H =>
  va_O "java/lang/String" q A U H ∧ va_OF "java/lang/String" "coder" "B" (.int 0) q A U H ∧ va_OF "java/lang/String" "value" "[B" (.ref v) q A U H ∧ va_T .byte v n (fun j => .int (f j)) A U H
theorem jS_mv (q v n : Nat) (f : Nat → Int32) : jMv (jS q v n f) := fun _ _ _ _ _ _ hvm h hq hAB =>
  ⟨((h.1.kept hq).narrow hAB).moved (j_alk hvm), ((h.2.1.kept hq).narrow hAB).moved (j_alk hvm), ((h.2.2.1.kept hq).narrow hAB).moved (j_alk hvm), ((h.2.2.2.kept hq).narrow hAB).moved (j_alk hvm)⟩
/-- its bytes alone -/
def jB (v n : Nat) (f : Nat → Int32) : JX := fun A U H => va_T .byte v n (fun j => .int (f j)) A U H
theorem jB_mv (v n : Nat) (f : Nat → Int32) : jMv (jB v n f) := fun _ _ _ _ _ _ hvm h hq hAB => ((h.kept hq).narrow hAB).moved (j_alk hvm)
theorem uxJ0 : ∀ w ∈ u_ws RJ0 TJ0 4, w ∈ uW := fun w h => List.mem_filter.mpr ⟨List.mem_append_right _ ((by decide +kernel : ∀ w ∈ u_ws RJ0 TJ0 4, w ∈ lw_tbl) w h), (by decide +kernel : ∀ w ∈ u_ws RJ0 TJ0 4, goodWord w = true) w h⟩
theorem uxJ4 : ∀ w ∈ u_ws RJ4 TJ4 4, w ∈ uW := fun w h => List.mem_filter.mpr ⟨List.mem_append_right _ ((by decide +kernel : ∀ w ∈ u_ws RJ4 TJ4 4, w ∈ lw_tbl) w h), (by decide +kernel : ∀ w ∈ u_ws RJ4 TJ4 4, goodWord w = true) w h⟩
/-- a string that lies in the world is a text that is only read, where it is not among the cells that may change -/
theorem jS_of {Z : ZT} {ws : va_W} {H : Heap} {s : State} {args : Array Value} {A : Nat → Prop} {q v i j n : Nat} {h z : Int32} {f : Nat → Int32} (hts : ∀ w ∈ uW, w.before args s = true) (hK : va_K (zD Z) vwCl (utys Z) s) (hP : va_P (zD Z) vwCl ws H)
    (hi : ws[i]? = some (q, .inr (12, [.ref v, .int 0, .int h, .int z]))) (hj : ws[j]? = some (v, .inl (zc Z 0, (n, .inl f)))) (h1 : ¬ A q) (h2 : ¬ A v) : jS q v n f A s H := by
  obtain ⟨r, hr, cell, q1, q2, q3, q4⟩ := hP i _ hi
  have hr : r = (RJ0, TJ0, 4) := (Option.some.inj hr).symm
  subst hr
  obtain ⟨hS, hfc, kC, hkC, hkind⟩ := hK.1 12 _ rfl
  have fld : ∀ k, k < 4 → va_OF (TJ0 k).1 (TJ0 k).2.1 (TJ0 k).2.2.1 (vp_V [.ref v, .int 0, .int h, .int z] k) q A s H := by
    intro k hk
    obtain ⟨cf, kf, fi, f, hi, hsl⟩ := hS k hk
    exact ⟨cf, kf, fi, f, cell, hi, (u_facts hfc hkC (u_lays hts uxJ0 hk) hi).1, q1, (by rw [q3]; exact fun h => by cases h), (by rw [hsl]; exact q4 k hk), h1⟩
  refine ⟨⟨cell, q1, by rw [q3]; rfl, by rw [q2]; exact hfc, h1⟩, fld 1 (by decide), fld 0 (by decide), ?_⟩
  refine ⟨_, hP j _ hj, (hK.2 0 _ rfl).1 n (fun j => .int (f j)), (fun h => by cases h), ?_, ?_, fun k hk => ?_, h2⟩
  · show n ≤ (arrV _ _ _).slots.size
    rw [arrV_size]
    exact Nat.le_refl _
  · show (arrV _ _ _).slots.size.toInt32 = _
    rw [arrV_size]
  · show (arrV _ _ _).slots[k]? = _
    simp [arrV, hk]
def jOk (Z : ZT) (C : CX) (own : String) (cc : ByteArray) (nL fr lo kR nR : Nat) : Prop := uOk Z C own cc nL fr lo kR nR ∧ ST Z (c_A C) (c_s C) (c_s C).heap
/-- a method's end whose world and answer come together -/
def jQ {S : Type} (ro : S → Option Value) (B : S → State → Prop) (A : Nat → Prop) : Array Value → State → Outcome → State → Prop := fun _ st oc t => (∃ u : S, oc = .returned (ro u) ∧ B u t) ∧ va_F A st t
abbrev jPc (Z : ZT) (as : List Value) (X : JX) (W0 : va_W) (sz : Nat) : Array Value → State → Prop := va_Pc as (fun U => U.heap.size = sz ∧ va_P (zD Z) vwCl W0 U.heap ∧ va_K (zD Z) vwCl (utys Z) U ∧ va_D (fun _ => True) W0 ∧ NW U ∧ ST Z (va_A W0 sz) U U.heap ∧ X (va_A W0 sz) U U.heap)
abbrev jQc {S : Type} (Z : ZT) (W0 : va_W) (ro : S → Option Value) (φ : S → Prop) (W1 : S → va_W) (sz : Nat) : Array Value → State → Outcome → State → Prop := jQ ro (fun u t => φ u ∧ va_P (zD Z) vwCl (W1 u) t.heap ∧ va_K (zD Z) vwCl (utys Z) t ∧ va_D (va_A W0 sz) (W1 u)) (va_A W0 sz)
/-- the contract of a method over a small world -/
abbrev MkJ {S : Type} (Z : ZT) (y : MethodName) (cc : ByteArray) (maxL : Nat) (ret : Option FieldType) (fr k n lo : Nat) (as : List Value) (X : JX) (W0 : va_W) (ro : S → Option Value) (φ : S → Prop) (W1 : S → va_W) (sz : Nat) : Prop :=
  Met (zl Z) y (Cond.code y cc maxL ret :: uW) ({ frames := fr, cells := k, slots := n, locals := lo }) (jPc Z as X W0 sz) (jQc Z W0 ro φ W1 sz) k n (va_A W0 sz)
section JRUN
variable {p : Program} {l : Launch} {e : Env} {R : Room} {s : State} {m : MethodId} {args : Array Value} {below : List Frame} {meth : Method} {c : Code} {H : Heap} {locs : List Loc} {cells slots : Nat} {Q : State → Prop} {pc : Nat} {ls : Array Slot} {rest st0 : List Value} {a : Array Value} {A0 A1 : Nat → Prop} {H0 : Heap} {mc ms : Nat} {free : Addr → Prop}
theorem j_qm {S : Type} {ro : S → Option Value} {B : S → State → Prop} (hr : va_Run p l e R s m args below meth c H locs cells slots mc ms (F0 m pc ls st0) rest (jQ ro B A1 a) free) (hS : va_S A0 H0 H locs) (hA : ∀ q, q < H.size → A1 q → A0 q) (hf : ∀ q, free q → A0 q)
    (kk : ∀ (u : S) (t : State) (H1 : Heap) (locs1 : List Loc), t.heap = H1 → s.vm.Alike t.vm → B u t → H.size ≤ H1.size → (∀ q : Nat, q < H.size → ¬ A1 q → H1[q]? = H[q]?) → va_S A0 H0 H1 locs1 → W p l e R s m args below meth c H1 locs1 (cells + mc) (slots + ms) Q (F0 m (pc + 3) ls ((ro u).toList ++ rest))) : W p l e R s m args below meth c H locs cells slots Q (F0 m pc ls st0) := by
  intro T hT X
  obtain ⟨v, st₀, t, T', L, h0, X', hL, e1, e2, ⟨⟨u, hv, hb⟩, hz, hk⟩, st⟩ := hr T hT X
  cases hv
  rw [h0] at hz hk
  obtain ⟨t2, a1, b1⟩ := kk u t T'.heap (locs ++ L) e1.symm (by rw [← e2]; exact X'.warmed.alike) hb (by rw [e1]; exact hz) (fun q h1 h2 => by rw [e1]; exact hk q h1 h2)
    ⟨Nat.le_trans hS.1 (by rw [e1]; exact hz), fun q h1 h2 => by rw [e1, hk q (Nat.lt_of_lt_of_le h1 hS.1) (fun z => h2 (hA q (Nat.lt_of_lt_of_le h1 hS.1) z))]; exact hS.2.1 q h1 h2, fun q hq => by
      rcases List.mem_append.mp hq with h | h
      · exact hS.2.2 q h
      · exact hf _ (hL q h)⟩ T' rfl X'
  exact ⟨t2, st t2 a1, b1⟩
end JRUN
theorem j_blind {Z : ZT} {as : List Value} {X : JX} {W0 : va_W} {sz : Nat} (hX : jMv X) : FrameBlind (jPc Z as X W0 sz) := fun a U g mk q => by
  obtain ⟨q0, q1, qP, qK, qD, qN, qT, qX⟩ := q
  exact ⟨q0, q1, qP, va_K.moved (u := U) (U := U.calling g mk a) (Vm.Alike.refl U.vm) qK, qD, NW.same (s := U) (U := U.calling g mk a) rfl qN, qT.move (locs := []) (s := U) (U := U.calling g mk a) (Vm.Alike.refl U.vm) (fun _ _ _ => rfl) (fun _ h => h), hX _ _ U (U.calling g mk a) _ _ (Or.inl rfl) qX (fun _ _ _ => rfl) (fun _ h => h)⟩
section JV
variable {Z : ZT} {C : CX} {own : String} {cc : ByteArray} {nL fr lo kR nR : Nat} {ws ws' : va_W} {k n pc : Nat} {L L' : List (Nat × Value)} {st : List Value}
theorem uv_aload {i x : Nat} (O : uOk Z C own cc nL fr lo kR nR) (hd : decode cc pc = .ok (.aload i, 2)) (j : Nat) (hl : L[j]? = some (i, .ref x)) (kk : uV Z C ws k n (pc + 2) L (.ref x :: st)) : uV Z C ws k n pc L st := fun H locs ls hP hD hS h => lv_aload O.1 O.2.1 hd (lv_at h j hl) (kk H locs ls hP hD hS h)
theorem uv_iload {i : Nat} {x : Int32} (O : uOk Z C own cc nL fr lo kR nR) (hd : decode cc pc = .ok (.iload i, 2)) (j : Nat) (hl : L[j]? = some (i, .int x)) (kk : uV Z C ws k n (pc + 2) L (.int x :: st)) : uV Z C ws k n pc L st := fun H locs ls hP hD hS h => lv_iload O.1 O.2.1 hd (lv_at h j hl) (kk H locs ls hP hD hS h)
theorem uv_aload_nN {i : Fin 4} {i' : Nat} (O : uOk Z C own cc nL fr lo kR nR) (hd : decode cc pc = .ok (.aload_n i, 1)) (j : Nat) (hl : L[j]? = some (i', .null)) (hi : (i : Nat) = i') (kk : uV Z C ws k n (pc + 1) L (.null :: st)) : uV Z C ws k n pc L st := fun H locs ls hP hD hS h => lv_aload_nN O.1 O.2.1 hd hi (lv_at h j hl) (kk H locs ls hP hD hS h)
theorem uv_istore {i : Nat} {x : Int32} (O : uOk Z C own cc nL fr lo kR nR) (hd : decode cc pc = .ok (.istore i, 2)) (hn : i < nL) (M : List (Nat × Value)) (hl : (i, Value.int x) :: L.filter (fun q => !(q.1 == i) && !(q.1 + 1 == i && q.2.category == 2)) = M) (kk : uV Z C ws k n (pc + 2) M st) : uV Z C ws k n pc L (.int x :: st) := fun H locs ls hP hD hS h => lv_istore O.1 O.2.1 hd h (by rw [O.2.2.1]; exact hn) hl (fun ls' h' => kk H locs ls' hP hD hS h')
theorem uv_astore {i x : Nat} (O : uOk Z C own cc nL fr lo kR nR) (hd : decode cc pc = .ok (.astore i, 2)) (hn : i < nL) (M : List (Nat × Value)) (hl : (i, Value.ref x) :: L.filter (fun q => !(q.1 == i) && !(q.1 + 1 == i && q.2.category == 2)) = M) (kk : uV Z C ws k n (pc + 2) M st) : uV Z C ws k n pc L (.ref x :: st) := fun H locs ls hP hD hS h => lv_astore O.1 O.2.1 hd h (by rw [O.2.2.1]; exact hn) hl (fun ls' h' => kk H locs ls' hP hD hS h')
theorem uv_pop {v : Value} (O : uOk Z C own cc nL fr lo kR nR) (hd : decode cc pc = .ok (.pop, 1)) (hv : v.category = 1) (kk : uV Z C ws k n (pc + 1) L st) : uV Z C ws k n pc L (v :: st) := fun H locs ls hP hD hS h => lv_pop O.1 O.2.1 hd hv (kk H locs ls hP hD hS h)
theorem uv_dup_x1 {v w : Value} (O : uOk Z C own cc nL fr lo kR nR) (hd : decode cc pc = .ok (.dup_x1, 1)) (hv : v.category = 1) (hw : w.category = 1) (kk : uV Z C ws k n (pc + 1) L (v :: w :: v :: st)) : uV Z C ws k n pc L (v :: w :: st) := fun H locs ls hP hD hS h => lv_dup_x1 O.1 O.2.1 hd hv hw (kk H locs ls hP hD hS h)
theorem uv_null (O : uOk Z C own cc nL fr lo kR nR) (hd : decode cc pc = .ok (.aconst_null, 1)) (kk : uV Z C ws k n (pc + 1) L (.null :: st)) : uV Z C ws k n pc L st := fun H locs ls hP hD hS h => lv_null O.1 O.2.1 hd (kk H locs ls hP hD hS h)
theorem uv_ldc {index : Nat} {v : Int32} (O : uOk Z C own cc nL fr lo kR nR) (hd : decode cc pc = .ok (.ldc index, 2)) (hc : Cond.constant own index v ∈ uW) (kk : uV Z C ws k n (pc + 2) L (.int v :: st)) : uV Z C ws k n pc L st := fun H locs ls hP hD hS h => lv_ldc O.1 O.2.1 O.2.2.2.1 (O.2.2.2.2.1 _ hc) hd (kk H locs ls hP hD hS h)
theorem uv_isub {x y z : Int32} (O : uOk Z C own cc nL fr lo kR nR) (hd : decode cc pc = .ok (.isub, 1)) (hz : x - y = z) (kk : uV Z C ws k n (pc + 1) L (.int z :: st)) : uV Z C ws k n pc L (.int y :: .int x :: st) := fun H locs ls hP hD hS h => lv_isub O.1 O.2.1 hd (by rw [hz]; exact kk H locs ls hP hD hS h)
theorem uv_iaddE {x y z : Int32} (O : uOk Z C own cc nL fr lo kR nR) (hd : decode cc pc = .ok (.iadd, 1)) (hz : x + y = z) (kk : uV Z C ws k n (pc + 1) L (.int z :: st)) : uV Z C ws k n pc L (.int y :: .int x :: st) := fun H locs ls hP hD hS h => lv_iadd O.1 O.2.1 hd (by rw [hz]; exact kk H locs ls hP hD hS h)
theorem uv_imul {x y z : Int32} (O : uOk Z C own cc nL fr lo kR nR) (hd : decode cc pc = .ok (.imul, 1)) (hz : x * y = z) (kk : uV Z C ws k n (pc + 1) L (.int z :: st)) : uV Z C ws k n pc L (.int y :: .int x :: st) := fun H locs ls hP hD hS h => lv_imul O.1 O.2.1 hd (by rw [hz]; exact kk H locs ls hP hD hS h)
theorem uv_iand {x y z : Int32} (O : uOk Z C own cc nL fr lo kR nR) (hd : decode cc pc = .ok (.iand, 1)) (hz : x &&& y = z) (kk : uV Z C ws k n (pc + 1) L (.int z :: st)) : uV Z C ws k n pc L (.int y :: .int x :: st) := fun H locs ls hP hD hS h => lv_iand O.1 O.2.1 hd (by rw [hz]; exact kk H locs ls hP hD hS h)
theorem uv_ishl {x y z : Int32} (O : uOk Z C own cc nL fr lo kR nR) (hd : decode cc pc = .ok (.ishl, 1)) (hz : x <<< (y &&& 31) = z) (kk : uV Z C ws k n (pc + 1) L (.int z :: st)) : uV Z C ws k n pc L (.int y :: .int x :: st) := fun H locs ls hP hD hS h => lv_ishl O.1 O.2.1 hd (by rw [hz]; exact kk H locs ls hP hD hS h)
theorem uv_ishr {x y z : Int32} (O : uOk Z C own cc nL fr lo kR nR) (hd : decode cc pc = .ok (.ishr, 1)) (hz : x >>> (y &&& 31) = z) (kk : uV Z C ws k n (pc + 1) L (.int z :: st)) : uV Z C ws k n pc L (.int y :: .int x :: st) := fun H locs ls hP hD hS h => lv_ishr O.1 O.2.1 hd (by rw [hz]; exact kk H locs ls hP hD hS h)
theorem uv_i2c {x z : Int32} (O : uOk Z C own cc nL fr lo kR nR) (hd : decode cc pc = .ok (.i2c, 1)) (hz : (x.toUInt32 % 65536).toInt32 = z) (kk : uV Z C ws k n (pc + 1) L (.int z :: st)) : uV Z C ws k n pc L (.int x :: st) := fun H locs ls hP hD hS h => lv_i2c O.1 O.2.1 hd hz (kk H locs ls hP hD hS h)
theorem uv_i2b {x z : Int32} (O : uOk Z C own cc nL fr lo kR nR) (hd : decode cc pc = .ok (.i2b, 1)) (hz : x.toInt8.toInt32 = z) (kk : uV Z C ws k n (pc + 1) L (.int z :: st)) : uV Z C ws k n pc L (.int x :: st) := fun H locs ls hP hD hS h => lv_i2b O.1 O.2.1 hd hz (kk H locs ls hP hD hS h)
-- branches whose way is known: T goes, F goes on
theorem uv_eqT {x : Int32} {off : Int} (tgt : Nat) (O : uOk Z C own cc nL fr lo kR nR) (hd : decode cc pc = .ok (.ifCond .eq off, 3)) (ht : (pc : Int) + off = (tgt : Int)) (hx : x = 0) (kk : uV Z C ws k n tgt L st) : uV Z C ws k n pc L (.int x :: st) := fun H locs ls hP hD hS h => lv_if_eq O.1 O.2.1 hd ht (fun _ => kk H locs ls hP hD hS h) (fun q => absurd hx q)
theorem uv_eqF {x : Int32} {off : Int} (tgt : Nat) (O : uOk Z C own cc nL fr lo kR nR) (hd : decode cc pc = .ok (.ifCond .eq off, 3)) (ht : (pc : Int) + off = (tgt : Int)) (hx : ¬ x = 0) (kk : uV Z C ws k n (pc + 3) L st) : uV Z C ws k n pc L (.int x :: st) := fun H locs ls hP hD hS h => lv_if_eq O.1 O.2.1 hd ht (fun q => absurd q hx) (fun _ => kk H locs ls hP hD hS h)
theorem uv_neT {x : Int32} {off : Int} (tgt : Nat) (O : uOk Z C own cc nL fr lo kR nR) (hd : decode cc pc = .ok (.ifCond .ne off, 3)) (ht : (pc : Int) + off = (tgt : Int)) (hx : ¬ x = 0) (kk : uV Z C ws k n tgt L st) : uV Z C ws k n pc L (.int x :: st) := fun H locs ls hP hD hS h => lv_if_ne O.1 O.2.1 hd ht (fun _ => kk H locs ls hP hD hS h) (fun q => absurd q hx)
theorem uv_neF {x : Int32} {off : Int} (tgt : Nat) (O : uOk Z C own cc nL fr lo kR nR) (hd : decode cc pc = .ok (.ifCond .ne off, 3)) (ht : (pc : Int) + off = (tgt : Int)) (hx : x = 0) (kk : uV Z C ws k n (pc + 3) L st) : uV Z C ws k n pc L (.int x :: st) := fun H locs ls hP hD hS h => lv_if_ne O.1 O.2.1 hd ht (fun q => absurd hx q) (fun _ => kk H locs ls hP hD hS h)
theorem uv_if_le {x : Int32} {off : Int} (tgt : Nat) (O : uOk Z C own cc nL fr lo kR nR) (hd : decode cc pc = .ok (.ifCond .le off, 3)) (ht : (pc : Int) + off = (tgt : Int)) (kt : x ≤ 0 → uV Z C ws k n tgt L st) (kf : ¬ x ≤ 0 → uV Z C ws k n (pc + 3) L st) : uV Z C ws k n pc L (.int x :: st) := fun H locs ls hP hD hS h => lv_if_le O.1 O.2.1 hd ht (fun q => kt q H locs ls hP hD hS h) (fun q => kf q H locs ls hP hD hS h)
theorem uv_if_lt {x : Int32} {off : Int} (tgt : Nat) (O : uOk Z C own cc nL fr lo kR nR) (hd : decode cc pc = .ok (.ifCond .lt off, 3)) (ht : (pc : Int) + off = (tgt : Int)) (kt : x < 0 → uV Z C ws k n tgt L st) (kf : ¬ x < 0 → uV Z C ws k n (pc + 3) L st) : uV Z C ws k n pc L (.int x :: st) := fun H locs ls hP hD hS h => lv_if_lt O.1 O.2.1 hd ht (fun q => kt q H locs ls hP hD hS h) (fun q => kf q H locs ls hP hD hS h)
theorem uv_if_ge {x : Int32} {off : Int} (tgt : Nat) (O : uOk Z C own cc nL fr lo kR nR) (hd : decode cc pc = .ok (.ifCond .ge off, 3)) (ht : (pc : Int) + off = (tgt : Int)) (kt : 0 ≤ x → uV Z C ws k n tgt L st) (kf : ¬ 0 ≤ x → uV Z C ws k n (pc + 3) L st) : uV Z C ws k n pc L (.int x :: st) := fun H locs ls hP hD hS h => lv_if_ge O.1 O.2.1 hd ht (fun q => kt q H locs ls hP hD hS h) (fun q => kf q H locs ls hP hD hS h)
theorem uv_icmp_lt {x y : Int32} {off : Int} (tgt : Nat) (O : uOk Z C own cc nL fr lo kR nR) (hd : decode cc pc = .ok (.if_icmp .lt off, 3)) (ht : (pc : Int) + off = (tgt : Int)) (kt : x < y → uV Z C ws k n tgt L st) (kf : ¬ x < y → uV Z C ws k n (pc + 3) L st) : uV Z C ws k n pc L (.int y :: .int x :: st) := fun H locs ls hP hD hS h => lv_icmp_lt O.1 O.2.1 hd ht (fun q => kt q H locs ls hP hD hS h) (fun q => kf q H locs ls hP hD hS h)
theorem uv_icmp_gt {x y : Int32} {off : Int} (tgt : Nat) (O : uOk Z C own cc nL fr lo kR nR) (hd : decode cc pc = .ok (.if_icmp .gt off, 3)) (ht : (pc : Int) + off = (tgt : Int)) (kt : y < x → uV Z C ws k n tgt L st) (kf : ¬ y < x → uV Z C ws k n (pc + 3) L st) : uV Z C ws k n pc L (.int y :: .int x :: st) := fun H locs ls hP hD hS h => lv_icmp_gt O.1 O.2.1 hd ht (fun q => kt q H locs ls hP hD hS h) (fun q => kf q H locs ls hP hD hS h)
theorem uv_icmp_le {x y : Int32} {off : Int} (tgt : Nat) (O : uOk Z C own cc nL fr lo kR nR) (hd : decode cc pc = .ok (.if_icmp .le off, 3)) (ht : (pc : Int) + off = (tgt : Int)) (kt : x ≤ y → uV Z C ws k n tgt L st) (kf : ¬ x ≤ y → uV Z C ws k n (pc + 3) L st) : uV Z C ws k n pc L (.int y :: .int x :: st) := fun H locs ls hP hD hS h => lv_icmp_le O.1 O.2.1 hd ht (fun q => kt q H locs ls hP hD hS h) (fun q => kf q H locs ls hP hD hS h)
theorem uv_icmp_eq {x y : Int32} {off : Int} (tgt : Nat) (O : uOk Z C own cc nL fr lo kR nR) (hd : decode cc pc = .ok (.if_icmp .eq off, 3)) (ht : (pc : Int) + off = (tgt : Int)) (kt : x = y → uV Z C ws k n tgt L st) (kf : ¬ x = y → uV Z C ws k n (pc + 3) L st) : uV Z C ws k n pc L (.int y :: .int x :: st) := fun H locs ls hP hD hS h => lv_icmp_eq O.1 O.2.1 hd ht (fun q => kt q H locs ls hP hD hS h) (fun q => kf q H locs ls hP hD hS h)
theorem uv_nonnull {x : Nat} {off : Int} (tgt : Nat) (O : uOk Z C own cc nL fr lo kR nR) (hd : decode cc pc = .ok (.ifnonnull off, 3)) (ht : (pc : Int) + off = (tgt : Int)) (kk : uV Z C ws k n tgt L st) : uV Z C ws k n pc L (.ref x :: st) := fun H locs ls hP hD hS h => lv_ifnonnull O.1 O.2.1 hd ht (kk H locs ls hP hD hS h)
theorem uv_newb {v : Int32} {N : Nat} (O : uOk Z C own cc nL fr lo kR nR) (hd : decode cc pc = .ok (.newarray .byte, 2)) (harr : Cond.arrayClass (newarray.typeOf .byte) ∈ uW) (hv : v = nI N) (hN : N ≤ 600) (hk : k + 1 ≤ kR) (hn : n + N ≤ nR) (kk : ∀ q, uV Z C (ws ++ [(q, .inl (zc Z 0, (N, .inl (fun _ => 0))))]) (k + 1) (n + N) (pc + 2) L (.ref q :: st)) : uV Z C ws k n pc L (.int v :: st) := by
  intro H locs ls hP hD hS h
  obtain ⟨hx, hb, hml, hown, hts, hK, hA, hNw, r1, r2, r3, r4⟩ := O
  subst hv
  refine va_newa (atype := .byte) (ty := .byte) (N' := N) (a0 := (N, .inl (fun _ => 0))) hx hb (hts _ harr) rfl hK hP hD hS hA (fun cA => rfl) (nI_pos (by omega)) (zi_ix (by omega)) (by show N * 1 ≤ _; omega) (by omega) (by omega) hd (fun q cA H hK1 hP hD hS => ?_)
  have ec : cA = zc Z 0 := uc_same (t := 0) hK1 rfl
  subst ec
  exact kk q H locs ls hP hD hS h
theorem uv_bast {a N w : Nat} {f : Nat → Int32} {i x : Int32} (O : uOk Z C own cc nL fr lo kR nR) (hd : decode cc pc = .ok (.bastore, 1)) (q0 : Nat) (ha : ws[q0]? = some (a, .inl (zc Z 0, N, .inl f))) (hi : i = nI w) (hw : w < N) (hN : N ≤ 600) (kk : uV Z C (ws.set q0 (a, .inl (zc Z 0, N, .inl (upd f w x.toInt8.toInt32)))) k n (pc + 1) L st) : uV Z C ws k n pc L (.int x :: .int i :: .ref a :: st) := by
  intro H locs ls hP hD hS h
  obtain ⟨hx, hb, hml, hown, hts, hK, hA, hNw, r1, r2, r3, r4⟩ := O
  subst hi
  have hix : (nI w).toNatClampNeg = w := zi_ix (by omega)
  refine va_bast hx hb hK hP hD hS q0 0 ha rfl (i := nI w) ?_ hd (fun H1 locs1 hP hD hS => ?_)
  · rintro (q | q)
    · exact nI_pos (by omega) q
    · rw [hix] at q; omega
  · rw [hix, vp_nar_byte] at hP hD
    exact kk H1 locs1 ls hP hD hS h
/-- getfield of an object of the world, by the class's table -/
theorem uv_getJ {Cn : String} {T : u_T} {N index ci a : Nat} {fs : List Value} {v : Value} (O : uOk Z C own cc nL fr lo kR nR) (hd : decode cc pc = .ok (.getfield index, 3)) (q0 : Nat) (he : ws[q0]? = some (a, .inr (ci, fs))) (hc : vwCl[ci]? = some (Cn, T, N)) (hin : ∀ w ∈ u_ws Cn T N, w ∈ uW) (j : Nat) (hj : j < N) (hlink : Cond.fieldLink own index (T j).1 (T j).2.1 (T j).2.2.1 ∈ uW) (hv : fs[j]? = some v) (kk : uV Z C ws k n (pc + 3) L (v :: st)) : uV Z C ws k n pc L (.ref a :: st) := by
  intro H locs ls hP hD hS h
  obtain ⟨hx, hb, hml, hown, hts, hK, hA, hNw, r1, r2, r3, r4⟩ := O
  exact va_get hx hb (Ts := uW) hts hin hown hK hP q0 he hc j hj (hts _ hlink) (fun _ h9 => h9) hv hd (kk H locs ls hP hD hS h)
theorem uv_putJ {Cn : String} {T : u_T} {N index ci a : Nat} {fs : List Value} {v : Value} (O : uOk Z C own cc nL fr lo kR nR) (hd : decode cc pc = .ok (.putfield index, 3)) (q0 : Nat) (he : ws[q0]? = some (a, .inr (ci, fs))) (hc : vwCl[ci]? = some (Cn, T, N)) (hin : ∀ w ∈ u_ws Cn T N, w ∈ uW) (ty0 : Nat → FieldType) (hty : ∀ k, k < N → parseFieldDescriptor (T k).2.2.1 = some (ty0 k)) (hnm : ∀ a, a < N → ∀ b, b < N → a ≠ b → (T a).2.1 ≠ (T b).2.1) (j : Nat) (hj : j < N) (hlink : Cond.fieldLink own index (T j).1 (T j).2.1 (T j).2.2.1 ∈ uW) (hfin : (T j).2.2.2 = false) {ty : FieldType} (hpd : parseFieldDescriptor (T j).2.2.1 = some ty) (hnr : narrow ty v = v) (hfit : fits ty v = true) (hl : j < fs.length) (kk : uV Z C (ws.set q0 (a, .inr (ci, fs.set j v))) k n (pc + 3) L st) : uV Z C ws k n pc L (v :: .ref a :: st) := by
  intro H locs ls hP hD hS h
  obtain ⟨hx, hb, hml, hown, hts, hK, hA, hNw, r1, r2, r3, r4⟩ := O
  exact va_put hx hb hts hin ty0 hty hnm hown hK hP hD hS q0 he hc j hj (hts _ hlink) (fun _ h9 => h9) hfin hpd hnr hfit hl hd (fun H1 locs1 hP hD hS => kk H1 locs1 ls hP hD hS h)
theorem uv_compact {index : Nat} (O : jOk Z C own cc nL fr lo kR nR) (hd : decode cc pc = .ok (.getstatic index, 3)) (hlink : Cond.fieldLink own index "java/lang/String" "COMPACT_STRINGS" "Z" ∈ uW) (kk : uV Z C ws k n (pc + 3) L (.int (nI 1) :: st)) : uV Z C ws k n pc L st := fun H locs ls hP hD hS h => va_gets O.1.1 O.1.2.1 O.2.2.2.1 hS O.1.2.2.2.1 (O.1.2.2.2.2.1 _ hlink) (fun _ h9 => h9) hd (kk H locs ls hP hD hS h)
theorem uv_sioobe {index : Nat} (O : jOk Z C own cc nL fr lo kR nR) (hd : decode cc pc = .ok (.getstatic index, 3)) (hlink : Cond.fieldLink own index "jdk/internal/util/Preconditions" "SIOOBE_FORMATTER" "Ljava/util/function/BiFunction;" ∈ uW) (kk : ∀ v : Value, (v = .null ∨ ∃ t, v = .ref t) → uV Z C ws k n (pc + 3) L (v :: st)) : uV Z C ws k n pc L st := fun H locs ls hP hD hS h => by
  rcases O.2.2.2.2 with q | ⟨t, q⟩
  · exact va_gets O.1.1 O.1.2.1 q hS O.1.2.2.2.1 (O.1.2.2.2.2.1 _ hlink) (fun _ h9 => h9) hd (kk _ (Or.inl rfl) H locs ls hP hD hS h)
  · exact va_gets O.1.1 O.1.2.1 q hS O.1.2.2.2.1 (O.1.2.2.2.2.1 _ hlink) (fun _ h9 => h9) hd (kk _ (Or.inr ⟨t, rfl⟩) H locs ls hP hD hS h)
/-- a field of a text that is only read -/
theorem uv_getS {index q : Nat} {o nm d : String} {v : Value} (O : uOk Z C own cc nL fr lo kR nR) (hd : decode cc pc = .ok (.getfield index, 3)) (hE : va_OF o nm d v q (c_A C) (c_s C) (c_s C).heap) (hlink : Cond.fieldLink own index o nm d ∈ uW) (kk : uV Z C ws k n (pc + 3) L (v :: st)) : uV Z C ws k n pc L (.ref q :: st) := fun H locs ls hP hD hS h => vk_getf O.1 O.2.1 hE hS O.2.2.2.1 (O.2.2.2.2.1 _ hlink) (fun _ h9 => h9) hd (kk H locs ls hP hD hS h)
theorem uv_tlen {t N : Nat} {f : Nat → Value} (O : uOk Z C own cc nL fr lo kR nR) (hd : decode cc pc = .ok (.arraylength, 1)) (hT : va_T .byte t N f (c_A C) (c_s C) (c_s C).heap) (kk : uV Z C ws k n (pc + 1) L (.int (nI N) :: st)) : uV Z C ws k n pc L (.ref t :: st) := fun H locs ls hP hD hS h => va_tlen O.1 O.2.1 hT hS rfl hd (kk H locs ls hP hD hS h)
theorem uv_tb {t N w : Nat} {f : Nat → Int32} {i : Int32} (O : uOk Z C own cc nL fr lo kR nR) (hd : decode cc pc = .ok (.baload, 1)) (hT : va_T .byte t N (fun j => .int (f j)) (c_A C) (c_s C) (c_s C).heap) (hi : i = nI w) (hw : w < N) (hN : N ≤ 600) (kk : uV Z C ws k n (pc + 1) L (.int (f w) :: st)) : uV Z C ws k n pc L (.int i :: .ref t :: st) := fun H locs ls hP hD hS h => by
  subst hi
  have hix : (nI w).toNatClampNeg = w := zi_ix (by omega)
  refine va_tb O.1 O.2.1 hT hS (i := nI w) ?_ (v := .int (f w)) (by rw [hix]) hd (kk H locs ls hP hD hS h)
  rintro (q | q)
  · exact nI_pos (by omega) q
  · rw [hix] at q; omega
/-- a class's private method, on an object of a class under it -/
theorem j_selP {x y : MethodName} {s : State} {args : Array Value} {C0 : String} (hxy : x.cls = y.cls) (hy : y.cls ≠ "java/lang/invoke/MethodHandle" ∧ y.cls ≠ "java/lang/invoke/VarHandle") (hx : (Cond.selects C0 x x).before args s = true) (hpriv : (Cond.privateMethod y).before args s = true) (hinst : (Cond.instanceMethod y).before args s = true) : (Cond.selects C0 y y).before args s = true := by
  obtain ⟨mk, methM, hnamed, hmethM, -, -⟩ := Cond.instanceMethod_spec hinst
  have hfound : s.methodFound? y.cls y.name y.desc = some mk := State.methodFound?_of_named hnamed hy
  simp only [Cond.before, Cond.holds, Cond.value] at hx
  cases hc : s.vm.findClass C0 with
  | none => simp [hc] at hx
  | some c =>
    cases hfx : s.methodFound? x.cls x.name x.desc with
    | none => simp [hc, hfx] at hx
    | some r =>
      cases hnx : s.methodNamed? x with
      | none => simp [hc, hfx, hnx] at hx
      | some mx =>
        have hcls : mk.cls = mx.cls := Option.some.inj ((findClass_of_methodNamed hnamed).symm.trans (by rw [← hxy]; exact findClass_of_methodNamed hnx))
        have hsel : selectMethod {} s.vm c mk = .method mk := selectMethod_private hmethM (Cond.privateMethod_at hpriv mk methM hnamed hmethM)
        have hi : (s.vm.classes[mx.cls]?).any (fun k => !k.isInterface) = true := by
          simp only [hc, hfx, hnx] at hx
          revert hx
          cases selectMethod {} s.vm c r <;> simp
        simp only [Cond.before, Cond.holds, Cond.value, hc, hfound, hnamed, hsel, hcls, hi]
        simp
end JV
