theorem zz_ldcwF {p : Program} {l : Launch} {e : Env} {R : Room} {s : State} {m : MethodId} {args : Array Value} {below : List Frame} {meth : Method} {c : Code} {locs : List Loc} {cells slots : Nat} {T : State} (X : Stand p l e R s m args below meth c T locs cells slots) (hexec : p.tables.exec = Jvm.exec) {own : String} {index : Nat} {v : UInt32} (hown : s.vm.findClass own = some m.cls)
    (hconst : (Cond.constantFloat own index v).before args s = true) {g : JFrame} (hg : g.method = m) (hdg : decode c.code g.pc = .ok (.ldc_w index, 3)) :
    ∀ target, Steps p.tables e below (T.setTop { g with pc := g.pc + 3, stack := .float v :: g.stack }) target → Steps p.tables e below (T.setTop g) target := by
  obtain ⟨k, cf, hk, hcf, hcp⟩ := Cond.constantFloat_spec hown hconst
  obtain ⟨k', hk', he⟩ := X.warmed.alike.2.2 _ _ hk
  intro target hrest
  subst hg
  jvm_step X.here [hexec, hdg, ldc_w.wp_float (s := T) (f := g) X.here.top hk' (by rw [he]; exact hcf) hcp]
  exact hrest
theorem inb_lt {i : Int32} {n : Nat} (h : inb i n = true) : ix i < n := by
  have := inb_in h
  unfold vp_in at this
  simp only [not_or, Nat.not_le] at this
  exact this.2
def ocs {β : Type} (q : Option Nat) (a : Option β) (b : Nat → Option β) : Option β := match q with
  | none => a
  | some w => b w
theorem k_ocs {β : Type} {K : Option β → Prop} {q : Option Nat} {a : Option β} {b : Nat → Option β} {g : Prop} (hf : K (ocs q a b)) (hn : q = none → K a → g) (hs : ∀ w, q = some w → K (b w) → g) : g := by
  cases q with
  | none => exact hn rfl hf
  | some w => exact hs w rfl hf
section R3
variable {Z : ZT} {C : CX} {own : String} {cc : ByteArray} {nL fr lo : Nat} {σ : Mem} {pc : Nat} {L : List (Nat × Value)} {st : List Value}
theorem g_idivC {x y : Int32} (O : Ok Z C own cc nL fr lo) (hne : ¬ y = 0) (hd : decode cc pc = .ok (.idiv, 1)) (kk : G Z C σ (pc + 1) L (.int (x / y) :: st)) : G Z C σ pc L (.int y :: .int x :: st) := fun H locs ls hP hS h => lv_idiv O.1 O.2.1 hd hne (kk H locs ls hP hS h)
theorem g_iremC {x y : Int32} (O : Ok Z C own cc nL fr lo) (hne : ¬ y = 0) (hd : decode cc pc = .ok (.irem, 1)) (kk : G Z C σ (pc + 1) L (.int (irm x y) :: st)) : G Z C σ pc L (.int y :: .int x :: st) := fun H locs ls hP hS h => lv_irem O.1 O.2.1 hd hne (kk H locs ls hP hS h)
theorem g_ldcf_w {index : Nat} {v : UInt32} (O : Ok Z C own cc nL fr lo) (hd : decode cc pc = .ok (.ldc_w index, 3)) (hc : Cond.constantFloat own index v ∈ uW) (kk : G Z C σ (pc + 3) L (.float v :: st)) : G Z C σ pc L st := by
  intro H locs ls hP hS h T hT X
  obtain ⟨t, a, b⟩ := kk H locs ls hP hS h T hT X
  exact ⟨t, zz_ldcwF X O.1 O.2.2.2.1 (O.2.2.2.2.1 _ hc) (g := F0 (c_m C) pc ls st) rfl (by rw [O.2.1]; exact hd) t a, b⟩
end R3
theorem kf_0_0 {i : Nat} (h : kn i = 0) : kn (i + 1) = 26 := (by decide +kernel : ∀ i, i < 383 → kn i = 0 → kn (i + 1) = 26) i (kn_lt h (by decide)) h
theorem kf_0_2 {i : Nat} (h : kn i = 0) : kn (i + 2) = 23 := (by decide +kernel : ∀ i, i < 383 → kn i = 0 → kn (i + 2) = 23) i (kn_lt h (by decide)) h
theorem kf_0_3 {i : Nat} (h : kn i = 0) : kn (i + 3) = 27 := (by decide +kernel : ∀ i, i < 383 → kn i = 0 → kn (i + 3) = 27) i (kn_lt h (by decide)) h
theorem kf_0_4 {i : Nat} (h : kn i = 0) : kn (i + 4) = 22 := (by decide +kernel : ∀ i, i < 383 → kn i = 0 → kn (i + 4) = 22) i (kn_lt h (by decide)) h
theorem kf_0_6 {i : Nat} (h : kn i = 0) : kn (i + 5) = 5 := (by decide +kernel : ∀ i, i < 383 → kn i = 0 → kn (i + 5) = 5) i (kn_lt h (by decide)) h
theorem kf_0_7 {i : Nat} (h : kn i = 0) : kn (i + 7) = 2 := (by decide +kernel : ∀ i, i < 383 → kn i = 0 → kn (i + 7) = 2) i (kn_lt h (by decide)) h
theorem kf_1_0 {i : Nat} (h : kn i = 1) : kn (i + 1) = 2 := (by decide +kernel : ∀ i, i < 383 → kn i = 1 → kn (i + 1) = 2) i (kn_lt h (by decide)) h
theorem kf_2_3 {i : Nat} (h : kn i = 2) : kn (i + 1) = 21 := (by decide +kernel : ∀ i, i < 383 → kn i = 2 → kn (i + 1) = 21) i (kn_lt h (by decide)) h
theorem kf_3_1 {i : Nat} (h : kn i = 3) : kn (i + 1) = 21 := (by decide +kernel : ∀ i, i < 383 → kn i = 3 → kn (i + 1) = 21) i (kn_lt h (by decide)) h
theorem kf_3_2 {i : Nat} (h : kn i = 3) : kn (i + 2) = 21 := (by decide +kernel : ∀ i, i < 383 → kn i = 3 → kn (i + 2) = 21) i (kn_lt h (by decide)) h
theorem kf_3_3 {i : Nat} (h : kn i = 3) : kn (i + 3) = 21 := (by decide +kernel : ∀ i, i < 383 → kn i = 3 → kn (i + 3) = 21) i (kn_lt h (by decide)) h
theorem kf_3_4 {i : Nat} (h : kn i = 3) : kn (i + 4) = 21 := (by decide +kernel : ∀ i, i < 383 → kn i = 3 → kn (i + 4) = 21) i (kn_lt h (by decide)) h
theorem kf_3_5 {i : Nat} (h : kn i = 3) : kn (i + 5) = 21 := (by decide +kernel : ∀ i, i < 383 → kn i = 3 → kn (i + 5) = 21) i (kn_lt h (by decide)) h
theorem kf_4_0 {i : Nat} (h : kn i = 4) : kn (i + 1) = 3 := (by decide +kernel : ∀ i, i < 383 → kn i = 4 → kn (i + 1) = 3) i (kn_lt h (by decide)) h
theorem kf_5_0 {i : Nat} (h : kn i = 5) : kn (i + 1) = 20 := (by decide +kernel : ∀ i, i < 383 → kn i = 5 → kn (i + 1) = 20) i (kn_lt h (by decide)) h
theorem kf_6_0 {i : Nat} (h : kn i = 6) : kn (i + 1) = 5 := (by decide +kernel : ∀ i, i < 383 → kn i = 6 → kn (i + 1) = 5) i (kn_lt h (by decide)) h
theorem kf_6_1 {i : Nat} (h : kn i = 6) : kn (i + 3) = 21 := (by decide +kernel : ∀ i, i < 383 → kn i = 6 → kn (i + 3) = 21) i (kn_lt h (by decide)) h
theorem kf_6_2 {i : Nat} (h : kn i = 6) : kn (i + 4) = 21 := (by decide +kernel : ∀ i, i < 383 → kn i = 6 → kn (i + 4) = 21) i (kn_lt h (by decide)) h
theorem kf_6_4 {i : Nat} (h : kn i = 6) : kn (i + 5) = 21 := (by decide +kernel : ∀ i, i < 383 → kn i = 6 → kn (i + 5) = 21) i (kn_lt h (by decide)) h
theorem kf_7_2 {i : Nat} (h : kn i = 7) : kn (i + 1) = 21 := (by decide +kernel : ∀ i, i < 383 → kn i = 7 → kn (i + 1) = 21) i (kn_lt h (by decide)) h
theorem kf_8_0 {i : Nat} (h : kn i = 8) : kn (i + 1) = 5 := (by decide +kernel : ∀ i, i < 383 → kn i = 8 → kn (i + 1) = 5) i (kn_lt h (by decide)) h
theorem kf_8_1 {i : Nat} (h : kn i = 8) : kn (i + 3) = 5 := (by decide +kernel : ∀ i, i < 383 → kn i = 8 → kn (i + 3) = 5) i (kn_lt h (by decide)) h
theorem kf_8_2 {i : Nat} (h : kn i = 8) : kn (i + 5) = 21 := (by decide +kernel : ∀ i, i < 383 → kn i = 8 → kn (i + 5) = 21) i (kn_lt h (by decide)) h
theorem kf_9_2 {i : Nat} (h : kn i = 9) : kn (i + 1) = 21 := (by decide +kernel : ∀ i, i < 383 → kn i = 9 → kn (i + 1) = 21) i (kn_lt h (by decide)) h
theorem kf_10_1 {i : Nat} (h : kn i = 10) : kn (i + 1) = 5 := (by decide +kernel : ∀ i, i < 383 → kn i = 10 → kn (i + 1) = 5) i (kn_lt h (by decide)) h
theorem kf_11_0 {i : Nat} (h : kn i = 11) : kn (i + 1) = 5 := (by decide +kernel : ∀ i, i < 383 → kn i = 11 → kn (i + 1) = 5) i (kn_lt h (by decide)) h
theorem kf_11_1 {i : Nat} (h : kn i = 11) : kn (i + 3) = 0 := (by decide +kernel : ∀ i, i < 383 → kn i = 11 → kn (i + 3) = 0) i (kn_lt h (by decide)) h
theorem kf_11_2 {i : Nat} (h : kn i = 11) : kn (i + 172) = 0 := (by decide +kernel : ∀ i, i < 383 → kn i = 11 → kn (i + 172) = 0) i (kn_lt h (by decide)) h
theorem kf_11_4 {i : Nat} (h : kn i = 11) : kn (i + 341) = 4 := (by decide +kernel : ∀ i, i < 383 → kn i = 11 → kn (i + 341) = 4) i (kn_lt h (by decide)) h
theorem kf_11_5 {i : Nat} (h : kn i = 11) : kn (i + 348) = 5 := (by decide +kernel : ∀ i, i < 383 → kn i = 11 → kn (i + 348) = 5) i (kn_lt h (by decide)) h
theorem kf_11_6 {i : Nat} (h : kn i = 11) : kn (i + 350) = 8 := (by decide +kernel : ∀ i, i < 383 → kn i = 11 → kn (i + 350) = 8) i (kn_lt h (by decide)) h
theorem kf_11_7 {i : Nat} (h : kn i = 11) : kn (i + 356) = 1 := (by decide +kernel : ∀ i, i < 383 → kn i = 11 → kn (i + 356) = 1) i (kn_lt h (by decide)) h
theorem kf_11_8 {i : Nat} (h : kn i = 11) : kn (i + 359) = 6 := (by decide +kernel : ∀ i, i < 383 → kn i = 11 → kn (i + 359) = 6) i (kn_lt h (by decide)) h
theorem kf_11_9 {i : Nat} (h : kn i = 11) : kn (i + 365) = 24 := (by decide +kernel : ∀ i, i < 383 → kn i = 11 → kn (i + 365) = 24) i (kn_lt h (by decide)) h
theorem kf_11_10 {i : Nat} (h : kn i = 11) : kn (i + 366) = 25 := (by decide +kernel : ∀ i, i < 383 → kn i = 11 → kn (i + 366) = 25) i (kn_lt h (by decide)) h
theorem kf_12_0 {i : Nat} (h : kn i = 12) : kn (i + 1) = 21 := (by decide +kernel : ∀ i, i < 383 → kn i = 12 → kn (i + 1) = 21) i (kn_lt h (by decide)) h
theorem kf_12_1 {i : Nat} (h : kn i = 12) : kn (i + 2) = 21 := (by decide +kernel : ∀ i, i < 383 → kn i = 12 → kn (i + 2) = 21) i (kn_lt h (by decide)) h
theorem kf_12_3 {i : Nat} (h : kn i = 12) : kn (i + 3) = 21 := (by decide +kernel : ∀ i, i < 383 → kn i = 12 → kn (i + 3) = 21) i (kn_lt h (by decide)) h
theorem kf_12_5 {i : Nat} (h : kn i = 12) : kn (i + 4) = 21 := (by decide +kernel : ∀ i, i < 383 → kn i = 12 → kn (i + 4) = 21) i (kn_lt h (by decide)) h
theorem kf_12_9 {i : Nat} (h : kn i = 12) : kn (i + 5) = 21 := (by decide +kernel : ∀ i, i < 383 → kn i = 12 → kn (i + 5) = 21) i (kn_lt h (by decide)) h
theorem kf_12_10 {i : Nat} (h : kn i = 12) : kn (i + 6) = 21 := (by decide +kernel : ∀ i, i < 383 → kn i = 12 → kn (i + 6) = 21) i (kn_lt h (by decide)) h
theorem kf_12_11 {i : Nat} (h : kn i = 12) : kn (i + 7) = 21 := (by decide +kernel : ∀ i, i < 383 → kn i = 12 → kn (i + 7) = 21) i (kn_lt h (by decide)) h
theorem kf_12_12 {i : Nat} (h : kn i = 12) : kn (i + 8) = 21 := (by decide +kernel : ∀ i, i < 383 → kn i = 12 → kn (i + 8) = 21) i (kn_lt h (by decide)) h
theorem kf_12_15 {i : Nat} (h : kn i = 12) : kn (i + 9) = 21 := (by decide +kernel : ∀ i, i < 383 → kn i = 12 → kn (i + 9) = 21) i (kn_lt h (by decide)) h
theorem kf_12_16 {i : Nat} (h : kn i = 12) : kn (i + 10) = 21 := (by decide +kernel : ∀ i, i < 383 → kn i = 12 → kn (i + 10) = 21) i (kn_lt h (by decide)) h
theorem kf_12_19 {i : Nat} (h : kn i = 12) : kn (i + 11) = 21 := (by decide +kernel : ∀ i, i < 383 → kn i = 12 → kn (i + 11) = 21) i (kn_lt h (by decide)) h
theorem kf_12_21 {i : Nat} (h : kn i = 12) : kn (i + 12) = 21 := (by decide +kernel : ∀ i, i < 383 → kn i = 12 → kn (i + 12) = 21) i (kn_lt h (by decide)) h
theorem kf_12_22 {i : Nat} (h : kn i = 12) : kn (i + 13) = 21 := (by decide +kernel : ∀ i, i < 383 → kn i = 12 → kn (i + 13) = 21) i (kn_lt h (by decide)) h
theorem kf_12_23 {i : Nat} (h : kn i = 12) : kn (i + 14) = 21 := (by decide +kernel : ∀ i, i < 383 → kn i = 12 → kn (i + 14) = 21) i (kn_lt h (by decide)) h
theorem kf_12_24 {i : Nat} (h : kn i = 12) : kn (i + 15) = 21 := (by decide +kernel : ∀ i, i < 383 → kn i = 12 → kn (i + 15) = 21) i (kn_lt h (by decide)) h
theorem kf_12_25 {i : Nat} (h : kn i = 12) : kn (i + 16) = 21 := (by decide +kernel : ∀ i, i < 383 → kn i = 12 → kn (i + 16) = 21) i (kn_lt h (by decide)) h
theorem kf_12_26 {i : Nat} (h : kn i = 12) : kn (i + 17) = 21 := (by decide +kernel : ∀ i, i < 383 → kn i = 12 → kn (i + 17) = 21) i (kn_lt h (by decide)) h
theorem kf_12_27 {i : Nat} (h : kn i = 12) : kn (i + 18) = 21 := (by decide +kernel : ∀ i, i < 383 → kn i = 12 → kn (i + 18) = 21) i (kn_lt h (by decide)) h
theorem el_22 {i : Nat} (h : kn i = 22) (j : Nat) : el i j = i + 135 + 6 * j := by
  unfold el
  rw [h]
  rfl
theorem ke_22 {i j : Nat} (h : kn i = 22) (hj : j < ln i) : kn (i + 135 + 6 * j) = 3 := (by decide +kernel : ∀ i, i < 383 → kn i = 22 → ∀ j, j < ln i → kn (i + 135 + 6 * j) = 3) i (kn_lt h (by decide)) h j hj
theorem el_23 {i : Nat} (h : kn i = 23) (j : Nat) : el i j = i + 67 + 2 * j := by
  unfold el
  rw [h]
  rfl
theorem ke_23 {i j : Nat} (h : kn i = 23) (hj : j < ln i) : kn (i + 67 + 2 * j) = 5 := (by decide +kernel : ∀ i, i < 383 → kn i = 23 → ∀ j, j < ln i → kn (i + 67 + 2 * j) = 5) i (kn_lt h (by decide)) h j hj
theorem el_24 {i : Nat} (h : kn i = 24) (j : Nat) : el i j = i + 2 + 2 * j := by
  unfold el
  rw [h]
  rfl
theorem ke_24 {i j : Nat} (h : kn i = 24) (hj : j < ln i) : kn (i + 2 + 2 * j) = 7 := (by decide +kernel : ∀ i, i < 383 → kn i = 24 → ∀ j, j < ln i → kn (i + 2 + 2 * j) = 7) i (kn_lt h (by decide)) h j hj
theorem el_25 {i : Nat} (h : kn i = 25) (j : Nat) : el i j = i + 9 + 2 * j := by
  unfold el
  rw [h]
  rfl
theorem ke_25 {i j : Nat} (h : kn i = 25) (hj : j < ln i) : kn (i + 9 + 2 * j) = 9 := (by decide +kernel : ∀ i, i < 383 → kn i = 25 → ∀ j, j < ln i → kn (i + 9 + 2 * j) = 9) i (kn_lt h (by decide)) h j hj
theorem el_26 {i : Nat} (h : kn i = 26) (j : Nat) : el i j = i + 8 + 3 * j := by
  unfold el
  rw [h]
  rfl
theorem ke_26 {i j : Nat} (h : kn i = 26) (hj : j < ln i) : kn (i + 8 + 3 * j) = 10 := (by decide +kernel : ∀ i, i < 383 → kn i = 26 → ∀ j, j < ln i → kn (i + 8 + 3 * j) = 10) i (kn_lt h (by decide)) h j hj
theorem el_27 {i : Nat} (h : kn i = 27) (j : Nat) : el i j = i + 130 + 2 * j := by
  unfold el
  rw [h]
  rfl
theorem ke_27 {i j : Nat} (h : kn i = 27) (hj : j < ln i) : kn (i + 130 + 2 * j) = 5 := (by decide +kernel : ∀ i, i < 383 → kn i = 27 → ∀ j, j < ln i → kn (i + 130 + 2 * j) = 5) i (kn_lt h (by decide)) h j hj
