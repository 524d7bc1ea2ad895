/-- what the tables say of the classes, at the start -/
theorem us_kn {s : State} {args : Array Value} (hts : ∀ w ∈ uW, w.before args s = true) : ∃ (dC : Nat → ClassId) (dI : Nat → Nat → Nat), ∀ (k : Nat) (q : vw_C), vwCl[k]? = some q → u_Kn s q.1 q.2.1 q.2.2 (dC k) (dI k) := by
  have key : ∀ k : Nat, ∃ (cC : ClassId) (iS : Nat → Nat), ∀ q : vw_C, vwCl[k]? = some q → u_Kn s q.1 q.2.1 q.2.2 cC iS := by
    intro k
    match k with
    | 0 =>
      obtain ⟨c, iS, h⟩ := u_known (C := RX0) (T := TX0) (N := 8) (n := 8) hts ux_0 (hts (.instantiable RX0 8) (uq_in (by decide +kernel) (by decide +kernel)))
      exact ⟨c, iS, fun q hq => by cases hq; exact h⟩
    | 1 =>
      obtain ⟨c, iS, h⟩ := u_known (C := RX1) (T := TX1) (N := 2) (n := 2) hts ux_1 (hts (.instantiable RX1 2) (uq_in (by decide +kernel) (by decide +kernel)))
      exact ⟨c, iS, fun q hq => by cases hq; exact h⟩
    | 2 =>
      obtain ⟨c, iS, h⟩ := u_known (C := RX2) (T := TX2) (N := 4) (n := 4) hts ux_2 (hts (.instantiable RX2 4) (uq_in (by decide +kernel) (by decide +kernel)))
      exact ⟨c, iS, fun q hq => by cases hq; exact h⟩
    | 3 =>
      obtain ⟨c, iS, h⟩ := u_known (C := RX3) (T := TX3) (N := 6) (n := 6) hts ux_3 (hts (.instantiable RX3 6) (uq_in (by decide +kernel) (by decide +kernel)))
      exact ⟨c, iS, fun q hq => by cases hq; exact h⟩
    | 4 =>
      obtain ⟨c, iS, h⟩ := u_known (C := RX4) (T := TX4) (N := 2) (n := 2) hts ux_4 (hts (.instantiable RX4 2) (uq_in (by decide +kernel) (by decide +kernel)))
      exact ⟨c, iS, fun q hq => by cases hq; exact h⟩
    | 5 =>
      obtain ⟨c, iS, h⟩ := u_known (C := RX5) (T := TX5) (N := 2) (n := 2) hts ux_5 (hts (.instantiable RX5 2) (uq_in (by decide +kernel) (by decide +kernel)))
      exact ⟨c, iS, fun q hq => by cases hq; exact h⟩
    | 6 =>
      obtain ⟨c, iS, h⟩ := u_known (C := RX6) (T := TX6) (N := 10) (n := 10) hts ux_6 (hts (.instantiable RX6 10) (uq_in (by decide +kernel) (by decide +kernel)))
      exact ⟨c, iS, fun q hq => by cases hq; exact h⟩
    | 7 =>
      obtain ⟨c, iS, h⟩ := u_known (C := RX7) (T := TX7) (N := 3) (n := 3) hts ux_7 (hts (.instantiable RX7 3) (uq_in (by decide +kernel) (by decide +kernel)))
      exact ⟨c, iS, fun q hq => by cases hq; exact h⟩
    | 8 =>
      obtain ⟨c, iS, h⟩ := u_known (C := RX8) (T := TX8) (N := 4) (n := 4) hts ux_8 (hts (.instantiable RX8 4) (uq_in (by decide +kernel) (by decide +kernel)))
      exact ⟨c, iS, fun q hq => by cases hq; exact h⟩
    | 9 =>
      obtain ⟨c, iS, h⟩ := u_known (C := RX9) (T := TX9) (N := 3) (n := 3) hts ux_9 (hts (.instantiable RX9 3) (uq_in (by decide +kernel) (by decide +kernel)))
      exact ⟨c, iS, fun q hq => by cases hq; exact h⟩
    | 10 =>
      obtain ⟨c, iS, h⟩ := u_known (C := RX10) (T := TX10) (N := 5) (n := 5) hts ux_10 (hts (.instantiable RX10 5) (uq_in (by decide +kernel) (by decide +kernel)))
      exact ⟨c, iS, fun q hq => by cases hq; exact h⟩
    | 11 =>
      obtain ⟨c, iS, h⟩ := u_known (C := RX11) (T := TX11) (N := 11) (n := 11) hts ux_11 (hts (.instantiable RX11 11) (uq_in (by decide +kernel) (by decide +kernel)))
      exact ⟨c, iS, fun q hq => by cases hq; exact h⟩
    | 12 =>
      obtain ⟨c, iS, h⟩ := u_known (C := RJ0) (T := TJ0) (N := 4) (n := 4) hts uxJ0 (hts (.instantiable RJ0 4) (uq_in (by decide +kernel) (by decide +kernel)))
      exact ⟨c, iS, fun q hq => by cases hq; exact h⟩
    | 13 =>
      obtain ⟨c, iS, h⟩ := u_known (C := RJ4) (T := TJ4) (N := 4) (n := 4) hts uxJ4 (hts (.instantiable RJ4 4) (uq_in (by decide +kernel) (by decide +kernel)))
      exact ⟨c, iS, fun q hq => by cases hq; exact h⟩
    | k + 14 => exact ⟨0, fun _ => 0, fun q hq => by simp [vwCl] at hq⟩
  exact ⟨fun k => (key k).choose, fun k => (key k).choose_spec.choose, fun k => (key k).choose_spec.choose_spec⟩
theorem us_ref {s : State} {C : String} (h : va_AO C s) : ∃ cA : ClassId, ArrOfT s cA (.object C) ∧ va_RA s cA (.object C) := by
  obtain ⟨comp, c, k, h1, h2, h3, h4, h5⟩ := Cond.arrayOver_spec (va_AO.use (A := #[]) h)
  exact ⟨c, fun N z => ⟨(fun k h => by cases h), k, h3, comp, h4⟩, k, comp, h3, h4, h1, h5⟩
theorem us_byte {s : State} {args : Array Value} (h : (Cond.arrayClass .byte).before args s = true) : ∃ cA : ClassId, ArrOfT s cA .byte ∧ va_RA s cA .byte := by
  obtain ⟨c, k, comp, h1, h2, h3⟩ := Cond.arrayClass_spec h
  exact ⟨c, fun N z => ⟨(fun k h => by cases h), k, h2, comp, h3⟩, h1⟩
theorem us_int {s : State} {args : Array Value} (h : (Cond.arrayClass .int).before args s = true) : ∃ cA : ClassId, ArrOfT s cA .int ∧ va_RA s cA .int := by
  obtain ⟨c, k, comp, h1, h2, h3⟩ := Cond.arrayClass_spec h
  exact ⟨c, fun N z => ⟨(fun k h => by cases h), k, h2, comp, h3⟩, h1⟩
theorem us_un {s : State} {args : Array Value} (hts : ∀ w ∈ lw_tbl, w.before args s = true) : NW s := by
  refine ⟨fun w hw => va_tabs (nest_on (List.mem_filter.mp hw).2) rfl (hts w (List.mem_filter.mp hw).1), fun C hC => ?_, va_Nw.of rfl (hts (.castable "[B" "java/lang/Cloneable") (by decide +kernel))⟩
  have h1 : ∀ C ∈ uAO, Cond.arrayOver (.object C) ∈ lw_tbl := by decide +kernel
  exact va_AO.of (hts _ (h1 C hC))
/-- the words that stand in the tables, and four of private methods above -/
theorem us_tu {s : State} {args : Array Value} (hts : ∀ w ∈ lw_tbl, w.before args s = true) : ∀ w ∈ uW, w.before args s = true := by
  intro w hw
  rcases List.mem_append.mp (List.mem_filter.mp hw).1 with h | h
  rotate_left
  · exact hts w h
  have hx := hts (.selects RJ4 yJ5_isLatin1_aae02 yJ5_isLatin1_aae02) (by decide +kernel)
  simp only [xsel, List.mem_cons, List.not_mem_nil, or_false] at h
  rcases h with rfl | rfl | rfl | rfl
  · exact j_selP (x := yJ5_isLatin1_aae02) rfl ⟨by decide +kernel, by decide +kernel⟩ hx (hts _ (by decide +kernel)) (hts _ (by decide +kernel))
  · exact j_selP (x := yJ5_isLatin1_aae02) rfl ⟨by decide +kernel, by decide +kernel⟩ hx (hts _ (by decide +kernel)) (hts _ (by decide +kernel))
  · exact j_selP (x := yJ5_isLatin1_aae02) rfl ⟨by decide +kernel, by decide +kernel⟩ hx (hts _ (by decide +kernel)) (hts _ (by decide +kernel))
  · exact j_selP (x := yJ5_isLatin1_aae02) rfl ⟨by decide +kernel, by decide +kernel⟩ hx (hts _ (by decide +kernel)) (hts _ (by decide +kernel))
theorem us_K {s : State} {args : Array Value} (l : Launch) (q : Nat → Nat) (t : Nat) (E : va_W) (hts : ∀ w ∈ lw_tbl, w.before args s = true) : ∃ (D : va_G) (cs : Nat → ClassId), va_K D vwCl (utys (l, D, cs, q, t, E)) s := by
  have htu := us_tu hts
  obtain ⟨dC, dI, hkn⟩ := us_kn htu
  have hun := us_un hts
  obtain ⟨c0, a0, b0⟩ := us_byte (hts (.arrayClass .byte) (by decide +kernel))
  obtain ⟨c1, a1, b1⟩ := us_int (hts (.arrayClass .int) (by decide +kernel))
  obtain ⟨c2, a2, b2⟩ := us_ref (hun.2.1 RX3 (by decide +kernel))
  obtain ⟨c3, a3, b3⟩ := us_ref (hun.2.1 RX5 (by decide +kernel))
  obtain ⟨c4, a4, b4⟩ := us_ref (hun.2.1 RX7 (by decide +kernel))
  obtain ⟨c5, a5, b5⟩ := us_ref (hun.2.1 RX9 (by decide +kernel))
  obtain ⟨c6, a6, b6⟩ := us_ref (hun.2.1 RX10 (by decide +kernel))
  refine ⟨(dC, dI), uF [c0, c1, c2, c3, c4, c5, c6, c3], hkn, fun k q hq => ?_⟩
  match k, hq with
  | 0, hq => cases hq; exact ⟨a0, b0⟩
  | 1, hq => cases hq; exact ⟨a1, b1⟩
  | 2, hq => cases hq; exact ⟨a2, b2⟩
  | 3, hq => cases hq; exact ⟨a3, b3⟩
  | 4, hq => cases hq; exact ⟨a4, b4⟩
  | 5, hq => cases hq; exact ⟨a5, b5⟩
  | 6, hq => cases hq; exact ⟨a6, b6⟩
  | 7, hq => cases hq; exact ⟨a3, b3⟩
  | k + 8, hq => simp [utys] at hq
/-- the table ABOVE, as the start has it -/
theorem us_ST {s : State} {args : Array Value} {A : Nat → Prop} (hts : ∀ w ∈ lw_tbl, w.before args s = true) (hgv : (Jvm.Cond.and given_1 narrow_1).before args s = true) (hA : ∀ a : Nat, a < s.heap.size → ¬ A a) : ∃ t : Nat, va_Z "PhraseMoods$Word" "ABOVE" "[I" (.ref t) A s s.heap ∧ va_T .int t 6 (fun j => .int (abv j)) A s s.heap := by
  have hs := flat_of_before _ hgv
  have e : ∀ j : Nat, j < 6 → (Term.elem (.static "PhraseMoods$Word" "ABOVE" "[I") (.int (Int32.ofNat j))).eval args s none [] s = some (.int (abv j)) := by
    intro j hj
    rcases (show j = 0 ∨ j = 1 ∨ j = 2 ∨ j = 3 ∨ j = 4 ∨ j = 5 by omega) with rfl | rfl | rfl | rfl | rfl | rfl
    · exact va_eqt (hs (.eq (.elem (.static "PhraseMoods$Word" "ABOVE" "[I") (.int 0)) (.int (-1))) (by decide +kernel))
    · exact va_eqt (hs (.eq (.elem (.static "PhraseMoods$Word" "ABOVE" "[I") (.int 1)) (.int 0)) (by decide +kernel))
    · exact va_eqt (hs (.eq (.elem (.static "PhraseMoods$Word" "ABOVE" "[I") (.int 2)) (.int 0)) (by decide +kernel))
    · exact va_eqt (hs (.eq (.elem (.static "PhraseMoods$Word" "ABOVE" "[I") (.int 3)) (.int 1)) (by decide +kernel))
    · exact va_eqt (hs (.eq (.elem (.static "PhraseMoods$Word" "ABOVE" "[I") (.int 4)) (.int 1)) (by decide +kernel))
    · exact va_eqt (hs (.eq (.elem (.static "PhraseMoods$Word" "ABOVE" "[I") (.int 5)) (.int 2)) (by decide +kernel))
  have hl : (Term.length (.static "PhraseMoods$Word" "ABOVE" "[I")).eval args s none [] s = some (.int (Int32.ofNat 6)) := va_eqt (hs (.eq (.length (.static "PhraseMoods$Word" "ABOVE" "[I")) (.int 6)) (by decide +kernel))
  obtain ⟨t, h1, h2⟩ := va_Tof (tm := .static "PhraseMoods$Word" "ABOVE" "[I") (ty := .int) (N := 6) (f := fun j => .int (abv j)) (A := A) (by decide) (hs (.arrayOf (.static "PhraseMoods$Word" "ABOVE" "[I") .int) (by decide +kernel)) hl e hA
  exact ⟨t, va_Zof (hts (.laysStatic "PhraseMoods$Word" "ABOVE" "[I") (by decide +kernel)) (hts (.initialized "PhraseMoods$Word") (by decide +kernel)) h1 hA, h2⟩

/-- what else the start says of statics -/
theorem us_S2 {s : State} {args : Array Value} {A : Nat → Prop} (hts : ∀ w ∈ lw_tbl, w.before args s = true) (hgv : (Jvm.Cond.and given_1 narrow_1).before args s = true) (hA : ∀ a : Nat, a < s.heap.size → ¬ A a) : va_Z "java/lang/String" "COMPACT_STRINGS" "Z" (.int 1) A s s.heap ∧ va_Zq "jdk/internal/util/Preconditions" "SIOOBE_FORMATTER" "Ljava/util/function/BiFunction;" A s s.heap := by
  have hs := flat_of_before _ hgv
  exact ⟨va_Zof (hts (.laysStatic "java/lang/String" "COMPACT_STRINGS" "Z") (by decide +kernel)) (hts (.initialized "java/lang/String") (by decide +kernel)) (va_eqt (hs (.eq (.static "java/lang/String" "COMPACT_STRINGS" "Z") (.int 1)) (by decide +kernel))) hA,
    va_Zqof (hts (.laysStatic "jdk/internal/util/Preconditions" "SIOOBE_FORMATTER" "Ljava/util/function/BiFunction;") (by decide +kernel)) (hts (.initialized "jdk/internal/util/Preconditions") (by decide +kernel)) (hs (.isRef (.static "jdk/internal/util/Preconditions" "SIOOBE_FORMATTER" "Ljava/util/function/BiFunction;")) (by decide +kernel)) hA⟩
/-- the law's constants of text -/
def ycL : Nat → List Nat
  | 0 => []
  | 1 => yal
  | 2 => yfl
  | 3 => yco
  | 4 => yck
  | _ => ycx
def ycI : Nat → Nat
  | 0 => 25
  | 1 => 34
  | 2 => 66
  | 3 => 112
  | 4 => 117
  | _ => 119
def ycT (i : Nat) : Term := .string "PhraseMoodsLaw" (ycI i)
def ycN : List Nat := [0, 8, 13, 1, 2, 3]
def ycB : List (List Int32) := [[], yal.map zsg, yfl.map zsg, yco.map zsg, yck.map zsg, ycx.map zsg]
theorem ycB_e (l : List Nat) (j : Nat) : (l.map zsg).getD j 0 = zsg (l.getD j 0) := by
  have z : zsg 0 = 0 := by decide +kernel
  rw [List.getD_eq_getElem?_getD, List.getD_eq_getElem?_getD, List.getElem?_map]
  cases l[j]? with
  | none => exact z.symm
  | some b => rfl
theorem us_str {s : State} {args : Array Value} {A : Nat → Prop} (hts : ∀ w ∈ lw_tbl, w.before args s = true) (hgv : (Jvm.Cond.and given_1 narrow_1).before args s = true) (hA : ∀ a : Nat, a < s.heap.size → ¬ A a) : ∃ K V : Nat → Nat, ∀ i, i < 6 → jS (K i) (V i) (ycN.getD i 0) (fun k => zsg ((ycL i).getD k 0)) A s s.heap ∧ (ycT i).eval args s none [] s = some (.ref (K i)) := by
  have hs := flat_of_before _ hgv
  obtain ⟨K, V, h1, h2⟩ := vk_Sof (args := args) (s := s) (N := 6) (tm := ycT) (len := ycN) (byt := ycB) (A := A)
    (fun i hi => Nat.lt_of_lt_of_le ((by decide +kernel : ∀ i : Fin 6, ycN.getD i.1 0 < 100) ⟨i, hi⟩) (by decide))
    (fun i hi => hs _ ((by decide +kernel : ∀ i : Fin 6, (Cond.exactly (ycT i.1) "java/lang/String") ∈ flatC (Jvm.Cond.and given_1 narrow_1)) ⟨i, hi⟩))
    (fun i hi => hs _ ((by decide +kernel : ∀ i : Fin 6, (Cond.eq (.field (ycT i.1) "java/lang/String" "coder" "B") (.int 0)) ∈ flatC (Jvm.Cond.and given_1 narrow_1)) ⟨i, hi⟩))
    (fun i hi => hs _ ((by decide +kernel : ∀ i : Fin 6, (Cond.arrayOf (.field (ycT i.1) "java/lang/String" "value" "[B") .byte) ∈ flatC (Jvm.Cond.and given_1 narrow_1)) ⟨i, hi⟩))
    (fun i hi => hs _ ((by decide +kernel : ∀ i : Fin 6, (Cond.eq (.length (.field (ycT i.1) "java/lang/String" "value" "[B")) (.int (Int32.ofNat (ycN.getD i.1 0)))) ∈ flatC (Jvm.Cond.and given_1 narrow_1)) ⟨i, hi⟩))
    (fun i hi j hj => hs _ ((by decide +kernel : ∀ (i : Fin 6) (j : Fin 13), j.1 < ycN.getD i.1 0 → (Cond.eq (.elem (.field (ycT i.1) "java/lang/String" "value" "[B") (.int (Int32.ofNat j.1))) (.int ((ycB.getD i.1 []).getD j.1 0))) ∈ flatC (Jvm.Cond.and given_1 narrow_1)) ⟨i, hi⟩ ⟨j, Nat.lt_of_lt_of_le hj ((by decide +kernel : ∀ i : Fin 6, ycN.getD i.1 0 ≤ 13) ⟨i, hi⟩)⟩ hj))
    (fun i j hi hj hij => ((by decide +kernel : ∀ i j : Fin 6, i.1 ≠ j.1 → (Cond.not (Cond.eq (ycT i.1) (ycT j.1))) ∈ flatC (Jvm.Cond.and given_1 narrow_1) ∨ (Cond.not (Cond.eq (ycT j.1) (ycT i.1))) ∈ flatC (Jvm.Cond.and given_1 narrow_1)) ⟨i, hi⟩ ⟨j, hj⟩ hij).imp (hs _) (hs _)) hA
  refine ⟨K, V, fun i hi => ⟨?_, h2 i hi⟩⟩
  have e : (fun k => zsg ((ycL i).getD k 0)) = fun j => (ycB.getD i []).getD j 0 := by
    funext k
    rcases (show i = 0 ∨ i = 1 ∨ i = 2 ∨ i = 3 ∨ i = 4 ∨ i = 5 by omega) with rfl | rfl | rfl | rfl | rfl | rfl
    · exact (ycB_e [] k).symm
    · exact (ycB_e yal k).symm
    · exact (ycB_e yfl k).symm
    · exact (ycB_e yco k).symm
    · exact (ycB_e yck k).symm
    · exact (ycB_e ycx k).symm
  rw [e]
  exact h1.1 i hi
