abbrev Mem : Type := Nat → Nat → Int32
def mw (σ : Mem) (i k : Nat) (v : Int32) : Mem := fun a b => if a = i ∧ b = k then v else σ a b
def mcp (σ : Mem) (s sp d dp n : Nat) : Mem := fun a b => if a = d ∧ dp ≤ b ∧ b < dp + n then σ s (sp + (b - dp)) else σ a b
def NN : Nat := 383
def knT : Nat := 79643233777992158997105952096238014478635932015243232512068618200836260901650061188825095843755366806777297749895311818073581518809525120712725973947439280772049114458869711669530050307383244232485825078466132760542194552755734660786434574392149742486243709167590488871639306257001634014560153988077071065595829202197883404433198165845625007625128110270573260715963342494584603939781153784597957738453590029199621914578912035170770863989702713995513664163175759076899561486853833189125886866403344366026366413268772251823683088066528551459042663007594117092791374275412829431365832458358384364340427903147
def kn (i : Nat) : Nat := if i < 383 then knT / 2 ^ (5 * i) % 32 else 99
def lnT : Nat := 542045574762418884503418618945553790791827528859965714133379469366614415341876141875467698183750823322648907845827181535697886867090915387903509865596058065162609738839401444434007586341712374325088884091920889396440494038895383364651161113149740964655287400417446128672622881441509326229185023461305021741892908185523845821223018529972349357610711219077495038298650924274554508733391122082097738786084777736178406983852967428772977777963370068972476747739334237707582160452175361763065685285139435337795689165803396467737054393287028157194572527827857874281588968274119546078898465425860840709652150516253682213960862912232672584031841269690787554738805846184759005823832266115240261480614942802212159296891415905282830692884991975590786082898021512917014841521115518260140402653841873897622418492849714466002597558457885096510171084850690305516250109977696505379588324932525443731107016839385858499130656747988866058355223622796225940986337015961980654137517811628373225247227487676929508870417545037035869893512131821103655645767965915097314807358867187718618896673467918370086821561904052335790928277675482490875517713417956114045606560174260358788680224857965176911378967894773087578952917371535742730240
def ln (i : Nat) : Nat := lnT / 2 ^ (10 * i) % 1024
def fl (ci : Nat) : List (Option Nat) := match ci with
  | 0 => [some 1, none, some 2, some 3, some 4, none, some 5, some 7]
  | 1 => [some 1, none]
  | 2 => [none, none, none, some 1]
  | 3 => [none, some 1, some 2, some 3, some 4, some 5]
  | 4 => [some 1, none]
  | 5 => [some 1, none]
  | 6 => [some 1, some 3, some 4, none, some 5, none, none, none, none, none]
  | 7 => [none, none, some 1]
  | 8 => [some 1, some 3, some 5, none]
  | 9 => [none, none, some 1]
  | 10 => [none, some 1, none, none, none]
  | 11 => [some 1, some 3, some 172, none, some 341, some 348, some 350, some 356, some 359, some 365, some 366]
  | 12 => [some 1, some 2, none, some 3, none, some 4, none, none, none, some 5, some 6, some 7, some 8, none, none, some 9, some 10, none, none, some 11, none, some 12, some 13, some 14, some 15, some 16, some 17, some 18]
  | _ => []
def el (i j : Nat) : Nat := match kn i with
  | 22 => i + 135 + 6 * j
  | 23 => i + 67 + 2 * j
  | 24 => i + 2 + 2 * j
  | 25 => i + 9 + 2 * j
  | 26 => i + 8 + 3 * j
  | _ => i + 130 + 2 * j
abbrev vwCl : List vw_C := [(RX0, TX0, 8), (RX1, TX1, 2), (RX2, TX2, 4), (RX3, TX3, 6), (RX4, TX4, 2), (RX5, TX5, 2), (RX6, TX6, 10), (RX7, TX7, 3), (RX8, TX8, 4), (RX9, TX9, 3), (RX10, TX10, 5), (RX11, TX11, 11), (RJ0, TJ0, 4), (RJ4, TJ4, 4)]
theorem kn_lt {i c : Nat} (h : kn i = c) (hc : c < 99) : i < NN := by
  rcases Nat.lt_or_ge i NN with q | q
  · exact q
  · have : kn i = 99 := by
      unfold kn
      exact if_neg (Nat.not_lt.mpr q)
    omega
def fv (ad : Nat → Nat) (r : Nat → Int32) (id : Nat) : Nat → List (Option Nat) → List Value
  | _, [] => []
  | k, none :: t => .int (r k) :: fv ad r id (k + 1) t
  | k, some f :: t => .ref (ad (id + f)) :: fv ad r id (k + 1) t
theorem fv_len (ad : Nat → Nat) (r : Nat → Int32) (id : Nat) : ∀ (l : List (Option Nat)) (k : Nat), (fv ad r id k l).length = l.length
  | [], _ => rfl
  | none :: t, k => by simp [fv, fv_len ad r id t]
  | some f :: t, k => by simp [fv, fv_len ad r id t]
theorem fv_int (ad : Nat → Nat) (r : Nat → Int32) (id : Nat) : ∀ (l : List (Option Nat)) (k j : Nat), l[j]? = some none → (fv ad r id k l)[j]? = some (.int (r (k + j)))
  | [], _, _, h => by simp at h
  | none :: t, k, 0, h => by simp [fv]
  | some f :: t, k, 0, h => by simp at h
  | none :: t, k, j + 1, h => by
    simp only [fv, List.getElem?_cons_succ] at h ⊢
    rw [fv_int ad r id t (k + 1) j h]
    congr 3; omega
  | some f :: t, k, j + 1, h => by
    simp only [fv, List.getElem?_cons_succ] at h ⊢
    rw [fv_int ad r id t (k + 1) j h]
    congr 3; omega
theorem fv_ref (ad : Nat → Nat) (r : Nat → Int32) (id f : Nat) : ∀ (l : List (Option Nat)) (k j : Nat), l[j]? = some (some f) → (fv ad r id k l)[j]? = some (.ref (ad (id + f)))
  | [], _, _, h => by simp at h
  | none :: t, k, 0, h => by simp at h
  | some f :: t, k, 0, h => by simp at h; simp [fv, h]
  | none :: t, k, j + 1, h => by
    simp only [fv, List.getElem?_cons_succ] at h ⊢
    exact fv_ref ad r id f t (k + 1) j h
  | some f :: t, k, j + 1, h => by
    simp only [fv, List.getElem?_cons_succ] at h ⊢
    exact fv_ref ad r id _ t (k + 1) j h
theorem fv_congr (ad : Nat → Nat) (r r' : Nat → Int32) (id : Nat) : ∀ (l : List (Option Nat)) (k : Nat), (∀ j, k ≤ j → r' j = r j) → fv ad r' id k l = fv ad r id k l
  | [], _, _ => rfl
  | none :: t, k, h => by simp [fv, h k (Nat.le_refl _), fv_congr ad r r' id t (k + 1) (fun j hj => h j (by omega))]
  | some f :: t, k, h => by simp [fv, fv_congr ad r r' id t (k + 1) (fun j hj => h j (by omega))]
theorem fv_set (ad : Nat → Nat) (r r' : Nat → Int32) (id : Nat) (v : Int32) : ∀ (l : List (Option Nat)) (k j : Nat), l[j]? = some none → r' (k + j) = v → (∀ i, i ≠ k + j → r' i = r i) → (fv ad r id k l).set j (.int v) = fv ad r' id k l
  | [], _, _, h, _, _ => by simp at h
  | some f :: t, k, 0, h, _, _ => by simp at h
  | none :: t, k, 0, h, h1, h2 => by
    simp only [fv, List.set_cons_zero]
    rw [fv_congr ad r r' id t (k + 1) (fun j hj => h2 j (by omega))]
    rw [← h1]; rfl
  | none :: t, k, j + 1, h, h1, h2 => by
    simp only [fv, List.set_cons_succ]
    rw [fv_set ad r r' id v t (k + 1) j (by simpa using h) (by rw [← h1]; congr 1; omega) (fun i hi => h2 i (by omega)), h2 k (by omega)]
  | some f :: t, k, j + 1, h, h1, h2 => by
    simp only [fv, List.set_cons_succ]
    rw [fv_set ad r r' id v t (k + 1) j (by simpa using h) (by rw [← h1]; congr 1; omega) (fun i hi => h2 i (by omega))]
/-- the launch; classes' numbers and slots; array classes; addresses; where the table ABOVE lies; what else lies in the world -/
abbrev ZT : Type := Launch × va_G × (Nat → ClassId) × (Nat → Nat) × Nat × va_W
abbrev zl (Z : ZT) : Launch := Z.1
abbrev zD (Z : ZT) : va_G := Z.2.1
abbrev zc (Z : ZT) : Nat → ClassId := Z.2.2.1
abbrev za (Z : ZT) : Nat → Nat := Z.2.2.2.1
abbrev zt (Z : ZT) : Nat := Z.2.2.2.2.1
abbrev zEx (Z : ZT) : va_W := Z.2.2.2.2.2
abbrev zwx (Z : ZT) (E : va_W) : ZT := (Z.1, Z.2.1, Z.2.2.1, Z.2.2.2.1, Z.2.2.2.2.1, E)
def ent (Z : ZT) (σ : Mem) (i : Nat) : va_E :=
  if kn i < 13 then .inr (kn i, fv (za Z) (σ i) i 0 (fl (kn i)))
  else if kn i = 20 then .inl (zc Z 0, (ln i, .inl (σ i)))
  else if kn i = 21 then .inl (zc Z 1, (ln i, .inl (σ i)))
  else .inl (zc Z (kn i - 20), (ln i, .inr (.inr (.inr (.inr (fun j => some (za Z (el i j))))))))
def wlB (Z : ZT) (σ : Mem) : va_W := (List.range NN).map (fun i => (za Z i, ent Z σ i))
def wl (Z : ZT) (σ : Mem) : va_W := wlB Z σ ++ zEx Z
theorem wlB_len (Z : ZT) (σ : Mem) : (wlB Z σ).length = NN := by simp [wlB]
theorem wlB_at (Z : ZT) (σ : Mem) {i : Nat} (h : i < NN) : (wlB Z σ)[i]? = some (za Z i, ent Z σ i) := by
  unfold wlB
  rw [List.getElem?_map, List.getElem?_range h]
  rfl
abbrev utys (Z : ZT) : List (ClassId × FieldType) := [(zc Z 0, .byte), (zc Z 1, .int), (zc Z 2, .object "PhraseMoods$Frame"), (zc Z 3, .object "PhraseMoods$Letters"), (zc Z 4, .object "PhraseMoods$Sheet"), (zc Z 5, .object "PhraseMoods$Tray"), (zc Z 6, .object "PhraseMoods$Word"), (zc Z 7, .object "PhraseMoods$Letters")]
def PW (Z : ZT) (σ : Mem) (H : Heap) : Prop := va_P (zD Z) vwCl (wl Z σ) H ∧ ∀ i, kn i = 20 → ∀ j, fits .byte (.int (σ i j)) = true
theorem wl_at (Z : ZT) (σ : Mem) {i : Nat} (h : i < NN) : (wl Z σ)[i]? = some (za Z i, ent Z σ i) := by
  unfold wl
  rw [List.getElem?_append_left (by rw [wlB_len]; exact h)]
  exact wlB_at Z σ h
theorem wl_atE (Z : ZT) (σ : Mem) (i : Nat) : (wl Z σ)[NN + i]? = (zEx Z)[i]? := by
  unfold wl
  rw [List.getElem?_append_right (by rw [wlB_len]; omega), wlB_len, Nat.add_sub_cancel_left]
theorem wl_set (Z : ZT) (σ σ' : Mem) {i : Nat} {e : va_E} (he : e = ent Z σ' i) (h : ∀ j, j ≠ i → ent Z σ' j = ent Z σ j) (hi : i < NN := by first | assumption | exact kn_lt ‹_› (by omega)) : (wl Z σ).set i (za Z i, e) = wl Z σ' := by
  subst he
  apply List.ext_getElem?
  intro j
  rw [List.getElem?_set]
  by_cases hj : i = j
  · subst hj
    rw [wl_at Z σ' hi]
    simp [wl, wlB_len, Nat.lt_add_right _ hi]
  · rw [if_neg hj]
    by_cases hl : j < NN
    · rw [wl_at Z σ' hl, wl_at Z σ hl, h j (fun e => hj e.symm)]
    · rw [show j = NN + (j - NN) by omega, wl_atE, wl_atE]
theorem ent_row {Z : ZT} {σ σ' : Mem} {j : Nat} (h : σ' j = σ j) : ent Z σ' j = ent Z σ j := by
  unfold ent
  rw [h]
theorem mw_row {σ : Mem} {i k j : Nat} {v : Int32} (h : j ≠ i) : mw σ i k v j = σ j := by
  funext b
  simp [mw, h]
theorem mw_rowI {σ : Mem} {i k : Nat} {v : Int32} : mw σ i k v i = upd (σ i) k v := by
  funext b
  simp [mw, upd]
/-- the addresses are apart, and the law's or the method's own -/
def ZOk (Z : ZT) : Prop := (∀ i j, i < NN → j < NN → za Z i = za Z j → i = j) ∧ va_D (fun _ => True) (zEx Z) ∧ ∀ i, i < NN → ∀ (k : Nat) (q : Nat × va_E), (zEx Z)[k]? = some q → za Z i ≠ q.1
def PA (Z : ZT) : Nat → Prop := fun q => (∃ i, i < NN ∧ q = za Z i) ∨ ∃ (k : Nat) (e : Nat × va_E), (zEx Z)[k]? = some e ∧ q = e.1
theorem wl_D {Z : ZT} {A : Nat → Prop} (hz : ZOk Z) (hA : ∀ q, PA Z q → A q) (σ : Mem) : va_D A (wl Z σ) := by
  have key : ∀ (k : Nat) (q : Nat × va_E), (wl Z σ)[k]? = some q → (k < NN ∧ q.1 = za Z k) ∨ (NN ≤ k ∧ (zEx Z)[k - NN]? = some q) := by
    intro k q hk
    by_cases hl : k < NN
    · rw [wl_at Z σ hl] at hk
      exact Or.inl ⟨hl, by rw [← Option.some.inj hk]⟩
    · rw [show k = NN + (k - NN) by omega, wl_atE] at hk
      exact Or.inr ⟨by omega, hk⟩
  refine ⟨fun i j p q hi hj he => ?_, fun k q hk => ?_⟩
  · rcases key i p hi with ⟨h1, h2⟩ | ⟨h1, h2⟩ <;> rcases key j q hj with ⟨h3, h4⟩ | ⟨h3, h4⟩
    · exact hz.1 i j h1 h3 (by rw [← h2, ← h4, he])
    · exact absurd (by rw [← h2, he]) (hz.2.2 i h1 _ q h4)
    · exact absurd (by rw [← h4, he]) (hz.2.2 j h3 _ p h2)
    · have := hz.2.1.1 _ _ p q h2 h4 he
      omega
  · rcases key k q hk with ⟨h1, h2⟩ | ⟨h1, h2⟩
    · exact hA _ (Or.inl ⟨k, h1, h2⟩)
    · exact hA _ (Or.inr ⟨_, q, h2, rfl⟩)
theorem pa_in {Z : ZT} {i : Nat} (h : i < NN) : PA Z (za Z i) := Or.inl ⟨i, h, rfl⟩
def abv (j : Nat) : Int32 := match j with
  | 0 => -1
  | 1 => 0
  | 2 => 0
  | 3 => 1
  | 4 => 1
  | _ => 2
def ST (Z : ZT) (A : Nat → Prop) (U : State) (H : Heap) : Prop := va_Z "PhraseMoods$Word" "ABOVE" "[I" (.ref (zt Z)) A U H ∧ va_T .int (zt Z) 6 (fun j => .int (abv j)) A U H ∧ va_Z "java/lang/String" "COMPACT_STRINGS" "Z" (.int 1) A U H ∧ va_Zq "jdk/internal/util/Preconditions" "SIOOBE_FORMATTER" "Ljava/util/function/BiFunction;" A U H
def isNest (w : Cond) : Bool := match w with
  | .fieldLinkNest _ _ _ _ _ _ => true
  | .methodLinkNest _ _ _ _ => true
  | _ => false
def nW : List Cond := lw_tbl.filter isNest
theorem nw_in {w : Cond} (i : Nat) (h : lw_tbl[i]? = some w) (hg : isNest w = true) : w ∈ nW := List.mem_filter.mpr ⟨List.mem_of_getElem? h, hg⟩
theorem nest_warm {w : Cond} (hw : isNest w = true) {s U : State} (hW : s.WarmedH U.vm) (h : va_Nw w s) : va_Nw w U := by
  unfold isNest at hw
  split at hw
  · exact va_Nw.warmF hW h
  · exact va_Nw.warmM hW h
  · cases hw
theorem nest_on {w : Cond} (hw : isNest w = true) : w.onTables = true := by
  unfold isNest at hw
  split at hw
  · rfl
  · rfl
  · cases hw
def uAO : List String := [RX3, RX5, RX7, RX9, RX10]
/-- nest links, arrays of objects, the byte array's kind: what rides in a world -/
def NW (U : State) : Prop := (∀ w ∈ nW, va_Nw w U) ∧ (∀ C ∈ uAO, va_AO C U) ∧ va_Nw (.castable "[B" "java/lang/Cloneable") U
theorem NW.warm {s U : State} (hW : s.WarmedH U.vm) (h : NW s) : NW U := ⟨fun w hw => nest_warm (List.mem_filter.mp hw).2 hW (h.1 w hw), fun C hC => (h.2.1 C hC).moved hW.alike, va_Nw.warmC hW h.2.2⟩
theorem NW.same {s U : State} (hv : s.vm = U.vm) (h : NW s) : NW U := ⟨fun w hw => va_Nw.same (nest_on (List.mem_filter.mp hw).2) hv (h.1 w hw), fun C hC => (h.2.1 C hC).moved (by rw [hv]; exact Vm.Alike.refl U.vm), va_Nw.same rfl hv h.2.2⟩
theorem NW.use {w : Cond} {args : Array Value} {s : State} (h : NW s) (hw : w ∈ nW) : w.before args s = true := va_Nw.use (nest_on (List.mem_filter.mp hw).2) (h.1 w hw)
def BW (Z : ZT) (σ : Mem) (U : State) : Prop := PW Z σ U.heap ∧ va_K (zD Z) vwCl (utys Z) U ∧ ST Z (PA Z) U U.heap ∧ NW U
/-- what the law's start tells beside the tables: of a builder's private methods -/
def xsel : List Cond := [.selects RJ4 yJ5_ensureCapacityInternal_d00df yJ5_ensureCapacityInternal_d00df, .selects RJ4 yJ5_newCapacity_0f7a4 yJ5_newCapacity_0f7a4, .selects RJ4 yJ5_putStringAt_47b60 yJ5_putStringAt_47b60, .selects RJ4 yJ5_inflateIfNeededFor_a7421 yJ5_inflateIfNeededFor_a7421]
/-- the words that every method here is given -/
def uW : List Cond := (xsel ++ lw_tbl).filter goodWord
theorem uw_in {w : Cond} (i : Nat) (h : lw_tbl[i]? = some w) (hg : goodWord w = true) : w ∈ uW := List.mem_filter.mpr ⟨List.mem_append_right _ (List.mem_of_getElem? h), hg⟩
theorem ux_in {w : Cond} (h : w ∈ xsel) (hg : goodWord w = true) : w ∈ uW := List.mem_filter.mpr ⟨List.mem_append_left _ h, hg⟩
theorem uw_good {w : Cond} (h : w ∈ uW) : goodWord w = true := (List.mem_filter.mp h).2
/-- a method's end: what it answers, what it knows of that, the world -/
def Qm (ro : Option Value) (φ : Prop) (B : State → Prop) (A : Nat → Prop) : Array Value → State → Outcome → State → Prop := fun _ st oc t => (oc = .returned ro ∧ φ ∧ B t) ∧ va_F A st t
/-- the contract of a method: from σ with these arguments it answers ro and leaves σ' -/
def Ct (Z : ZT) (y : MethodName) (cc : ByteArray) (maxL : Nat) (ret : Option FieldType) (fr lo : Nat) (as : List Value) (σ : Mem) (ro : Option Value) (φ : Prop) (σ' : Mem) : Prop :=
  Met (zl Z) y (Cond.code y cc maxL ret :: uW) ({ frames := fr, cells := 0, slots := 0, locals := lo }) (va_Pc as (fun U => BW Z σ U)) (Qm ro φ (fun t => BW Z σ' t) (PA Z)) 0 0 (PA Z)
/-- where a walk stands: program, environment, room, start, method .. -/
abbrev CX : Type := Program × Env × Room × State × MethodId × Array Value × List Frame × Method × Code × Nat × Nat × (State → Prop) × (Nat → Prop)
abbrev c_p (C : CX) : Program := C.1
abbrev c_e (C : CX) : Env := C.2.1
abbrev c_R (C : CX) : Room := C.2.2.1
abbrev c_s (C : CX) : State := C.2.2.2.1
abbrev c_m (C : CX) : MethodId := C.2.2.2.2.1
abbrev c_a (C : CX) : Array Value := C.2.2.2.2.2.1
abbrev c_b (C : CX) : List Frame := C.2.2.2.2.2.2.1
abbrev c_h (C : CX) : Method := C.2.2.2.2.2.2.2.1
abbrev c_c (C : CX) : Code := C.2.2.2.2.2.2.2.2.1
abbrev c_k (C : CX) : Nat := C.2.2.2.2.2.2.2.2.2.1
abbrev c_n (C : CX) : Nat := C.2.2.2.2.2.2.2.2.2.2.1
abbrev c_Q (C : CX) : State → Prop := C.2.2.2.2.2.2.2.2.2.2.2.1
abbrev c_A (C : CX) : Nat → Prop := C.2.2.2.2.2.2.2.2.2.2.2.2
def WG (Z : ZT) (C : CX) (H : Heap) (locs : List Loc) (g : JFrame) : Prop := W (c_p C) (zl Z) (c_e C) (c_R C) (c_s C) (c_m C) (c_a C) (c_b C) (c_h C) (c_c C) H locs (c_k C) (c_n C) (c_Q C) g
/-- the walk's goal at a place: whatever heap holds σ, the run from here comes to its end -/
def G (Z : ZT) (C : CX) (σ : Mem) (pc : Nat) (L : List (Nat × Value)) (st : List Value) : Prop :=
  ∀ (H : Heap) (locs : List Loc) (ls : Array Slot), PW Z σ H → va_S (c_A C) (c_s C).heap H locs → lv_has ls (c_c C).maxLocals L → W (c_p C) (zl Z) (c_e C) (c_R C) (c_s C) (c_m C) (c_a C) (c_b C) (c_h C) (c_c C) H locs (c_k C) (c_n C) (c_Q C) (F0 (c_m C) pc ls st)
/-- what a walk may use: machine, code, class, words, tables, addresses, room -/
def Ok (Z : ZT) (C : CX) (own : String) (cc : ByteArray) (nL fr lo : Nat) : Prop :=
  (c_p C).tables.exec = Jvm.exec ∧ (c_c C).code = cc ∧ (c_c C).maxLocals = nL ∧ (c_s C).vm.findClass own = some (c_m C).cls ∧ (∀ w ∈ uW, w.before (c_a C) (c_s C) = true) ∧ va_K (zD Z) vwCl (utys Z) (c_s C) ∧ ST Z (c_A C) (c_s C) (c_s C).heap ∧ (∀ q, PA Z q → c_A C q) ∧ ZOk Z ∧ (fr ≤ (c_R C).frames ∧ lo ≤ (c_R C).locals ∧ c_k C ≤ (c_R C).cells ∧ c_n C ≤ (c_R C).slots ∧ NW (c_s C))

