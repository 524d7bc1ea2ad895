def zW {α : Type} (o : Option α) (Q : α → Prop) : Prop := ∃ x, o = some x ∧ Q x
theorem zW_some {α : Type} {x : α} {Q : α → Prop} : zW (some x) Q ↔ Q x := ⟨fun ⟨y, e, h⟩ => by cases e; exact h, fun h => ⟨x, rfl, h⟩⟩
theorem zW_eq {α : Type} {o : Option α} {x : α} {Q : α → Prop} (e : o = some x) (h : Q x) : zW o Q := ⟨x, e, h⟩
theorem zW_obd {α β : Type} {o : Option α} {k : α → Option β} {P : α → Prop} {Q : β → Prop} (h : zW o P) (hk : ∀ x, P x → zW (k x) Q) : zW (obd o k) Q := by
  obtain ⟨x, e, hx⟩ := h
  rw [e]
  exact hk x hx
theorem zW_obdE {α β : Type} {o : Option α} {k : α → Option β} {Q : β → Prop} (x : α) (h : o = some x) (hk : zW (k x) Q) : zW (obd o k) Q := by
  rw [h]
  exact hk
theorem zW_mono {α : Type} {o : Option α} {P Q : α → Prop} (h : zW o P) (hk : ∀ x, P x → Q x) : zW o Q := by
  obtain ⟨x, e, hx⟩ := h
  exact ⟨x, e, hk x hx⟩
theorem zW_oR {α β : Type} {o : Option β} {Q : α ⊕ β → Prop} (h : zW o (fun b => Q (.inr b))) : zW (oR o) Q := by
  obtain ⟨x, e, hx⟩ := h
  rw [e]
  exact ⟨.inr x, rfl, hx⟩
theorem zW_oL {α β : Type} {a : α} {Q : α ⊕ β → Prop} (h : Q (.inl a)) : zW (oL a) Q := ⟨.inl a, rfl, h⟩
def zS {α β : Type} (I : α → Prop) (Q : β → Prop) : α ⊕ β → Prop := fun r => match r with
  | .inl a => I a
  | .inr b => Q b
/-- a loop that counts: I j at its j-th turn, it ends at N at the latest -/
theorem zW_lp {α β : Type} {step : α → Option (α ⊕ β)} {Q : β → Prop} (I : Nat → α → Prop) (N : Nat)
    (hs : ∀ j a, j ≤ N → I j a → zW (step a) (zS (fun a' => j < N ∧ I (j + 1) a') Q)) {n : Nat} (hn : N < n) {a : α} (h0 : I 0 a) : zW (lp step n a) Q := by
  have key : ∀ (d j : Nat) (n : Nat) (a : α), N - j = d → j ≤ N → N - j < n → I j a → zW (lp step n a) Q := by
    intro d
    induction d with
    | zero =>
      intro j n a hd hj hn ha
      obtain ⟨r, e, hr⟩ := hs j a hj ha
      unfold lp
      rw [dif_neg (by omega), e]
      cases r with
      | inl a' => exact absurd hr.1 (by omega)
      | inr b => exact ⟨b, rfl, hr⟩
    | succ d ih =>
      intro j n a hd hj hn ha
      obtain ⟨r, e, hr⟩ := hs j a hj ha
      unfold lp
      rw [dif_neg (by omega), e]
      cases r with
      | inl a' => exact ih (j + 1) (n - 1) a' (by omega) hr.1 (by omega) hr.2
      | inr b => exact ⟨b, rfl, hr⟩
  exact key _ 0 n a rfl (Nat.zero_le _) (by omega) h0
/-- a loop with a measure -/
theorem zW_lpm {α β : Type} {step : α → Option (α ⊕ β)} {Q : β → Prop} (I : α → Prop) (μ : α → Nat)
    (hs : ∀ a, I a → zW (step a) (zS (fun a' => I a' ∧ μ a' < μ a) Q)) {n : Nat} {a : α} (hn : μ a < n) (h0 : I a) : zW (lp step n a) Q := by
  induction n generalizing a with
  | zero => exact absurd hn (by omega)
  | succ n ih =>
    obtain ⟨r, e, hr⟩ := hs a h0
    unfold lp
    rw [dif_neg (by omega), e]
    cases r with
    | inl a' => exact ih (by have := hr.2; omega) hr.1
    | inr b => exact ⟨b, rfl, hr⟩
theorem zE_obd {α β : Type} (x : α) (k : α → Option β) : obd (some x) k = k x := rfl
theorem zE_bnd {α β : Type} (e : α) (k : α → Option β) : bnd e k = k e := rfl
theorem zE_grd {β : Type} (k : Option β) : grd true k = k := rfl
theorem zE_ocsn {β : Type} (a : Option β) (b : Nat → Option β) : ocs none a b = a := rfl
theorem zE_ocss {β : Type} (w : Nat) (a : Option β) (b : Nat → Option β) : ocs (some w) a b = b w := rfl
theorem zE_oR {α β : Type} (b : β) : (oR (some b) : Option (α ⊕ β)) = some (.inr b) := rfl
theorem zE_oL {α β : Type} (a : α) : (oL a : Option (α ⊕ β)) = some (.inl a) := rfl
theorem zS_inl {α β : Type} {I : α → Prop} {Q : β → Prop} {a : α} : zS I Q (.inl a) = I a := rfl
theorem zS_inr {α β : Type} {I : α → Prop} {Q : β → Prop} {b : β} : zS I Q (.inr b) = Q b := rfl
theorem zE : (∀ (α β : Type) (x : α) (k : α → Option β), obd (some x) k = k x) ∧ (∀ (α β : Type) (e : α) (k : α → Option β), bnd e k = k e) ∧ (∀ (β : Type) (k : Option β), grd true k = k)
    ∧ (∀ (β : Type) (a : Option β) (b : Nat → Option β), ocs none a b = a) ∧ (∀ (β : Type) (w : Nat) (a : Option β) (b : Nat → Option β), ocs (some w) a b = b w)
    ∧ (∀ (α β : Type) (b : β), (oR (some b) : Option (α ⊕ β)) = some (.inr b)) ∧ (∀ (α β : Type) (a : α), (oL a : Option (α ⊕ β)) = some (.inl a)) :=
  ⟨fun _ _ => zE_obd, fun _ _ => zE_bnd, fun _ => zE_grd, fun _ => zE_ocsn, fun _ => zE_ocss, fun _ _ => zE_oR, fun _ _ => zE_oL⟩
theorem zLT : (0 : Int32) = nI 0 ∧ (1 : Int32) = nI 1 ∧ (2 : Int32) = nI 2 ∧ (3 : Int32) = nI 3 ∧ (4 : Int32) = nI 4 ∧ (5 : Int32) = nI 5 ∧ (6 : Int32) = nI 6 ∧ (7 : Int32) = nI 7 ∧ (8 : Int32) = nI 8 ∧ (9 : Int32) = nI 9 ∧ (10 : Int32) = nI 10 ∧ (11 : Int32) = nI 11 ∧ (12 : Int32) = nI 12 ∧ (13 : Int32) = nI 13 ∧ (14 : Int32) = nI 14 ∧ (16 : Int32) = nI 16 ∧ (20 : Int32) = nI 20 ∧ (23 : Int32) = nI 23 ∧ (24 : Int32) = nI 24 ∧ (25 : Int32) = nI 25 ∧ (32 : Int32) = nI 32 ∧ (40 : Int32) = nI 40 ∧ (48 : Int32) = nI 48 ∧ (50 : Int32) = nI 50 ∧ (95 : Int32) = nI 95 ∧ (96 : Int32) = nI 96 ∧ (97 : Int32) = nI 97 ∧ (99 : Int32) = nI 99 ∧ (100 : Int32) = nI 100 ∧ (101 : Int32) = nI 101 ∧ (102 : Int32) = nI 102 ∧ (105 : Int32) = nI 105 ∧ (110 : Int32) = nI 110 ∧ (111 : Int32) = nI 111 ∧ (112 : Int32) = nI 112 ∧ (117 : Int32) = nI 117 ∧ (118 : Int32) = nI 118 ∧ (122 : Int32) = nI 122 ∧ (150 : Int32) = nI 150 ∧ (214 : Int32) = nI 214 ∧ (255 : Int32) = nI 255 ∧ (342 : Int32) = nI 342 ∧ (467 : Int32) = nI 467 ∧ (517 : Int32) = nI 517 ∧ (1000000 : Int32) = nI 1000000 := by
  refine ⟨?_, ?_, ?_, ?_, ?_, ?_, ?_, ?_, ?_, ?_, ?_, ?_, ?_, ?_, ?_, ?_, ?_, ?_, ?_, ?_, ?_, ?_, ?_, ?_, ?_, ?_, ?_, ?_, ?_, ?_, ?_, ?_, ?_, ?_, ?_, ?_, ?_, ?_, ?_, ?_, ?_, ?_, ?_, ?_, ?_⟩ <;> rfl
theorem zi_sub {a b : Nat} (h : b ≤ a) : nI a - nI b = nI (a - b) := pk_sub h
theorem zi_subn {a b : Nat} (h : b ≤ a) : nI a + -nI b = nI (a - b) := by
  rw [← pk_sub h]
  exact Int32.sub_eq_add_neg _ _ |>.symm
theorem zi_rem {a d : Nat} (ha : a < 2 ^ 31) (h0 : 0 < d) (hd : d < 2 ^ 31) : irm (nI a) (nI d) = nI (a % d) := pk_rem ha h0 hd
theorem zi_inb {a n : Nat} (h : a < n) (hn : n ≤ 2 ^ 31) : inb (nI a) n = true := by
  unfold inb
  have h1 : a < 2 ^ 31 := by omega
  rw [nI_clamp h1]
  simp only [decide_eq_true_eq, not_or]
  exact ⟨nI_pos h1, by omega⟩
theorem zi_ix {a : Nat} (h : a < 2 ^ 31) : ix (nI a) = a := nI_clamp h
theorem zi_min {a b : Nat} (ha : a < 2 ^ 31) (hb : b < 2 ^ 31) : imn (nI a) (nI b) = nI (min a b) := by
  unfold imn
  simp only [nI_ltI hb ha]
  split
  · rw [Nat.min_eq_right (by omega)]
  · rw [Nat.min_eq_left (by omega)]
theorem zi_max {a b : Nat} (ha : a < 2 ^ 31) (hb : b < 2 ^ 31) : imx (nI a) (nI b) = nI (max a b) := by
  unfold imx
  simp only [nI_ltI ha hb]
  split
  · rw [Nat.max_eq_right (by omega)]
  · rw [Nat.max_eq_left (by omega)]
theorem zi_maxn {k a : Nat} (hk : 0 < k) (hk2 : k < 2 ^ 31) (ha : a < 2 ^ 31) : imx (-nI k) (nI a) = nI a ∧ imx (nI a) (-nI k) = nI a := by
  have e : (-nI k).toInt = -(k : Int) := sb_negT hk2
  have e2 : (nI a).toInt = (a : Int) := nI_toInt ha
  constructor
  · unfold imx
    rw [if_pos]
    rw [Int32.lt_iff_toInt_lt, e, e2]; omega
  · unfold imx
    rw [if_neg]
    rw [Int32.lt_iff_toInt_lt, e, e2]; omega
theorem zi_maxn1 {k a : Nat} (hk : 0 < k) (hk2 : k < 2 ^ 31) (ha : a < 2 ^ 31) : imx (-nI k) (nI a) = nI a := (zi_maxn hk hk2 ha).1
theorem zi_maxn2 {k a : Nat} (hk : 0 < k) (hk2 : k < 2 ^ 31) (ha : a < 2 ^ 31) : imx (nI a) (-nI k) = nI a := (zi_maxn hk hk2 ha).2
theorem zi_cpk {a b c m n : Nat} (h1 : a + c ≤ m) (h2 : b + c ≤ n) (hm : m < 2 ^ 31) (hn : n < 2 ^ 31) : cpk (nI a) (nI b) (nI c) m n = true := by
  unfold cpk
  rw [decide_eq_true_eq]
  have ha : a < 2 ^ 31 := by omega
  have hb : b < 2 ^ 31 := by omega
  have hc : c < 2 ^ 31 := by omega
  refine ⟨nI_pos ha, nI_pos hb, nI_pos hc, ?_, ?_⟩
  · rw [zi_ix ha, zi_ix hc]; exact h1
  · rw [zi_ix hb, zi_ix hc]; exact h2
theorem zi_eqn {a k : Nat} (ha : a < 2 ^ 31) (h0 : 0 < k) (hk : k < 2 ^ 31) : (nI a = -nI k) = False := by
  rw [eq_iff_iff, iff_false, ← Int32.toInt_inj, sb_negT hk, nI_toInt ha]
  omega
theorem zi_neq {a k : Nat} (ha : a < 2 ^ 31) (h0 : 0 < k) (hk : k < 2 ^ 31) : (-nI k = nI a) = False := by
  rw [eq_iff_iff, iff_false, ← Int32.toInt_inj, sb_negT hk, nI_toInt ha]
  omega
theorem zi_nlt {a k : Nat} (ha : a < 2 ^ 31) (h0 : 0 < k) (hk : k < 2 ^ 31) : (-nI k < nI a) = True := by
  rw [eq_iff_iff, iff_true, Int32.lt_iff_toInt_lt, sb_negT hk, nI_toInt ha]
  omega
theorem zi_nle {a k : Nat} (ha : a < 2 ^ 31) (h0 : 0 < k) (hk : k < 2 ^ 31) : (-nI k ≤ nI a) = True := by
  rw [eq_iff_iff, iff_true, Int32.le_iff_toInt_le, sb_negT hk, nI_toInt ha]
  omega
theorem zi_ltn {a k : Nat} (ha : a < 2 ^ 31) (h0 : 0 < k) (hk : k < 2 ^ 31) : (nI a < -nI k) = False := by
  rw [eq_iff_iff, iff_false, Int32.lt_iff_toInt_lt, sb_negT hk, nI_toInt ha]
  omega
theorem zi_len {a k : Nat} (ha : a < 2 ^ 31) (h0 : 0 < k) (hk : k < 2 ^ 31) : (nI a ≤ -nI k) = False := by
  rw [eq_iff_iff, iff_false, Int32.le_iff_toInt_le, sb_negT hk, nI_toInt ha]
  omega
theorem zi_nn {a k : Nat} (ha : a < 2 ^ 31) (hk : k < 2 ^ 31) : (-nI a = -nI k) = (a = k) := by
  rw [eq_iff_iff, ← Int32.toInt_inj, sb_negT hk, sb_negT ha]
  omega
theorem zi_lt {a b : Nat} (ha : a < 2 ^ 31) (hb : b < 2 ^ 31) : (nI a < nI b) = (a < b) := by rw [nI_ltI ha hb]
theorem zi_le {a b : Nat} (ha : a < 2 ^ 31) (hb : b < 2 ^ 31) : (nI a ≤ nI b) = (a ≤ b) := by rw [nI_leI ha hb]
theorem zi_eq {a b : Nat} (ha : a < 2 ^ 31) (hb : b < 2 ^ 31) : (nI a = nI b) = (a = b) := by rw [nI_eq ha hb]
theorem zi_div {a d : Nat} (ha : a < 2 ^ 31) (h0 : 0 < d) (hd : d < 2 ^ 31) : nI a / nI d = nI (a / d) := pk_div ha h0 hd
theorem zm_eq {σ : Mem} {i k : Nat} {v : Int32} {a b : Nat} (h1 : a = i) (h2 : b = k) : mw σ i k v a b = v := by
  unfold mw
  rw [if_pos ⟨h1, h2⟩]
theorem zm_ne {σ : Mem} {i k : Nat} {v : Int32} {a b : Nat} (h : a = i → b = k → False) : mw σ i k v a b = σ a b := by
  unfold mw
  rw [if_neg (fun q => h q.1 q.2)]
theorem zm_cin {σ : Mem} {s sp d dp n a b : Nat} (h1 : a = d) (h2 : dp ≤ b) (h3 : b < dp + n) : mcp σ s sp d dp n a b = σ s (sp + (b - dp)) := by
  unfold mcp
  rw [if_pos ⟨h1, h2, h3⟩]
theorem zm_cout {σ : Mem} {s sp d dp n a b : Nat} (h : ¬ (a = d ∧ dp ≤ b ∧ b < dp + n)) : mcp σ s sp d dp n a b = σ a b := by
  unfold mcp
  rw [if_neg h]
theorem zI : (∀ a b, nI a + nI b = nI (a + b)) ∧ (∀ a b, nI a * nI b = nI (a * b)) ∧ (∀ a b, b ≤ a → nI a - nI b = nI (a - b)) ∧ (∀ a b, b ≤ a → nI a + -nI b = nI (a - b))
    ∧ (∀ a d, a < 2 ^ 31 → 0 < d → d < 2 ^ 31 → nI a / nI d = nI (a / d)) ∧ (∀ a d, a < 2 ^ 31 → 0 < d → d < 2 ^ 31 → irm (nI a) (nI d) = nI (a % d))
    ∧ (∀ a n, a < n → n ≤ 2 ^ 31 → inb (nI a) n = true) ∧ (∀ a, a < 2 ^ 31 → ix (nI a) = a)
    ∧ (∀ a b, a < 2 ^ 31 → b < 2 ^ 31 → imn (nI a) (nI b) = nI (min a b)) ∧ (∀ a b, a < 2 ^ 31 → b < 2 ^ 31 → imx (nI a) (nI b) = nI (max a b))
    ∧ (∀ k a, 0 < k → k < 2 ^ 31 → a < 2 ^ 31 → imx (-nI k) (nI a) = nI a) ∧ (∀ k a, 0 < k → k < 2 ^ 31 → a < 2 ^ 31 → imx (nI a) (-nI k) = nI a)
    ∧ (∀ a b c m n, a + c ≤ m → b + c ≤ n → m < 2 ^ 31 → n < 2 ^ 31 → cpk (nI a) (nI b) (nI c) m n = true) :=
  ⟨nI_add, pk_mul, fun _ _ => zi_sub, fun _ _ => zi_subn, fun _ _ => zi_div, fun _ _ => zi_rem, fun _ _ => zi_inb, fun _ => zi_ix, fun _ _ => zi_min, fun _ _ => zi_max, fun _ _ => zi_maxn1, fun _ _ => zi_maxn2, fun _ _ _ _ _ => zi_cpk⟩
theorem zC : (∀ a b, a < 2 ^ 31 → b < 2 ^ 31 → (nI a < nI b) = (a < b)) ∧ (∀ a b, a < 2 ^ 31 → b < 2 ^ 31 → (nI a ≤ nI b) = (a ≤ b)) ∧ (∀ a b, a < 2 ^ 31 → b < 2 ^ 31 → (nI a = nI b) = (a = b))
    ∧ (∀ a k, a < 2 ^ 31 → 0 < k → k < 2 ^ 31 → (nI a = -nI k) = False) ∧ (∀ a k, a < 2 ^ 31 → 0 < k → k < 2 ^ 31 → (-nI k = nI a) = False)
    ∧ (∀ a k, a < 2 ^ 31 → 0 < k → k < 2 ^ 31 → (-nI k < nI a) = True) ∧ (∀ a k, a < 2 ^ 31 → 0 < k → k < 2 ^ 31 → (-nI k ≤ nI a) = True)
    ∧ (∀ a k, a < 2 ^ 31 → 0 < k → k < 2 ^ 31 → (nI a < -nI k) = False) ∧ (∀ a k, a < 2 ^ 31 → 0 < k → k < 2 ^ 31 → (nI a ≤ -nI k) = False) ∧ (∀ a k, a < 2 ^ 31 → k < 2 ^ 31 → (-nI a = -nI k) = (a = k)) :=
  ⟨fun _ _ => zi_lt, fun _ _ => zi_le, fun _ _ => zi_eq, fun _ _ => zi_eqn, fun _ _ => zi_neq, fun _ _ => zi_nlt, fun _ _ => zi_nle, fun _ _ => zi_ltn, fun _ _ => zi_len, fun _ _ => zi_nn⟩
theorem zM : (∀ (σ : Mem) (i k : Nat) (v : Int32) (a b : Nat), a = i → b = k → mw σ i k v a b = v) ∧ (∀ (σ : Mem) (i k : Nat) (v : Int32) (a b : Nat), (a = i → b = k → False) → mw σ i k v a b = σ a b)
    ∧ (∀ (σ : Mem) (s sp d dp n a b : Nat), a = d → dp ≤ b → b < dp + n → mcp σ s sp d dp n a b = σ s (sp + (b - dp))) ∧ (∀ (σ : Mem) (s sp d dp n a b : Nat), ¬ (a = d ∧ dp ≤ b ∧ b < dp + n) → mcp σ s sp d dp n a b = σ a b) :=
  ⟨fun _ _ _ _ _ _ => zm_eq, fun _ _ _ _ _ _ => zm_ne, fun _ _ _ _ _ _ _ _ => zm_cin, fun _ _ _ _ _ _ _ _ => zm_cout⟩
theorem zW_bv {α β : Type} {e : α} (x : α) {k : α → Option β} {Q : β → Prop} (he : e = x) (h : zW (k x) Q) : zW (bnd e k) Q := by
  subst he
  exact h
theorem zW_ob {α β : Type} {o : Option α} {x : α} {k : α → Option β} {Q : β → Prop} (he : o = some x) (h : zW (k x) Q) : zW (obd o k) Q := by
  rw [he]
  exact h
theorem zW_if {β : Type} {c : Prop} [Decidable c] {a b : Option β} {Q : β → Prop} (ht : c → zW a Q) (hf : ¬ c → zW b Q) : zW (if c then a else b) Q := by
  by_cases h : c
  · rw [if_pos h]; exact ht h
  · rw [if_neg h]; exact hf h
theorem zW_t {β : Type} {c : Prop} [Decidable c] {a b : Option β} {Q : β → Prop} (h : c) (ht : zW a Q) : zW (if c then a else b) Q := by
  rw [if_pos h]; exact ht
theorem zW_f {β : Type} {c : Prop} [Decidable c] {a b : Option β} {Q : β → Prop} (h : ¬ c) (hf : zW b Q) : zW (if c then a else b) Q := by
  rw [if_neg h]; exact hf
theorem zW_gd {β : Type} {b : Bool} {k : Option β} {Q : β → Prop} (hb : b = true) (h : zW k Q) : zW (grd b k) Q := by
  subst hb
  exact h
/-- a place where roads meet: P is what is known there -/
theorem zW_jn {τ β : Type} (P : τ → Prop) {kb : τ → Option β} {fb : (τ → Option β) → Option β} {Q : β → Prop} (hk : ∀ y, P y → zW (kb y) Q) (hf : ∀ k, (∀ y, P y → zW (k y) Q) → zW (fb k) Q) : zW (bnd kb fb) Q := hf kb hk
theorem zW_so {β : Type} {x : β} {Q : β → Prop} (h : Q x) : zW (some x) Q := ⟨x, rfl, h⟩
theorem zn01 : ¬ (nI 1 = nI 0) := by decide +kernel
