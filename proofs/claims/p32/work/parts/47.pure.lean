def zsm (F : Nat → Nat) : Nat → Nat
  | 0 => 0
  | k + 1 => zsm F k + F k
def zpr (F : Nat → Nat) : Nat → Nat
  | 0 => 1
  | k + 1 => zpr F k * F k
def zgm (F : Nat → Nat) : Nat → Nat
  | 0 => 1000000
  | k + 1 => min (zgm F k) (F k)
def zmf (c : Nat) (F : Nat → Nat) : Nat → Nat
  | 0 => c
  | k + 1 => min (zmf c F k) (F k)
theorem zsm_cg {F G : Nat → Nat} {n : Nat} (h : ∀ i, i < n → F i = G i) : zsm F n = zsm G n := by
  induction n with
  | zero => rfl
  | succ n ih => unfold zsm; rw [ih (fun i hi => h i (by omega)), h n (by omega)]
theorem zpr_cg {F G : Nat → Nat} {n : Nat} (h : ∀ i, i < n → F i = G i) : zpr F n = zpr G n := by
  induction n with
  | zero => rfl
  | succ n ih => unfold zpr; rw [ih (fun i hi => h i (by omega)), h n (by omega)]
theorem zgm_cg {F G : Nat → Nat} {n : Nat} (h : ∀ i, i < n → F i = G i) : zgm F n = zgm G n := by
  induction n with
  | zero => rfl
  | succ n ih => unfold zgm; rw [ih (fun i hi => h i (by omega)), h n (by omega)]
theorem zmf_cg {c : Nat} {F G : Nat → Nat} {n : Nat} (h : ∀ i, i < n → F i = G i) : zmf c F n = zmf c G n := by
  induction n with
  | zero => rfl
  | succ n ih => unfold zmf; rw [ih (fun i hi => h i (by omega)), h n (by omega)]
theorem zpr_0 {F : Nat → Nat} {k n : Nat} (h : zpr F k = 0) (hk : k ≤ n) : zpr F n = 0 := by
  induction n with
  | zero => have : k = 0 := by omega
            subst this; exact h
  | succ n ih =>
    rcases Nat.eq_or_lt_of_le hk with q | q
    · rw [← q]; exact h
    · unfold zpr; rw [ih (by omega), Nat.zero_mul]
theorem zsm_mono {F : Nat → Nat} {k n : Nat} (hk : k ≤ n) : zsm F k ≤ zsm F n := by
  induction n with
  | zero => have : k = 0 := by omega
            subst this; exact Nat.le_refl _
  | succ n ih =>
    rcases Nat.eq_or_lt_of_le hk with q | q
    · rw [q]; exact Nat.le_refl _
    · show zsm F k ≤ zsm F n + F n
      have := ih (by omega); omega
theorem zpr_1 (n : Nat) : zpr (fun _ => 1) n = 1 := by
  induction n with
  | zero => rfl
  | succ n ih => unfold zpr; rw [ih]
theorem zsm_z (n : Nat) : zsm (fun _ => 0) n = 0 := by
  induction n with
  | zero => rfl
  | succ n ih => unfold zsm; rw [ih]
theorem zpr_pick {F : Nat → Nat} {n j : Nat} (hj : j < n) : zpr F n = F j * zpr (fun i => if i = j then 1 else F i) n := by
  induction n with
  | zero => omega
  | succ n ih =>
    by_cases q : j = n
    · subst q
      have : zpr (fun i => if i = j then 1 else F i) j = zpr F j := zpr_cg (fun i hi => by rw [if_neg (by omega)])
      show zpr F j * F j = F j * (zpr (fun i => if i = j then 1 else F i) j * (if j = j then 1 else F j))
      rw [this, if_pos rfl, Nat.mul_one, Nat.mul_comm]
    · show zpr F n * F n = F j * (zpr (fun i => if i = j then 1 else F i) n * (if n = j then 1 else F n))
      rw [ih (by omega), if_neg (fun h => q h.symm), Nat.mul_assoc]
theorem zsm_pick {F : Nat → Nat} {n j : Nat} (hj : j < n) : zsm F n = F j + zsm (fun i => if i = j then 0 else F i) n := by
  induction n with
  | zero => omega
  | succ n ih =>
    by_cases q : j = n
    · subst q
      have : zsm (fun i => if i = j then 0 else F i) j = zsm F j := zsm_cg (fun i hi => by rw [if_neg (by omega)])
      show zsm F j + F j = F j + (zsm (fun i => if i = j then 0 else F i) j + (if j = j then 0 else F j))
      rw [this, if_pos rfl]; omega
    · show zsm F n + F n = F j + (zsm (fun i => if i = j then 0 else F i) n + (if n = j then 0 else F n))
      rw [ih (by omega), if_neg (fun h => q h.symm)]; omega
theorem zpr_mul (F G : Nat → Nat) (n : Nat) : zpr (fun i => F i * G i) n = zpr F n * zpr G n := by
  induction n with
  | zero => rfl
  | succ n ih =>
    show zpr (fun i => F i * G i) n * (F n * G n) = (zpr F n * F n) * (zpr G n * G n)
    rw [ih, Nat.mul_assoc, Nat.mul_assoc, Nat.mul_left_comm (zpr G n)]
theorem zsm_add (F G : Nat → Nat) (n : Nat) : zsm (fun i => F i + G i) n = zsm F n + zsm G n := by
  induction n with
  | zero => rfl
  | succ n ih => unfold zsm; rw [ih]; omega
theorem zpr_le {F G : Nat → Nat} {n : Nat} (h : ∀ i, i < n → F i ≤ G i) : zpr F n ≤ zpr G n := by
  induction n with
  | zero => exact Nat.le_refl _
  | succ n ih => exact Nat.mul_le_mul (ih (fun i hi => h i (by omega))) (h n (by omega))
theorem zsm_le {F G : Nat → Nat} {n : Nat} (h : ∀ i, i < n → F i ≤ G i) : zsm F n ≤ zsm G n := by
  induction n with
  | zero => exact Nat.le_refl _
  | succ n ih => unfold zsm; have := ih (fun i hi => h i (by omega)); have := h n (by omega); omega
theorem zpr_pos {F : Nat → Nat} {n : Nat} (h : ∀ i, i < n → 1 ≤ F i) : 1 ≤ zpr F n := by
  induction n with
  | zero => exact Nat.le_refl _
  | succ n ih => exact Nat.mul_le_mul (ih (fun i hi => h i (by omega))) (h n (by omega))
theorem zpr_20 {F : Nat → Nat} {n : Nat} (hn : n ≤ 6) (h : ∀ i, i < n → F i ≤ 20) : zpr F n ≤ 64000000 := by
  have h1 := zpr_le (G := fun _ => 20) h
  have h2 : ∀ m, m ≤ 6 → zpr (fun _ => 20) m ≤ 64000000 := by
    intro m hm
    rcases (by omega : m = 0 ∨ m = 1 ∨ m = 2 ∨ m = 3 ∨ m = 4 ∨ m = 5 ∨ m = 6) with q | q | q | q | q | q | q <;> subst q <;> decide
  have := h2 n hn
  omega
theorem zsm_cap {F : Nat → Nat} {n c : Nat} (h : ∀ i, i < n → F i ≤ c) : zsm F n ≤ n * c := by
  induction n with
  | zero => exact Nat.zero_le _
  | succ n ih =>
    have := ih (fun i hi => h i (by omega))
    have := h n (by omega)
    unfold zsm
    rw [Nat.succ_mul]; omega
/-- the word of a noun fits just two of the six -/
def zpt6 (can : Nat → Bool) (ge : Nat → Nat) (k3 : Nat → Bool) (t w : Nat) : Bool := can w && (ge w == t / 2 && (!k3 w || t % 2 == 0))
theorem zg6 (F : Nat → Nat) : zsm F 6 = F 0 + F 1 + F 2 + F 3 + F 4 + F 5 := by
  simp only [zsm]; omega
theorem zgroup (can : Nat → Bool) (ge : Nat → Nat) (k3 : Nat → Bool) (lk : Nat → Nat → Bool) (R : Nat → Nat) (W : Nat) (hge : ∀ w, w < W → ge w < 3) :
    zsm (fun t => zct (fun w => zpt6 can ge k3 t w && lk t w) W * R t) 6 = zsm (fun w => if can w then zsm (fun n => (if lk (2 * ge w + n) w then 1 else 0) * R (2 * ge w + n)) (if k3 w then 1 else 2) else 0) W := by
  induction W with
  | zero => simp [zg6, zct, zsm]
  | succ W ih =>
    have ih := ih (fun w hw => hge w (by omega))
    have hW := hge W (by omega)
    show _ = zsm _ W + (if can W then _ else 0)
    rw [← ih, zg6, zg6]
    simp only [zct, Nat.add_mul]
    cases hc : can W with
    | false => simp [zpt6, hc]
    | true =>
      rcases (by omega : ge W = 0 ∨ ge W = 1 ∨ ge W = 2) with q | q | q <;> cases hk : k3 W <;> simp [zpt6, hc, q, hk, zsm] <;> omega
theorem zgroup_le (can : Nat → Bool) (ge : Nat → Nat) (k3 : Nat → Bool) (lk : Nat → Nat → Bool) (W : Nat) (hge : ∀ w, w < W → ge w < 3) :
    zsm (fun t => zct (fun w => zpt6 can ge k3 t w && lk t w) W) 6 ≤ 2 * W := by
  induction W with
  | zero => simp [zg6, zct]
  | succ W ih =>
    have ih := ih (fun w hw => hge w (by omega))
    have hW := hge W (by omega)
    rw [zg6] at ih ⊢
    simp only [zct]
    cases hc : can W with
    | false => simp [zpt6, hc] at ih ⊢; omega
    | true =>
      have b : ∀ x : Bool, (if x = true then 1 else 0) ≤ 1 := fun x => by cases x <;> decide
      rcases (by omega : ge W = 0 ∨ ge W = 1 ∨ ge W = 2) with q | q | q <;> cases hk : k3 W <;> simp [zpt6, hc, q, hk] <;> have b0 := b (lk 0 W) <;> have b1 := b (lk 1 W) <;> have b2 := b (lk 2 W) <;> have b3 := b (lk 3 W) <;> have b4 := b (lk 4 W) <;> have b5 := b (lk 5 W) <;> simp [zpt6] at ih <;> omega
theorem zgm6 (F : Nat → Nat) : zgm F 6 = min (min (min (min (min (min 1000000 (F 0)) (F 1)) (F 2)) (F 3)) (F 4)) (F 5) := rfl
def zgfar (can : Nat → Bool) (ge : Nat → Nat) (k3 : Nat → Bool) (v : Nat → Nat → Nat) (R : Nat → Nat) : Nat → Nat
  | 0 => 1000000
  | w + 1 => if can w then zmf (zgfar can ge k3 v R w) (fun n => v (2 * ge w + n) w + R (2 * ge w + n)) (if k3 w then 1 else 2) else zgfar can ge k3 v R w
theorem zgroupF (can : Nat → Bool) (ge : Nat → Nat) (k3 : Nat → Bool) (v : Nat → Nat → Nat) (R : Nat → Nat) (W : Nat) (hge : ∀ w, w < W → ge w < 3) :
    zgm (fun t => zmn (zpt6 can ge k3 t) (v t) W + R t) 6 = zgfar can ge k3 v R W := by
  induction W with
  | zero => simp only [zgm6, zmn, zgfar]; omega
  | succ W ih =>
    have ih := ih (fun w hw => hge w (by omega))
    have hW := hge W (by omega)
    unfold zgfar
    rw [← ih, zgm6, zgm6]
    simp only [zmn]
    cases hc : can W with
    | false => simp [zpt6, hc]
    | true =>
      rcases (by omega : ge W = 0 ∨ ge W = 1 ∨ ge W = 2) with q | q | q <;> cases hk : k3 W <;> simp [zpt6, hc, q, hk, zmf] <;> simp only [← Nat.add_min_add_right] <;> simp only [Nat.min_comm, Nat.min_left_comm, Nat.min_assoc]
