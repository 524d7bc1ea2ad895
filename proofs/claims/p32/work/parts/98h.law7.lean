/-- the sizes of what is said, word by word -/
def yLn (g : Nat → Int32) (nb m k : Nat) : Nat := (zsi g 0 yws nb m k).length
theorem yzpt_mono {l : List Nat} {i : Nat} : ∀ {d : Nat}, ∃ r, (zpt l (i + d)).1 = (zpt l i).1 ++ r := by
  intro d
  induction d with
  | zero => exact ⟨[], by simp⟩
  | succ d ih =>
    obtain ⟨r, hr⟩ := ih
    rw [show i + (d + 1) = i + d + 1 by omega, zpt_s]
    split
    · exact ⟨r ++ [((zpt l (i + d)).2, i + d - (zpt l (i + d)).2)], by rw [hr, List.append_assoc]⟩
    · exact ⟨r, hr⟩
/-- the sheet of sizes, as far as it has come -/
def yShp (l : List Nat) (i at_ from_ : Nat) (A : Nat → Int32) : Prop := at_ = (zpt l i).1.length ∧ from_ = (zpt l i).2 ∧ ∀ k, k < at_ → A k = nI ((zpt l i).1.getD k (0, 0)).2
theorem ySay_z {g : Nat → Int32} (hg : zBG g) (h : yG g) : (zps (ySay g)).length = 4 ∧ ∀ k, k < 4 → ((zps (ySay g)).getD k (0, 0)).2 = yLn g 0 1 k := by
  obtain ⟨a, -, c⟩ := zps_zlc (F := zsi g 0 yws 0 1) (n := 4) (fun k hk => ⟨(ySay_ok hg h k hk).1, (ySay_ok hg h k hk).2.1⟩)
  exact ⟨a, c⟩
theorem yzps_e {l : List Nat} (h : 1 ≤ l.length) : zps l = (zpt l l.length).1 ++ [((zpt l l.length).2, l.length - (zpt l l.length).2)] := by
  unfold zps
  rw [if_neg (by omega)]
theorem yShp_3 {l : List Nat} {i at_ fr : Nat} {A : Nat → Int32} (h1 : 1 ≤ l.length) (h4 : (zps l).length = 4) (hi : i ≤ l.length) (h : yShp l i at_ fr A) : at_ ≤ 3 ∧ fr ≤ i := by
  obtain ⟨r, hr⟩ := yzpt_mono (l := l) (i := i) (d := l.length - i)
  rw [show i + (l.length - i) = l.length by omega] at hr
  rw [yzps_e h1, hr] at h4
  simp only [List.length_append, List.length_cons, List.length_nil] at h4
  rw [h.1, h.2.1]
  exact ⟨by omega, (zpt_le l i).1⟩
theorem yShp_put {l : List Nat} {i at_ fr : Nat} {A : Nat → Int32} (h : yShp l i at_ fr A) (hb : l.getD i 0 = 32) : yShp l (i + 1) (at_ + 1) (i + 1) (upd A at_ (nI (i - fr))) := by
  obtain ⟨h1, h2, h3⟩ := h
  have e := zpt_s l i
  rw [if_pos hb] at e
  refine ⟨by rw [e, h1]; simp, by rw [e], fun k hk => ?_⟩
  rw [e]
  dsimp only
  rw [zgp_app, ← h1]
  by_cases q : k < at_
  · rw [yu_ne (by omega), if_pos q]; exact h3 k q
  · have : k = at_ := by omega
    subst this
    rw [yu_eq, if_neg q, Nat.sub_self, ← h2]
    rfl
theorem yShp_skip {l : List Nat} {i at_ fr : Nat} {A : Nat → Int32} (h : yShp l i at_ fr A) (hb : ¬ l.getD i 0 = 32) : yShp l (i + 1) at_ fr A := by
  have e := zpt_s l i
  rw [if_neg hb] at e
  unfold yShp
  rw [e]
  exact h
theorem yShp_end {g : Nat → Int32} {at_ fr : Nat} {A : Nat → Int32} (hg : zBG g) (hG : yG g) (h1 : 1 ≤ (ySay g).length) (h : yShp (ySay g) (ySay g).length at_ fr A) : at_ + 1 = 4 ∧ ∀ k, k < 4 → upd A at_ (nI ((ySay g).length - fr)) k = nI (yLn g 0 1 k) := by
  obtain ⟨z1, z2⟩ := ySay_z hg hG
  have e := yzps_e h1
  obtain ⟨a1, a2, a3⟩ := h
  have e3 : at_ + 1 = 4 := by rw [← z1, e, a1]; simp
  refine ⟨e3, fun k hk => ?_⟩
  rw [← z2 k hk, e, zgp_app, ← a1]
  by_cases q : k < at_
  · rw [yu_ne (by omega), if_pos q]; exact a3 k q
  · have : k = at_ := by omega
    subst this
    rw [yu_eq, if_neg q, Nat.sub_self, ← a2]
    rfl
theorem yLn_10 {g : Nat → Int32} {nb m k : Nat} (hg : zBG g) (h : yG g) (hk : k < 4) (hm : m < 4) : yLn g nb m k ≤ 10 := (zsi_len hg h.2.2.1.1 (by rw [h.2.1]; exact hk) hm (fun k hk => (h.2.2.1.2.2 k hk).1)).2.2
theorem y_i16n {n : Nat} (h : n < 100) : (nI n).toInt16.toInt32 = nI n := y_i16 ⟨n, h⟩
/-- only sheets and what speaks have changed -/
def yQ (σ τ : Mem) : Prop := ∀ x c, ¬ (367 ≤ x ∧ x < 375) → ¬ (350 ≤ x ∧ x ≤ 355) → τ x c = σ x c
theorem yQ_0 (σ : Mem) : yQ σ σ := fun _ _ _ _ => rfl
theorem yQ_t {σ τ υ : Mem} (h : yQ σ τ) (h2 : yQ τ υ) : yQ σ υ := fun x c p q => by rw [h2 x c p q, h x c p q]
theorem yQ_s {σ τ : Mem} (h : zSy σ τ) : yQ σ τ := fun x c _ q => h x c q
theorem yQ_b {σ τ : Mem} {t : Nat} (ht : t < 4) (h : ∀ x c, x ≠ 367 + 2 * t → x ≠ 368 + 2 * t → τ x c = σ x c) : yQ σ τ := fun x c p _ => h x c (by omega) (by omega)
theorem yQ_p {σ τ : Mem} {t : Nat} (ht : t < 4) (h : ∀ x c, x ≠ 368 + 2 * t → τ x c = σ x c) : yQ σ τ := fun x c p _ => h x c (by omega)
theorem yQ_I {σ τ : Mem} {g kd md sz ld : Nat → Int32} {words : Nat} (h : yI σ g kd md sz ld words) (e : yQ σ τ) : yI τ g kd md sz ld words := yI_co h (fun x c p q => e x c (by omega) (by omega))
theorem yS_sy {σ τ : Mem} {t so n : Nat} {A : Nat → Int32} (h : yS σ t so n A) (e : zSy σ τ) : yS τ t so n A := yS_co h (fun c => e _ c (by omega)) (fun c => e _ c (by omega))
theorem yS_o {σ τ : Mem} {t o so n : Nat} {A : Nat → Int32} (h : yS σ t so n A) (hto : t ≠ o) (e : ∀ x c, x ≠ 367 + 2 * o → x ≠ 368 + 2 * o → τ x c = σ x c) : yS τ t so n A := yS_co h (fun c => e _ c (by omega) (by omega)) (fun c => e _ c (by omega) (by omega))
set_option maxHeartbeats 4000000 in
theorem w_put {Z : ZT} {C : CX} {b N k25 v25 k34 v34 : Nat} {xs ef : Nat → Int32} (O : jOk Z C RL cL_law 19 13 494 600000 7302249) (hXs : jXs b N xs (c_A C) (c_s C) (c_s C).heap) (hN : N ≤ 600) (h25 : jK 25 "" k25 v25 0 ef (c_A C) (c_s C) (c_s C).heap) (hef : jF ef) (h34 : jK 34 "aeobtkle" k34 v34 8 (fun k => zsg (yal.getD k 0)) (c_A C) (c_s C) (c_s C).heap) {k0 n0 T t c12 words al as am ak qb vb : Nat} {q pl : Int32} {σ : Mem} {g kd md sz ld fb : Nat → Int32} (hk0 : k0 ≤ 300000) (hn0 : n0 ≤ 3000000) (hI : yI σ g kd md sz ld words) (hfit : hFit σ) (ht : t < 4) {n : Nat} (hn1 : n ≤ 1) (hfb : ∀ k, k < (ySay g).length → fb k = zsg ((ySay g).getD k 0)) {a f i : Nat} {A : Nat → Int32} {τ : Mem} (h44 : (ySay g).length ≤ 44) (ha : a ≤ 3) (hf : f ≤ i) (hi : i ≤ (ySay g).length) (hQ : yQ σ τ) (hfit2 : hFit τ) (hS : yS τ 0 n 4 A) (kk : ∀ τ2, yQ σ τ2 → hFit τ2 → yS τ2 0 n 4 (upd A a (nI (i - f))) → uE Z C τ2 [(ak, .inl (zc Z 1, (20, .inl kd))), (am, .inl (zc Z 1, (4, .inl md))), (as, .inl (zc Z 1, (4, .inl sz))), (al, .inl (zc Z 1, (80, .inl ld))), (qb, .inr (12, [.ref vb, .int (nI 0), .int (nI 0), .int (nI 0)])), (vb, .inl (zc Z 0, ((ySay g).length, .inl fb)))] k0 n0 880 [(17, .int (nI (i + 1))), (16, .int (nI (a + 1))), (15, .int (nI (i + 1))), (14, .int (nI n)), (13, .ref qb), (10, .int (nI t)), (9, .int q), (8, .int (nI T)), (7, .ref al), (6, .ref as), (5, .ref am), (4, .int (nI words)), (3, .ref ak), (2, .int (nI 1)), (1, .ref (za Z 0)), (0, .ref b)] []) : uE Z C τ [(ak, .inl (zc Z 1, (20, .inl kd))), (am, .inl (zc Z 1, (4, .inl md))), (as, .inl (zc Z 1, (4, .inl sz))), (al, .inl (zc Z 1, (80, .inl ld))), (qb, .inr (12, [.ref vb, .int (nI 0), .int (nI 0), .int (nI 0)])), (vb, .inl (zc Z 0, ((ySay g).length, .inl fb)))] k0 n0 912 [(17, .int (nI i)), (16, .int (nI a)), (15, .int (nI f)), (14, .int (nI n)), (13, .ref qb), (10, .int (nI t)), (9, .int q), (8, .int (nI T)), (7, .ref al), (6, .ref as), (5, .ref am), (4, .int (nI words)), (3, .ref ak), (2, .int (nI 1)), (1, .ref (za Z 0)), (0, .ref b)] [] := by
  have hfit := hfit2
  show uE Z C τ [(ak, .inl (zc Z 1, (20, .inl kd))), (am, .inl (zc Z 1, (4, .inl md))), (as, .inl (zc Z 1, (4, .inl sz))), (al, .inl (zc Z 1, (80, .inl ld))), (qb, .inr (12, [.ref vb, .int (nI 0), .int (nI 0), .int (nI 0)])), (vb, .inl (zc Z 0, ((ySay g).length, .inl fb)))] _ _ _ [(17, .int (nI i)), (16, .int (nI a)), (15, .int (nI f)), (14, .int (nI n)), (13, .ref qb), (10, .int (nI t)), (9, .int q), (8, .int (nI T)), (7, .ref al), (6, .ref as), (5, .ref am), (4, .int (nI words)), (3, .ref ak), (2, .int (nI 1)), (1, .ref (za Z 0)), (0, .ref b)] []
  refine uv_iload_n O.1 dL_law_912 13 rfl rfl ?_
  refine uv_aload_n O.1 dL_law_913 14 rfl rfl ?_
  refine uv_iconst O.1 dL_law_914 (nI 0) rfl ?_
  refine uv_iload O.1 dL_law_915 1 rfl ?_
  refine uv_iload O.1 dL_law_917 0 rfl ?_
  refine uv_iload O.1 dL_law_919 2 rfl ?_
  refine uv_isub (z := nI (i - f)) O.1 dL_law_921 (zi_sub (by omega)) ?_
  obtain ⟨τ2, u1, u2, u3⟩ := y_put (t := 0) (by omega) hS (by omega) (show a < 4 by omega) hn1 (y_i16n (show i - f < 100 by omega))
  refine ue_ctV (as := [.int (nI 0), .int (nI a), .int (nI (i - f))]) (rest := [.int (nI 1)]) O hfit dL_law_922 (fun Z2 hZ2 => ct_X11_put hZ2 rfl u1) vx_RL_99 rfl rfl rfl ⟨(Nat.le_of_ble_eq_true rfl), (Nat.le_of_ble_eq_true rfl)⟩ (Nat.le_of_ble_eq_true rfl) (by omega) (by omega) (fun _ hfit => ?_)
  show uE Z C τ2 [(ak, .inl (zc Z 1, (20, .inl kd))), (am, .inl (zc Z 1, (4, .inl md))), (as, .inl (zc Z 1, (4, .inl sz))), (al, .inl (zc Z 1, (80, .inl ld))), (qb, .inr (12, [.ref vb, .int (nI 0), .int (nI 0), .int (nI 0)])), (vb, .inl (zc Z 0, ((ySay g).length, .inl fb)))] _ _ _ [(17, .int (nI i)), (16, .int (nI a)), (15, .int (nI f)), (14, .int (nI n)), (13, .ref qb), (10, .int (nI t)), (9, .int q), (8, .int (nI T)), (7, .ref al), (6, .ref as), (5, .ref am), (4, .int (nI words)), (3, .ref ak), (2, .int (nI 1)), (1, .ref (za Z 0)), (0, .ref b)] [.int (nI 1), .int (nI 1)]
  refine uv_iconst O.1 dL_law_925 (nI 1) rfl ?_
  refine uv_icmp_ne 933 O.1 dL_law_926 rfl (fun hh => absurd rfl hh) (fun _ => ?_)
  refine uv_iconst O.1 dL_law_929 (nI 1) rfl ?_
  refine uv_goto 934 O.1 dL_law_930 rfl ?_
  refine uv_iand (z := nI 1) O.1 dL_law_934 (by decide +kernel) ?_
  refine uv_istore_n O.1 dL_law_935 rfl (by omega) [(2, .int (nI 1)), (17, .int (nI i)), (16, .int (nI a)), (15, .int (nI f)), (14, .int (nI n)), (13, .ref qb), (10, .int (nI t)), (9, .int q), (8, .int (nI T)), (7, .ref al), (6, .ref as), (5, .ref am), (4, .int (nI words)), (3, .ref ak), (1, .ref (za Z 0)), (0, .ref b)] rfl ?_
  refine uv_iload O.1 dL_law_936 1 rfl ?_
  refine uv_iconst O.1 dL_law_938 (nI 1) rfl ?_
  refine uv_iaddE (z := nI (i + 1)) O.1 dL_law_939 (zI.1 _ _) ?_
  refine uv_istore O.1 dL_law_940 (by omega) [(15, .int (nI (i + 1))), (2, .int (nI 1)), (17, .int (nI i)), (16, .int (nI a)), (14, .int (nI n)), (13, .ref qb), (10, .int (nI t)), (9, .int q), (8, .int (nI T)), (7, .ref al), (6, .ref as), (5, .ref am), (4, .int (nI words)), (3, .ref ak), (1, .ref (za Z 0)), (0, .ref b)] rfl ?_
  refine uv_iinc (z := 1) (v := nI (a + 1)) O.1 dL_law_942 3 rfl (zI.1 _ _) (by omega) [(16, .int (nI (a + 1))), (15, .int (nI (i + 1))), (2, .int (nI 1)), (17, .int (nI i)), (14, .int (nI n)), (13, .ref qb), (10, .int (nI t)), (9, .int q), (8, .int (nI T)), (7, .ref al), (6, .ref as), (5, .ref am), (4, .int (nI words)), (3, .ref ak), (1, .ref (za Z 0)), (0, .ref b)] rfl ?_
  refine uv_iinc (z := 1) (v := nI (i + 1)) O.1 dL_law_945 3 rfl (zI.1 _ _) (by omega) [(17, .int (nI (i + 1))), (16, .int (nI (a + 1))), (15, .int (nI (i + 1))), (2, .int (nI 1)), (14, .int (nI n)), (13, .ref qb), (10, .int (nI t)), (9, .int q), (8, .int (nI T)), (7, .ref al), (6, .ref as), (5, .ref am), (4, .int (nI words)), (3, .ref ak), (1, .ref (za Z 0)), (0, .ref b)] rfl ?_
  refine uv_goto 880 O.1 dL_law_948 rfl ?_
  refine uv_sub [0, 1, 2, 4, 5, 6, 7, 8, 9, 10, 11, 12, 13, 3, 14, 15] rfl ?_
  exact kk τ2 (yQ_t hQ (yQ_p (t := 0) (by omega) u3)) hfit u2
set_option maxHeartbeats 4000000 in
theorem w_sizes {Z : ZT} {C : CX} {b N k25 v25 k34 v34 : Nat} {xs ef : Nat → Int32} (O : jOk Z C RL cL_law 19 13 494 600000 7302249) (hXs : jXs b N xs (c_A C) (c_s C) (c_s C).heap) (hN : N ≤ 600) (h25 : jK 25 "" k25 v25 0 ef (c_A C) (c_s C) (c_s C).heap) (hef : jF ef) (h34 : jK 34 "aeobtkle" k34 v34 8 (fun k => zsg (yal.getD k 0)) (c_A C) (c_s C) (c_s C).heap) {k0 n0 T t c12 words al as am ak qb vb : Nat} {q pl : Int32} {σ : Mem} {g kd md sz ld fb : Nat → Int32} (hk0 : k0 ≤ 300000) (hn0 : n0 ≤ 3000000) (hI : yI σ g kd md sz ld words) (hfit : hFit σ) (ht : t < 4) {n : Nat} (hn1 : n ≤ 1) (hfb : ∀ k, k < (ySay g).length → fb k = zsg ((ySay g).getD k 0)) (kk : ∀ (τ : Mem) (A : Nat → Int32) (i f : Nat), yQ σ τ → hFit τ → yS τ 0 n 4 A → (∀ k, k < 4 → A k = nI (yLn g 0 1 k)) → uE Z C τ [(ak, .inl (zc Z 1, (20, .inl kd))), (am, .inl (zc Z 1, (4, .inl md))), (as, .inl (zc Z 1, (4, .inl sz))), (al, .inl (zc Z 1, (80, .inl ld))), (qb, .inr (12, [.ref vb, .int (nI 0), .int (nI 0), .int (nI 0)])), (vb, .inl (zc Z 0, ((ySay g).length, .inl fb)))] k0 n0 951 [(17, .int (nI i)), (16, .int (nI 4)), (15, .int (nI f)), (14, .int (nI n)), (13, .ref qb), (10, .int (nI t)), (9, .int q), (8, .int (nI T)), (7, .ref al), (6, .ref as), (5, .ref am), (4, .int (nI words)), (3, .ref ak), (2, .int (nI 1)), (1, .ref (za Z 0)), (0, .ref b)] []) : ∀ (d i a f : Nat) (τ : Mem) (A : Nat → Int32), i + d = (ySay g).length → yShp (ySay g) i a f A → yQ σ τ → hFit τ → yS τ 0 n 4 A → uE Z C τ [(ak, .inl (zc Z 1, (20, .inl kd))), (am, .inl (zc Z 1, (4, .inl md))), (as, .inl (zc Z 1, (4, .inl sz))), (al, .inl (zc Z 1, (80, .inl ld))), (qb, .inr (12, [.ref vb, .int (nI 0), .int (nI 0), .int (nI 0)])), (vb, .inl (zc Z 0, ((ySay g).length, .inl fb)))] k0 n0 880 [(17, .int (nI i)), (16, .int (nI a)), (15, .int (nI f)), (14, .int (nI n)), (13, .ref qb), (10, .int (nI t)), (9, .int q), (8, .int (nI T)), (7, .ref al), (6, .ref as), (5, .ref am), (4, .int (nI words)), (3, .ref ak), (2, .int (nI 1)), (1, .ref (za Z 0)), (0, .ref b)] [] := by
  have hB := hI.1; have hG := hI.2.1; have hz := hI.2.2.1; have hW : znW g = words := hI.2.2.2.1; have h6 : 6 ≤ words := (hW ▸ hG.2.2.2.2.2.2.2 : 6 ≤ words); have h20 : words ≤ 20 := (hW ▸ hB.1.1.2 : words ≤ 20)
  have h44 := ySay_len hB.1 hG
  have h01 := ySay_1 hB.1 hG
  have h4 := (ySay_z hB.1 hG).1
  intro d
  induction d with
  | zero =>
    intro i a f τ A hd hp hQ hfit2 hS
    obtain ⟨b1, b2⟩ := yShp_3 h01 h4 (by omega) hp
    show uE Z C τ [(ak, .inl (zc Z 1, (20, .inl kd))), (am, .inl (zc Z 1, (4, .inl md))), (as, .inl (zc Z 1, (4, .inl sz))), (al, .inl (zc Z 1, (80, .inl ld))), (qb, .inr (12, [.ref vb, .int (nI 0), .int (nI 0), .int (nI 0)])), (vb, .inl (zc Z 0, ((ySay g).length, .inl fb)))] _ _ _ [(17, .int (nI i)), (16, .int (nI a)), (15, .int (nI f)), (14, .int (nI n)), (13, .ref qb), (10, .int (nI t)), (9, .int q), (8, .int (nI T)), (7, .ref al), (6, .ref as), (5, .ref am), (4, .int (nI words)), (3, .ref ak), (2, .int (nI 1)), (1, .ref (za Z 0)), (0, .ref b)] []
    refine uv_iload O.1 dL_law_880 0 rfl ?_
    refine uv_aload O.1 dL_law_882 4 rfl ?_
    refine ue_call (E1 := [(ak, .inl (zc Z 1, (20, .inl kd))), (am, .inl (zc Z 1, (4, .inl md))), (as, .inl (zc Z 1, (4, .inl sz))), (al, .inl (zc Z 1, (80, .inl ld))), (qb, .inr (12, [.ref vb, .int (nI 0), .int (nI 0), .int (nI 0)])), (vb, .inl (zc Z 0, ((ySay g).length, .inl fb)))]) (wc := []) (rest := [.int (nI i)]) O (jc_V (y := yJ0_length_8abf5) (C0 := RJ0) (b := qb) (as' := []) (rest := [.int (nI i)]) O.1 dL_law_884 (uq_in (by decide +kernel) (by decide +kernel)) (uq_in (by decide +kernel) (by decide +kernel)) (O.1.2.2.2.2.1 (Cond.selects RJ0 yJ0_length_8abf5 yJ0_length_8abf5) (uq_in (by decide +kernel) (by decide +kernel))) (uq_in (by decide +kernel) (by decide +kernel)) (uq_in (by decide +kernel) (by decide +kernel)) ⟨by decide +kernel, by decide +kernel, (by decide +kernel : (parseMethodDescriptor yJ0_length_8abf5.desc).map (fun d => d.parameters.length) = some 0)⟩ rfl ⟨(Nat.le_of_ble_eq_true rfl), (Nat.le_of_ble_eq_true rfl)⟩ (Nat.le_of_ble_eq_true rfl)) (fun sz => j_len Z qb vb ((ySay g).length) fb sz) (jS_mv _ _ _ _) (jt_e (i := 4) (j := 5) O rfl rfl) (j_rwE (r := (RJ0, TJ0, 4)) (ci := 12) (i := 4) (E1 := [(ak, .inl (zc Z 1, (20, .inl kd))), (am, .inl (zc Z 1, (4, .inl md))), (as, .inl (zc Z 1, (4, .inl sz))), (al, .inl (zc Z 1, (80, .inl ld))), (qb, .inr (12, [.ref vb, .int (nI 0), .int (nI 0), .int (nI 0)])), (vb, .inl (zc Z 0, ((ySay g).length, .inl fb)))]) (wc := []) O.1 rfl rfl) rfl (by omega) (by omega) (fun u hu => ?_)
    show uE Z C τ [(ak, .inl (zc Z 1, (20, .inl kd))), (am, .inl (zc Z 1, (4, .inl md))), (as, .inl (zc Z 1, (4, .inl sz))), (al, .inl (zc Z 1, (80, .inl ld))), (qb, .inr (12, [.ref vb, .int (nI 0), .int (nI 0), .int (nI 0)])), (vb, .inl (zc Z 0, ((ySay g).length, .inl fb)))] _ _ _ [(17, .int (nI i)), (16, .int (nI a)), (15, .int (nI f)), (14, .int (nI n)), (13, .ref qb), (10, .int (nI t)), (9, .int q), (8, .int (nI T)), (7, .ref al), (6, .ref as), (5, .ref am), (4, .int (nI words)), (3, .ref ak), (2, .int (nI 1)), (1, .ref (za Z 0)), (0, .ref b)] [.int (nI ((ySay g).length)), .int (nI i)]
    have : i = (ySay g).length := by omega
    subst this
    refine uv_icmp_gt 951 O.1 dL_law_887 rfl (fun hh => absurd hh (j_nlt (Nat.le_refl _) (by omega))) (fun _ => ?_)
    refine uv_iload O.1 dL_law_890 0 rfl ?_
    refine uv_aload O.1 dL_law_892 4 rfl ?_
    refine ue_call (E1 := [(ak, .inl (zc Z 1, (20, .inl kd))), (am, .inl (zc Z 1, (4, .inl md))), (as, .inl (zc Z 1, (4, .inl sz))), (al, .inl (zc Z 1, (80, .inl ld))), (qb, .inr (12, [.ref vb, .int (nI 0), .int (nI 0), .int (nI 0)])), (vb, .inl (zc Z 0, ((ySay g).length, .inl fb)))]) (wc := []) (rest := [.int (nI (ySay g).length)]) O (jc_V (y := yJ0_length_8abf5) (C0 := RJ0) (b := qb) (as' := []) (rest := [.int (nI (ySay g).length)]) O.1 dL_law_894 (uq_in (by decide +kernel) (by decide +kernel)) (uq_in (by decide +kernel) (by decide +kernel)) (O.1.2.2.2.2.1 (Cond.selects RJ0 yJ0_length_8abf5 yJ0_length_8abf5) (uq_in (by decide +kernel) (by decide +kernel))) (uq_in (by decide +kernel) (by decide +kernel)) (uq_in (by decide +kernel) (by decide +kernel)) ⟨by decide +kernel, by decide +kernel, (by decide +kernel : (parseMethodDescriptor yJ0_length_8abf5.desc).map (fun d => d.parameters.length) = some 0)⟩ rfl ⟨(Nat.le_of_ble_eq_true rfl), (Nat.le_of_ble_eq_true rfl)⟩ (Nat.le_of_ble_eq_true rfl)) (fun sz => j_len Z qb vb ((ySay g).length) fb sz) (jS_mv _ _ _ _) (jt_e (i := 4) (j := 5) O rfl rfl) (j_rwE (r := (RJ0, TJ0, 4)) (ci := 12) (i := 4) (E1 := [(ak, .inl (zc Z 1, (20, .inl kd))), (am, .inl (zc Z 1, (4, .inl md))), (as, .inl (zc Z 1, (4, .inl sz))), (al, .inl (zc Z 1, (80, .inl ld))), (qb, .inr (12, [.ref vb, .int (nI 0), .int (nI 0), .int (nI 0)])), (vb, .inl (zc Z 0, ((ySay g).length, .inl fb)))]) (wc := []) O.1 rfl rfl) rfl (by omega) (by omega) (fun u hu => ?_)
    show uE Z C τ [(ak, .inl (zc Z 1, (20, .inl kd))), (am, .inl (zc Z 1, (4, .inl md))), (as, .inl (zc Z 1, (4, .inl sz))), (al, .inl (zc Z 1, (80, .inl ld))), (qb, .inr (12, [.ref vb, .int (nI 0), .int (nI 0), .int (nI 0)])), (vb, .inl (zc Z 0, ((ySay g).length, .inl fb)))] _ _ _ [(17, .int (nI (ySay g).length)), (16, .int (nI a)), (15, .int (nI f)), (14, .int (nI n)), (13, .ref qb), (10, .int (nI t)), (9, .int q), (8, .int (nI T)), (7, .ref al), (6, .ref as), (5, .ref am), (4, .int (nI words)), (3, .ref ak), (2, .int (nI 1)), (1, .ref (za Z 0)), (0, .ref b)] [.int (nI ((ySay g).length)), .int (nI (ySay g).length)]
    refine uv_icmp_eq 912 O.1 dL_law_897 rfl (fun _ => ?_) (fun hh => absurd rfl hh)
    obtain ⟨e1, e2⟩ := yShp_end hB.1 hG h01 hp
    refine w_put (c12 := c12) (pl := pl) O hXs hN h25 hef h34 hk0 hn0 hI hfit ht hn1 hfb h44 b1 b2 (Nat.le_refl _) hQ hfit2 hS (fun τ2 c1 c2 c3 => ?_)
    refine uv_iload O.1 dL_law_880 0 rfl ?_
    refine uv_aload O.1 dL_law_882 4 rfl ?_
    refine ue_call (E1 := [(ak, .inl (zc Z 1, (20, .inl kd))), (am, .inl (zc Z 1, (4, .inl md))), (as, .inl (zc Z 1, (4, .inl sz))), (al, .inl (zc Z 1, (80, .inl ld))), (qb, .inr (12, [.ref vb, .int (nI 0), .int (nI 0), .int (nI 0)])), (vb, .inl (zc Z 0, ((ySay g).length, .inl fb)))]) (wc := []) (rest := [.int (nI ((ySay g).length + 1))]) O (jc_V (y := yJ0_length_8abf5) (C0 := RJ0) (b := qb) (as' := []) (rest := [.int (nI ((ySay g).length + 1))]) O.1 dL_law_884 (uq_in (by decide +kernel) (by decide +kernel)) (uq_in (by decide +kernel) (by decide +kernel)) (O.1.2.2.2.2.1 (Cond.selects RJ0 yJ0_length_8abf5 yJ0_length_8abf5) (uq_in (by decide +kernel) (by decide +kernel))) (uq_in (by decide +kernel) (by decide +kernel)) (uq_in (by decide +kernel) (by decide +kernel)) ⟨by decide +kernel, by decide +kernel, (by decide +kernel : (parseMethodDescriptor yJ0_length_8abf5.desc).map (fun d => d.parameters.length) = some 0)⟩ rfl ⟨(Nat.le_of_ble_eq_true rfl), (Nat.le_of_ble_eq_true rfl)⟩ (Nat.le_of_ble_eq_true rfl)) (fun sz => j_len Z qb vb ((ySay g).length) fb sz) (jS_mv _ _ _ _) (jt_e (i := 4) (j := 5) O rfl rfl) (j_rwE (r := (RJ0, TJ0, 4)) (ci := 12) (i := 4) (E1 := [(ak, .inl (zc Z 1, (20, .inl kd))), (am, .inl (zc Z 1, (4, .inl md))), (as, .inl (zc Z 1, (4, .inl sz))), (al, .inl (zc Z 1, (80, .inl ld))), (qb, .inr (12, [.ref vb, .int (nI 0), .int (nI 0), .int (nI 0)])), (vb, .inl (zc Z 0, ((ySay g).length, .inl fb)))]) (wc := []) O.1 rfl rfl) rfl (by omega) (by omega) (fun u hu => ?_)
    show uE Z C τ2 [(ak, .inl (zc Z 1, (20, .inl kd))), (am, .inl (zc Z 1, (4, .inl md))), (as, .inl (zc Z 1, (4, .inl sz))), (al, .inl (zc Z 1, (80, .inl ld))), (qb, .inr (12, [.ref vb, .int (nI 0), .int (nI 0), .int (nI 0)])), (vb, .inl (zc Z 0, ((ySay g).length, .inl fb)))] _ _ _ [(17, .int (nI ((ySay g).length + 1))), (16, .int (nI (a + 1))), (15, .int (nI ((ySay g).length + 1))), (14, .int (nI n)), (13, .ref qb), (10, .int (nI t)), (9, .int q), (8, .int (nI T)), (7, .ref al), (6, .ref as), (5, .ref am), (4, .int (nI words)), (3, .ref ak), (2, .int (nI 1)), (1, .ref (za Z 0)), (0, .ref b)] [.int (nI ((ySay g).length)), .int (nI ((ySay g).length + 1))]
    refine uv_icmp_gt 951 O.1 dL_law_887 rfl (fun _ => ?_) (fun hh => absurd (j_lt (Nat.lt_succ_self _) (by omega)) hh)
    rw [e1]
    exact kk τ2 _ _ _ c1 c2 c3 e2
  | succ d ih =>
    intro i a f τ A hd hp hQ hfit2 hS
    obtain ⟨b1, b2⟩ := yShp_3 h01 h4 (by omega) hp
    show uE Z C τ [(ak, .inl (zc Z 1, (20, .inl kd))), (am, .inl (zc Z 1, (4, .inl md))), (as, .inl (zc Z 1, (4, .inl sz))), (al, .inl (zc Z 1, (80, .inl ld))), (qb, .inr (12, [.ref vb, .int (nI 0), .int (nI 0), .int (nI 0)])), (vb, .inl (zc Z 0, ((ySay g).length, .inl fb)))] _ _ _ [(17, .int (nI i)), (16, .int (nI a)), (15, .int (nI f)), (14, .int (nI n)), (13, .ref qb), (10, .int (nI t)), (9, .int q), (8, .int (nI T)), (7, .ref al), (6, .ref as), (5, .ref am), (4, .int (nI words)), (3, .ref ak), (2, .int (nI 1)), (1, .ref (za Z 0)), (0, .ref b)] []
    refine uv_iload O.1 dL_law_880 0 rfl ?_
    refine uv_aload O.1 dL_law_882 4 rfl ?_
    refine ue_call (E1 := [(ak, .inl (zc Z 1, (20, .inl kd))), (am, .inl (zc Z 1, (4, .inl md))), (as, .inl (zc Z 1, (4, .inl sz))), (al, .inl (zc Z 1, (80, .inl ld))), (qb, .inr (12, [.ref vb, .int (nI 0), .int (nI 0), .int (nI 0)])), (vb, .inl (zc Z 0, ((ySay g).length, .inl fb)))]) (wc := []) (rest := [.int (nI i)]) O (jc_V (y := yJ0_length_8abf5) (C0 := RJ0) (b := qb) (as' := []) (rest := [.int (nI i)]) O.1 dL_law_884 (uq_in (by decide +kernel) (by decide +kernel)) (uq_in (by decide +kernel) (by decide +kernel)) (O.1.2.2.2.2.1 (Cond.selects RJ0 yJ0_length_8abf5 yJ0_length_8abf5) (uq_in (by decide +kernel) (by decide +kernel))) (uq_in (by decide +kernel) (by decide +kernel)) (uq_in (by decide +kernel) (by decide +kernel)) ⟨by decide +kernel, by decide +kernel, (by decide +kernel : (parseMethodDescriptor yJ0_length_8abf5.desc).map (fun d => d.parameters.length) = some 0)⟩ rfl ⟨(Nat.le_of_ble_eq_true rfl), (Nat.le_of_ble_eq_true rfl)⟩ (Nat.le_of_ble_eq_true rfl)) (fun sz => j_len Z qb vb ((ySay g).length) fb sz) (jS_mv _ _ _ _) (jt_e (i := 4) (j := 5) O rfl rfl) (j_rwE (r := (RJ0, TJ0, 4)) (ci := 12) (i := 4) (E1 := [(ak, .inl (zc Z 1, (20, .inl kd))), (am, .inl (zc Z 1, (4, .inl md))), (as, .inl (zc Z 1, (4, .inl sz))), (al, .inl (zc Z 1, (80, .inl ld))), (qb, .inr (12, [.ref vb, .int (nI 0), .int (nI 0), .int (nI 0)])), (vb, .inl (zc Z 0, ((ySay g).length, .inl fb)))]) (wc := []) O.1 rfl rfl) rfl (by omega) (by omega) (fun u hu => ?_)
    show uE Z C τ [(ak, .inl (zc Z 1, (20, .inl kd))), (am, .inl (zc Z 1, (4, .inl md))), (as, .inl (zc Z 1, (4, .inl sz))), (al, .inl (zc Z 1, (80, .inl ld))), (qb, .inr (12, [.ref vb, .int (nI 0), .int (nI 0), .int (nI 0)])), (vb, .inl (zc Z 0, ((ySay g).length, .inl fb)))] _ _ _ [(17, .int (nI i)), (16, .int (nI a)), (15, .int (nI f)), (14, .int (nI n)), (13, .ref qb), (10, .int (nI t)), (9, .int q), (8, .int (nI T)), (7, .ref al), (6, .ref as), (5, .ref am), (4, .int (nI words)), (3, .ref ak), (2, .int (nI 1)), (1, .ref (za Z 0)), (0, .ref b)] [.int (nI ((ySay g).length)), .int (nI i)]
    refine uv_icmp_gt 951 O.1 dL_law_887 rfl (fun hh => absurd hh (j_nlt (by omega) (by omega))) (fun _ => ?_)
    refine uv_iload O.1 dL_law_890 0 rfl ?_
    refine uv_aload O.1 dL_law_892 4 rfl ?_
    refine ue_call (E1 := [(ak, .inl (zc Z 1, (20, .inl kd))), (am, .inl (zc Z 1, (4, .inl md))), (as, .inl (zc Z 1, (4, .inl sz))), (al, .inl (zc Z 1, (80, .inl ld))), (qb, .inr (12, [.ref vb, .int (nI 0), .int (nI 0), .int (nI 0)])), (vb, .inl (zc Z 0, ((ySay g).length, .inl fb)))]) (wc := []) (rest := [.int (nI i)]) O (jc_V (y := yJ0_length_8abf5) (C0 := RJ0) (b := qb) (as' := []) (rest := [.int (nI i)]) O.1 dL_law_894 (uq_in (by decide +kernel) (by decide +kernel)) (uq_in (by decide +kernel) (by decide +kernel)) (O.1.2.2.2.2.1 (Cond.selects RJ0 yJ0_length_8abf5 yJ0_length_8abf5) (uq_in (by decide +kernel) (by decide +kernel))) (uq_in (by decide +kernel) (by decide +kernel)) (uq_in (by decide +kernel) (by decide +kernel)) ⟨by decide +kernel, by decide +kernel, (by decide +kernel : (parseMethodDescriptor yJ0_length_8abf5.desc).map (fun d => d.parameters.length) = some 0)⟩ rfl ⟨(Nat.le_of_ble_eq_true rfl), (Nat.le_of_ble_eq_true rfl)⟩ (Nat.le_of_ble_eq_true rfl)) (fun sz => j_len Z qb vb ((ySay g).length) fb sz) (jS_mv _ _ _ _) (jt_e (i := 4) (j := 5) O rfl rfl) (j_rwE (r := (RJ0, TJ0, 4)) (ci := 12) (i := 4) (E1 := [(ak, .inl (zc Z 1, (20, .inl kd))), (am, .inl (zc Z 1, (4, .inl md))), (as, .inl (zc Z 1, (4, .inl sz))), (al, .inl (zc Z 1, (80, .inl ld))), (qb, .inr (12, [.ref vb, .int (nI 0), .int (nI 0), .int (nI 0)])), (vb, .inl (zc Z 0, ((ySay g).length, .inl fb)))]) (wc := []) O.1 rfl rfl) rfl (by omega) (by omega) (fun u hu => ?_)
    show uE Z C τ [(ak, .inl (zc Z 1, (20, .inl kd))), (am, .inl (zc Z 1, (4, .inl md))), (as, .inl (zc Z 1, (4, .inl sz))), (al, .inl (zc Z 1, (80, .inl ld))), (qb, .inr (12, [.ref vb, .int (nI 0), .int (nI 0), .int (nI 0)])), (vb, .inl (zc Z 0, ((ySay g).length, .inl fb)))] _ _ _ [(17, .int (nI i)), (16, .int (nI a)), (15, .int (nI f)), (14, .int (nI n)), (13, .ref qb), (10, .int (nI t)), (9, .int q), (8, .int (nI T)), (7, .ref al), (6, .ref as), (5, .ref am), (4, .int (nI words)), (3, .ref ak), (2, .int (nI 1)), (1, .ref (za Z 0)), (0, .ref b)] [.int (nI ((ySay g).length)), .int (nI i)]
    refine uv_icmp_eq 912 O.1 dL_law_897 rfl (fun hh => absurd hh (j_ne (by omega) (by omega) (by omega))) (fun _ => ?_)
    refine uv_aload O.1 dL_law_900 4 rfl ?_
    refine uv_iload O.1 dL_law_902 0 rfl ?_
    have hb := ySay_b hB hG (show i < (ySay g).length by omega)
    refine ue_call (E1 := [(ak, .inl (zc Z 1, (20, .inl kd))), (am, .inl (zc Z 1, (4, .inl md))), (as, .inl (zc Z 1, (4, .inl sz))), (al, .inl (zc Z 1, (80, .inl ld))), (qb, .inr (12, [.ref vb, .int (nI 0), .int (nI 0), .int (nI 0)])), (vb, .inl (zc Z 0, ((ySay g).length, .inl fb)))]) (wc := []) (rest := []) O (jc_V (y := yJ0_charAt_5068e) (C0 := RJ0) (b := qb) (as' := [.int (nI i)]) (rest := []) O.1 dL_law_904 (uq_in (by decide +kernel) (by decide +kernel)) (uq_in (by decide +kernel) (by decide +kernel)) (O.1.2.2.2.2.1 (Cond.selects RJ0 yJ0_charAt_5068e yJ0_charAt_5068e) (uq_in (by decide +kernel) (by decide +kernel))) (uq_in (by decide +kernel) (by decide +kernel)) (uq_in (by decide +kernel) (by decide +kernel)) ⟨by decide +kernel, by decide +kernel, (by decide +kernel : (parseMethodDescriptor yJ0_charAt_5068e.desc).map (fun d => d.parameters.length) = some 1)⟩ rfl ⟨(Nat.le_of_ble_eq_true rfl), (Nat.le_of_ble_eq_true rfl)⟩ (Nat.le_of_ble_eq_true rfl)) (fun sz => j_chr Z qb vb ((ySay g).length) i ((ySay g).getD i 0) fb sz (by omega) (by omega) hb (hfb i (by omega))) (jS_mv _ _ _ _) (jt_e (i := 4) (j := 5) O rfl rfl) (j_rwE (r := (RJ0, TJ0, 4)) (ci := 12) (i := 4) (E1 := [(ak, .inl (zc Z 1, (20, .inl kd))), (am, .inl (zc Z 1, (4, .inl md))), (as, .inl (zc Z 1, (4, .inl sz))), (al, .inl (zc Z 1, (80, .inl ld))), (qb, .inr (12, [.ref vb, .int (nI 0), .int (nI 0), .int (nI 0)])), (vb, .inl (zc Z 0, ((ySay g).length, .inl fb)))]) (wc := []) O.1 rfl rfl) rfl (by omega) (by omega) (fun u hu => ?_)
    show uE Z C τ [(ak, .inl (zc Z 1, (20, .inl kd))), (am, .inl (zc Z 1, (4, .inl md))), (as, .inl (zc Z 1, (4, .inl sz))), (al, .inl (zc Z 1, (80, .inl ld))), (qb, .inr (12, [.ref vb, .int (nI 0), .int (nI 0), .int (nI 0)])), (vb, .inl (zc Z 0, ((ySay g).length, .inl fb)))] _ _ _ [(17, .int (nI i)), (16, .int (nI a)), (15, .int (nI f)), (14, .int (nI n)), (13, .ref qb), (10, .int (nI t)), (9, .int q), (8, .int (nI T)), (7, .ref al), (6, .ref as), (5, .ref am), (4, .int (nI words)), (3, .ref ak), (2, .int (nI 1)), (1, .ref (za Z 0)), (0, .ref b)] [.int (nI ((ySay g).getD i 0))]
    refine uv_bipush O.1 dL_law_907 (nI 32) rfl ?_
    refine uv_icmp_ne 945 O.1 dL_law_909 rfl (fun hh => ?_) (fun hh => ?_)
    · have h32 : ¬ (ySay g).getD i 0 = 32 := fun e => hh (by rw [e])
      refine uv_iinc (z := 1) (v := nI (i + 1)) O.1 dL_law_945 0 rfl (zI.1 _ _) (by omega) [(17, .int (nI (i + 1))), (16, .int (nI a)), (15, .int (nI f)), (14, .int (nI n)), (13, .ref qb), (10, .int (nI t)), (9, .int q), (8, .int (nI T)), (7, .ref al), (6, .ref as), (5, .ref am), (4, .int (nI words)), (3, .ref ak), (2, .int (nI 1)), (1, .ref (za Z 0)), (0, .ref b)] rfl ?_
      refine uv_goto 880 O.1 dL_law_948 rfl ?_
      refine uv_sub [0, 1, 2, 3, 4, 5, 6, 7, 8, 9, 10, 11, 12, 13, 14, 15] rfl ?_
      exact ih (i + 1) a f τ A (by omega) (yShp_skip hp h32) hQ hfit2 hS
    · have h32 : (ySay g).getD i 0 = 32 := by simp (disch := omega) only [zC] at hh; exact hh
      exact w_put (c12 := c12) (pl := pl) O hXs hN h25 hef h34 hk0 hn0 hI hfit ht hn1 hfb h44 b1 b2 (by omega) hQ hfit2 hS (fun τ2 c1 c2 c3 => ih (i + 1) (a + 1) (i + 1) τ2 _ (by omega) (yShp_put hp h32) c1 c2 c3)
