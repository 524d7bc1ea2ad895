theorem lw_31 (x : Int32) : ∃ k, k < 32 ∧ x &&& nI 31 = nI k := by
  have h : (x &&& nI 31).toBitVec.toNat < 32 := by
    rw [Int32.toBitVec_and, BitVec.toNat_and]
    have b : (nI 31).toBitVec.toNat = 31 := by decide +kernel
    rw [b]
    exact Nat.lt_succ_of_le Nat.and_le_right
  refine ⟨(x &&& nI 31).toBitVec.toNat, h, ?_⟩
  rw [← Int32.toBitVec_inj]
  have nb : ∀ j, j < 32 → (nI j).toBitVec.toNat = j := by
    have : ∀ j : Fin 32, (nI j.1).toBitVec.toNat = j.1 := by decide +kernel
    exact fun j hj => this ⟨j, hj⟩
  exact BitVec.eq_of_toNat_eq (nb _ h).symm
theorem lw_room {L a : Nat} (hL : L ≤ 3584) (ha : a ≤ L) (h : ¬ (nI L - nI 7 < nI a)) : a + 7 ≤ L := by
  by_cases h7 : 7 ≤ L
  · rw [zi_sub h7] at h
    simp (disch := omega) only [zC] at h
    omega
  · exfalso
    apply h
    have k : ∀ n : Fin 7, nI n.1 - nI 7 = -nI (7 - n.1) := by decide +kernel
    have := k ⟨L, by omega⟩
    dsimp only at this
    rw [this]
    simp (disch := omega) only [zC]
section LAWLOOP
variable {Z : ZT} {C : CX} {b L : Nat} {xs : Nat → Int32}
/-- from the head of the law's loop to its end -/
theorem lw_loop (O : Ok Z C RL code 4 12 510) (S : lwS C b L xs) (fin : ∀ σ g i, zIv σ g → G Z C σ 1160 (lwL Z b i) [.int (nI 1)]) : ∀ n j σ g, L + 7 ≤ 7 * j + n → 7 * j ≤ L → zIv σ g → G Z C σ 18 (lwL Z b (nI (7 * j))) [] := by
  intro n
  induction n with
  | zero => intro j σ g h1 h2; omega
  | succ n ih =>
    intro j σ g h1 h2 hz
    refine g_iload_n O dRL_18 0 rfl rfl ?_
    refine g_aload_n O dRL_19 1 rfl rfl ?_
    refine lw_slen O S dRL_20 ?_
    refine g_bipush O dRL_21 (nI 7) rfl ?_
    refine g_isub O dRL_23 ?_
    refine g_icmp_gt (K := fun _ : Option Unit => True) (t := none) (e := none) 1159 O dRL_24 (by decide) trivial (fun _ _ => ?_) (fun q _ => ?_)
    · refine g_iconst O dRL_1159 (nI 1) rfl ?_
      exact fin σ g _ hz
    have hj := lw_room S.2.2.2 h2 q
    refine g_aload_n O dRL_27 1 rfl rfl ?_
    refine g_iload_n O dRL_28 0 rfl rfl ?_
    refine lw_sld O S (by omega) dRL_29 ?_
    refine g_bipush O dRL_30 (nI 31) rfl ?_
    refine g_iand O dRL_32 ?_
    have nxt : ∀ σ' g', zIv σ' g' → G Z C σ' 1153 (lwL Z b (nI (7 * j))) [] := by
      intro σ' g' hz'
      refine g_iinc (K := fun o : Option Int32 => o = some (nI (7 * (j + 1)))) (t := fun y => some y) O dRL_1153 0 rfl (by decide) (nI 7) rfl (fun y => lwL Z b y) (fun y => rfl) ?_ (fun y hy => ?_)
      · show some (nI (7 * j) + nI 7) = _
        rw [zI.1, Nat.mul_add]
      · cases hy
        refine g_goto 18 O dRL_1156 (by decide) ?_
        exact ih (j + 1) σ' g' (by omega) (by omega) hz'
    obtain ⟨k, hk, ek⟩ := lw_31 (xs (7 * j))
    rw [ek]
    by_cases h28 : k ≤ 28
    · have hk29 : k < 29 := by omega
      clear h28 ek hk
      rcases (show k = 0 ∨ k = 1 ∨ k = 2 ∨ k = 3 ∨ k = 4 ∨ k = 5 ∨ k = 6 ∨ k = 7 ∨ k = 8 ∨ k = 9 ∨ k = 10 ∨ k = 11 ∨ k = 12 ∨ k = 13 ∨ k = 14 ∨ k = 15 ∨ k = 16 ∨ k = 17 ∨ k = 18 ∨ k = 19 ∨ k = 20 ∨ k = 21 ∨ k = 22 ∨ k = 23 ∨ k = 24 ∨ k = 25 ∨ k = 26 ∨ k = 27 ∨ k = 28 by omega) with rfl | rfl | rfl | rfl | rfl | rfl | rfl | rfl | rfl | rfl | rfl | rfl | rfl | rfl | rfl | rfl | rfl | rfl | rfl | rfl | rfl | rfl | rfl | rfl | rfl | rfl | rfl | rfl | rfl
      · exact g_tabIn (v := nI 0) (off := 131) 164 O dRL_33 rfl (by decide +kernel) (by decide +kernel) (by decide +kernel) (by decide) (lw_case_0 O S hj hz nxt)
      · exact g_tabIn (v := nI 1) (off := 206) 239 O dRL_33 rfl (by decide +kernel) (by decide +kernel) (by decide +kernel) (by decide) (lw_case_1 O S hj hz nxt)
      · exact g_tabIn (v := nI 2) (off := 249) 282 O dRL_33 rfl (by decide +kernel) (by decide +kernel) (by decide +kernel) (by decide) (lw_case_2 O S hj hz nxt)
      · exact g_tabIn (v := nI 3) (off := 292) 325 O dRL_33 rfl (by decide +kernel) (by decide +kernel) (by decide +kernel) (by decide) (lw_case_3 O S hj hz nxt)
      · exact g_tabIn (v := nI 4) (off := 305) 338 O dRL_33 rfl (by decide +kernel) (by decide +kernel) (by decide +kernel) (by decide) (lw_case_4 O S hj hz nxt)
      · exact g_tabIn (v := nI 5) (off := 338) 371 O dRL_33 rfl (by decide +kernel) (by decide +kernel) (by decide +kernel) (by decide) (lw_case_5 O S hj hz nxt)
      · exact g_tabIn (v := nI 6) (off := 371) 404 O dRL_33 rfl (by decide +kernel) (by decide +kernel) (by decide +kernel) (by decide) (lw_case_6 O S hj hz nxt)
      · exact g_tabIn (v := nI 7) (off := 414) 447 O dRL_33 rfl (by decide +kernel) (by decide +kernel) (by decide +kernel) (by decide) (lw_case_7 O S hj hz nxt)
      · exact g_tabIn (v := nI 8) (off := 457) 490 O dRL_33 rfl (by decide +kernel) (by decide +kernel) (by decide +kernel) (by decide) (lw_case_8 O S hj hz nxt)
      · exact g_tabIn (v := nI 9) (off := 490) 523 O dRL_33 rfl (by decide +kernel) (by decide +kernel) (by decide +kernel) (by decide) (lw_case_9 O S hj hz nxt)
      · exact g_tabIn (v := nI 10) (off := 523) 556 O dRL_33 rfl (by decide +kernel) (by decide +kernel) (by decide +kernel) (by decide) (lw_case_10 O S hj hz nxt)
      · exact g_tabIn (v := nI 11) (off := 556) 589 O dRL_33 rfl (by decide +kernel) (by decide +kernel) (by decide +kernel) (by decide) (lw_case_11 O S hj hz nxt)
      · exact g_tabIn (v := nI 12) (off := 579) 612 O dRL_33 rfl (by decide +kernel) (by decide +kernel) (by decide +kernel) (by decide) (lw_case_12 O S hj hz nxt)
      · exact g_tabIn (v := nI 13) (off := 602) 635 O dRL_33 rfl (by decide +kernel) (by decide +kernel) (by decide +kernel) (by decide) (lw_case_13 O S hj hz nxt)
      · exact g_tabIn (v := nI 14) (off := 615) 648 O dRL_33 rfl (by decide +kernel) (by decide +kernel) (by decide +kernel) (by decide) (lw_case_14 O S hj hz nxt)
      · exact g_tabIn (v := nI 15) (off := 638) 671 O dRL_33 rfl (by decide +kernel) (by decide +kernel) (by decide +kernel) (by decide) (lw_case_15 O S hj hz nxt)
      · exact g_tabIn (v := nI 16) (off := 661) 694 O dRL_33 rfl (by decide +kernel) (by decide +kernel) (by decide +kernel) (by decide) (lw_case_16 O S hj hz nxt)
      · exact g_tabIn (v := nI 17) (off := 694) 727 O dRL_33 rfl (by decide +kernel) (by decide +kernel) (by decide +kernel) (by decide) (lw_case_17 O S hj hz nxt)
      · exact g_tabIn (v := nI 18) (off := 737) 770 O dRL_33 rfl (by decide +kernel) (by decide +kernel) (by decide +kernel) (by decide) (lw_case_18 O S hj hz nxt)
      · exact g_tabIn (v := nI 19) (off := 780) 813 O dRL_33 rfl (by decide +kernel) (by decide +kernel) (by decide +kernel) (by decide) (lw_case_19 O S hj hz nxt)
      · exact g_tabIn (v := nI 20) (off := 823) 856 O dRL_33 rfl (by decide +kernel) (by decide +kernel) (by decide +kernel) (by decide) (lw_case_20 O S hj hz nxt)
      · exact g_tabIn (v := nI 21) (off := 856) 889 O dRL_33 rfl (by decide +kernel) (by decide +kernel) (by decide +kernel) (by decide) (lw_case_21 O S hj hz nxt)
      · exact g_tabIn (v := nI 22) (off := 889) 922 O dRL_33 rfl (by decide +kernel) (by decide +kernel) (by decide +kernel) (by decide) (lw_case_22 O S hj hz nxt)
      · exact g_tabIn (v := nI 23) (off := 922) 955 O dRL_33 rfl (by decide +kernel) (by decide +kernel) (by decide +kernel) (by decide) (lw_case_23 O S hj hz nxt)
      · exact g_tabIn (v := nI 24) (off := 935) 968 O dRL_33 rfl (by decide +kernel) (by decide +kernel) (by decide +kernel) (by decide) (lw_case_24 O S hj hz nxt)
      · exact g_tabIn (v := nI 25) (off := 948) 981 O dRL_33 rfl (by decide +kernel) (by decide +kernel) (by decide +kernel) (by decide) (lw_case_25 O S hj hz nxt)
      · exact g_tabIn (v := nI 26) (off := 971) 1004 O dRL_33 rfl (by decide +kernel) (by decide +kernel) (by decide +kernel) (by decide) (lw_case_26 O S hj hz nxt)
      · exact g_tabIn (v := nI 27) (off := 1014) 1047 O dRL_33 rfl (by decide +kernel) (by decide +kernel) (by decide +kernel) (by decide) (lw_case_27 O S hj hz nxt)
      · exact g_tabIn (v := nI 28) (off := 1057) 1090 O dRL_33 rfl (by decide +kernel) (by decide +kernel) (by decide +kernel) (by decide) (lw_case_28 O S hj hz nxt)
    · refine g_tabOut 1153 O dRL_33 ?_ (by decide) (nxt σ g hz)
      rcases (show k = 29 ∨ k = 30 ∨ k = 31 by omega) with rfl | rfl | rfl <;> decide +kernel
end LAWLOOP
