/-! the law's loop -/
theorem I_nat (x : Int32) : x = nI x.toBitVec.toNat := by
  rw [← Int32.toBitVec_inj]
  show x.toBitVec = BitVec.ofNat 32 x.toBitVec.toNat
  simp
theorem I_and31 (x : Int32) : ∃ k, k < 32 ∧ x &&& 31 = nI k := by
  refine ⟨(x &&& 31).toBitVec.toNat, ?_, I_nat _⟩
  show (x.toBitVec &&& (31 : Int32).toBitVec).toNat < 32
  rw [BitVec.toNat_and]
  exact Nat.lt_of_le_of_lt Nat.and_le_right (by decide)
theorem law_loop {X : lX} (C : CL X) (hb : l_n X ≤ 320) (fin : ∀ S M i, LI X S M → VL X 1054 (LK X i) [] M) : ∀ d i S M, l_n X ≤ i + d → i ≤ 400 → LI X S M → VL X 18 (LK X i) [] M
  | d, i, S, M, hd, hi, I => by
    refine VL_iload C 3 dL_law_18 rfl ?_
    refine VL_aload C 0 dL_law_19 rfl ?_
    refine VL_slen C dL_law_20 ?_
    refine VL_iconst C (jI 5) dL_law_21 (by decide) ?_
    refine VL_isub C dL_law_22 ?_
    refine VL_icmp_gt C (tgt := 1054) dL_law_23 (by decide) (fun _ => fin S M i I) (fun z => ?_)
    have hi5 : i + 5 ≤ l_n X := by
      rw [jI_n, jI_n, jI_sub, jI_lt (by omega) (by omega) (by omega) (by omega)] at z
      omega
    have next : ∀ S' M', LI X S' M' → VL X 1048 (LK X i) [] M' := fun S' M' I' => by
      cases d with
      | zero => omega
      | succ d =>
        refine VL_iinc C 3 (by decide) dL_law_1048 rfl (show nI i + Int32.ofInt 5 = nI (i + 5) from nI_add i 5) rfl ?_
        refine VL_goto C (tgt := 18) dL_law_1051 (by decide) ?_
        refine VL_sub (lv' := LK X (i + 5)) [1, 2, 3, 0] rfl ?_
        exact law_loop C hb fin d (i + 5) S' M' (by omega) (by omega) I'
    refine VL_aload C 0 dL_law_26 rfl ?_
    refine VL_iload C 3 dL_law_27 rfl ?_
    refine VL_sld C (vin (by omega) (by omega)) dL_law_28 ?_
    refine VL_bipush C 31 dL_law_29 (by decide) ?_
    refine VL_iand C dL_law_31 ?_
    obtain ⟨k, hk, e⟩ := I_and31 (l_x X (nI i).toNatClampNeg)
    rw [e]
    clear e
    have : k = 0 ∨ k = 1 ∨ k = 2 ∨ k = 3 ∨ k = 4 ∨ k = 5 ∨ k = 6 ∨ k = 7 ∨ k = 8 ∨ k = 9 ∨ k = 10 ∨ k = 11 ∨ k = 12 ∨ k = 13 ∨ k = 14 ∨ k = 15 ∨ k = 16 ∨ k = 17 ∨ k = 18 ∨ k = 19 ∨ k = 20 ∨ k = 21 ∨ k = 22 ∨ k = 23 ∨ k = 24 ∨ k = 25 ∨ k = 26 ∨ k = 27 ∨ k = 28 ∨ k = 29 ∨ k = 30 ∨ k = 31 := by omega
    rcases this with rfl | rfl | rfl | rfl | rfl | rfl | rfl | rfl | rfl | rfl | rfl | rfl | rfl | rfl | rfl | rfl | rfl | rfl | rfl | rfl | rfl | rfl | rfl | rfl | rfl | rfl | rfl | rfl | rfl | rfl | rfl | rfl
    · exact VL_tsw C dL_law_32 132 (by decide) (by decide) (by decide) (by decide) (lc_0 C hi5 hb I next)
    · exact VL_tsw C dL_law_32 185 (by decide) (by decide) (by decide) (by decide) (lc_1 C hi5 hb I next)
    · exact VL_tsw C dL_law_32 218 (by decide) (by decide) (by decide) (by decide) (lc_2 C hi5 hb I next)
    · exact VL_tsw C dL_law_32 251 (by decide) (by decide) (by decide) (by decide) (lc_3 C hi5 hb I next)
    · exact VL_tsw C dL_law_32 294 (by decide) (by decide) (by decide) (by decide) (lc_4 C hi5 hb I next)
    · exact VL_tsw C dL_law_32 343 (by decide) (by decide) (by decide) (by decide) (lc_5 C hi5 hb I next)
    · exact VL_tsw C dL_law_32 376 (by decide) (by decide) (by decide) (by decide) (lc_6 C hi5 hb I next)
    · exact VL_tsw C dL_law_32 439 (by decide) (by decide) (by decide) (by decide) (lc_7 C hi5 hb I next)
    · exact VL_tsw C dL_law_32 452 (by decide) (by decide) (by decide) (by decide) (lc_8 C hi5 hb I next)
    · exact VL_tsw C dL_law_32 465 (by decide) (by decide) (by decide) (by decide) (lc_9 C hi5 hb I next)
    · exact VL_tsw C dL_law_32 508 (by decide) (by decide) (by decide) (by decide) (lc_10 C hi5 hb I next)
    · exact VL_tsw C dL_law_32 551 (by decide) (by decide) (by decide) (by decide) (lc_11 C hi5 hb I next)
    · exact VL_tsw C dL_law_32 584 (by decide) (by decide) (by decide) (by decide) (lc_12 C hi5 hb I next)
    · exact VL_tsw C dL_law_32 617 (by decide) (by decide) (by decide) (by decide) (lc_13 C hi5 hb I next)
    · exact VL_tsw C dL_law_32 640 (by decide) (by decide) (by decide) (by decide) (lc_14 C hi5 hb I next)
    · exact VL_tsw C dL_law_32 673 (by decide) (by decide) (by decide) (by decide) (lc_15 C hi5 hb I next)
    · exact VL_tsw C dL_law_32 696 (by decide) (by decide) (by decide) (by decide) (lc_16 C hi5 hb I next)
    · exact VL_tsw C dL_law_32 729 (by decide) (by decide) (by decide) (by decide) (lc_17 C hi5 hb I next)
    · exact VL_tsw C dL_law_32 752 (by decide) (by decide) (by decide) (by decide) (lc_18 C hi5 hb I next)
    · exact VL_tsw C dL_law_32 765 (by decide) (by decide) (by decide) (by decide) (lc_19 C hi5 hb I next)
    · exact VL_tsw C dL_law_32 788 (by decide) (by decide) (by decide) (by decide) (lc_20 C hi5 hb I next)
    · exact VL_tsw C dL_law_32 821 (by decide) (by decide) (by decide) (by decide) (lc_21 C hi5 hb I next)
    · exact VL_tsw C dL_law_32 854 (by decide) (by decide) (by decide) (by decide) (lc_22 C hi5 hb I next)
    · exact VL_tsw C dL_law_32 877 (by decide) (by decide) (by decide) (by decide) (lc_23 C hi5 hb I next)
    · exact VL_tsw C dL_law_32 910 (by decide) (by decide) (by decide) (by decide) (lc_24 C hi5 hb I next)
    · exact VL_tsw C dL_law_32 933 (by decide) (by decide) (by decide) (by decide) (lc_25 C hi5 hb I next)
    · exact VL_tsw C dL_law_32 956 (by decide) (by decide) (by decide) (by decide) (lc_26 C hi5 hb I next)
    · exact VL_tsw C dL_law_32 979 (by decide) (by decide) (by decide) (by decide) (lc_27 C hi5 hb I next)
    · exact VL_tsw C dL_law_32 1002 (by decide) (by decide) (by decide) (by decide) (lc_28 C hi5 hb I next)
    · exact VL_tswOut C (tgt := 1048) dL_law_32 (Or.inr (by decide)) (by decide) (next S M I)
    · exact VL_tswOut C (tgt := 1048) dL_law_32 (Or.inr (by decide)) (by decide) (next S M I)
    · exact VL_tswOut C (tgt := 1048) dL_law_32 (Or.inr (by decide)) (by decide) (next S M I)
