/-! what a new object holds -/
theorem ST_sh {M M' : mM} {b : Nat} {s c : Nat → Nat} (e : ∀ k, k < 12 → M.1 (b + k) = M'.1 k) (h : ST M' 0 s c) : ST M b s c := by
  obtain ⟨h1, h2, h3, h4, h5, h6, h7⟩ := h
  have e0 : M.1 b = M'.1 0 := e 0 (by decide)
  refine ⟨by rw [e0]; exact h1, by rw [e0]; exact h2, fun i hi => by rw [e 5 (by decide)]; exact h3 i hi, fun i hi => by rw [e 6 (by decide)]; exact h4 i hi, fun i hi => ?_, fun i hi => ?_, fun i hi => by rw [e 11 (by decide)]; exact h7 i hi⟩
  · obtain ⟨a1, a2, a3, a4⟩ := h5 i hi
    exact ⟨by rw [e 1 (by decide)]; exact a1, by rw [e 2 (by decide)]; exact a2, by rw [e 3 (by decide)]; exact a3, by rw [e 4 (by decide)]; exact a4⟩
  · obtain ⟨a1, a2, a3, a4⟩ := h6 i hi
    exact ⟨by rw [e 7 (by decide)]; exact a1, by rw [e 8 (by decide)]; exact a2, by rw [e 9 (by decide)]; exact a3, by rw [e 10 (by decide)]; exact a4⟩
theorem RW_sh {M M' : mM} {b v : Nat} (e : ∀ k, k < 3 → M.1 (b + k) = M'.1 k) (h : RW M' 0 v) : RW M b v :=
  ⟨fun i hi => by rw [e 1 (by decide)]; exact h.1 i hi, by rw [show M.1 b = M'.1 0 from e 0 (by decide)]; exact h.2.1, h.2.2⟩
theorem MR_sh {M M' : mM} {m : Nat} {S : zS} (e : ∀ k, k < 15 → M.1 (m + k) = M'.1 k) (h : MR M' 0 S) : MR M m S := by
  obtain ⟨h1, h2, h3, h4, h5, h6⟩ := h
  have e0 : M.1 m = M'.1 0 := e 0 (by decide)
  refine ⟨⟨fun i hi => by rw [e 1 (by decide)]; exact h1.1 i hi, fun i hi => by rw [e 1 (by decide)]; exact h1.2 i hi⟩, fun i hi => ⟨by rw [e 3 (by decide)]; exact (h2 i hi).1, fun q => ⟨fun j hj => by rw [e 2 (by decide)]; exact ((h2 i hi).2 q).1 j hj, fun j hj => by rw [e 2 (by decide)]; exact ((h2 i hi).2 q).2 j hj⟩⟩, ⟨by rw [e0]; exact h3.1, fun j hj => by rw [e 8 (by decide)]; exact h3.2 j hj⟩, ⟨⟨fun i hi => by rw [e 6 (by decide)]; exact h4.1.1 i hi, by rw [e 7 (by decide)]; exact h4.1.2.1, h4.1.2.2⟩, ⟨fun i hi => by rw [e 6 (by decide)]; exact h4.2.1 i hi, by rw [e 7 (by decide)]; exact h4.2.2.1, h4.2.2.2⟩⟩, fun k hk => by rw [e 5 (by decide)]; exact h5 k hk, by rw [e0]; exact h6⟩
def s00 : Nat → Nat := fun _ => 0
/-- what object and row hold at first -/
def S00 : zS := (sBg s00, cZ, fun _ => (0, s00, s00), (0, s00), (0, 1), fun _ => 0)
theorem SW_00 : SW S00 := ⟨WF_bg s00, fun i _ h => absurd rfl h, Nat.zero_le _, fun j => (by decide : 0 < 256)⟩
theorem mg_zero {lo hi B len : Nat} {M u : mM} (hm : ∀ q, B < q → ∀ j, M.1 q j = 0) (hu : Pz len lo u) (hl : hi = lo + len) : ∀ q, B < q → ∀ j, (mg lo hi M u).1 q j = 0 := by
  intro q hq j
  by_cases a : q < lo
  · rw [(mg_lo a).1]; exact hm q hq j
  · by_cases c : q < hi
    · rw [(mg_mid a c).1]; exact hu q (by omega) (by omega) j
    · rw [(mg_hi a c).1]

theorem kx_0 : Cond.code yX5_init cX5_init 1 none ∈ wsL_law := inR5 (List.mem_of_getElem? (i := 15) rfl)
theorem kx_1 : Cond.initialized RX5 ∈ wsL_law := inR2 (List.mem_of_getElem? (i := 15) rfl)
theorem kx_2 : Cond.methodLink RX2 3 objectInit ∈ wsL_law := inR3 (List.mem_of_getElem? (i := 0) rfl)
theorem kx_3 : Cond.instanceMethod objectInit ∈ wsL_law := inR1 (List.mem_of_getElem? (i := 11) rfl)
theorem kx_4 : Cond.code objectInit ⟨#[0xb1]⟩ 1 none ∈ wsL_law := inR1 (List.mem_of_getElem? (i := 12) rfl)
theorem kx_5 : Cond.arrayClass .int ∈ wsL_law := inR2 (List.mem_of_getElem? (i := 19) rfl)
theorem kx_6 : Cond.fieldLink RX2 9 "PaintedGods$Statue" "thick" "[I" ∈ wsL_law := inR3 (List.mem_of_getElem? (i := 1) rfl)
theorem kx_7 : Cond.fieldLink RX2 15 "PaintedGods$Statue" "brightness" "[I" ∈ wsL_law := inR3 (List.mem_of_getElem? (i := 2) rfl)
theorem kx_8 : Cond.fieldLink RX2 18 "PaintedGods$Statue" "lamps" "[I" ∈ wsL_law := inR3 (List.mem_of_getElem? (i := 3) rfl)
theorem kx_9 : Cond.fieldLink RX2 21 "PaintedGods$Statue" "least" "[I" ∈ wsL_law := inR3 (List.mem_of_getElem? (i := 4) rfl)
theorem kx_10 : Cond.fieldLink RX2 24 "PaintedGods$Statue" "settings" "[I" ∈ wsL_law := inR3 (List.mem_of_getElem? (i := 5) rfl)
theorem kx_11 : Cond.fieldLink RX2 27 "PaintedGods$Statue" "habits" "[I" ∈ wsL_law := inR3 (List.mem_of_getElem? (i := 6) rfl)
theorem kx_12 : Cond.fieldLink RX2 30 "PaintedGods$Statue" "cells" "[I" ∈ wsL_law := inR3 (List.mem_of_getElem? (i := 7) rfl)
theorem kx_13 : Cond.fieldLink RX2 33 "PaintedGods$Statue" "kinds" "[I" ∈ wsL_law := inR3 (List.mem_of_getElem? (i := 8) rfl)
theorem kx_14 : Cond.fieldLink RX2 36 "PaintedGods$Statue" "values" "[I" ∈ wsL_law := inR3 (List.mem_of_getElem? (i := 9) rfl)
theorem kx_15 : Cond.fieldLink RX2 39 "PaintedGods$Statue" "asides" "[I" ∈ wsL_law := inR3 (List.mem_of_getElem? (i := 10) rfl)
theorem kx_16 : Cond.fieldLink RX2 42 "PaintedGods$Statue" "copies" "[I" ∈ wsL_law := inR3 (List.mem_of_getElem? (i := 11) rfl)
theorem kx_17 : Cond.methodLink RX2 45 yX2_beAtFirst ∈ wsL_law := inR3 (List.mem_of_getElem? (i := 12) rfl)
theorem kx_18 : Cond.methodLink RX7 1 objectInit ∈ wsL_law := inR6 (List.mem_of_getElem? (i := 12) rfl)
theorem kx_19 : Cond.fieldLink RX7 7 "PaintedGodsModel" "book" "[I" ∈ wsL_law := inR6 (List.mem_of_getElem? (i := 13) rfl)
theorem kx_20 : Cond.fieldLink RX7 13 "PaintedGodsModel" "images" "[I" ∈ wsL_law := inR6 (List.mem_of_getElem? (i := 14) rfl)
theorem kx_21 : Cond.arrayClass .boolean ∈ wsL_law := inR1 (List.mem_of_getElem? (i := 19) rfl)
theorem kx_22 : Cond.fieldLink RX7 16 "PaintedGodsModel" "kept" "[Z" ∈ wsL_law := inR6 (List.mem_of_getElem? (i := 15) rfl)
theorem kx_23 : Cond.fieldLink RX7 20 "PaintedGodsModel" "before" "[I" ∈ wsL_law := inR6 (List.mem_of_getElem? (i := 16) rfl)
theorem kx_24 : Cond.fieldLink RX7 23 "PaintedGodsModel" "refused" "[I" ∈ wsL_law := inR6 (List.mem_of_getElem? (i := 17) rfl)
theorem kx_25 : Cond.fieldLink RX7 26 "PaintedGodsModel" "limbs" "[I" ∈ wsL_law := inR6 (List.mem_of_getElem? (i := 18) rfl)
theorem kx_26 : Cond.fieldLink RX7 29 "PaintedGodsModel" "wide" "[I" ∈ wsL_law := inR6 (List.mem_of_getElem? (i := 19) rfl)
theorem kx_27 : Cond.fieldLink RX7 32 "PaintedGodsModel" "text" "[I" ∈ wsL_law := inR6 (List.mem_of_getElem? (i := 20) rfl)
theorem kx_28 : Cond.fieldLink RX7 35 "PaintedGodsModel" "verbs" "[I" ∈ wsL_law := inR6 (List.mem_of_getElem? (i := 21) rfl)
theorem kx_29 : Cond.fieldLink RX7 38 "PaintedGodsModel" "nums" "[I" ∈ wsL_law := inR6 (List.mem_of_getElem? (i := 22) rfl)
theorem kx_30 : Cond.fieldLink RX7 41 "PaintedGodsModel" "weights" "[I" ∈ wsL_law := inR6 (List.mem_of_getElem? (i := 23) rfl)
theorem kx_31 : Cond.fieldLink RX7 44 "PaintedGodsModel" "losts" "[I" ∈ wsL_law := inR7 (List.mem_of_getElem? (i := 0) rfl)
theorem kx_32 : Cond.fieldLink RX7 47 "PaintedGodsModel" "edges" "[I" ∈ wsL_law := inR7 (List.mem_of_getElem? (i := 1) rfl)
theorem kx_33 : Cond.fieldLink RX7 50 "PaintedGodsModel" "met" "[Z" ∈ wsL_law := inR7 (List.mem_of_getElem? (i := 2) rfl)
theorem kx_34 : Cond.methodLink RX7 53 yX7_begins ∈ wsL_law := inR7 (List.mem_of_getElem? (i := 3) rfl)
theorem kx_35 : Cond.methodLink RX7 56 yX7_sets ∈ wsL_law := inR7 (List.mem_of_getElem? (i := 7) rfl)
theorem kx_36 : Cond.methodLink RX0 1 objectInit ∈ wsL_law := inR5 (List.mem_of_getElem? (i := 8) rfl)
theorem kx_37 : Cond.classLink RX0 7 RX5 ∈ wsL_law := inR5 (List.mem_of_getElem? (i := 9) rfl)
theorem kx_38 : Cond.instantiable RX5 3 ∈ wsL_law := inR2 (List.mem_of_getElem? (i := 14) rfl)
theorem kx_39 : Cond.instanceMethod yX5_init ∈ wsL_law := inR5 (List.mem_of_getElem? (i := 14) rfl)
theorem kx_40 : Cond.fieldLink RX0 10 "PaintedGods$Fraction" "over" "LPaintedGods$Whole;" ∈ wsL_law := inR5 (List.mem_of_getElem? (i := 10) rfl)
theorem kx_41 : Cond.fieldLink RX0 16 "PaintedGods$Fraction" "under" "LPaintedGods$Whole;" ∈ wsL_law := inR5 (List.mem_of_getElem? (i := 11) rfl)
theorem kx_42 : Cond.fieldLink RX0 19 "PaintedGods$Fraction" "greater" "LPaintedGods$Whole;" ∈ wsL_law := inR5 (List.mem_of_getElem? (i := 12) rfl)
theorem kx_43 : Cond.fieldLink RX0 22 "PaintedGods$Fraction" "smaller" "LPaintedGods$Whole;" ∈ wsL_law := inR5 (List.mem_of_getElem? (i := 13) rfl)
theorem kx_44 : Cond.methodLink RX0 25 yX5_set ∈ wsL_law := inR5 (List.mem_of_getElem? (i := 19) rfl)
theorem FN_2_9 : FN RX2 9 2 0 (.array .int) := ⟨RX2, TX2, 13, tyX2, rfl, inlX2, tyX2_ok, nmX2, by decide, kx_6, rfl, rfl, by decide +kernel⟩
theorem FN_2_15 : FN RX2 15 2 1 (.array .int) := ⟨RX2, TX2, 13, tyX2, rfl, inlX2, tyX2_ok, nmX2, by decide, kx_7, rfl, rfl, by decide +kernel⟩
theorem FN_2_18 : FN RX2 18 2 2 (.array .int) := ⟨RX2, TX2, 13, tyX2, rfl, inlX2, tyX2_ok, nmX2, by decide, kx_8, rfl, rfl, by decide +kernel⟩
theorem FN_2_21 : FN RX2 21 2 3 (.array .int) := ⟨RX2, TX2, 13, tyX2, rfl, inlX2, tyX2_ok, nmX2, by decide, kx_9, rfl, rfl, by decide +kernel⟩
theorem FN_2_24 : FN RX2 24 2 4 (.array .int) := ⟨RX2, TX2, 13, tyX2, rfl, inlX2, tyX2_ok, nmX2, by decide, kx_10, rfl, rfl, by decide +kernel⟩
theorem FN_2_27 : FN RX2 27 2 5 (.array .int) := ⟨RX2, TX2, 13, tyX2, rfl, inlX2, tyX2_ok, nmX2, by decide, kx_11, rfl, rfl, by decide +kernel⟩
theorem FN_2_30 : FN RX2 30 2 6 (.array .int) := ⟨RX2, TX2, 13, tyX2, rfl, inlX2, tyX2_ok, nmX2, by decide, kx_12, rfl, rfl, by decide +kernel⟩
theorem FN_2_33 : FN RX2 33 2 7 (.array .int) := ⟨RX2, TX2, 13, tyX2, rfl, inlX2, tyX2_ok, nmX2, by decide, kx_13, rfl, rfl, by decide +kernel⟩
theorem FN_2_36 : FN RX2 36 2 8 (.array .int) := ⟨RX2, TX2, 13, tyX2, rfl, inlX2, tyX2_ok, nmX2, by decide, kx_14, rfl, rfl, by decide +kernel⟩
theorem FN_2_39 : FN RX2 39 2 9 (.array .int) := ⟨RX2, TX2, 13, tyX2, rfl, inlX2, tyX2_ok, nmX2, by decide, kx_15, rfl, rfl, by decide +kernel⟩
theorem FN_2_42 : FN RX2 42 2 10 (.array .int) := ⟨RX2, TX2, 13, tyX2, rfl, inlX2, tyX2_ok, nmX2, by decide, kx_16, rfl, rfl, by decide +kernel⟩
theorem FN_7_7 : FN RX7 7 7 0 (.array .int) := ⟨RX7, TX7, 21, tyX7, rfl, inlX7, tyX7_ok, nmX7, by decide, kx_19, rfl, rfl, by decide +kernel⟩
theorem FN_7_13 : FN RX7 13 7 1 (.array .int) := ⟨RX7, TX7, 21, tyX7, rfl, inlX7, tyX7_ok, nmX7, by decide, kx_20, rfl, rfl, by decide +kernel⟩
theorem FN_7_16 : FN RX7 16 7 2 (.array .boolean) := ⟨RX7, TX7, 21, tyX7, rfl, inlX7, tyX7_ok, nmX7, by decide, kx_22, rfl, rfl, by decide +kernel⟩
theorem FN_7_20 : FN RX7 20 7 3 (.array .int) := ⟨RX7, TX7, 21, tyX7, rfl, inlX7, tyX7_ok, nmX7, by decide, kx_23, rfl, rfl, by decide +kernel⟩
theorem FN_7_23 : FN RX7 23 7 4 (.array .int) := ⟨RX7, TX7, 21, tyX7, rfl, inlX7, tyX7_ok, nmX7, by decide, kx_24, rfl, rfl, by decide +kernel⟩
theorem FN_7_26 : FN RX7 26 7 6 (.array .int) := ⟨RX7, TX7, 21, tyX7, rfl, inlX7, tyX7_ok, nmX7, by decide, kx_25, rfl, rfl, by decide +kernel⟩
theorem FN_7_29 : FN RX7 29 7 7 (.array .int) := ⟨RX7, TX7, 21, tyX7, rfl, inlX7, tyX7_ok, nmX7, by decide, kx_26, rfl, rfl, by decide +kernel⟩
theorem FN_7_32 : FN RX7 32 7 8 (.array .int) := ⟨RX7, TX7, 21, tyX7, rfl, inlX7, tyX7_ok, nmX7, by decide, kx_27, rfl, rfl, by decide +kernel⟩
theorem FN_7_35 : FN RX7 35 7 14 (.array .int) := ⟨RX7, TX7, 21, tyX7, rfl, inlX7, tyX7_ok, nmX7, by decide, kx_28, rfl, rfl, by decide +kernel⟩
theorem FN_7_38 : FN RX7 38 7 15 (.array .int) := ⟨RX7, TX7, 21, tyX7, rfl, inlX7, tyX7_ok, nmX7, by decide, kx_29, rfl, rfl, by decide +kernel⟩
theorem FN_7_41 : FN RX7 41 7 17 (.array .int) := ⟨RX7, TX7, 21, tyX7, rfl, inlX7, tyX7_ok, nmX7, by decide, kx_30, rfl, rfl, by decide +kernel⟩
theorem FN_7_44 : FN RX7 44 7 18 (.array .int) := ⟨RX7, TX7, 21, tyX7, rfl, inlX7, tyX7_ok, nmX7, by decide, kx_31, rfl, rfl, by decide +kernel⟩
theorem FN_7_47 : FN RX7 47 7 19 (.array .int) := ⟨RX7, TX7, 21, tyX7, rfl, inlX7, tyX7_ok, nmX7, by decide, kx_32, rfl, rfl, by decide +kernel⟩
theorem FN_7_50 : FN RX7 50 7 20 (.array .boolean) := ⟨RX7, TX7, 21, tyX7, rfl, inlX7, tyX7_ok, nmX7, by decide, kx_33, rfl, rfl, by decide +kernel⟩
theorem FN_0_10 : FN RX0 10 0 0 (.object "PaintedGods$Whole") := ⟨RX0, TX0, 4, tyX0, rfl, inlX0, tyX0_ok, nmX0, by decide, kx_40, rfl, rfl, by decide +kernel⟩
theorem FN_0_16 : FN RX0 16 0 1 (.object "PaintedGods$Whole") := ⟨RX0, TX0, 4, tyX0, rfl, inlX0, tyX0_ok, nmX0, by decide, kx_41, rfl, rfl, by decide +kernel⟩
theorem FN_0_19 : FN RX0 19 0 2 (.object "PaintedGods$Whole") := ⟨RX0, TX0, 4, tyX0, rfl, inlX0, tyX0_ok, nmX0, by decide, kx_42, rfl, rfl, by decide +kernel⟩
theorem FN_0_22 : FN RX0 22 0 3 (.object "PaintedGods$Whole") := ⟨RX0, TX0, 4, tyX0, rfl, inlX0, tyX0_ok, nmX0, by decide, kx_43, rfl, rfl, by decide +kernel⟩

theorem hfs_5 : ∀ j, j < 3 → defaultValue (tyX5 j) = vp_V [.null, .null, .int 0] j := fun j hj => match j, hj with | 0, _ => rfl | 1, _ => rfl | 2, _ => rfl
theorem ym_5 : YM yX5_init cX5_init 1 none 0 := ⟨kx_0, kx_1, by decide, ⟨by decide +kernel, by decide +kernel⟩, by decide +kernel⟩
theorem cn_2 (l : Launch) : CN l 2 2 11 172 yX2_init cX2_init [.null, .null, .null, .null, .null, .null, .null, .null, .null, .null, .null, .int 0, .int 0] (fun b u => ST u b (sBg s00) cZ) := by
  refine CN_of (by decide +kernel) rfl (fun X C hk hl hR E => ?_)
  refine NB_aload C dX2_init_0 ?_
  refine NB_objInit C kx_2 kx_3 kx_4 (by rw [hR]; decide) (by rw [hR]; decide) dX2_init_1 ?_
  refine NB_aload C dX2_init_4 ?_
  refine NB_iconst C 4 dX2_init_5 (by decide) ?_
  refine NB_newI C (t := 0) (N := 4) rfl rfl (fun _ _ h => h) rfl kx_5 (by decide) (by decide) (by decide) (fun _ => rfl) (by rw [hR]; decide) (by rw [hR]; decide) dX2_init_6 ?_
  refine NB_putF C (by rw [hk]; exact FN_2_9) rfl rfl (Nat.le_of_ble_eq_true rfl) dX2_init_8 ?_
  refine NB_aload C dX2_init_11 ?_
  refine NB_iconst C 4 dX2_init_12 (by decide) ?_
  refine NB_newI C (t := 0) (N := 4) rfl rfl (fun _ _ h => h) rfl kx_5 (by decide) (by decide) (by decide) (fun _ => rfl) (by rw [hR]; decide) (by rw [hR]; decide) dX2_init_13 ?_
  refine NB_putF C (by rw [hk]; exact FN_2_15) rfl rfl (Nat.le_of_ble_eq_true rfl) dX2_init_15 ?_
  refine NB_aload C dX2_init_18 ?_
  refine NB_iconst C 4 dX2_init_19 (by decide) ?_
  refine NB_newI C (t := 0) (N := 4) rfl rfl (fun _ _ h => h) rfl kx_5 (by decide) (by decide) (by decide) (fun _ => rfl) (by rw [hR]; decide) (by rw [hR]; decide) dX2_init_20 ?_
  refine NB_putF C (by rw [hk]; exact FN_2_18) rfl rfl (Nat.le_of_ble_eq_true rfl) dX2_init_22 ?_
  refine NB_aload C dX2_init_25 ?_
  refine NB_iconst C 4 dX2_init_26 (by decide) ?_
  refine NB_newI C (t := 0) (N := 4) rfl rfl (fun _ _ h => h) rfl kx_5 (by decide) (by decide) (by decide) (fun _ => rfl) (by rw [hR]; decide) (by rw [hR]; decide) dX2_init_27 ?_
  refine NB_putF C (by rw [hk]; exact FN_2_21) rfl rfl (Nat.le_of_ble_eq_true rfl) dX2_init_29 ?_
  refine NB_aload C dX2_init_32 ?_
  refine NB_bipush C 7 dX2_init_33 (by decide) ?_
  refine NB_newI C (t := 0) (N := 7) rfl rfl (fun _ _ h => h) rfl kx_5 (by decide) (by decide) (by decide) (fun _ => rfl) (by rw [hR]; decide) (by rw [hR]; decide) dX2_init_35 ?_
  refine NB_putF C (by rw [hk]; exact FN_2_24) rfl rfl (Nat.le_of_ble_eq_true rfl) dX2_init_37 ?_
  refine NB_aload C dX2_init_40 ?_
  refine NB_bipush C 21 dX2_init_41 (by decide) ?_
  refine NB_newI C (t := 0) (N := 21) rfl rfl (fun _ _ h => h) rfl kx_5 (by decide) (by decide) (by decide) (fun _ => rfl) (by rw [hR]; decide) (by rw [hR]; decide) dX2_init_43 ?_
  refine NB_putF C (by rw [hk]; exact FN_2_27) rfl rfl (Nat.le_of_ble_eq_true rfl) dX2_init_45 ?_
  refine NB_aload C dX2_init_48 ?_
  refine NB_bipush C 20 dX2_init_49 (by decide) ?_
  refine NB_newI C (t := 0) (N := 20) rfl rfl (fun _ _ h => h) rfl kx_5 (by decide) (by decide) (by decide) (fun _ => rfl) (by rw [hR]; decide) (by rw [hR]; decide) dX2_init_51 ?_
  refine NB_putF C (by rw [hk]; exact FN_2_30) rfl rfl (Nat.le_of_ble_eq_true rfl) dX2_init_53 ?_
  refine NB_aload C dX2_init_56 ?_
  refine NB_bipush C 20 dX2_init_57 (by decide) ?_
  refine NB_newI C (t := 0) (N := 20) rfl rfl (fun _ _ h => h) rfl kx_5 (by decide) (by decide) (by decide) (fun _ => rfl) (by rw [hR]; decide) (by rw [hR]; decide) dX2_init_59 ?_
  refine NB_putF C (by rw [hk]; exact FN_2_33) rfl rfl (Nat.le_of_ble_eq_true rfl) dX2_init_61 ?_
  refine NB_aload C dX2_init_64 ?_
  refine NB_bipush C 20 dX2_init_65 (by decide) ?_
  refine NB_newI C (t := 0) (N := 20) rfl rfl (fun _ _ h => h) rfl kx_5 (by decide) (by decide) (by decide) (fun _ => rfl) (by rw [hR]; decide) (by rw [hR]; decide) dX2_init_67 ?_
  refine NB_putF C (by rw [hk]; exact FN_2_36) rfl rfl (Nat.le_of_ble_eq_true rfl) dX2_init_69 ?_
  refine NB_aload C dX2_init_72 ?_
  refine NB_bipush C 20 dX2_init_73 (by decide) ?_
  refine NB_newI C (t := 0) (N := 20) rfl rfl (fun _ _ h => h) rfl kx_5 (by decide) (by decide) (by decide) (fun _ => rfl) (by rw [hR]; decide) (by rw [hR]; decide) dX2_init_75 ?_
  refine NB_putF C (by rw [hk]; exact FN_2_39) rfl rfl (Nat.le_of_ble_eq_true rfl) dX2_init_77 ?_
  refine NB_aload C dX2_init_80 ?_
  refine NB_bipush C 48 dX2_init_81 (by decide) ?_
  refine NB_newI C (t := 0) (N := 48) rfl rfl (fun _ _ h => h) rfl kx_5 (by decide) (by decide) (by decide) (fun _ => rfl) (by rw [hR]; decide) (by rw [hR]; decide) dX2_init_83 ?_
  refine NB_putF C (by rw [hk]; exact FN_2_42) rfl rfl (Nat.le_of_ble_eq_true rfl) dX2_init_85 ?_
  refine NB_done (ks := fs2 (n_b X)) ?_ ?_
  · simp [wF, wV, fs2, aT, Nat.add_assoc]
  rw [hk]
  refine NC_aload C dX2_init_88 ?_
  refine NC_call C (L0 := lyC 2 0) (L1 := []) (L3 := []) (As := []) (ks := fs2 0) (Q := fun M' => ST M' 0 (sBg s00) cZ) rfl rfl rfl (c_X2_beAtFirst wN_is (sp_beAtFirst s00 (fun M1 _ hs => hs))) Y_X2_beAtFirst Z_X2_beAtFirst kx_17 rfl rfl (by rw [hR]; decide) (by rw [hR]; decide) (by rw [hR]; decide) (by rw [hR]; decide) rfl (Nat.le_of_ble_eq_true rfl) dX2_init_89 (fun M1 q => ?_)
  exact NC_ret C E (by rw [hk]; rfl) (ST_sh (fun k hk => (mpt_i hk).1) q) (by decide) (by decide) dX2_init_92
theorem sp7_first {M1 : mM} (z : ∀ k, k ≠ 1 → k < 15 → M1.1 k = fun _ => 0) (hb : BK M1 0 (sBg s00) cZ) {Q : mM → Prop} (h : ∀ M', MR M' 0 S00 → Q M') : p_X7_sets 0 (nI 1) (lN 1) M1 Q := by
  refine sp7_sets (by decide) (by decide) (fun M2 f g => h M2 ?_)
  have e : ∀ k, k ≠ 6 → k ≠ 7 → M2.1 k = M1.1 k := fun k a b => f.1 k (by omega) (by omega)
  have e0 : ∀ k, k ≠ 1 → k ≠ 6 → k ≠ 7 → k < 15 → ∀ j, M2.1 k j = 0 := fun k a b c d j => by rw [e k b c, z k a d]
  refine ⟨⟨fun i hi => by rw [e (0 + 1) (by decide) (by decide)]; exact hb.1 i hi, fun i hi => by rw [e (0 + 1) (by decide) (by decide)]; exact hb.2 i hi⟩, fun i hi => ⟨e0 (0 + 3) (by decide) (by decide) (by decide) (by decide) i, fun q => absurd rfl q⟩, ⟨e0 0 (by decide) (by decide) (by decide) (by decide) 9, fun j hj => absurd hj (Nat.not_lt_zero j)⟩, ⟨⟨fun i hi => ?_, ?_, pw_pos 40⟩, g⟩, fun k hk => e0 (0 + 5) (by decide) (by decide) (by decide) (by decide) k, e0 0 (by decide) (by decide) (by decide) (by decide) 5⟩
  · rw [show S00.2.2.2.2.1.1 = 0 from rfl, dg_z, f.2.2.1 (40 * 0 + i) (fun q => by have q : (40 * 0 + i) / 40 = 1 := q; omega), show M1.1 (0 + 6) = fun _ => 0 from z 6 (by decide) (by decide)]
    rfl
  · rw [show S00.2.2.2.2.1.1 = 0 from rfl, ln_0, f.2.2.2 0 (fun q => absurd q (by decide)), show M1.1 (0 + 7) = fun _ => 0 from z 7 (by decide) (by decide)]
    rfl
theorem cn_7 (l : Launch) : CN l 2 7 14 17917 yX7_init cX7_init [.null, .null, .null, .null, .null, .int 0, .null, .null, .null, .int 0, .int 0, .int 0, .int 0, .int 0, .null, .null, .int 0, .null, .null, .null, .null] (fun b u => MR u b S00) := by
  refine CN_of (by decide +kernel) rfl (fun X C hk hl hR E => ?_)
  refine NB_aload C dX7_init_0 ?_
  refine NB_objInit C kx_18 kx_3 kx_4 (by rw [hR]; decide) (by rw [hR]; decide) dX7_init_1 ?_
  refine NB_aload C dX7_init_4 ?_
  refine NB_sipush C 210 dX7_init_5 (by decide) ?_
  refine NB_newI C (t := 0) (N := 210) rfl rfl (fun _ _ h => h) rfl kx_5 (by decide) (by decide) (by decide) (fun _ => rfl) (by rw [hR]; decide) (by rw [hR]; decide) dX7_init_8 ?_
  refine NB_putF C (by rw [hk]; exact FN_7_7) rfl rfl (Nat.le_of_ble_eq_true rfl) dX7_init_10 ?_
  refine NB_aload C dX7_init_13 ?_
  refine NB_sipush C 420 dX7_init_14 (by decide) ?_
  refine NB_newI C (t := 0) (N := 420) rfl rfl (fun _ _ h => h) rfl kx_5 (by decide) (by decide) (by decide) (fun _ => rfl) (by rw [hR]; decide) (by rw [hR]; decide) dX7_init_17 ?_
  refine NB_putF C (by rw [hk]; exact FN_7_13) rfl rfl (Nat.le_of_ble_eq_true rfl) dX7_init_19 ?_
  refine NB_aload C dX7_init_22 ?_
  refine NB_iconst C 2 dX7_init_23 (by decide) ?_
  refine NB_newI C (t := 3) (N := 2) rfl rfl (fun _ _ h => h) rfl kx_21 (by decide) (by decide) (by decide) (fun _ => rfl) (by rw [hR]; decide) (by rw [hR]; decide) dX7_init_24 ?_
  refine NB_putF C (by rw [hk]; exact FN_7_16) rfl rfl (Nat.le_of_ble_eq_true rfl) dX7_init_26 ?_
  refine NB_aload C dX7_init_29 ?_
  refine NB_sipush C 210 dX7_init_30 (by decide) ?_
  refine NB_newI C (t := 0) (N := 210) rfl rfl (fun _ _ h => h) rfl kx_5 (by decide) (by decide) (by decide) (fun _ => rfl) (by rw [hR]; decide) (by rw [hR]; decide) dX7_init_33 ?_
  refine NB_putF C (by rw [hk]; exact FN_7_20) rfl rfl (Nat.le_of_ble_eq_true rfl) dX7_init_35 ?_
  refine NB_aload C dX7_init_38 ?_
  refine NB_iconst C 3 dX7_init_39 (by decide) ?_
  refine NB_newI C (t := 0) (N := 3) rfl rfl (fun _ _ h => h) rfl kx_5 (by decide) (by decide) (by decide) (fun _ => rfl) (by rw [hR]; decide) (by rw [hR]; decide) dX7_init_40 ?_
  refine NB_putF C (by rw [hk]; exact FN_7_23) rfl rfl (Nat.le_of_ble_eq_true rfl) dX7_init_42 ?_
  refine NB_aload C dX7_init_45 ?_
  refine NB_sipush C 14400 dX7_init_46 (by decide) ?_
  refine NB_newI C (t := 0) (N := 14400) rfl rfl (fun _ _ h => h) rfl kx_5 (by decide) (by decide) (by decide) (fun _ => rfl) (by rw [hR]; decide) (by rw [hR]; decide) dX7_init_49 ?_
  refine NB_putF C (by rw [hk]; exact FN_7_26) rfl rfl (Nat.le_of_ble_eq_true rfl) dX7_init_51 ?_
  refine NB_aload C dX7_init_54 ?_
  refine NB_sipush C 360 dX7_init_55 (by decide) ?_
  refine NB_newI C (t := 0) (N := 360) rfl rfl (fun _ _ h => h) rfl kx_5 (by decide) (by decide) (by decide) (fun _ => rfl) (by rw [hR]; decide) (by rw [hR]; decide) dX7_init_58 ?_
  refine NB_putF C (by rw [hk]; exact FN_7_29) rfl rfl (Nat.le_of_ble_eq_true rfl) dX7_init_60 ?_
  refine NB_aload C dX7_init_63 ?_
  refine NB_sipush C 300 dX7_init_64 (by decide) ?_
  refine NB_newI C (t := 0) (N := 300) rfl rfl (fun _ _ h => h) rfl kx_5 (by decide) (by decide) (by decide) (fun _ => rfl) (by rw [hR]; decide) (by rw [hR]; decide) dX7_init_67 ?_
  refine NB_putF C (by rw [hk]; exact FN_7_32) rfl rfl (Nat.le_of_ble_eq_true rfl) dX7_init_69 ?_
  refine NB_aload C dX7_init_72 ?_
  refine NB_sipush C 300 dX7_init_73 (by decide) ?_
  refine NB_newI C (t := 0) (N := 300) rfl rfl (fun _ _ h => h) rfl kx_5 (by decide) (by decide) (by decide) (fun _ => rfl) (by rw [hR]; decide) (by rw [hR]; decide) dX7_init_76 ?_
  refine NB_putF C (by rw [hk]; exact FN_7_35) rfl rfl (Nat.le_of_ble_eq_true rfl) dX7_init_78 ?_
  refine NB_aload C dX7_init_81 ?_
  refine NB_sipush C 1200 dX7_init_82 (by decide) ?_
  refine NB_newI C (t := 0) (N := 1200) rfl rfl (fun _ _ h => h) rfl kx_5 (by decide) (by decide) (by decide) (fun _ => rfl) (by rw [hR]; decide) (by rw [hR]; decide) dX7_init_85 ?_
  refine NB_putF C (by rw [hk]; exact FN_7_38) rfl rfl (Nat.le_of_ble_eq_true rfl) dX7_init_87 ?_
  refine NB_aload C dX7_init_90 ?_
  refine NB_sipush C 168 dX7_init_91 (by decide) ?_
  refine NB_newI C (t := 0) (N := 168) rfl rfl (fun _ _ h => h) rfl kx_5 (by decide) (by decide) (by decide) (fun _ => rfl) (by rw [hR]; decide) (by rw [hR]; decide) dX7_init_94 ?_
  refine NB_putF C (by rw [hk]; exact FN_7_41) rfl rfl (Nat.le_of_ble_eq_true rfl) dX7_init_96 ?_
  refine NB_aload C dX7_init_99 ?_
  refine NB_sipush C 168 dX7_init_100 (by decide) ?_
  refine NB_newI C (t := 0) (N := 168) rfl rfl (fun _ _ h => h) rfl kx_5 (by decide) (by decide) (by decide) (fun _ => rfl) (by rw [hR]; decide) (by rw [hR]; decide) dX7_init_103 ?_
  refine NB_putF C (by rw [hk]; exact FN_7_44) rfl rfl (Nat.le_of_ble_eq_true rfl) dX7_init_105 ?_
  refine NB_aload C dX7_init_108 ?_
  refine NB_bipush C 8 dX7_init_109 (by decide) ?_
  refine NB_newI C (t := 0) (N := 8) rfl rfl (fun _ _ h => h) rfl kx_5 (by decide) (by decide) (by decide) (fun _ => rfl) (by rw [hR]; decide) (by rw [hR]; decide) dX7_init_111 ?_
  refine NB_putF C (by rw [hk]; exact FN_7_47) rfl rfl (Nat.le_of_ble_eq_true rfl) dX7_init_113 ?_
  refine NB_aload C dX7_init_116 ?_
  refine NB_sipush C 168 dX7_init_117 (by decide) ?_
  refine NB_newI C (t := 3) (N := 168) rfl rfl (fun _ _ h => h) rfl kx_21 (by decide) (by decide) (by decide) (fun _ => rfl) (by rw [hR]; decide) (by rw [hR]; decide) dX7_init_120 ?_
  refine NB_putF C (by rw [hk]; exact FN_7_50) rfl rfl (Nat.le_of_ble_eq_true rfl) dX7_init_122 ?_
  refine NB_done (ks := fs7 (n_b X)) ?_ ?_
  · simp [wF, wV, fs7, aT, Nat.add_assoc]
  rw [hk]
  refine NC_aload C dX7_init_125 ?_
  refine NC_call C (L0 := lyC 7 0) (L1 := []) (L3 := []) (As := []) (ks := fs7 0) (Q := fun M' => (∀ k, k ≠ 1 → k < 15 → M'.1 k = fun _ => 0) ∧ BK M' 0 (sBg s00) cZ) rfl rfl rfl (c_X7_begins wN_is (sp7_begins (s := s00) (c := fun _ => 1) ⟨fun _ _ => rfl, fun _ _ => (oI_s 0).symm⟩ (fun M1 f hs => ⟨fun k a _ => f.1 k (by unfold bkS; omega), hs⟩))) Y_X7_begins Z_X7_begins kx_34 rfl rfl (by rw [hR]; decide) (by rw [hR]; decide) (by rw [hR]; decide) (by rw [hR]; decide) rfl (Nat.le_of_ble_eq_true rfl) dX7_init_126 (fun M1 q => ?_)
  refine NC_aload C dX7_init_129 ?_
  refine NC_iconst C (nI 1) dX7_init_130 (by decide) ?_
  refine NC_lconst C (lN 1) dX7_init_131 (by decide) ?_
  have e : ∀ k, k < 15 → (mpt (n_b X + ([] : List kK).length) (lyC 7 0).length (fun _ _ => 0, fun _ _ => 0) M1).1 (n_b X + ([] : List kK).length + k) = M1.1 k := fun k hk => (mpt_i hk).1
  refine NC_call C (L0 := lyC 7 0) (L1 := []) (L3 := []) (As := [.int (nI 1), .long (lN 1)]) (ks := fs7 0) (Q := fun M' => MR M' 0 S00) rfl rfl rfl (c_X7_sets wN_is (sp7_first (fun k a b => (e k b).trans (q.1 k a b)) ⟨fun i hi => (congrFun (e 1 (by decide)) i).trans (q.2.1 i hi), fun i hi => (congrFun (e 1 (by decide)) _).trans (q.2.2 i hi)⟩ (fun M2 h => h))) Y_X7_sets Z_X7_sets kx_35 rfl rfl (by rw [hR]; decide) (by rw [hR]; decide) (by rw [hR]; decide) (by rw [hR]; decide) rfl (Nat.le_of_ble_eq_true rfl) dX7_init_132 (fun M2 q2 => ?_)
  exact NC_ret C E (by rw [hk]; rfl) (MR_sh (fun k hk => (mpt_i hk).1) q2) (by decide) (by decide) dX7_init_135
theorem NB_P {X : nX} {pc : Nat} {fs : List Value} {L : List kK} {M : mM} {st : List Value} {k n : Nat} (P : mM → Prop) (hp : P M) (kk : ∀ M', P M' → NB X pc fs L M' st k n) : NB X pc fs L M st k n := kk M hp
theorem len5 (b : Nat) : (lyC 5 b).length = 3 := rfl
theorem cn_0 (l : Launch) : CN l 3 0 12 140 yX0_init cX0_init [.null, .null, .null, .null] (fun b u => RW u (b + 1) 0 ∧ RW u (b + 4) 1) := by
  refine CN_of (by decide +kernel) rfl (fun X C hk hl hR E => ?_)
  have z0 : ∀ q, n_b X < q → ∀ j, ((fun _ _ => 0, fun _ _ => 0) : mM).1 q j = 0 := fun _ _ _ => rfl
  refine NB_aload C dX0_init_0 ?_
  refine NB_objInit C kx_36 kx_3 kx_4 (by rw [hR]; decide) (by rw [hR]; decide) dX0_init_1 ?_
  refine NB_aload C dX0_init_4 ?_
  refine NB_make C (cn_5 (n_L X)) rfl inlX5 tyX5_ok hfs_5 kx_37 kx_38 kx_1 ym_5 rfl kx_39 (Or.inr (List.mem_of_getElem? (i := 4) rfl)) (fun _ => rfl) (by rw [hR]; decide) (by rw [hR]; decide) (by rw [hR]; decide) (by rw [hR]; decide) (fun _ => Nat.le_of_ble_eq_true rfl) dX0_init_5 dX0_init_8 dX0_init_9 (fun u1 hu1 => ?_)
  refine NB_P (fun M => ∀ q, n_b X < q → ∀ j, M.1 q j = 0) (mg_zero z0 hu1 rfl) (fun M1 z1 => ?_)
  refine NB_putF C (by rw [hk]; exact FN_0_10) rfl rfl (Nat.le_of_ble_eq_true rfl) dX0_init_12 ?_
  refine NB_aload C dX0_init_15 ?_
  refine NB_make C (cn_5 (n_L X)) rfl inlX5 tyX5_ok hfs_5 kx_37 kx_38 kx_1 ym_5 rfl kx_39 (Or.inr (List.mem_of_getElem? (i := 4) rfl)) (fun _ => rfl) (by rw [hR]; decide) (by rw [hR]; decide) (by rw [hR]; decide) (by rw [hR]; decide) (fun _ => Nat.le_of_ble_eq_true rfl) dX0_init_16 dX0_init_19 dX0_init_20 (fun u2 hu2 => ?_)
  refine NB_P (fun M => ∀ q, n_b X < q → ∀ j, M.1 q j = 0) (mg_zero z1 hu2 rfl) (fun M2 z2 => ?_)
  refine NB_putF C (by rw [hk]; exact FN_0_16) rfl rfl (Nat.le_of_ble_eq_true rfl) dX0_init_23 ?_
  refine NB_aload C dX0_init_26 ?_
  refine NB_make C (cn_5 (n_L X)) rfl inlX5 tyX5_ok hfs_5 kx_37 kx_38 kx_1 ym_5 rfl kx_39 (Or.inr (List.mem_of_getElem? (i := 4) rfl)) (fun _ => rfl) (by rw [hR]; decide) (by rw [hR]; decide) (by rw [hR]; decide) (by rw [hR]; decide) (fun _ => Nat.le_of_ble_eq_true rfl) dX0_init_27 dX0_init_30 dX0_init_31 (fun u3 hu3 => ?_)
  refine NB_P (fun M => ∀ q, n_b X < q → ∀ j, M.1 q j = 0) (mg_zero z2 hu3 rfl) (fun M3 z3 => ?_)
  refine NB_putF C (by rw [hk]; exact FN_0_19) rfl rfl (Nat.le_of_ble_eq_true rfl) dX0_init_34 ?_
  refine NB_aload C dX0_init_37 ?_
  refine NB_make C (cn_5 (n_L X)) rfl inlX5 tyX5_ok hfs_5 kx_37 kx_38 kx_1 ym_5 rfl kx_39 (Or.inr (List.mem_of_getElem? (i := 4) rfl)) (fun _ => rfl) (by rw [hR]; decide) (by rw [hR]; decide) (by rw [hR]; decide) (by rw [hR]; decide) (fun _ => Nat.le_of_ble_eq_true rfl) dX0_init_38 dX0_init_41 dX0_init_42 (fun u4 hu4 => ?_)
  refine NB_P (fun M => ∀ q, n_b X < q → ∀ j, M.1 q j = 0) (mg_zero z3 hu4 rfl) (fun M4 z4 => ?_)
  refine NB_putF C (by rw [hk]; exact FN_0_22) rfl rfl (Nat.le_of_ble_eq_true rfl) dX0_init_45 ?_
  refine NB_aload C dX0_init_48 ?_
  refine NB_get C (by rw [hk]; exact FL_RX0_16) rfl dX0_init_49 ?_
  refine NB_done (ks := fs0 (n_b X)) ?_ ?_
  · simp [wF, wV, fs0, aT, len5, Nat.add_assoc]
  rw [hk]
  refine NC_lconst C (lN 1) dX0_init_52 (by decide) ?_
  refine NC_call C (L0 := lyC 5 0) (L1 := kO 0 (fs0 (n_b X)) :: lyC 5 (n_b X + 1)) (L3 := lyC 5 (n_b X + 7) ++ lyC 5 (n_b X + 10)) (As := [.long (lN 1)]) (ks := fs5 0) (Q := fun M' => RW M' 0 1) rfl rfl rfl (c_X5_set wN_is (sp_set (n := 1) (by decide) (fun M1 _ h => h))) Y_X5_set Z_X5_set kx_44 rfl rfl (by rw [hR]; decide) (by rw [hR]; decide) (by rw [hR]; decide) (by rw [hR]; decide) rfl (Nat.le_of_ble_eq_true rfl) dX0_init_53 (fun M5 q => ?_)
  refine NC_ret C E (by rw [hk]; rfl) ⟨?_, RW_sh (fun k hk => (mpt_i hk).1) q⟩ (by decide) (by decide) dX0_init_56
  have o : ∀ k, k < 4 → ∀ j, (mpt (n_b X + 4) 3 M4 M5).1 (n_b X + k) j = M4.1 (n_b X + k) j := fun k hk j => congrFun (mpt_o (by omega)).1 j
  exact ⟨fun i hi => by rw [dg_z]; exact (o 2 (by decide) i).trans (z4 (n_b X + 2) (by omega) i), by rw [ln_0]; exact (o 1 (by decide) 2).trans (z4 (n_b X + 1) (by omega) 2), pw_pos 16⟩
