/-! the constructors that call none (printed by wip/whole/ctor.py) -/
/-- zeros -/
def Pz (len b : Nat) (u : mM) : Prop := ∀ q, b ≤ q → q < b + len → ∀ j, u.1 q j = 0
theorem kw_0 : Cond.methodLink RX5 3 objectInit ∈ wsL_law := inR5 (List.mem_of_getElem? (i := 16) rfl)
theorem kw_1 : Cond.instanceMethod objectInit ∈ wsL_law := inR1 (List.mem_of_getElem? (i := 11) rfl)
theorem kw_2 : Cond.code objectInit ⟨#[0xb1]⟩ 1 none ∈ wsL_law := inR1 (List.mem_of_getElem? (i := 12) rfl)
theorem kw_3 : Cond.arrayClass .int ∈ wsL_law := inR2 (List.mem_of_getElem? (i := 19) rfl)
theorem kw_4 : Cond.fieldLink RX5 11 "PaintedGods$Whole" "limbs" "[I" ∈ wsL_law := inR5 (List.mem_of_getElem? (i := 17) rfl)
theorem kw_5 : Cond.fieldLink RX5 15 "PaintedGods$Whole" "result" "[I" ∈ wsL_law := inR5 (List.mem_of_getElem? (i := 18) rfl)
theorem kw_6 : Cond.methodLink RX3 3 objectInit ∈ wsL_law := inR4 (List.mem_of_getElem? (i := 1) rfl)
theorem kw_7 : Cond.arrayClass .byte ∈ wsL_law := inR4 (List.mem_of_getElem? (i := 2) rfl)
theorem kw_8 : Cond.fieldLink RX3 9 "PaintedGods$Text" "bytes" "[B" ∈ wsL_law := inR4 (List.mem_of_getElem? (i := 3) rfl)
theorem kw_9 : Cond.fieldLink RX3 15 "PaintedGods$Text" "numbers" "[I" ∈ wsL_law := inR4 (List.mem_of_getElem? (i := 4) rfl)
theorem kw_10 : Cond.methodLink RX4 3 objectInit ∈ wsL_law := inR4 (List.mem_of_getElem? (i := 7) rfl)
theorem kw_11 : Cond.classLink RX4 9 "[[I" ∈ wsL_law := inR4 (List.mem_of_getElem? (i := 8) rfl)
theorem kw_12 : Cond.fieldLink RX4 11 "PaintedGods$Weather" "lost" "[[I" ∈ wsL_law := inR4 (List.mem_of_getElem? (i := 9) rfl)
theorem kw_13 : Cond.fieldLink RX4 16 "PaintedGods$Weather" "lamps" "[[I" ∈ wsL_law := inR4 (List.mem_of_getElem? (i := 10) rfl)
theorem kw_14 : Cond.fieldLink RX4 19 "PaintedGods$Weather" "grains" "[[I" ∈ wsL_law := inR4 (List.mem_of_getElem? (i := 11) rfl)
theorem kw_15 : Cond.methodLink RX1 3 objectInit ∈ wsL_law := inR4 (List.mem_of_getElem? (i := 14) rfl)
theorem kw_16 : Cond.fieldLink RX1 9 "PaintedGods$Hem" "weights" "[I" ∈ wsL_law := inR4 (List.mem_of_getElem? (i := 15) rfl)
theorem kw_17 : Cond.classLink RX1 15 "[[I" ∈ wsL_law := inR4 (List.mem_of_getElem? (i := 16) rfl)
theorem kw_18 : Cond.fieldLink RX1 17 "PaintedGods$Hem" "broken" "[[I" ∈ wsL_law := inR4 (List.mem_of_getElem? (i := 17) rfl)
theorem kw_19 : Cond.fieldLink RX1 20 "PaintedGods$Hem" "lost" "[[I" ∈ wsL_law := inR4 (List.mem_of_getElem? (i := 18) rfl)
theorem kw_20 : Cond.fieldLink RX1 23 "PaintedGods$Hem" "edgePlaces" "[I" ∈ wsL_law := inR4 (List.mem_of_getElem? (i := 19) rfl)
theorem kw_21 : Cond.fieldLink RX1 26 "PaintedGods$Hem" "edgeSteps" "[I" ∈ wsL_law := inR4 (List.mem_of_getElem? (i := 20) rfl)
theorem kw_22 : Cond.fieldLink RX1 29 "PaintedGods$Hem" "steps" "[I" ∈ wsL_law := inR4 (List.mem_of_getElem? (i := 21) rfl)
theorem kw_23 : Cond.classLink RX1 32 "[[J" ∈ wsL_law := inR4 (List.mem_of_getElem? (i := 22) rfl)
theorem kw_24 : Cond.arrayClass .long ∈ wsL_law := inR4 (List.mem_of_getElem? (i := 23) rfl)
theorem kw_25 : Cond.fieldLink RX1 34 "PaintedGods$Hem" "ahead" "[[J" ∈ wsL_law := inR5 (List.mem_of_getElem? (i := 0) rfl)
theorem kw_26 : Cond.fieldLink RX1 37 "PaintedGods$Hem" "behind" "[[J" ∈ wsL_law := inR5 (List.mem_of_getElem? (i := 1) rfl)
theorem kw_27 : Cond.fieldLink RX1 40 "PaintedGods$Hem" "most" "[[J" ∈ wsL_law := inR5 (List.mem_of_getElem? (i := 2) rfl)
theorem kw_28 : Cond.fieldLink RX1 43 "PaintedGods$Hem" "parts" "[J" ∈ wsL_law := inR5 (List.mem_of_getElem? (i := 3) rfl)
theorem kw_29 : Cond.fieldLink RX1 47 "PaintedGods$Hem" "lampWeights" "[J" ∈ wsL_law := inR5 (List.mem_of_getElem? (i := 4) rfl)
theorem FN_5_11 : FN RX5 11 5 0 (.array .int) := ⟨RX5, TX5, 3, tyX5, rfl, inlX5, tyX5_ok, nmX5, by decide, kw_4, rfl, rfl, by decide +kernel⟩
theorem FN_5_15 : FN RX5 15 5 1 (.array .int) := ⟨RX5, TX5, 3, tyX5, rfl, inlX5, tyX5_ok, nmX5, by decide, kw_5, rfl, rfl, by decide +kernel⟩
theorem FN_3_9 : FN RX3 9 3 0 (.array .byte) := ⟨RX3, TX3, 7, tyX3, rfl, inlX3, tyX3_ok, nmX3, by decide, kw_8, rfl, rfl, by decide +kernel⟩
theorem FN_3_15 : FN RX3 15 3 1 (.array .int) := ⟨RX3, TX3, 7, tyX3, rfl, inlX3, tyX3_ok, nmX3, by decide, kw_9, rfl, rfl, by decide +kernel⟩
theorem FN_4_11 : FN RX4 11 4 0 (.array (.array .int)) := ⟨RX4, TX4, 3, tyX4, rfl, inlX4, tyX4_ok, nmX4, by decide, kw_12, rfl, rfl, by decide +kernel⟩
theorem FN_4_16 : FN RX4 16 4 1 (.array (.array .int)) := ⟨RX4, TX4, 3, tyX4, rfl, inlX4, tyX4_ok, nmX4, by decide, kw_13, rfl, rfl, by decide +kernel⟩
theorem FN_4_19 : FN RX4 19 4 2 (.array (.array .int)) := ⟨RX4, TX4, 3, tyX4, rfl, inlX4, tyX4_ok, nmX4, by decide, kw_14, rfl, rfl, by decide +kernel⟩
theorem FN_1_9 : FN RX1 9 1 0 (.array .int) := ⟨RX1, TX1, 17, tyX1, rfl, inlX1, tyX1_ok, nmX1, by decide, kw_16, rfl, rfl, by decide +kernel⟩
theorem FN_1_17 : FN RX1 17 1 1 (.array (.array .int)) := ⟨RX1, TX1, 17, tyX1, rfl, inlX1, tyX1_ok, nmX1, by decide, kw_18, rfl, rfl, by decide +kernel⟩
theorem FN_1_20 : FN RX1 20 1 2 (.array (.array .int)) := ⟨RX1, TX1, 17, tyX1, rfl, inlX1, tyX1_ok, nmX1, by decide, kw_19, rfl, rfl, by decide +kernel⟩
theorem FN_1_23 : FN RX1 23 1 3 (.array .int) := ⟨RX1, TX1, 17, tyX1, rfl, inlX1, tyX1_ok, nmX1, by decide, kw_20, rfl, rfl, by decide +kernel⟩
theorem FN_1_26 : FN RX1 26 1 4 (.array .int) := ⟨RX1, TX1, 17, tyX1, rfl, inlX1, tyX1_ok, nmX1, by decide, kw_21, rfl, rfl, by decide +kernel⟩
theorem FN_1_29 : FN RX1 29 1 5 (.array .int) := ⟨RX1, TX1, 17, tyX1, rfl, inlX1, tyX1_ok, nmX1, by decide, kw_22, rfl, rfl, by decide +kernel⟩
theorem FN_1_34 : FN RX1 34 1 6 (.array (.array .long)) := ⟨RX1, TX1, 17, tyX1, rfl, inlX1, tyX1_ok, nmX1, by decide, kw_25, rfl, rfl, by decide +kernel⟩
theorem FN_1_37 : FN RX1 37 1 7 (.array (.array .long)) := ⟨RX1, TX1, 17, tyX1, rfl, inlX1, tyX1_ok, nmX1, by decide, kw_26, rfl, rfl, by decide +kernel⟩
theorem FN_1_40 : FN RX1 40 1 8 (.array (.array .long)) := ⟨RX1, TX1, 17, tyX1, rfl, inlX1, tyX1_ok, nmX1, by decide, kw_27, rfl, rfl, by decide +kernel⟩
theorem FN_1_43 : FN RX1 43 1 9 (.array .long) := ⟨RX1, TX1, 17, tyX1, rfl, inlX1, tyX1_ok, nmX1, by decide, kw_28, rfl, rfl, by decide +kernel⟩
theorem FN_1_47 : FN RX1 47 1 10 (.array .long) := ⟨RX1, TX1, 17, tyX1, rfl, inlX1, tyX1_ok, nmX1, by decide, kw_29, rfl, rfl, by decide +kernel⟩

theorem cn_5 (l : Launch) : CN l 1 5 2 32 yX5_init cX5_init [.null, .null, .int 0] (Pz 3) := by
  refine CN_of (by decide +kernel) rfl (fun X C hk hl hR E => ?_)
  refine NB_aload C dX5_init_0 ?_
  refine NB_objInit C kw_0 kw_1 kw_2 (by rw [hR]; decide) (by rw [hR]; decide) dX5_init_1 ?_
  refine NB_aload C dX5_init_4 ?_
  refine NB_bipush C 16 dX5_init_5 (by decide) ?_
  refine NB_newI C (t := 0) (N := 16) rfl rfl (fun _ _ h => h) rfl kw_3 (by decide) (by decide) (by decide) (fun _ => rfl) (by rw [hR]; decide) (by rw [hR]; decide) dX5_init_7 ?_
  refine NB_putF C (by rw [hk]; exact FN_5_11) rfl rfl (Nat.le_of_ble_eq_true rfl) dX5_init_9 ?_
  refine NB_aload C dX5_init_12 ?_
  refine NB_bipush C 16 dX5_init_13 (by decide) ?_
  refine NB_newI C (t := 0) (N := 16) rfl rfl (fun _ _ h => h) rfl kw_3 (by decide) (by decide) (by decide) (fun _ => rfl) (by rw [hR]; decide) (by rw [hR]; decide) dX5_init_15 ?_
  refine NB_putF C (by rw [hk]; exact FN_5_15) rfl rfl (Nat.le_of_ble_eq_true rfl) dX5_init_17 ?_
  refine NB_ret C E (ks := fs5 (n_b X)) (by rw [hk]; rfl) ?_ (fun _ _ _ _ => rfl) (by decide) (by decide) dX5_init_20
  simp [wF, wV, fs5, aT, Nat.add_assoc]
theorem cn_3 (l : Launch) : CN l 1 3 2 304 yX3_init cX3_init [.null, .null, .int 0, .int 0, .int 0, .int 0, .int 0] (Pz 3) := by
  refine CN_of (by decide +kernel) rfl (fun X C hk hl hR E => ?_)
  refine NB_aload C dX3_init_0 ?_
  refine NB_objInit C kw_6 kw_1 kw_2 (by rw [hR]; decide) (by rw [hR]; decide) dX3_init_1 ?_
  refine NB_aload C dX3_init_4 ?_
  refine NB_sipush C 300 dX3_init_5 (by decide) ?_
  refine NB_newI C (t := 2) (N := 300) rfl rfl (fun _ _ h => h) rfl kw_7 (by decide) (by decide) (by decide) (fun _ => rfl) (by rw [hR]; decide) (by rw [hR]; decide) dX3_init_8 ?_
  refine NB_putF C (by rw [hk]; exact FN_3_9) rfl rfl (Nat.le_of_ble_eq_true rfl) dX3_init_10 ?_
  refine NB_aload C dX3_init_13 ?_
  refine NB_iconst C 4 dX3_init_14 (by decide) ?_
  refine NB_newI C (t := 0) (N := 4) rfl rfl (fun _ _ h => h) rfl kw_3 (by decide) (by decide) (by decide) (fun _ => rfl) (by rw [hR]; decide) (by rw [hR]; decide) dX3_init_15 ?_
  refine NB_putF C (by rw [hk]; exact FN_3_15) rfl rfl (Nat.le_of_ble_eq_true rfl) dX3_init_17 ?_
  refine NB_ret C E (ks := fs3 (n_b X)) (by rw [hk]; rfl) ?_ (fun _ _ _ _ => rfl) (by decide) (by decide) dX3_init_20
  simp [wF, wV, fs3, aT, Nat.add_assoc]
theorem cn_4 (l : Launch) : CN l 1 4 15 264 yX4_init cX4_init [.null, .null, .null] (fun _ _ => True) := by
  refine CN_of (by decide +kernel) rfl (fun X C hk hl hR E => ?_)
  refine NB_aload C dX4_init_0 ?_
  refine NB_objInit C kw_10 kw_1 kw_2 (by rw [hR]; decide) (by rw [hR]; decide) dX4_init_1 ?_
  refine NB_aload C dX4_init_4 ?_
  refine NB_iconst C 4 dX4_init_5 (by decide) ?_
  refine NB_bipush C 21 dX4_init_6 (by decide) ?_
  refine NB_multi C (ty := .int) (tR := 5) (t := 0) (N := 4) (K := 21) (kI 0 21) rfl kw_11 C.2.2.2.2.2.2.2.2.2.2.2.1 kw_3 rfl rfl (fun _ _ h => h) (by decide) (by decide) (by decide) (by decide) (by decide) (by decide) (by decide) rfl rfl (fun q H1 _ h => h) (by rw [hR]; decide) (by rw [hR]; decide) dX4_init_8 ?_
  refine NB_putF C (by rw [hk]; exact FN_4_11) rfl rfl (Nat.le_of_ble_eq_true rfl) dX4_init_12 ?_
  refine NB_aload C dX4_init_15 ?_
  refine NB_iconst C 4 dX4_init_16 (by decide) ?_
  refine NB_bipush C 21 dX4_init_17 (by decide) ?_
  refine NB_multi C (ty := .int) (tR := 5) (t := 0) (N := 4) (K := 21) (kI 0 21) rfl kw_11 C.2.2.2.2.2.2.2.2.2.2.2.1 kw_3 rfl rfl (fun _ _ h => h) (by decide) (by decide) (by decide) (by decide) (by decide) (by decide) (by decide) rfl rfl (fun q H1 _ h => h) (by rw [hR]; decide) (by rw [hR]; decide) dX4_init_19 ?_
  refine NB_putF C (by rw [hk]; exact FN_4_16) rfl rfl (Nat.le_of_ble_eq_true rfl) dX4_init_23 ?_
  refine NB_aload C dX4_init_26 ?_
  refine NB_iconst C 4 dX4_init_27 (by decide) ?_
  refine NB_bipush C 21 dX4_init_28 (by decide) ?_
  refine NB_multi C (ty := .int) (tR := 5) (t := 0) (N := 4) (K := 21) (kI 0 21) rfl kw_11 C.2.2.2.2.2.2.2.2.2.2.2.1 kw_3 rfl rfl (fun _ _ h => h) (by decide) (by decide) (by decide) (by decide) (by decide) (by decide) (by decide) rfl rfl (fun q H1 _ h => h) (by rw [hR]; decide) (by rw [hR]; decide) dX4_init_30 ?_
  refine NB_putF C (by rw [hk]; exact FN_4_19) rfl rfl (Nat.le_of_ble_eq_true rfl) dX4_init_34 ?_
  refine NB_ret C E (ks := fs4 (n_b X)) (by rw [hk]; rfl) ?_ trivial (by decide) (by decide) dX4_init_37
  simp [wF, wV, fs4, aT, Nat.add_assoc]
theorem cn_1 (l : Launch) : CN l 1 1 51 974 yX1_init cX1_init [.null, .null, .null, .null, .null, .null, .null, .null, .null, .null, .null, .long 0, .long 0, .long 0, .int 0, .int 0, .int 0] (fun _ _ => True) := by
  refine CN_of (by decide +kernel) rfl (fun X C hk hl hR E => ?_)
  refine NB_aload C dX1_init_0 ?_
  refine NB_objInit C kw_15 kw_1 kw_2 (by rw [hR]; decide) (by rw [hR]; decide) dX1_init_1 ?_
  refine NB_aload C dX1_init_4 ?_
  refine NB_bipush C 21 dX1_init_5 (by decide) ?_
  refine NB_newI C (t := 0) (N := 21) rfl rfl (fun _ _ h => h) rfl kw_3 (by decide) (by decide) (by decide) (fun _ => rfl) (by rw [hR]; decide) (by rw [hR]; decide) dX1_init_7 ?_
  refine NB_putF C (by rw [hk]; exact FN_1_9) rfl rfl (Nat.le_of_ble_eq_true rfl) dX1_init_9 ?_
  refine NB_aload C dX1_init_12 ?_
  refine NB_bipush C 8 dX1_init_13 (by decide) ?_
  refine NB_bipush C 21 dX1_init_15 (by decide) ?_
  refine NB_multi C (ty := .int) (tR := 5) (t := 0) (N := 8) (K := 21) (kI 0 21) rfl kw_17 C.2.2.2.2.2.2.2.2.2.2.2.1 kw_3 rfl rfl (fun _ _ h => h) (by decide) (by decide) (by decide) (by decide) (by decide) (by decide) (by decide) rfl rfl (fun q H1 _ h => h) (by rw [hR]; decide) (by rw [hR]; decide) dX1_init_17 ?_
  refine NB_putF C (by rw [hk]; exact FN_1_17) rfl rfl (Nat.le_of_ble_eq_true rfl) dX1_init_21 ?_
  refine NB_aload C dX1_init_24 ?_
  refine NB_bipush C 8 dX1_init_25 (by decide) ?_
  refine NB_bipush C 21 dX1_init_27 (by decide) ?_
  refine NB_multi C (ty := .int) (tR := 5) (t := 0) (N := 8) (K := 21) (kI 0 21) rfl kw_17 C.2.2.2.2.2.2.2.2.2.2.2.1 kw_3 rfl rfl (fun _ _ h => h) (by decide) (by decide) (by decide) (by decide) (by decide) (by decide) (by decide) rfl rfl (fun q H1 _ h => h) (by rw [hR]; decide) (by rw [hR]; decide) dX1_init_29 ?_
  refine NB_putF C (by rw [hk]; exact FN_1_20) rfl rfl (Nat.le_of_ble_eq_true rfl) dX1_init_33 ?_
  refine NB_aload C dX1_init_36 ?_
  refine NB_bipush C 20 dX1_init_37 (by decide) ?_
  refine NB_newI C (t := 0) (N := 20) rfl rfl (fun _ _ h => h) rfl kw_3 (by decide) (by decide) (by decide) (fun _ => rfl) (by rw [hR]; decide) (by rw [hR]; decide) dX1_init_39 ?_
  refine NB_putF C (by rw [hk]; exact FN_1_23) rfl rfl (Nat.le_of_ble_eq_true rfl) dX1_init_41 ?_
  refine NB_aload C dX1_init_44 ?_
  refine NB_bipush C 20 dX1_init_45 (by decide) ?_
  refine NB_newI C (t := 0) (N := 20) rfl rfl (fun _ _ h => h) rfl kw_3 (by decide) (by decide) (by decide) (fun _ => rfl) (by rw [hR]; decide) (by rw [hR]; decide) dX1_init_47 ?_
  refine NB_putF C (by rw [hk]; exact FN_1_26) rfl rfl (Nat.le_of_ble_eq_true rfl) dX1_init_49 ?_
  refine NB_aload C dX1_init_52 ?_
  refine NB_bipush C 8 dX1_init_53 (by decide) ?_
  refine NB_newI C (t := 0) (N := 8) rfl rfl (fun _ _ h => h) rfl kw_3 (by decide) (by decide) (by decide) (fun _ => rfl) (by rw [hR]; decide) (by rw [hR]; decide) dX1_init_55 ?_
  refine NB_putF C (by rw [hk]; exact FN_1_29) rfl rfl (Nat.le_of_ble_eq_true rfl) dX1_init_57 ?_
  refine NB_aload C dX1_init_60 ?_
  refine NB_bipush C 8 dX1_init_61 (by decide) ?_
  refine NB_bipush C 21 dX1_init_63 (by decide) ?_
  refine NB_multi C (ty := .long) (tR := 6) (t := 1) (N := 8) (K := 21) (kL 1 21) rfl kw_23 C.2.2.2.2.2.2.2.2.2.2.2.2 kw_24 rfl rfl (fun _ _ h => h) (by decide) (by decide) (by decide) (by decide) (by decide) (by decide) (by decide) rfl rfl (fun q H1 _ h => h) (by rw [hR]; decide) (by rw [hR]; decide) dX1_init_65 ?_
  refine NB_putF C (by rw [hk]; exact FN_1_34) rfl rfl (Nat.le_of_ble_eq_true rfl) dX1_init_69 ?_
  refine NB_aload C dX1_init_72 ?_
  refine NB_bipush C 8 dX1_init_73 (by decide) ?_
  refine NB_bipush C 21 dX1_init_75 (by decide) ?_
  refine NB_multi C (ty := .long) (tR := 6) (t := 1) (N := 8) (K := 21) (kL 1 21) rfl kw_23 C.2.2.2.2.2.2.2.2.2.2.2.2 kw_24 rfl rfl (fun _ _ h => h) (by decide) (by decide) (by decide) (by decide) (by decide) (by decide) (by decide) rfl rfl (fun q H1 _ h => h) (by rw [hR]; decide) (by rw [hR]; decide) dX1_init_77 ?_
  refine NB_putF C (by rw [hk]; exact FN_1_37) rfl rfl (Nat.le_of_ble_eq_true rfl) dX1_init_81 ?_
  refine NB_aload C dX1_init_84 ?_
  refine NB_bipush C 8 dX1_init_85 (by decide) ?_
  refine NB_bipush C 21 dX1_init_87 (by decide) ?_
  refine NB_multi C (ty := .long) (tR := 6) (t := 1) (N := 8) (K := 21) (kL 1 21) rfl kw_23 C.2.2.2.2.2.2.2.2.2.2.2.2 kw_24 rfl rfl (fun _ _ h => h) (by decide) (by decide) (by decide) (by decide) (by decide) (by decide) (by decide) rfl rfl (fun q H1 _ h => h) (by rw [hR]; decide) (by rw [hR]; decide) dX1_init_89 ?_
  refine NB_putF C (by rw [hk]; exact FN_1_40) rfl rfl (Nat.le_of_ble_eq_true rfl) dX1_init_93 ?_
  refine NB_aload C dX1_init_96 ?_
  refine NB_bipush C 21 dX1_init_97 (by decide) ?_
  refine NB_newL C (t := 1) (N := 21) rfl rfl (fun _ _ h => h) rfl kw_24 (by decide) (by decide) (by decide) (fun _ => rfl) (by rw [hR]; decide) (by rw [hR]; decide) dX1_init_99 ?_
  refine NB_putF C (by rw [hk]; exact FN_1_43) rfl rfl (Nat.le_of_ble_eq_true rfl) dX1_init_101 ?_
  refine NB_aload C dX1_init_104 ?_
  refine NB_iconst C 4 dX1_init_105 (by decide) ?_
  refine NB_newL C (t := 1) (N := 4) rfl rfl (fun _ _ h => h) rfl kw_24 (by decide) (by decide) (by decide) (fun _ => rfl) (by rw [hR]; decide) (by rw [hR]; decide) dX1_init_106 ?_
  refine NB_putF C (by rw [hk]; exact FN_1_47) rfl rfl (Nat.le_of_ble_eq_true rfl) dX1_init_108 ?_
  refine NB_ret C E (ks := fs1 (n_b X)) (by rw [hk]; rfl) ?_ trivial (by decide) (by decide) dX1_init_111
  simp [wF, wV, fs1, aT, Nat.add_assoc]
