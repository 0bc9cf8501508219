/-! the class made (printed by wip/whole/ctor2.py) -/
theorem ky_0 : Cond.code yX2_init cX2_init 1 none ∈ wsL_law := inR2 (List.mem_of_getElem? (i := 23) rfl)
theorem ky_1 : Cond.initialized RX2 ∈ wsL_law := inR1 (List.mem_of_getElem? (i := 15) rfl)
theorem ky_2 : Cond.code yX3_init cX3_init 1 none ∈ wsL_law := inR4 (List.mem_of_getElem? (i := 0) rfl)
theorem ky_3 : Cond.initialized RX3 ∈ wsL_law := inR1 (List.mem_of_getElem? (i := 23) rfl)
theorem ky_4 : Cond.code yX4_init cX4_init 1 none ∈ wsL_law := inR4 (List.mem_of_getElem? (i := 6) rfl)
theorem ky_5 : Cond.initialized RX4 ∈ wsL_law := inR2 (List.mem_of_getElem? (i := 3) rfl)
theorem ky_6 : Cond.code yX1_init cX1_init 1 none ∈ wsL_law := inR4 (List.mem_of_getElem? (i := 13) rfl)
theorem ky_7 : Cond.initialized RX1 ∈ wsL_law := inR2 (List.mem_of_getElem? (i := 7) rfl)
theorem ky_8 : Cond.code yX0_init cX0_init 1 none ∈ wsL_law := inR5 (List.mem_of_getElem? (i := 7) rfl)
theorem ky_9 : Cond.initialized RX0 ∈ wsL_law := inR2 (List.mem_of_getElem? (i := 11) rfl)
theorem ky_10 : Cond.methodLink RX6 1 objectInit ∈ wsL_law := inR1 (List.mem_of_getElem? (i := 10) rfl)
theorem ky_11 : Cond.instanceMethod objectInit ∈ wsL_law := inR1 (List.mem_of_getElem? (i := 11) rfl)
theorem ky_12 : Cond.code objectInit ⟨#[0xb1]⟩ 1 none ∈ wsL_law := inR1 (List.mem_of_getElem? (i := 12) rfl)
theorem ky_13 : Cond.methodLink RX6 9 yX2_init ∈ wsL_law := inR2 (List.mem_of_getElem? (i := 21) rfl)
theorem ky_14 : Cond.classLink RX6 7 RX2 ∈ wsL_law := inR1 (List.mem_of_getElem? (i := 13) rfl)
theorem ky_15 : Cond.instantiable RX2 13 ∈ wsL_law := inR1 (List.mem_of_getElem? (i := 14) rfl)
theorem ky_16 : Cond.instanceMethod yX2_init ∈ wsL_law := inR2 (List.mem_of_getElem? (i := 22) rfl)
theorem ky_17 : Cond.fieldLink RX6 10 "PaintedGods" "now" "LPaintedGods$Statue;" ∈ wsL_law := inR1 (List.mem_of_getElem? (i := 16) rfl)
theorem ky_18 : Cond.fieldLink RX6 16 "PaintedGods" "spare" "LPaintedGods$Statue;" ∈ wsL_law := inR1 (List.mem_of_getElem? (i := 17) rfl)
theorem ky_19 : Cond.fieldLink RX6 19 "PaintedGods" "images" "[LPaintedGods$Statue;" ∈ wsL_law := inR1 (List.mem_of_getElem? (i := 18) rfl)
theorem ky_20 : Cond.arrayClass .boolean ∈ wsL_law := inR1 (List.mem_of_getElem? (i := 19) rfl)
theorem ky_21 : Cond.fieldLink RX6 23 "PaintedGods" "kept" "[Z" ∈ wsL_law := inR1 (List.mem_of_getElem? (i := 20) rfl)
theorem ky_22 : Cond.classLink RX6 27 RX3 ∈ wsL_law := inR1 (List.mem_of_getElem? (i := 21) rfl)
theorem ky_23 : Cond.instantiable RX3 7 ∈ wsL_law := inR1 (List.mem_of_getElem? (i := 22) rfl)
theorem ky_24 : Cond.instanceMethod yX3_init ∈ wsL_law := inR3 (List.mem_of_getElem? (i := 23) rfl)
theorem ky_25 : Cond.fieldLink RX6 30 "PaintedGods" "text" "LPaintedGods$Text;" ∈ wsL_law := inR2 (List.mem_of_getElem? (i := 0) rfl)
theorem ky_26 : Cond.classLink RX6 34 RX4 ∈ wsL_law := inR2 (List.mem_of_getElem? (i := 1) rfl)
theorem ky_27 : Cond.instantiable RX4 3 ∈ wsL_law := inR2 (List.mem_of_getElem? (i := 2) rfl)
theorem ky_28 : Cond.instanceMethod yX4_init ∈ wsL_law := inR4 (List.mem_of_getElem? (i := 5) rfl)
theorem ky_29 : Cond.fieldLink RX6 37 "PaintedGods" "weather" "LPaintedGods$Weather;" ∈ wsL_law := inR2 (List.mem_of_getElem? (i := 4) rfl)
theorem ky_30 : Cond.classLink RX6 41 RX1 ∈ wsL_law := inR2 (List.mem_of_getElem? (i := 5) rfl)
theorem ky_31 : Cond.instantiable RX1 17 ∈ wsL_law := inR2 (List.mem_of_getElem? (i := 6) rfl)
theorem ky_32 : Cond.instanceMethod yX1_init ∈ wsL_law := inR4 (List.mem_of_getElem? (i := 12) rfl)
theorem ky_33 : Cond.fieldLink RX6 44 "PaintedGods" "rows" "LPaintedGods$Hem;" ∈ wsL_law := inR2 (List.mem_of_getElem? (i := 8) rfl)
theorem ky_34 : Cond.methodLink RX6 50 yX0_init ∈ wsL_law := inR5 (List.mem_of_getElem? (i := 5) rfl)
theorem ky_35 : Cond.classLink RX6 48 RX0 ∈ wsL_law := inR2 (List.mem_of_getElem? (i := 9) rfl)
theorem ky_36 : Cond.instantiable RX0 4 ∈ wsL_law := inR2 (List.mem_of_getElem? (i := 10) rfl)
theorem ky_37 : Cond.instanceMethod yX0_init ∈ wsL_law := inR5 (List.mem_of_getElem? (i := 6) rfl)
theorem ky_38 : Cond.fieldLink RX6 51 "PaintedGods" "fraction" "LPaintedGods$Fraction;" ∈ wsL_law := inR2 (List.mem_of_getElem? (i := 12) rfl)
theorem ky_39 : Cond.classLink RX6 55 RX5 ∈ wsL_law := inR2 (List.mem_of_getElem? (i := 13) rfl)
theorem ky_40 : Cond.instantiable RX5 3 ∈ wsL_law := inR2 (List.mem_of_getElem? (i := 14) rfl)
theorem ky_41 : Cond.initialized RX5 ∈ wsL_law := inR2 (List.mem_of_getElem? (i := 15) rfl)
theorem ky_42 : Cond.instanceMethod yX5_init ∈ wsL_law := inR5 (List.mem_of_getElem? (i := 14) rfl)
theorem ky_43 : Cond.fieldLink RX6 58 "PaintedGods" "product" "LPaintedGods$Whole;" ∈ wsL_law := inR2 (List.mem_of_getElem? (i := 16) rfl)
theorem ky_44 : Cond.fieldLink RX6 62 "PaintedGods" "chosen" "LPaintedGods$Whole;" ∈ wsL_law := inR2 (List.mem_of_getElem? (i := 17) rfl)
theorem ky_45 : Cond.fieldLink RX6 65 "PaintedGods" "sum" "LPaintedGods$Whole;" ∈ wsL_law := inR2 (List.mem_of_getElem? (i := 18) rfl)
theorem ky_46 : Cond.arrayClass .int ∈ wsL_law := inR2 (List.mem_of_getElem? (i := 19) rfl)
theorem ky_47 : Cond.fieldLink RX6 68 "PaintedGods" "refusals" "[I" ∈ wsL_law := inR2 (List.mem_of_getElem? (i := 20) rfl)
theorem FN_6_10 : FN RX6 10 6 0 (.object "PaintedGods$Statue") := ⟨RX6, TX6, 12, tyX6, rfl, inlX6, tyX6_ok, nmX6, by decide, ky_17, rfl, rfl, by decide +kernel⟩
theorem FN_6_16 : FN RX6 16 6 1 (.object "PaintedGods$Statue") := ⟨RX6, TX6, 12, tyX6, rfl, inlX6, tyX6_ok, nmX6, by decide, ky_18, rfl, rfl, by decide +kernel⟩
theorem FN_6_19 : FN RX6 19 6 2 (.array (.object "PaintedGods$Statue")) := ⟨RX6, TX6, 12, tyX6, rfl, inlX6, tyX6_ok, nmX6, by decide, ky_19, rfl, rfl, by decide +kernel⟩
theorem FN_6_23 : FN RX6 23 6 3 (.array .boolean) := ⟨RX6, TX6, 12, tyX6, rfl, inlX6, tyX6_ok, nmX6, by decide, ky_21, rfl, rfl, by decide +kernel⟩
theorem FN_6_30 : FN RX6 30 6 4 (.object "PaintedGods$Text") := ⟨RX6, TX6, 12, tyX6, rfl, inlX6, tyX6_ok, nmX6, by decide, ky_25, rfl, rfl, by decide +kernel⟩
theorem FN_6_37 : FN RX6 37 6 5 (.object "PaintedGods$Weather") := ⟨RX6, TX6, 12, tyX6, rfl, inlX6, tyX6_ok, nmX6, by decide, ky_29, rfl, rfl, by decide +kernel⟩
theorem FN_6_44 : FN RX6 44 6 6 (.object "PaintedGods$Hem") := ⟨RX6, TX6, 12, tyX6, rfl, inlX6, tyX6_ok, nmX6, by decide, ky_33, rfl, rfl, by decide +kernel⟩
theorem FN_6_51 : FN RX6 51 6 7 (.object "PaintedGods$Fraction") := ⟨RX6, TX6, 12, tyX6, rfl, inlX6, tyX6_ok, nmX6, by decide, ky_38, rfl, rfl, by decide +kernel⟩
theorem FN_6_58 : FN RX6 58 6 8 (.object "PaintedGods$Whole") := ⟨RX6, TX6, 12, tyX6, rfl, inlX6, tyX6_ok, nmX6, by decide, ky_43, rfl, rfl, by decide +kernel⟩
theorem FN_6_62 : FN RX6 62 6 9 (.object "PaintedGods$Whole") := ⟨RX6, TX6, 12, tyX6, rfl, inlX6, tyX6_ok, nmX6, by decide, ky_44, rfl, rfl, by decide +kernel⟩
theorem FN_6_65 : FN RX6 65 6 10 (.object "PaintedGods$Whole") := ⟨RX6, TX6, 12, tyX6, rfl, inlX6, tyX6_ok, nmX6, by decide, ky_45, rfl, rfl, by decide +kernel⟩
theorem FN_6_68 : FN RX6 68 6 11 (.array .int) := ⟨RX6, TX6, 12, tyX6, rfl, inlX6, tyX6_ok, nmX6, by decide, ky_47, rfl, rfl, by decide +kernel⟩

theorem hfs_2 : ∀ j, j < 13 → defaultValue (tyX2 j) = vp_V [.null, .null, .null, .null, .null, .null, .null, .null, .null, .null, .null, .int 0, .int 0] j := fun j hj => match j, hj with | 0, _ => rfl | 1, _ => rfl | 2, _ => rfl | 3, _ => rfl | 4, _ => rfl | 5, _ => rfl | 6, _ => rfl | 7, _ => rfl | 8, _ => rfl | 9, _ => rfl | 10, _ => rfl | 11, _ => rfl | 12, _ => rfl
theorem ym_2 : YM yX2_init cX2_init 1 none 0 := ⟨ky_0, ky_1, by decide, ⟨by decide +kernel, by decide +kernel⟩, by decide +kernel⟩
theorem hfs_3 : ∀ j, j < 7 → defaultValue (tyX3 j) = vp_V [.null, .null, .int 0, .int 0, .int 0, .int 0, .int 0] j := fun j hj => match j, hj with | 0, _ => rfl | 1, _ => rfl | 2, _ => rfl | 3, _ => rfl | 4, _ => rfl | 5, _ => rfl | 6, _ => rfl
theorem ym_3 : YM yX3_init cX3_init 1 none 0 := ⟨ky_2, ky_3, by decide, ⟨by decide +kernel, by decide +kernel⟩, by decide +kernel⟩
theorem hfs_4 : ∀ j, j < 3 → defaultValue (tyX4 j) = vp_V [.null, .null, .null] j := fun j hj => match j, hj with | 0, _ => rfl | 1, _ => rfl | 2, _ => rfl
theorem ym_4 : YM yX4_init cX4_init 1 none 0 := ⟨ky_4, ky_5, by decide, ⟨by decide +kernel, by decide +kernel⟩, by decide +kernel⟩
theorem hfs_1 : ∀ j, j < 17 → defaultValue (tyX1 j) = vp_V [.null, .null, .null, .null, .null, .null, .null, .null, .null, .null, .null, .long 0, .long 0, .long 0, .int 0, .int 0, .int 0] j := fun j hj => match j, hj with | 0, _ => rfl | 1, _ => rfl | 2, _ => rfl | 3, _ => rfl | 4, _ => rfl | 5, _ => rfl | 6, _ => rfl | 7, _ => rfl | 8, _ => rfl | 9, _ => rfl | 10, _ => rfl | 11, _ => rfl | 12, _ => rfl | 13, _ => rfl | 14, _ => rfl | 15, _ => rfl | 16, _ => rfl | n + 17, h => absurd h (by omega)
theorem ym_1 : YM yX1_init cX1_init 1 none 0 := ⟨ky_6, ky_7, by decide, ⟨by decide +kernel, by decide +kernel⟩, by decide +kernel⟩
theorem hfs_0 : ∀ j, j < 4 → defaultValue (tyX0 j) = vp_V [.null, .null, .null, .null] j := fun j hj => match j, hj with | 0, _ => rfl | 1, _ => rfl | 2, _ => rfl | 3, _ => rfl
theorem ym_0 : YM yX0_init cX0_init 1 none 0 := ⟨ky_8, ky_9, by decide, ⟨by decide +kernel, by decide +kernel⟩, by decide +kernel⟩
theorem len0 (b : Nat) : (lyC 0 b).length = 13 := rfl
theorem len1 (b : Nat) : (lyC 1 b).length = 52 := rfl
theorem len2 (b : Nat) : (lyC 2 b).length = 12 := rfl
theorem len3 (b : Nat) : (lyC 3 b).length = 3 := rfl
theorem len4 (b : Nat) : (lyC 4 b).length = 16 := rfl
/-- what is known of the class's first t cells -/
def PP (b t : Nat) (M : mM) : Prop := (13 ≤ t → ST M (b + 1) (sBg s00) cZ) ∧ (51 ≤ t → ∀ j, M.1 (b + 50) j = 0) ∧ (54 ≤ t → Pz 3 (b + 51) M) ∧ (135 ≤ t → RW M (b + 123) 0 ∧ RW M (b + 126) 1) ∧ (145 ≤ t → ∀ j, M.1 (b + 144) j = 0) ∧ ∀ q, b + t ≤ q → ∀ j, M.1 q j = 0
theorem PP_1 {b : Nat} : PP b 1 (fun _ _ => 0, fun _ _ => 0) := ⟨fun h => absurd h (by decide), fun h => absurd h (by decide), fun h => absurd h (by decide), fun h => absurd h (by decide), fun h => absurd h (by decide), fun _ _ _ => rfl⟩
theorem PP_s {b t : Nat} {M : mM} (h : PP b t M) (a : t = 25 ∨ t = 24 ∨ t = 50 ∨ t = 144) : PP b (t + 1) M := by
  obtain ⟨h1, h2, h3, h4, h5, h6⟩ := h
  refine ⟨fun q => h1 (by omega), fun q => ?_, fun q => h3 (by omega), fun q => h4 (by omega), fun q => ?_, fun q hq => h6 q (by omega)⟩
  · by_cases z : 51 ≤ t
    · exact h2 z
    · exact h6 (b + 50) (by omega)
  · exact h6 (b + 144) (by omega)
theorem PP_mg {b t len lo hi : Nat} {M u : mM} (h : PP b t M) (hlo : lo = b + t) (hhi : hi = lo + len) (a1 : (t = 1 ∧ len = 12) ∨ 13 ≤ t) (a2 : 51 ≤ t ∨ t + len < 51) (a3 : (t = 51 ∧ len = 3) ∨ 54 ≤ t ∨ t + len < 54) (a4 : (t = 122 ∧ len = 13) ∨ 135 ≤ t ∨ t + len < 135) (a5 : t + len < 145) (u1 : t = 1 → ST u (b + 1) (sBg s00) cZ) (u3 : t = 51 → Pz 3 (b + 51) u) (u4 : t = 122 → RW u (b + 123) 0 ∧ RW u (b + 126) 1) : PP b (t + len) (mg lo hi M u) := by
  subst hhi
  subst hlo
  obtain ⟨h1, h2, h3, h4, h5, h6⟩ := h
  refine ⟨fun q => ?_, fun q => ?_, fun q => ?_, fun q => ?_, fun q => absurd q (by omega), fun q hq j => ?_⟩
  · rcases a1 with a | a
    · exact (u1 a.1).ag (fun k c d => (mg_mid (by omega) (by omega)).1)
    · exact (h1 a).ag (fun k c d => (mg_lo (by omega)).1)
  · intro j
    rw [(mg_lo (by omega)).1]
    exact h2 (by omega) j
  · intro k c d j
    rcases a3 with a | a | a
    · rw [(mg_mid (by omega) (by omega)).1]; exact u3 a.1 k c d j
    · rw [(mg_lo (by omega)).1]; exact h3 a k c d j
    · omega
  · rcases a4 with a | a | a
    · exact ⟨(u4 a.1).1.ag (mg_mid (by omega) (by omega)).1 (mg_mid (by omega) (by omega)).1, (u4 a.1).2.ag (mg_mid (by omega) (by omega)).1 (mg_mid (by omega) (by omega)).1⟩
    · exact ⟨(h4 a).1.ag (mg_lo (by omega)).1 (mg_lo (by omega)).1, (h4 a).2.ag (mg_lo (by omega)).1 (mg_lo (by omega)).1⟩
    · omega
  · rw [(mg_hi (by omega) (by omega)).1]
theorem PP_CR {b : Nat} {M : mM} (h : PP b 145 M) : CR M b S00 := by
  obtain ⟨h1, h2, h3, h4, h5, -⟩ := h
  exact ⟨h1 (by decide), fun i hi => ⟨h2 (by decide) i, fun q => absurd rfl q⟩, ⟨h3 (by decide) (b + 51) (by omega) (by omega) 2, fun j hj => absurd hj (Nat.not_lt_zero j)⟩, h4 (by decide), fun k hk => h5 (by decide) k⟩
theorem NI_P {X : nX} {pc : Nat} {fs : List Value} {L : List kK} {f : Nat → Option Nat} {L2 : List kK} {M : mM} {st : List Value} {k n : Nat} (P : mM → Prop) (hp : P M) (kk : ∀ M', P M' → NI X pc fs L f L2 M' st k n) : NI X pc fs L f L2 M st k n := kk M hp
theorem NI_ast {X : nX} {cc : ByteArray} {own : String} {pc : Nat} {fs : List Value} {L : List kK} {f : Nat → Option Nat} {L2 : List kK} {M : mM} {st : List Value} {k n : Nat} (C : NX X cc own) {qk ii : Nat} {ks : List kF} {i : Int32} (hi : i.toNatClampNeg = ii) (hv : L2[qk]? = some (kO 2 ks)) (hin : vp_in i 2) (hd : decode cc pc = .ok (.aastore, 1)) (kk : NI X (pc + 1) fs L (va_up f ii (some (n_a X + (n_b X + 1 + L.length + 1 + qk)))) L2 M st k n) : NI X pc fs L f L2 M (.ref (n_a X + (n_b X + 1 + L.length + 1 + qk)) :: .int i :: .ref (n_a X + (n_b X + 1 + L.length)) :: st) k n := by
  subst hi
  exact NI_aast C hv hin hd kk
theorem cn_6 (l : Launch) : CN l 4 6 144 2565 yX6_init cX6_init [.null, .null, .null, .null, .null, .null, .null, .null, .null, .null, .null, .null] (fun b u => CR u b S00) := by
  refine CN_of (by decide +kernel) rfl (fun X C hk hl hR E => ?_)
  have z0 : PP (n_b X) 1 (fun _ _ => 0, fun _ _ => 0) := PP_1
  refine NB_aload C dX6_init_0 ?_
  refine NB_objInit C ky_10 ky_11 ky_12 (by rw [hR]; decide) (by rw [hR]; decide) dX6_init_1 ?_
  refine NB_aload C dX6_init_4 ?_
  refine NB_make (len := 12) C (cn_2 (n_L X)) rfl inlX2 tyX2_ok hfs_2 ky_14 ky_15 ky_1 ym_2 rfl ky_16 (Or.inl ky_13) (fun _ => rfl) (by rw [hR]; decide) (by rw [hR]; decide) (by rw [hR]; decide) (by rw [hR]; decide) (fun _ => Nat.le_of_ble_eq_true rfl) dX6_init_5 dX6_init_8 dX6_init_9 (fun u1 hu1 => ?_)
  refine NB_P (fun M => PP (n_b X) 13 M) (PP_mg (t := 1) (len := 12) z0 (by first | (simp only [List.length_append, List.length_cons, List.length_nil, len0, len1, len2, len3, len4, len5] <;> omega) | rfl) rfl (by decide) (by decide) (by decide) (by decide) (by decide) (fun _ => hu1) (fun e => absurd e (by decide)) (fun e => absurd e (by decide))) (fun M1 z1 => ?_)
  refine NB_putF C (by rw [hk]; exact FN_6_10) rfl rfl (Nat.le_of_ble_eq_true rfl) dX6_init_12 ?_
  refine NB_aload C dX6_init_15 ?_
  refine NB_make (len := 12) C (cn_2 (n_L X)) rfl inlX2 tyX2_ok hfs_2 ky_14 ky_15 ky_1 ym_2 rfl ky_16 (Or.inl ky_13) (fun _ => rfl) (by rw [hR]; decide) (by rw [hR]; decide) (by rw [hR]; decide) (by rw [hR]; decide) (fun _ => Nat.le_of_ble_eq_true rfl) dX6_init_16 dX6_init_19 dX6_init_20 (fun u2 hu2 => ?_)
  refine NB_P (fun M => PP (n_b X) 25 M) (PP_mg (t := 13) (len := 12) z1 (by first | (simp only [List.length_append, List.length_cons, List.length_nil, len0, len1, len2, len3, len4, len5] <;> omega) | rfl) rfl (by decide) (by decide) (by decide) (by decide) (by decide) (fun e => absurd e (by decide)) (fun e => absurd e (by decide)) (fun e => absurd e (by decide))) (fun M2 z2 => ?_)
  refine NB_putF C (by rw [hk]; exact FN_6_16) rfl rfl (Nat.le_of_ble_eq_true rfl) dX6_init_23 ?_
  refine NB_aload C dX6_init_26 ?_
  refine NB_iconst C 2 dX6_init_27 (by decide) ?_
  refine NB_newq C ky_14 (by rw [hR]; decide) (by rw [hR]; decide) dX6_init_28 ?_
  have z3 := PP_s z2 (by decide)
  refine NI_dup C dX6_init_31 rfl ?_
  refine NI_iconst C 0 dX6_init_32 (by decide) ?_
  refine NI_make (len := 12) C (cn_2 (n_L X)) rfl inlX2 tyX2_ok hfs_2 ky_14 ky_15 ky_1 ym_2 rfl ky_16 (Or.inl ky_13) (fun _ => rfl) (by rw [hR]; decide) (by rw [hR]; decide) (by rw [hR]; decide) (by rw [hR]; decide) (fun _ => Nat.le_of_ble_eq_true rfl) dX6_init_33 dX6_init_36 dX6_init_37 (fun u3 hu3 => ?_)
  refine NI_P (fun M => PP (n_b X) 38 M) (PP_mg (t := 26) (len := 12) z3 (by first | (simp only [List.length_append, List.length_cons, List.length_nil, len0, len1, len2, len3, len4, len5] <;> omega) | rfl) rfl (by decide) (by decide) (by decide) (by decide) (by decide) (fun e => absurd e (by decide)) (fun e => absurd e (by decide)) (fun e => absurd e (by decide))) (fun M3 z4 => ?_)
  refine NI_ast C (qk := 0) (ii := 0) (ks := fs2 _) rfl rfl (vin (i := 0) (by decide) (by decide)) dX6_init_40 ?_
  refine NI_dup C dX6_init_41 rfl ?_
  refine NI_iconst C 1 dX6_init_42 (by decide) ?_
  refine NI_make (len := 12) C (cn_2 (n_L X)) rfl inlX2 tyX2_ok hfs_2 ky_14 ky_15 ky_1 ym_2 rfl ky_16 (Or.inl ky_13) (fun _ => rfl) (by rw [hR]; decide) (by rw [hR]; decide) (by rw [hR]; decide) (by rw [hR]; decide) (fun _ => Nat.le_of_ble_eq_true rfl) dX6_init_43 dX6_init_46 dX6_init_47 (fun u4 hu4 => ?_)
  refine NI_P (fun M => PP (n_b X) 50 M) (PP_mg (t := 38) (len := 12) z4 (by first | (simp only [List.length_append, List.length_cons, List.length_nil, len0, len1, len2, len3, len4, len5] <;> omega) | rfl) rfl (by decide) (by decide) (by decide) (by decide) (by decide) (fun e => absurd e (by decide)) (fun e => absurd e (by decide)) (fun e => absurd e (by decide))) (fun M4 z5 => ?_)
  refine NI_ast C (qk := 12) (ii := 1) (ks := fs2 _) rfl rfl (vin (i := 1) (by decide) (by decide)) dX6_init_50 ?_
  refine NI_done (r := fun j => n_b X + 26 + 12 * j) (fun j hj => match j, hj with | 0, _ => rfl | 1, _ => rfl) ?_
  refine NB_putF C (by rw [hk]; exact FN_6_19) rfl rfl (Nat.le_of_ble_eq_true rfl) dX6_init_51 ?_
  refine NB_aload C dX6_init_54 ?_
  refine NB_iconst C 2 dX6_init_55 (by decide) ?_
  refine NB_newI C (t := 3) (N := 2) rfl rfl (fun _ _ h => h) rfl ky_20 (by decide) (by decide) (by decide) (fun j => z5.2.2.2.2.2 _ (Nat.le_of_eq (Eq.symm (by first | (simp only [List.length_append, List.length_cons, List.length_nil, len0, len1, len2, len3, len4, len5] <;> omega) | rfl))) j) (by rw [hR]; decide) (by rw [hR]; decide) dX6_init_56 ?_
  have z6 := PP_s z5 (by decide)
  refine NB_putF C (by rw [hk]; exact FN_6_23) rfl rfl (Nat.le_of_ble_eq_true rfl) dX6_init_58 ?_
  refine NB_aload C dX6_init_61 ?_
  refine NB_make (len := 3) C (cn_3 (n_L X)) rfl inlX3 tyX3_ok hfs_3 ky_22 ky_23 ky_3 ym_3 rfl ky_24 (Or.inr (List.mem_of_getElem? (i := 0) rfl)) (fun _ => rfl) (by rw [hR]; decide) (by rw [hR]; decide) (by rw [hR]; decide) (by rw [hR]; decide) (fun _ => Nat.le_of_ble_eq_true rfl) dX6_init_62 dX6_init_65 dX6_init_66 (fun u5 hu5 => ?_)
  refine NB_P (fun M => PP (n_b X) 54 M) (PP_mg (t := 51) (len := 3) z6 (by first | (simp only [List.length_append, List.length_cons, List.length_nil, len0, len1, len2, len3, len4, len5] <;> omega) | rfl) rfl (by decide) (by decide) (by decide) (by decide) (by decide) (fun e => absurd e (by decide)) (fun _ => hu5) (fun e => absurd e (by decide))) (fun M5 z7 => ?_)
  refine NB_putF C (by rw [hk]; exact FN_6_30) rfl rfl (Nat.le_of_ble_eq_true rfl) dX6_init_69 ?_
  refine NB_aload C dX6_init_72 ?_
  refine NB_make (len := 16) C (cn_4 (n_L X)) rfl inlX4 tyX4_ok hfs_4 ky_26 ky_27 ky_5 ym_4 rfl ky_28 (Or.inr (List.mem_of_getElem? (i := 1) rfl)) (fun _ => rfl) (by rw [hR]; decide) (by rw [hR]; decide) (by rw [hR]; decide) (by rw [hR]; decide) (fun _ => Nat.le_of_ble_eq_true rfl) dX6_init_73 dX6_init_76 dX6_init_77 (fun u6 hu6 => ?_)
  refine NB_P (fun M => PP (n_b X) 70 M) (PP_mg (t := 54) (len := 16) z7 (by first | (simp only [List.length_append, List.length_cons, List.length_nil, len0, len1, len2, len3, len4, len5] <;> omega) | rfl) rfl (by decide) (by decide) (by decide) (by decide) (by decide) (fun e => absurd e (by decide)) (fun e => absurd e (by decide)) (fun e => absurd e (by decide))) (fun M6 z8 => ?_)
  refine NB_putF C (by rw [hk]; exact FN_6_37) rfl rfl (Nat.le_of_ble_eq_true rfl) dX6_init_80 ?_
  refine NB_aload C dX6_init_83 ?_
  refine NB_make (len := 52) C (cn_1 (n_L X)) rfl inlX1 tyX1_ok hfs_1 ky_30 ky_31 ky_7 ym_1 rfl ky_32 (Or.inr (List.mem_of_getElem? (i := 2) rfl)) (fun _ => rfl) (by rw [hR]; decide) (by rw [hR]; decide) (by rw [hR]; decide) (by rw [hR]; decide) (fun _ => Nat.le_of_ble_eq_true rfl) dX6_init_84 dX6_init_87 dX6_init_88 (fun u7 hu7 => ?_)
  refine NB_P (fun M => PP (n_b X) 122 M) (PP_mg (t := 70) (len := 52) z8 (by first | (simp only [List.length_append, List.length_cons, List.length_nil, len0, len1, len2, len3, len4, len5] <;> omega) | rfl) rfl (by decide) (by decide) (by decide) (by decide) (by decide) (fun e => absurd e (by decide)) (fun e => absurd e (by decide)) (fun e => absurd e (by decide))) (fun M7 z9 => ?_)
  refine NB_putF C (by rw [hk]; exact FN_6_44) rfl rfl (Nat.le_of_ble_eq_true rfl) dX6_init_91 ?_
  refine NB_aload C dX6_init_94 ?_
  refine NB_make (len := 13) C (cn_0 (n_L X)) rfl inlX0 tyX0_ok hfs_0 ky_35 ky_36 ky_9 ym_0 rfl ky_37 (Or.inl ky_34) (fun _ => rfl) (by rw [hR]; decide) (by rw [hR]; decide) (by rw [hR]; decide) (by rw [hR]; decide) (fun _ => Nat.le_of_ble_eq_true rfl) dX6_init_95 dX6_init_98 dX6_init_99 (fun u8 hu8 => ?_)
  refine NB_P (fun M => PP (n_b X) 135 M) (PP_mg (t := 122) (len := 13) z9 (by first | (simp only [List.length_append, List.length_cons, List.length_nil, len0, len1, len2, len3, len4, len5] <;> omega) | rfl) rfl (by decide) (by decide) (by decide) (by decide) (by decide) (fun e => absurd e (by decide)) (fun e => absurd e (by decide)) (fun _ => hu8)) (fun M8 z10 => ?_)
  refine NB_putF C (by rw [hk]; exact FN_6_51) rfl rfl (Nat.le_of_ble_eq_true rfl) dX6_init_102 ?_
  refine NB_aload C dX6_init_105 ?_
  refine NB_make (len := 3) C (cn_5 (n_L X)) rfl inlX5 tyX5_ok hfs_5 ky_39 ky_40 ky_41 ym_5 rfl ky_42 (Or.inr (List.mem_of_getElem? (i := 3) rfl)) (fun _ => rfl) (by rw [hR]; decide) (by rw [hR]; decide) (by rw [hR]; decide) (by rw [hR]; decide) (fun _ => Nat.le_of_ble_eq_true rfl) dX6_init_106 dX6_init_109 dX6_init_110 (fun u9 hu9 => ?_)
  refine NB_P (fun M => PP (n_b X) 138 M) (PP_mg (t := 135) (len := 3) z10 (by first | (simp only [List.length_append, List.length_cons, List.length_nil, len0, len1, len2, len3, len4, len5] <;> omega) | rfl) rfl (by decide) (by decide) (by decide) (by decide) (by decide) (fun e => absurd e (by decide)) (fun e => absurd e (by decide)) (fun e => absurd e (by decide))) (fun M9 z11 => ?_)
  refine NB_putF C (by rw [hk]; exact FN_6_58) rfl rfl (Nat.le_of_ble_eq_true rfl) dX6_init_113 ?_
  refine NB_aload C dX6_init_116 ?_
  refine NB_make (len := 3) C (cn_5 (n_L X)) rfl inlX5 tyX5_ok hfs_5 ky_39 ky_40 ky_41 ym_5 rfl ky_42 (Or.inr (List.mem_of_getElem? (i := 3) rfl)) (fun _ => rfl) (by rw [hR]; decide) (by rw [hR]; decide) (by rw [hR]; decide) (by rw [hR]; decide) (fun _ => Nat.le_of_ble_eq_true rfl) dX6_init_117 dX6_init_120 dX6_init_121 (fun u10 hu10 => ?_)
  refine NB_P (fun M => PP (n_b X) 141 M) (PP_mg (t := 138) (len := 3) z11 (by first | (simp only [List.length_append, List.length_cons, List.length_nil, len0, len1, len2, len3, len4, len5] <;> omega) | rfl) rfl (by decide) (by decide) (by decide) (by decide) (by decide) (fun e => absurd e (by decide)) (fun e => absurd e (by decide)) (fun e => absurd e (by decide))) (fun M10 z12 => ?_)
  refine NB_putF C (by rw [hk]; exact FN_6_62) rfl rfl (Nat.le_of_ble_eq_true rfl) dX6_init_124 ?_
  refine NB_aload C dX6_init_127 ?_
  refine NB_make (len := 3) C (cn_5 (n_L X)) rfl inlX5 tyX5_ok hfs_5 ky_39 ky_40 ky_41 ym_5 rfl ky_42 (Or.inr (List.mem_of_getElem? (i := 3) rfl)) (fun _ => rfl) (by rw [hR]; decide) (by rw [hR]; decide) (by rw [hR]; decide) (by rw [hR]; decide) (fun _ => Nat.le_of_ble_eq_true rfl) dX6_init_128 dX6_init_131 dX6_init_132 (fun u11 hu11 => ?_)
  refine NB_P (fun M => PP (n_b X) 144 M) (PP_mg (t := 141) (len := 3) z12 (by first | (simp only [List.length_append, List.length_cons, List.length_nil, len0, len1, len2, len3, len4, len5] <;> omega) | rfl) rfl (by decide) (by decide) (by decide) (by decide) (by decide) (fun e => absurd e (by decide)) (fun e => absurd e (by decide)) (fun e => absurd e (by decide))) (fun M11 z13 => ?_)
  refine NB_putF C (by rw [hk]; exact FN_6_65) rfl rfl (Nat.le_of_ble_eq_true rfl) dX6_init_135 ?_
  refine NB_aload C dX6_init_138 ?_
  refine NB_iconst C 3 dX6_init_139 (by decide) ?_
  refine NB_newI C (t := 0) (N := 3) rfl rfl (fun _ _ h => h) rfl ky_46 (by decide) (by decide) (by decide) (fun j => z13.2.2.2.2.2 _ (Nat.le_of_eq (Eq.symm (by first | (simp only [List.length_append, List.length_cons, List.length_nil, len0, len1, len2, len3, len4, len5] <;> omega) | rfl))) j) (by rw [hR]; decide) (by rw [hR]; decide) dX6_init_140 ?_
  have z14 := PP_s z13 (by decide)
  refine NB_putF C (by rw [hk]; exact FN_6_68) rfl rfl (Nat.le_of_ble_eq_true rfl) dX6_init_142 ?_
  refine NB_ret C E (ks := fs6 (n_b X)) (by rw [hk]; rfl) ?_ (PP_CR z14) (by decide) (by decide) dX6_init_145
  simp [wF, wV, fs6, aT, len0, len1, len2, len3, len4, len5, Nat.add_assoc]
