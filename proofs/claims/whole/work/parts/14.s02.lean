set_option maxRecDepth 20000 in
set_option maxHeartbeats 1000000 in
theorem s_X6_isCell {X : wX} (C : CX X cX6_isCell RX6 (some .boolean)) (hH : xH X = 1) (hN : xN X = 1) {p1 : Int32} {M : mM} {Q : Int32 → Prop} (hQ : ∀ r, Q r → xPo X (some (.int r)) M)    (h : p_X6_isCell p1 M Q) : V X 0 [(0, .int p1)] [] M := by
  refine V_iload_n C 0 dX6_isCell_0 rfl ?_
  refine V_iconst C 0 dX6_isCell_1 (by decide) ?_
  refine V_bipush C 47 dX6_isCell_2 (by decide) ?_
  refine V_callS (As := [.int p1, .int 0, .int 47]) (st := []) C (c_X6_within  h) Y_X6_within Z_X6_within (ltN hH (by decide)) u_101 rfl rfl (Nat.le_of_ble_eq_true rfl) dX6_isCell_4 ?_
  rintro v9 M9 ⟨rfl, r1, rfl, h⟩
  show V X 7 _ [.int r1] M
  exact V_zret C rfl h.1 dX6_isCell_7 (hQ _ h.2)
set_option maxRecDepth 20000 in
set_option maxHeartbeats 1000000 in
theorem c_X6_isCell {w : wU} {l : Launch} {p1 : Int32} {M : mM} {Q : Int32 → Prop}  (h : p_X6_isCell p1 M Q) : CT w l 1 yX6_isCell cX6_isCell 1 (some .boolean) [.int p1] M (poI M Q) := by
  refine CT.of (by decide +kernel) (Nat.le_of_ble_eq_true rfl) (fun X hw hH hl hP hN C => ?_)
  subst hw
  exact s_X6_isCell C hH hN (fun r q => by rw [hP]; exact ⟨rfl, r, rfl, q⟩)  h
set_option maxRecDepth 20000 in
set_option maxHeartbeats 1000000 in
theorem s_X2_isStuff {X : wX} (C : CX X cX2_isStuff RX2 (some .boolean)) (hH : xH X = 0) (hN : xN X = 2) {b : Nat} {p1 : Int32} {M : mM} {Q : Int32 → Prop} (hQ : ∀ r, Q r → xPo X (some (.int r)) M) (hb : isC (xW X) 2 b)   (h : p_X2_isStuff b p1 M Q) : V X 0 [(0, vR X b), (1, .int p1)] [] M := by
  refine V_iload_n C 1 dX2_isStuff_0 rfl ?_
  refine V_if_lt (tgt := 21) C dX2_isStuff_1 (by decide) (fun hc => ?_) (fun hc => ?_)
  · have h := h.1 hc
    refine V_iconst C 0 dX2_isStuff_21 (by decide) ?_
    exact V_zret C rfl (by decide) dX2_isStuff_22 (hQ _ h)
  · have h := h.2 hc
    refine V_iload_n C 1 dX2_isStuff_4 rfl ?_
    refine V_aload_n C 0 dX2_isStuff_5 rfl ?_
    refine V_getI C FL_RX2_48 (f2_11 hb) dX2_isStuff_6 ?_
    refine V_icmp_ge (tgt := 21) C dX2_isStuff_9 (by decide) (fun hc => ?_) (fun hc => ?_)
    · have h := h.1 hc
      refine V_iconst C 0 dX2_isStuff_21 (by decide) ?_
      exact V_zret C rfl (by decide) dX2_isStuff_22 (hQ _ h)
    · have h := h.2 hc
      refine V_iload_n C 1 dX2_isStuff_12 rfl ?_
      refine V_iconst C 4 dX2_isStuff_13 (by decide) ?_
      refine V_icmp_ge (tgt := 21) C dX2_isStuff_14 (by decide) (fun hc => ?_) (fun hc => ?_)
      · have h := h.1 hc
        refine V_iconst C 0 dX2_isStuff_21 (by decide) ?_
        exact V_zret C rfl (by decide) dX2_isStuff_22 (hQ _ h)
      · have h := h.2 hc
        refine V_iconst C 1 dX2_isStuff_17 (by decide) ?_
        refine V_goto (tgt := 22) C dX2_isStuff_18 (by decide) ?_
        exact V_zret C rfl (by decide) dX2_isStuff_22 (hQ _ h)
set_option maxRecDepth 20000 in
set_option maxHeartbeats 1000000 in
theorem c_X2_isStuff {w : wU} {l : Launch} {b : Nat} {p1 : Int32} {M : mM} {Q : Int32 → Prop} (hb : isC w 2 b) (h : p_X2_isStuff b p1 M Q) : CT w l 0 yX2_isStuff cX2_isStuff 2 (some .boolean) [.ref (uA w b), .int p1] M (poI M Q) := by
  refine CT.of (by decide +kernel) (Nat.le_of_ble_eq_true rfl) (fun X hw hH hl hP hN C => ?_)
  subst hw
  exact s_X2_isStuff C hH hN (fun r q => by rw [hP]; exact ⟨rfl, r, rfl, q⟩) hb h
set_option maxRecDepth 20000 in
set_option maxHeartbeats 1000000 in
theorem s_X2_canTell {X : wX} (C : CX X cX2_canTell RX2 (some .boolean)) (hH : xH X = 1) (hN : xN X = 4) {b : Nat} {p1 : Int32} {p2 : Int32} {p3 : Int32} {M : mM} {Q : Int32 → Prop} (hQ : ∀ r, Q r → xPo X (some (.int r)) M) (hb : isC (xW X) 2 b)   (h : p_X2_canTell b p1 p2 p3 M Q) : V X 0 [(0, vR X b), (1, .int p1), (2, .int p2), (3, .int p3)] [] M := by
  refine V_iload_n C 2 dX2_canTell_0 rfl ?_
  by_cases n0 : p2 = 0
  · have h := h.1 n0
    refine V_tsw (tgt := 44) C dX2_canTell_1 (43) (by rw [n0]; decide) (by rw [n0]; decide) (by rw [n0]; decide) (by decide) ?_
    refine V_aload_n C 0 dX2_canTell_44 rfl ?_
    refine V_iload_n C 3 dX2_canTell_45 rfl ?_
    refine V_callV (As := [.int p3]) (st := []) C (c_X2_isStuff hb h) Y_X2_isStuff Z_X2_isStuff (T := TX2) (N := 13) rfl (o2 hb) (ltN hH (by decide)) u_102 rfl rfl (Nat.le_of_ble_eq_true rfl) dX2_canTell_46 ?_
    rintro v9 M9 ⟨rfl, r1, rfl, h⟩
    show V X 49 _ [.int r1] M
    exact V_zret C rfl h.1 dX2_canTell_49 (hQ _ h.2)
  by_cases n1 : p2 = 1
  · have h := h.2.1 n1
    refine V_tsw (tgt := 50) C dX2_canTell_1 (49) (by rw [n1]; decide) (by rw [n1]; decide) (by rw [n1]; decide) (by decide) ?_
    refine V_iload_n C 3 dX2_canTell_50 rfl ?_
    refine V_iconst C 0 dX2_canTell_51 (by decide) ?_
    refine V_iconst C 3 dX2_canTell_52 (by decide) ?_
    refine V_callN (As := [.int p3, .int 0, .int 3]) (st := []) C (c_X6_within  h) Y_X6_within Z_X6_within (ltN hH (by decide)) (List.mem_of_getElem? (i := 4) rfl) rfl rfl (Nat.le_of_ble_eq_true rfl) dX2_canTell_53 ?_
    rintro v9 M9 ⟨rfl, r2, rfl, h⟩
    show V X 56 _ [.int r2] M
    exact V_zret C rfl h.1 dX2_canTell_56 (hQ _ h.2)
  by_cases n2 : p2 = 2
  · have h := h.2.2.1 n2
    refine V_tsw (tgt := 50) C dX2_canTell_1 (49) (by rw [n2]; decide) (by rw [n2]; decide) (by rw [n2]; decide) (by decide) ?_
    refine V_iload_n C 3 dX2_canTell_50 rfl ?_
    refine V_iconst C 0 dX2_canTell_51 (by decide) ?_
    refine V_iconst C 3 dX2_canTell_52 (by decide) ?_
    refine V_callN (As := [.int p3, .int 0, .int 3]) (st := []) C (c_X6_within  h) Y_X6_within Z_X6_within (ltN hH (by decide)) (List.mem_of_getElem? (i := 4) rfl) rfl rfl (Nat.le_of_ble_eq_true rfl) dX2_canTell_53 ?_
    rintro v9 M9 ⟨rfl, r3, rfl, h⟩
    show V X 56 _ [.int r3] M
    exact V_zret C rfl h.1 dX2_canTell_56 (hQ _ h.2)
  by_cases n3 : p2 = 3
  · have h := h.2.2.2.1 n3
    refine V_tsw (tgt := 57) C dX2_canTell_1 (56) (by rw [n3]; decide) (by rw [n3]; decide) (by rw [n3]; decide) (by decide) ?_
    refine V_iload_n C 3 dX2_canTell_57 rfl ?_
    refine V_iconst C 0 dX2_canTell_58 (by decide) ?_
    refine V_sipush C 400 dX2_canTell_59 (by decide) ?_
    refine V_callN (As := [.int p3, .int 0, .int 400]) (st := []) C (c_X6_within  h) Y_X6_within Z_X6_within (ltN hH (by decide)) (List.mem_of_getElem? (i := 4) rfl) rfl rfl (Nat.le_of_ble_eq_true rfl) dX2_canTell_62 ?_
    rintro v9 M9 ⟨rfl, r4, rfl, h⟩
    show V X 65 _ [.int r4] M
    exact V_zret C rfl h.1 dX2_canTell_65 (hQ _ h.2)
  by_cases n4 : p2 = 4
  · have h := h.2.2.2.2.1 n4
    refine V_tsw (tgt := 57) C dX2_canTell_1 (56) (by rw [n4]; decide) (by rw [n4]; decide) (by rw [n4]; decide) (by decide) ?_
    refine V_iload_n C 3 dX2_canTell_57 rfl ?_
    refine V_iconst C 0 dX2_canTell_58 (by decide) ?_
    refine V_sipush C 400 dX2_canTell_59 (by decide) ?_
    refine V_callN (As := [.int p3, .int 0, .int 400]) (st := []) C (c_X6_within  h) Y_X6_within Z_X6_within (ltN hH (by decide)) (List.mem_of_getElem? (i := 4) rfl) rfl rfl (Nat.le_of_ble_eq_true rfl) dX2_canTell_62 ?_
    rintro v9 M9 ⟨rfl, r5, rfl, h⟩
    show V X 65 _ [.int r5] M
    exact V_zret C rfl h.1 dX2_canTell_65 (hQ _ h.2)
  by_cases n5 : p2 = 5
  · have h := h.2.2.2.2.2.1 n5
    refine V_tsw (tgt := 66) C dX2_canTell_1 (65) (by rw [n5]; decide) (by rw [n5]; decide) (by rw [n5]; decide) (by decide) ?_
    refine V_iload_n C 3 dX2_canTell_66 rfl ?_
    refine V_iconst C 1 dX2_canTell_67 (by decide) ?_
    refine V_sipush C 400 dX2_canTell_68 (by decide) ?_
    refine V_callN (As := [.int p3, .int 1, .int 400]) (st := []) C (c_X6_within  h) Y_X6_within Z_X6_within (ltN hH (by decide)) (List.mem_of_getElem? (i := 4) rfl) rfl rfl (Nat.le_of_ble_eq_true rfl) dX2_canTell_71 ?_
    rintro v9 M9 ⟨rfl, r6, rfl, h⟩
    show V X 74 _ [.int r6] M
    refine V_if_eq (tgt := 90) C dX2_canTell_74 (by decide) (fun hc => ?_) (fun hc => ?_)
    · have h := h.1 hc
      refine V_iconst C 0 dX2_canTell_90 (by decide) ?_
      exact V_zret C rfl (by decide) dX2_canTell_91 (hQ _ h)
    · have h := h.2 hc
      refine V_iload_n C 1 dX2_canTell_77 rfl ?_
      refine V_bipush C 8 dX2_canTell_78 (by decide) ?_
      refine V_irem C dX2_canTell_80 (by decide) ?_
      refine V_bipush C 7 dX2_canTell_81 (by decide) ?_
      refine V_icmp_eq (tgt := 90) C dX2_canTell_83 (by decide) (fun hc => ?_) (fun hc => ?_)
      · have h := h.1 hc
        refine V_iconst C 0 dX2_canTell_90 (by decide) ?_
        exact V_zret C rfl (by decide) dX2_canTell_91 (hQ _ h)
      · have h := h.2 hc
        refine V_iconst C 1 dX2_canTell_86 (by decide) ?_
        refine V_goto (tgt := 91) C dX2_canTell_87 (by decide) ?_
        exact V_zret C rfl (by decide) dX2_canTell_91 (hQ _ h)
  by_cases n6 : p2 = 6
  · have h := h.2.2.2.2.2.2.1 n6
    refine V_tsw (tgt := 92) C dX2_canTell_1 (91) (by rw [n6]; decide) (by rw [n6]; decide) (by rw [n6]; decide) (by decide) ?_
    refine V_iload_n C 3 dX2_canTell_92 rfl ?_
    refine V_if_ne (tgt := 100) C dX2_canTell_93 (by decide) (fun hc => ?_) (fun hc => ?_)
    · have h := h.1 hc
      refine V_iconst C 0 dX2_canTell_100 (by decide) ?_
      exact V_zret C rfl (by decide) dX2_canTell_101 (hQ _ h)
    · have h := h.2 hc
      refine V_iconst C 1 dX2_canTell_96 (by decide) ?_
      refine V_goto (tgt := 101) C dX2_canTell_97 (by decide) ?_
      exact V_zret C rfl (by decide) dX2_canTell_101 (hQ _ h)
  have h := h.2.2.2.2.2.2.2 n0 n1 n2 n3 n4 n5 n6
  refine V_tswOut (tgt := 102) C dX2_canTell_1 (by have q0 : p2.toInt ≠ 0 := fun e => n0 (Int32.toInt_inj.mp (e.trans (by decide))); have q1 : p2.toInt ≠ 1 := fun e => n1 (Int32.toInt_inj.mp (e.trans (by decide))); have q2 : p2.toInt ≠ 2 := fun e => n2 (Int32.toInt_inj.mp (e.trans (by decide))); have q3 : p2.toInt ≠ 3 := fun e => n3 (Int32.toInt_inj.mp (e.trans (by decide))); have q4 : p2.toInt ≠ 4 := fun e => n4 (Int32.toInt_inj.mp (e.trans (by decide))); have q5 : p2.toInt ≠ 5 := fun e => n5 (Int32.toInt_inj.mp (e.trans (by decide))); have q6 : p2.toInt ≠ 6 := fun e => n6 (Int32.toInt_inj.mp (e.trans (by decide))); omega) (by decide) ?_
  refine V_iconst C 0 dX2_canTell_102 (by decide) ?_
  exact V_zret C rfl (by decide) dX2_canTell_103 (hQ _ h)
set_option maxRecDepth 20000 in
set_option maxHeartbeats 1000000 in
theorem c_X2_canTell {w : wU} {l : Launch} {b : Nat} {p1 : Int32} {p2 : Int32} {p3 : Int32} {M : mM} {Q : Int32 → Prop} (hb : isC w 2 b) (h : p_X2_canTell b p1 p2 p3 M Q) : CT w l 1 yX2_canTell cX2_canTell 4 (some .boolean) [.ref (uA w b), .int p1, .int p2, .int p3] M (poI M Q) := by
  refine CT.of (by decide +kernel) (Nat.le_of_ble_eq_true rfl) (fun X hw hH hl hP hN C => ?_)
  subst hw
  exact s_X2_canTell C hH hN (fun r q => by rw [hP]; exact ⟨rfl, r, rfl, q⟩) hb h
set_option maxRecDepth 20000 in
set_option maxHeartbeats 1000000 in
theorem s_X2_addTrace {X : wX} (C : CX X cX2_addTrace RX2 (some .int)) (hH : xH X = 2) (hN : xN X = 4) {b : Nat} {p1 : Int32} {p2 : Int32} {p3 : Int32} {M : mM} {Q : Int32 → mM → Prop} (hQ : ∀ r M, Q r M → xPo X (some (.int r)) M) (hb : isC (xW X) 2 b)   (h : p_X2_addTrace b p1 p2 p3 M Q) : V X 0 [(0, vR X b), (1, .int p1), (2, .int p2), (3, .int p3)] [] M := by
  refine V_iload_n C 1 dX2_addTrace_0 rfl ?_
  refine V_callN (As := [.int p1]) (st := []) C (c_X6_isCell  h) Y_X6_isCell Z_X6_isCell (ltN hH (by decide)) (List.mem_of_getElem? (i := 5) rfl) rfl rfl (Nat.le_of_ble_eq_true rfl) dX2_addTrace_1 ?_
  rintro v9 M9 ⟨rfl, r1, rfl, h⟩
  show V X 4 _ [.int r1] M
  refine V_if_eq (tgt := 17) C dX2_addTrace_4 (by decide) (fun hc => ?_) (fun hc => ?_)
  · have h := h.1 hc
    refine V_bipush C (-2) dX2_addTrace_17 (by decide) ?_
    exact V_iret C dX2_addTrace_19 (hQ _ _ h)
  · have h := h.2 hc
    refine V_aload_n C 0 dX2_addTrace_7 rfl ?_
    refine V_iload_n C 1 dX2_addTrace_8 rfl ?_
    refine V_iload_n C 2 dX2_addTrace_9 rfl ?_
    refine V_iload_n C 3 dX2_addTrace_10 rfl ?_
    refine V_callV (As := [.int p1, .int p2, .int p3]) (st := []) C (c_X2_canTell hb h) Y_X2_canTell Z_X2_canTell (T := TX2) (N := 13) rfl (o2 hb) (ltN hH (by decide)) u_103 rfl rfl (Nat.le_of_ble_eq_true rfl) dX2_addTrace_11 ?_
    rintro v9 M9 ⟨rfl, r2, rfl, h⟩
    show V X 14 _ [.int r2] M
    refine V_if_ne (tgt := 20) C dX2_addTrace_14 (by decide) (fun hc => ?_) (fun hc => ?_)
    · have h := h.1 hc
      refine V_aload_n C 0 dX2_addTrace_20 rfl ?_
      refine V_getI C FL_RX2_52 (f2_12 hb) dX2_addTrace_21 ?_
      refine V_bipush C 20 dX2_addTrace_24 (by decide) ?_
      refine V_icmp_lt (tgt := 32) C dX2_addTrace_26 (by decide) (fun hc => ?_) (fun hc => ?_)
      · have h := h.1 hc
        refine V_aload_n C 0 dX2_addTrace_32 rfl ?_
        refine V_getR C FL_RX2_30 (f2_6 hb) dX2_addTrace_33 ?_
        refine V_aload_n C 0 dX2_addTrace_36 rfl ?_
        refine V_getI C FL_RX2_52 (f2_12 hb) dX2_addTrace_37 ?_
        refine V_iload_n C 1 dX2_addTrace_40 rfl ?_
        obtain ⟨b4, h⟩ := h
        refine V_iast C (k2_7 hb) b4 dX2_addTrace_41 ?_
        refine V_nmM (fun M3 e_M3 => ?_)
        have h := h M3 e_M3
        refine V_aload_n C 0 dX2_addTrace_42 rfl ?_
        refine V_getR C FL_RX2_33 (f2_7 hb) dX2_addTrace_43 ?_
        refine V_aload_n C 0 dX2_addTrace_46 rfl ?_
        refine V_getI C FL_RX2_52 (f2_12 hb) dX2_addTrace_47 ?_
        refine V_iload_n C 2 dX2_addTrace_50 rfl ?_
        obtain ⟨b6, h⟩ := h
        refine V_iast C (k2_8 hb) b6 dX2_addTrace_51 ?_
        refine V_nmM (fun M5 e_M5 => ?_)
        have h := h M5 e_M5
        refine V_aload_n C 0 dX2_addTrace_52 rfl ?_
        refine V_getR C FL_RX2_36 (f2_8 hb) dX2_addTrace_53 ?_
        refine V_aload_n C 0 dX2_addTrace_56 rfl ?_
        refine V_getI C FL_RX2_52 (f2_12 hb) dX2_addTrace_57 ?_
        refine V_iload_n C 3 dX2_addTrace_60 rfl ?_
        obtain ⟨b8, h⟩ := h
        refine V_iast C (k2_9 hb) b8 dX2_addTrace_61 ?_
        refine V_nmM (fun M7 e_M7 => ?_)
        have h := h M7 e_M7
        refine V_aload_n C 0 dX2_addTrace_62 rfl ?_
        refine V_getR C FL_RX2_39 (f2_9 hb) dX2_addTrace_63 ?_
        refine V_aload_n C 0 dX2_addTrace_66 rfl ?_
        refine V_getI C FL_RX2_52 (f2_12 hb) dX2_addTrace_67 ?_
        refine V_iconst C 0 dX2_addTrace_70 (by decide) ?_
        obtain ⟨b10, h⟩ := h
        refine V_iast C (k2_10 hb) b10 dX2_addTrace_71 ?_
        refine V_nmM (fun M9 e_M9 => ?_)
        have h := h M9 e_M9
        refine V_aload_n C 0 dX2_addTrace_72 rfl ?_
        refine V_dup C dX2_addTrace_73 rfl ?_
        refine V_getI C FL_RX2_52 (f2_12 hb) dX2_addTrace_74 ?_
        refine V_dup_x1 C dX2_addTrace_77 rfl rfl ?_
        refine V_iconst C 1 dX2_addTrace_78 (by decide) ?_
        refine V_iadd C dX2_addTrace_79 ?_
        refine V_putI C FW_RX2_52 (f2_12 hb) rfl rfl dX2_addTrace_80 ?_
        refine V_nmM (fun M11 e_M11 => ?_)
        have h := h M11 e_M11
        exact V_iret C dX2_addTrace_83 (hQ _ _ h)
      · have h := h.2 hc
        refine V_bipush C (-4) dX2_addTrace_29 (by decide) ?_
        exact V_iret C dX2_addTrace_31 (hQ _ _ h)
    · have h := h.2 hc
      refine V_bipush C (-2) dX2_addTrace_17 (by decide) ?_
      exact V_iret C dX2_addTrace_19 (hQ _ _ h)
set_option maxRecDepth 20000 in
set_option maxHeartbeats 1000000 in
theorem c_X2_addTrace {w : wU} {l : Launch} {b : Nat} {p1 : Int32} {p2 : Int32} {p3 : Int32} {M : mM} {Q : Int32 → mM → Prop} (hb : isC w 2 b) (h : p_X2_addTrace b p1 p2 p3 M Q) : CT w l 2 yX2_addTrace cX2_addTrace 4 (some .int) [.ref (uA w b), .int p1, .int p2, .int p3] M (piI Q) := by
  refine CT.of (by decide +kernel) (Nat.le_of_ble_eq_true rfl) (fun X hw hH hl hP hN C => ?_)
  subst hw
  exact s_X2_addTrace C hH hN (fun r M1 q => by rw [hP]; exact ⟨r, rfl, q⟩) hb h
set_option maxRecDepth 20000 in
set_option maxHeartbeats 1000000 in
theorem s_X2_setAside_J26 {X : wX} (C : CX X cX2_setAside RX2 (some .int)) (hH : xH X = 1) (hN : xN X = 4) {b : Nat} {p1 : Int32} {p2 : Int32} {M : mM} {Q : Int32 → mM → Prop} (hQ : ∀ r M, Q r M → xPo X (some (.int r)) M) (hb : isC (xW X) 2 b) {s0 : Int32}  (h : p_X2_setAside_J26 b p1 p2 Q  s0 M) : V X 26 [(0, vR X b), (1, .int p1)] [.int s0] M := by
  refine V_istore_n (lv' := [(3, .int s0), (0, vR X b), (1, .int p1)]) C (ltN hN (by decide)) dX2_setAside_26 rfl ?_
  refine V_aload_n C 1 dX2_setAside_27 rfl ?_
  refine V_getR C FL_RX2_39 (f2_9 hb) dX2_setAside_28 ?_
  refine V_iload_n C 2 dX2_setAside_31 rfl ?_
  obtain ⟨b2, h⟩ := h
  refine V_iald C (k2_10 hb) b2 dX2_setAside_32 ?_
  refine V_iload_n C 0 dX2_setAside_33 rfl ?_
  refine V_icmp_ne (tgt := 40) C dX2_setAside_34 (by decide) (fun hc => ?_) (fun hc => ?_)
  · have h := h.1 hc
    refine V_aload_n C 1 dX2_setAside_40 rfl ?_
    refine V_getR C FL_RX2_39 (f2_9 hb) dX2_setAside_41 ?_
    refine V_iload_n C 2 dX2_setAside_44 rfl ?_
    refine V_iload_n C 0 dX2_setAside_45 rfl ?_
    obtain ⟨b4, h⟩ := h
    refine V_iast C (k2_10 hb) b4 dX2_setAside_46 ?_
    refine V_nmM (fun M3 e_M3 => ?_)
    have h := h M3 e_M3
    refine V_iconst C 1 dX2_setAside_47 (by decide) ?_
    exact V_iret C dX2_setAside_48 (hQ _ _ h)
  · have h := h.2 hc
    refine V_bipush C (-3) dX2_setAside_37 (by decide) ?_
    exact V_iret C dX2_setAside_39 (hQ _ _ h)
set_option maxRecDepth 20000 in
set_option maxHeartbeats 1000000 in
theorem s_X2_setAside {X : wX} (C : CX X cX2_setAside RX2 (some .int)) (hH : xH X = 1) (hN : xN X = 4) {b : Nat} {p1 : Int32} {p2 : Int32} {M : mM} {Q : Int32 → mM → Prop} (hQ : ∀ r M, Q r M → xPo X (some (.int r)) M) (hb : isC (xW X) 2 b)   (h : p_X2_setAside b p1 p2 M Q) : V X 0 [(0, vR X b), (1, .int p1), (2, .int p2)] [] M := by
  refine V_iload_n C 1 dX2_setAside_0 rfl ?_
  refine V_iconst C 0 dX2_setAside_1 (by decide) ?_
  refine V_aload_n C 0 dX2_setAside_2 rfl ?_
  refine V_getI C FL_RX2_52 (f2_12 hb) dX2_setAside_3 ?_
  refine V_iconst C 1 dX2_setAside_6 (by decide) ?_
  refine V_isub C dX2_setAside_7 ?_
  refine V_callN (As := [.int p1, .int 0, .int ((M.1 b 12) - 1)]) (st := []) C (c_X6_within  h) Y_X6_within Z_X6_within (ltN hH (by decide)) (List.mem_of_getElem? (i := 4) rfl) rfl rfl (Nat.le_of_ble_eq_true rfl) dX2_setAside_8 ?_
  rintro v9 M9 ⟨rfl, r1, rfl, h⟩
  show V X 11 _ [.int r1] M
  refine V_if_ne (tgt := 17) C dX2_setAside_11 (by decide) (fun hc => ?_) (fun hc => ?_)
  · have h := h.1 hc
    refine V_iload_n C 2 dX2_setAside_17 rfl ?_
    refine V_if_eq (tgt := 25) C dX2_setAside_18 (by decide) (fun hc => ?_) (fun hc => ?_)
    · have h := h.1 hc
      refine V_iconst C 0 dX2_setAside_25 (by decide) ?_
      exact V_sub [0, 1] rfl (s_X2_setAside_J26 C hH hN hQ hb   h)
    · have h := h.2 hc
      refine V_iconst C 1 dX2_setAside_21 (by decide) ?_
      refine V_goto (tgt := 26) C dX2_setAside_22 (by decide) ?_
      exact V_sub [0, 1] rfl (s_X2_setAside_J26 C hH hN hQ hb   h)
  · have h := h.2 hc
    refine V_bipush C (-2) dX2_setAside_14 (by decide) ?_
    exact V_iret C dX2_setAside_16 (hQ _ _ h)
set_option maxRecDepth 20000 in
set_option maxHeartbeats 1000000 in
theorem c_X2_setAside {w : wU} {l : Launch} {b : Nat} {p1 : Int32} {p2 : Int32} {M : mM} {Q : Int32 → mM → Prop} (hb : isC w 2 b) (h : p_X2_setAside b p1 p2 M Q) : CT w l 1 yX2_setAside cX2_setAside 4 (some .int) [.ref (uA w b), .int p1, .int p2] M (piI Q) := by
  refine CT.of (by decide +kernel) (Nat.le_of_ble_eq_true rfl) (fun X hw hH hl hP hN C => ?_)
  subst hw
  exact s_X2_setAside C hH hN (fun r M1 q => by rw [hP]; exact ⟨r, rfl, q⟩) hb h
set_option maxRecDepth 20000 in
set_option maxHeartbeats 1000000 in
theorem s_X2_paint_J23 {X : wX} (C : CX X cX2_paint RX2 (some .int)) (hH : xH X = 2) (hN : xN X = 4) {b : Nat} {p1 : Int32} {p2 : Int32} {M : mM} {Q : Int32 → mM → Prop} (hQ : ∀ r M, Q r M → xPo X (some (.int r)) M) (hb : isC (xW X) 2 b)   (h : p_X2_paint_J23 b p1 p2 Q   M) : V X 23 [(0, vR X b), (1, .int p1), (2, .int p2)] [] M := by
  refine V_aload_n C 0 dX2_paint_23 rfl ?_
  refine V_getR C FL_RX2_42 (f2_10 hb) dX2_paint_24 ?_
  refine V_iload_n C 1 dX2_paint_27 rfl ?_
  obtain ⟨b2, h⟩ := h
  refine V_iald C (k2_11 hb) b2 dX2_paint_28 ?_
  refine V_nmI (fun x3 e_x3 => ?_)
  have h := h x3 e_x3
  refine V_istore_n (lv' := [(3, .int x3), (0, vR X b), (1, .int p1), (2, .int p2)]) C (ltN hN (by decide)) dX2_paint_29 rfl ?_
  refine V_aload_n C 1 dX2_paint_30 rfl ?_
  refine V_getR C FL_RX2_42 (f2_10 hb) dX2_paint_31 ?_
  refine V_iload_n C 2 dX2_paint_34 rfl ?_
  refine V_iload_n C 3 dX2_paint_35 rfl ?_
  obtain ⟨b5, h⟩ := h
  refine V_iast C (k2_11 hb) b5 dX2_paint_36 ?_
  refine V_nmM (fun M4 e_M4 => ?_)
  have h := h M4 e_M4
  refine V_iload_n C 0 dX2_paint_37 rfl ?_
  exact V_iret C dX2_paint_38 (hQ _ _ h)
set_option maxRecDepth 20000 in
set_option maxHeartbeats 1000000 in
theorem s_X2_paint {X : wX} (C : CX X cX2_paint RX2 (some .int)) (hH : xH X = 2) (hN : xN X = 4) {b : Nat} {p1 : Int32} {p2 : Int32} {M : mM} {Q : Int32 → mM → Prop} (hQ : ∀ r M, Q r M → xPo X (some (.int r)) M) (hb : isC (xW X) 2 b)   (h : p_X2_paint b p1 p2 M Q) : V X 0 [(0, vR X b), (1, .int p1), (2, .int p2)] [] M := by
  refine V_iload_n C 1 dX2_paint_0 rfl ?_
  refine V_callN (As := [.int p1]) (st := []) C (c_X6_isCell  h) Y_X6_isCell Z_X6_isCell (ltN hH (by decide)) (List.mem_of_getElem? (i := 5) rfl) rfl rfl (Nat.le_of_ble_eq_true rfl) dX2_paint_1 ?_
  rintro v9 M9 ⟨rfl, r1, rfl, h⟩
  show V X 4 _ [.int r1] M
  refine V_if_eq (tgt := 20) C dX2_paint_4 (by decide) (fun hc => ?_) (fun hc => ?_)
  · have h := h.1 hc
    refine V_bipush C (-10) dX2_paint_20 (by decide) ?_
    exact V_iret C dX2_paint_22 (hQ _ _ h)
  · have h := h.2 hc
    refine V_iload_n C 2 dX2_paint_7 rfl ?_
    refine V_iconst C (-1) dX2_paint_8 (by decide) ?_
    refine V_icmp_eq (tgt := 23) C dX2_paint_9 (by decide) (fun hc => ?_) (fun hc => ?_)
    · have h := h.1 hc
      exact V_sub [0, 1, 2] rfl (s_X2_paint_J23 C hH hN hQ hb   h)
    · have h := h.2 hc
      refine V_aload_n C 0 dX2_paint_12 rfl ?_
      refine V_iload_n C 2 dX2_paint_13 rfl ?_
      refine V_callV (As := [.int p2]) (st := []) C (c_X2_isStuff hb h) Y_X2_isStuff Z_X2_isStuff (T := TX2) (N := 13) rfl (o2 hb) (ltN hH (by decide)) u_102 rfl rfl (Nat.le_of_ble_eq_true rfl) dX2_paint_14 ?_
      rintro v9 M9 ⟨rfl, r6, rfl, h⟩
      show V X 17 _ [.int r6] M
      refine V_if_ne (tgt := 23) C dX2_paint_17 (by decide) (fun hc => ?_) (fun hc => ?_)
      · have h := h.1 hc
        exact V_sub [0, 1, 2] rfl (s_X2_paint_J23 C hH hN hQ hb   h)
      · have h := h.2 hc
        refine V_bipush C (-10) dX2_paint_20 (by decide) ?_
        exact V_iret C dX2_paint_22 (hQ _ _ h)
set_option maxRecDepth 20000 in
set_option maxHeartbeats 1000000 in
theorem c_X2_paint {w : wU} {l : Launch} {b : Nat} {p1 : Int32} {p2 : Int32} {M : mM} {Q : Int32 → mM → Prop} (hb : isC w 2 b) (h : p_X2_paint b p1 p2 M Q) : CT w l 2 yX2_paint cX2_paint 4 (some .int) [.ref (uA w b), .int p1, .int p2] M (piI Q) := by
  refine CT.of (by decide +kernel) (Nat.le_of_ble_eq_true rfl) (fun X hw hH hl hP hN C => ?_)
  subst hw
  exact s_X2_paint C hH hN (fun r M1 q => by rw [hP]; exact ⟨r, rfl, q⟩) hb h
set_option maxRecDepth 20000 in
set_option maxHeartbeats 1000000 in
theorem s_X2_countAside_F4 {X : wX} (C : CX X cX2_countAside RX2 (some .int)) (hH : xH X = 0) (hN : xN X = 3) {b : Nat} {M : mM} {Q : Int32 → Prop} (hQ : ∀ r, Q r → xPo X (some (.int r)) M) (hb : isC (xW X) 2 b) {v1 : Int32} {v2 : Int32} {ag4 : (Int32 × Int32) → Prop} (hag4 : ∀ s, ag4 s → V X 4 [(0, vR X b), (1, .int (s.1)), (2, .int (s.2))] [] M) (h : p_X2_countAside_F4 b  M Q  ag4 v1 v2) : V X 4 [(0, vR X b), (1, .int v1), (2, .int v2)] [] M := by
  refine V_iload_n C 2 dX2_countAside_4 rfl ?_
  refine V_aload_n C 0 dX2_countAside_5 rfl ?_
  refine V_getI C FL_RX2_52 (f2_12 hb) dX2_countAside_6 ?_
  refine V_icmp_ge (tgt := 27) C dX2_countAside_9 (by decide) (fun hc => ?_) (fun hc => ?_)
  · have h := h.1 hc
    refine V_iload_n C 1 dX2_countAside_27 rfl ?_
    exact V_iret C dX2_countAside_28 (hQ _ h)
  · have h := h.2 hc
    refine V_iload_n C 1 dX2_countAside_12 rfl ?_
    refine V_aload_n C 0 dX2_countAside_13 rfl ?_
    refine V_getR C FL_RX2_39 (f2_9 hb) dX2_countAside_14 ?_
    refine V_iload_n C 2 dX2_countAside_17 rfl ?_
    obtain ⟨b1, h⟩ := h
    refine V_iald C (k2_10 hb) b1 dX2_countAside_18 ?_
    refine V_iadd C dX2_countAside_19 ?_
    refine V_nmI (fun x2 e_x2 => ?_)
    have h := h x2 e_x2
    refine V_istore_n (lv' := [(1, .int x2), (0, vR X b), (2, .int v2)]) C (ltN hN (by decide)) dX2_countAside_20 rfl ?_
    refine V_iinc (v := (v2 + 1)) (lv' := [(2, .int (v2 + 1)), (1, .int x2), (0, vR X b)]) C 2 (ltN hN (by decide)) dX2_countAside_21 rfl rfl rfl ?_
    refine V_goto (tgt := 4) C dX2_countAside_24 (by decide) ?_
    exact V_sub [2, 1, 0] rfl (hag4 (x2, (v2 + 1)) h)
set_option maxRecDepth 20000 in
set_option maxHeartbeats 1000000 in
theorem s_X2_countAside {X : wX} (C : CX X cX2_countAside RX2 (some .int)) (hH : xH X = 0) (hN : xN X = 3) {b : Nat} {M : mM} {Q : Int32 → Prop} (hQ : ∀ r, Q r → xPo X (some (.int r)) M) (hb : isC (xW X) 2 b)   (h : p_X2_countAside b M Q) : V X 0 [(0, vR X b)] [] M := by
  refine V_iconst C 0 dX2_countAside_0 (by decide) ?_
  refine V_istore_n (lv' := [(1, .int 0), (0, vR X b)]) C (ltN hN (by decide)) dX2_countAside_1 rfl ?_
  refine V_iconst C 0 dX2_countAside_2 (by decide) ?_
  refine V_istore_n (lv' := [(2, .int 0), (1, .int 0), (0, vR X b)]) C (ltN hN (by decide)) dX2_countAside_3 rfl ?_
  refine V_sub [2, 1, 0] rfl ?_
  exact Loop.sound (s0 := ((0 : Int32), (0 : Int32))) (P := fun s => V X 4 [(0, vR X b), (1, .int (s.1)), (2, .int (s.2))] [] M) h (fun ag hag s hs => s_X2_countAside_F4 C hH hN hQ hb  hag hs)
set_option maxRecDepth 20000 in
set_option maxHeartbeats 1000000 in
theorem c_X2_countAside {w : wU} {l : Launch} {b : Nat} {M : mM} {Q : Int32 → Prop} (hb : isC w 2 b) (h : p_X2_countAside b M Q) : CT w l 0 yX2_countAside cX2_countAside 3 (some .int) [.ref (uA w b)] M (poI M Q) := by
  refine CT.of (by decide +kernel) (Nat.le_of_ble_eq_true rfl) (fun X hw hH hl hP hN C => ?_)
  subst hw
  exact s_X2_countAside C hH hN (fun r q => by rw [hP]; exact ⟨rfl, r, rfl, q⟩) hb h
set_option maxRecDepth 20000 in
set_option maxHeartbeats 1000000 in
theorem s_X2_wearOf {X : wX} (C : CX X cX2_wearOf RX2 (some .int)) (hH : xH X = 0) (hN : xN X = 2) {b : Nat} {p1 : Int32} {M : mM} {Q : Int32 → Prop} (hQ : ∀ r, Q r → xPo X (some (.int r)) M) (hb : isC (xW X) 2 b)   (h : p_X2_wearOf b p1 M Q) : V X 0 [(0, vR X b), (1, .int p1)] [] M := by
  refine V_aload_n C 0 dX2_wearOf_0 rfl ?_
  refine V_getR C FL_RX2_24 (f2_4 hb) dX2_wearOf_1 ?_
  refine V_iconst C 4 dX2_wearOf_4 (by decide) ?_
  refine V_iald C (k2_5 hb) (vp_lit (by decide)) dX2_wearOf_5 ?_
  refine V_aload_n C 0 dX2_wearOf_6 rfl ?_
  refine V_getR C FL_RX2_24 (f2_4 hb) dX2_wearOf_7 ?_
  refine V_iload_n C 1 dX2_wearOf_10 rfl ?_
  refine V_aload_n C 0 dX2_wearOf_11 rfl ?_
  refine V_getR C FL_RX2_24 (f2_4 hb) dX2_wearOf_12 ?_
  refine V_iconst C 5 dX2_wearOf_15 (by decide) ?_
  refine V_iald C (k2_5 hb) (vp_lit (by decide)) dX2_wearOf_16 ?_
  refine V_iadd C dX2_wearOf_17 ?_
  refine V_iconst C 4 dX2_wearOf_18 (by decide) ?_
  refine V_irem C dX2_wearOf_19 (by decide) ?_
  obtain ⟨b1, h⟩ := h
  refine V_iald C (k2_5 hb) b1 dX2_wearOf_20 ?_
  refine V_imul C dX2_wearOf_21 ?_
  exact V_iret C dX2_wearOf_22 (hQ _ h)
set_option maxRecDepth 20000 in
set_option maxHeartbeats 1000000 in
theorem c_X2_wearOf {w : wU} {l : Launch} {b : Nat} {p1 : Int32} {M : mM} {Q : Int32 → Prop} (hb : isC w 2 b) (h : p_X2_wearOf b p1 M Q) : CT w l 0 yX2_wearOf cX2_wearOf 2 (some .int) [.ref (uA w b), .int p1] M (poI M Q) := by
  refine CT.of (by decide +kernel) (Nat.le_of_ble_eq_true rfl) (fun X hw hH hl hP hN C => ?_)
  subst hw
  exact s_X2_wearOf C hH hN (fun r q => by rw [hP]; exact ⟨rfl, r, rfl, q⟩) hb h
set_option maxRecDepth 20000 in
set_option maxHeartbeats 1000000 in
theorem s_X2_thickOf {X : wX} (C : CX X cX2_thickOf RX2 (some .int)) (hH : xH X = 0) (hN : xN X = 2) {b : Nat} {p1 : Int32} {M : mM} {Q : Int32 → Prop} (hQ : ∀ r, Q r → xPo X (some (.int r)) M) (hb : isC (xW X) 2 b)   (h : p_X2_thickOf b p1 M Q) : V X 0 [(0, vR X b), (1, .int p1)] [] M := by
  refine V_iload_n C 1 dX2_thickOf_0 rfl ?_
  refine V_if_lt (tgt := 18) C dX2_thickOf_1 (by decide) (fun hc => ?_) (fun hc => ?_)
  · have h := h.1 hc
    refine V_iconst C 0 dX2_thickOf_18 (by decide) ?_
    exact V_iret C dX2_thickOf_19 (hQ _ h)
  · have h := h.2 hc
    refine V_iload_n C 1 dX2_thickOf_4 rfl ?_
    refine V_iconst C 4 dX2_thickOf_5 (by decide) ?_
    refine V_icmp_ge (tgt := 18) C dX2_thickOf_6 (by decide) (fun hc => ?_) (fun hc => ?_)
    · have h := h.1 hc
      refine V_iconst C 0 dX2_thickOf_18 (by decide) ?_
      exact V_iret C dX2_thickOf_19 (hQ _ h)
    · have h := h.2 hc
      refine V_aload_n C 0 dX2_thickOf_9 rfl ?_
      refine V_getR C FL_RX2_9 (f2_0 hb) dX2_thickOf_10 ?_
      refine V_iload_n C 1 dX2_thickOf_13 rfl ?_
      obtain ⟨b1, h⟩ := h
      refine V_iald C (k2_1 hb) b1 dX2_thickOf_14 ?_
      refine V_goto (tgt := 19) C dX2_thickOf_15 (by decide) ?_
      exact V_iret C dX2_thickOf_19 (hQ _ h)
set_option maxRecDepth 20000 in
set_option maxHeartbeats 1000000 in
theorem c_X2_thickOf {w : wU} {l : Launch} {b : Nat} {p1 : Int32} {M : mM} {Q : Int32 → Prop} (hb : isC w 2 b) (h : p_X2_thickOf b p1 M Q) : CT w l 0 yX2_thickOf cX2_thickOf 2 (some .int) [.ref (uA w b), .int p1] M (poI M Q) := by
  refine CT.of (by decide +kernel) (Nat.le_of_ble_eq_true rfl) (fun X hw hH hl hP hN C => ?_)
  subst hw
  exact s_X2_thickOf C hH hN (fun r q => by rw [hP]; exact ⟨rfl, r, rfl, q⟩) hb h
set_option maxRecDepth 20000 in
set_option maxHeartbeats 1000000 in
theorem s_X2_upperLeft {X : wX} (C : CX X cX2_upperLeft RX2 (some .int)) (hH : xH X = 1) (hN : xN X = 3) {b : Nat} {p1 : Int32} {p2 : Int32} {M : mM} {Q : Int32 → Prop} (hQ : ∀ r, Q r → xPo X (some (.int r)) M) (hb : isC (xW X) 2 b)   (h : p_X2_upperLeft b p1 p2 M Q) : V X 0 [(0, vR X b), (1, .int p1), (2, .int p2)] [] M := by
  refine V_iconst C 0 dX2_upperLeft_0 (by decide) ?_
  refine V_aload_n C 0 dX2_upperLeft_1 rfl ?_
  refine V_iload_n C 1 dX2_upperLeft_2 rfl ?_
  refine V_callN (As := [.int p1]) (st := [vR X b, .int 0]) C (c_X6_upperOf  h) Y_X6_upperOf Z_X6_upperOf (ltN hH (by decide)) (List.mem_of_getElem? (i := 7) rfl) rfl rfl (Nat.le_of_ble_eq_true rfl) dX2_upperLeft_3 ?_
  rintro v9 M9 ⟨rfl, r1, rfl, h⟩
  show V X 6 _ [.int r1, vR X b, .int 0] M
  refine V_callV (As := [.int r1]) (st := [.int 0]) C (c_X2_thickOf hb h) Y_X2_thickOf Z_X2_thickOf (T := TX2) (N := 13) rfl (o2 hb) (ltN hH (by decide)) u_105 rfl rfl (Nat.le_of_ble_eq_true rfl) dX2_upperLeft_6 ?_
  rintro v9 M9 ⟨rfl, r2, rfl, h⟩
  show V X 9 _ [.int r2, .int 0] M
  refine V_iload_n C 2 dX2_upperLeft_9 rfl ?_
  refine V_isub C dX2_upperLeft_10 ?_
  refine V_max C (ltN hH (by decide)) u_104 u_47 u_26 u_48 (Nat.le_of_ble_eq_true rfl) dX2_upperLeft_11 ?_
  exact V_iret C dX2_upperLeft_14 (hQ _ h)
set_option maxRecDepth 20000 in
set_option maxHeartbeats 1000000 in
theorem c_X2_upperLeft {w : wU} {l : Launch} {b : Nat} {p1 : Int32} {p2 : Int32} {M : mM} {Q : Int32 → Prop} (hb : isC w 2 b) (h : p_X2_upperLeft b p1 p2 M Q) : CT w l 1 yX2_upperLeft cX2_upperLeft 3 (some .int) [.ref (uA w b), .int p1, .int p2] M (poI M Q) := by
  refine CT.of (by decide +kernel) (Nat.le_of_ble_eq_true rfl) (fun X hw hH hl hP hN C => ?_)
  subst hw
  exact s_X2_upperLeft C hH hN (fun r q => by rw [hP]; exact ⟨rfl, r, rfl, q⟩) hb h
set_option maxRecDepth 20000 in
set_option maxHeartbeats 1000000 in
theorem s_X2_groundLeft {X : wX} (C : CX X cX2_groundLeft RX2 (some .int)) (hH : xH X = 1) (hN : xN X = 4) {b : Nat} {p1 : Int32} {p2 : Int32} {M : mM} {Q : Int32 → Prop} (hQ : ∀ r, Q r → xPo X (some (.int r)) M) (hb : isC (xW X) 2 b)   (h : p_X2_groundLeft b p1 p2 M Q) : V X 0 [(0, vR X b), (1, .int p1), (2, .int p2)] [] M := by
  refine V_aload_n C 0 dX2_groundLeft_0 rfl ?_
  refine V_iload_n C 1 dX2_groundLeft_1 rfl ?_
  refine V_callN (As := [.int p1]) (st := [vR X b]) C (c_X6_groundOf  h) Y_X6_groundOf Z_X6_groundOf (ltN hH (by decide)) (List.mem_of_getElem? (i := 6) rfl) rfl rfl (Nat.le_of_ble_eq_true rfl) dX2_groundLeft_2 ?_
  rintro v9 M9 ⟨rfl, r1, rfl, h⟩
  show V X 5 _ [.int r1, vR X b] M
  refine V_callV (As := [.int r1]) (st := []) C (c_X2_thickOf hb h) Y_X2_thickOf Z_X2_thickOf (T := TX2) (N := 13) rfl (o2 hb) (ltN hH (by decide)) u_105 rfl rfl (Nat.le_of_ble_eq_true rfl) dX2_groundLeft_5 ?_
  rintro v9 M9 ⟨rfl, r2, rfl, h⟩
  show V X 8 _ [.int r2] M
  refine V_istore_n (lv' := [(3, .int r2), (0, vR X b), (1, .int p1), (2, .int p2)]) C (ltN hN (by decide)) dX2_groundLeft_8 rfl ?_
  refine V_iload_n C 0 dX2_groundLeft_9 rfl ?_
  refine V_iconst C 0 dX2_groundLeft_10 (by decide) ?_
  refine V_iload_n C 0 dX2_groundLeft_11 rfl ?_
  refine V_aload_n C 1 dX2_groundLeft_12 rfl ?_
  refine V_iload_n C 2 dX2_groundLeft_13 rfl ?_
  refine V_callN (As := [.int p1]) (st := [vR X b, .int r2, .int 0, .int r2]) C (c_X6_upperOf  h) Y_X6_upperOf Z_X6_upperOf (ltN hH (by decide)) (List.mem_of_getElem? (i := 7) rfl) rfl rfl (Nat.le_of_ble_eq_true rfl) dX2_groundLeft_14 ?_
  rintro v9 M9 ⟨rfl, r3, rfl, h⟩
  show V X 17 _ [.int r3, vR X b, .int r2, .int 0, .int r2] M
  refine V_callV (As := [.int r3]) (st := [.int r2, .int 0, .int r2]) C (c_X2_thickOf hb h) Y_X2_thickOf Z_X2_thickOf (T := TX2) (N := 13) rfl (o2 hb) (ltN hH (by decide)) u_105 rfl rfl (Nat.le_of_ble_eq_true rfl) dX2_groundLeft_17 ?_
  rintro v9 M9 ⟨rfl, r4, rfl, h⟩
  show V X 20 _ [.int r4, .int r2, .int 0, .int r2] M
  refine V_iadd C dX2_groundLeft_20 ?_
  refine V_iload_n C 3 dX2_groundLeft_21 rfl ?_
  refine V_isub C dX2_groundLeft_22 ?_
  refine V_max C (ltN hH (by decide)) u_104 u_47 u_26 u_48 (Nat.le_of_ble_eq_true rfl) dX2_groundLeft_23 ?_
  refine V_min C (ltN hH (by decide)) u_106 u_25 u_26 u_27 (Nat.le_of_ble_eq_true rfl) dX2_groundLeft_26 ?_
  exact V_iret C dX2_groundLeft_29 (hQ _ h)
set_option maxRecDepth 20000 in
set_option maxHeartbeats 1000000 in
theorem c_X2_groundLeft {w : wU} {l : Launch} {b : Nat} {p1 : Int32} {p2 : Int32} {M : mM} {Q : Int32 → Prop} (hb : isC w 2 b) (h : p_X2_groundLeft b p1 p2 M Q) : CT w l 1 yX2_groundLeft cX2_groundLeft 4 (some .int) [.ref (uA w b), .int p1, .int p2] M (poI M Q) := by
  refine CT.of (by decide +kernel) (Nat.le_of_ble_eq_true rfl) (fun X hw hH hl hP hN C => ?_)
  subst hw
  exact s_X2_groundLeft C hH hN (fun r q => by rw [hP]; exact ⟨rfl, r, rfl, q⟩) hb h
set_option maxRecDepth 20000 in
set_option maxHeartbeats 1000000 in
theorem s_X2_stoneLost {X : wX} (C : CX X cX2_stoneLost RX2 (some .int)) (hH : xH X = 1) (hN : xN X = 3) {b : Nat} {p1 : Int32} {p2 : Int32} {M : mM} {Q : Int32 → Prop} (hQ : ∀ r, Q r → xPo X (some (.int r)) M) (hb : isC (xW X) 2 b)   (h : p_X2_stoneLost b p1 p2 M Q) : V X 0 [(0, vR X b), (1, .int p1), (2, .int p2)] [] M := by
  refine V_iconst C 0 dX2_stoneLost_0 (by decide) ?_
  refine V_iload_n C 2 dX2_stoneLost_1 rfl ?_
  refine V_aload_n C 0 dX2_stoneLost_2 rfl ?_
  refine V_iload_n C 1 dX2_stoneLost_3 rfl ?_
  refine V_callN (As := [.int p1]) (st := [vR X b, .int p2, .int 0]) C (c_X6_groundOf  h) Y_X6_groundOf Z_X6_groundOf (ltN hH (by decide)) (List.mem_of_getElem? (i := 6) rfl) rfl rfl (Nat.le_of_ble_eq_true rfl) dX2_stoneLost_4 ?_
  rintro v9 M9 ⟨rfl, r1, rfl, h⟩
  show V X 7 _ [.int r1, vR X b, .int p2, .int 0] M
  refine V_callV (As := [.int r1]) (st := [.int p2, .int 0]) C (c_X2_thickOf hb h) Y_X2_thickOf Z_X2_thickOf (T := TX2) (N := 13) rfl (o2 hb) (ltN hH (by decide)) u_105 rfl rfl (Nat.le_of_ble_eq_true rfl) dX2_stoneLost_7 ?_
  rintro v9 M9 ⟨rfl, r2, rfl, h⟩
  show V X 10 _ [.int r2, .int p2, .int 0] M
  refine V_isub C dX2_stoneLost_10 ?_
  refine V_aload_n C 0 dX2_stoneLost_11 rfl ?_
  refine V_iload_n C 1 dX2_stoneLost_12 rfl ?_
  refine V_callN (As := [.int p1]) (st := [vR X b, .int (p2 - r2), .int 0]) C (c_X6_upperOf  h) Y_X6_upperOf Z_X6_upperOf (ltN hH (by decide)) (List.mem_of_getElem? (i := 7) rfl) rfl rfl (Nat.le_of_ble_eq_true rfl) dX2_stoneLost_13 ?_
  rintro v9 M9 ⟨rfl, r3, rfl, h⟩
  show V X 16 _ [.int r3, vR X b, .int (p2 - r2), .int 0] M
  refine V_callV (As := [.int r3]) (st := [.int (p2 - r2), .int 0]) C (c_X2_thickOf hb h) Y_X2_thickOf Z_X2_thickOf (T := TX2) (N := 13) rfl (o2 hb) (ltN hH (by decide)) u_105 rfl rfl (Nat.le_of_ble_eq_true rfl) dX2_stoneLost_16 ?_
  rintro v9 M9 ⟨rfl, r4, rfl, h⟩
  show V X 19 _ [.int r4, .int (p2 - r2), .int 0] M
  refine V_isub C dX2_stoneLost_19 ?_
  refine V_max C (ltN hH (by decide)) u_104 u_47 u_26 u_48 (Nat.le_of_ble_eq_true rfl) dX2_stoneLost_20 ?_
  exact V_iret C dX2_stoneLost_23 (hQ _ h)
set_option maxRecDepth 20000 in
set_option maxHeartbeats 1000000 in
theorem c_X2_stoneLost {w : wU} {l : Launch} {b : Nat} {p1 : Int32} {p2 : Int32} {M : mM} {Q : Int32 → Prop} (hb : isC w 2 b) (h : p_X2_stoneLost b p1 p2 M Q) : CT w l 1 yX2_stoneLost cX2_stoneLost 3 (some .int) [.ref (uA w b), .int p1, .int p2] M (poI M Q) := by
  refine CT.of (by decide +kernel) (Nat.le_of_ble_eq_true rfl) (fun X hw hH hl hP hN C => ?_)
  subst hw
  exact s_X2_stoneLost C hH hN (fun r q => by rw [hP]; exact ⟨rfl, r, rfl, q⟩) hb h
set_option maxRecDepth 20000 in
set_option maxHeartbeats 1000000 in
theorem s_X2_lampsOfCoat {X : wX} (C : CX X cX2_lampsOfCoat RX2 (some .int)) (hH : xH X = 1) (hN : xN X = 3) {b : Nat} {p1 : Int32} {p2 : Int32} {M : mM} {Q : Int32 → Prop} (hQ : ∀ r, Q r → xPo X (some (.int r)) M) (hb : isC (xW X) 2 b)   (h : p_X2_lampsOfCoat b p1 p2 M Q) : V X 0 [(0, vR X b), (1, .int p1), (2, .int p2)] [] M := by
  refine V_aload_n C 0 dX2_lampsOfCoat_0 rfl ?_
  refine V_iload_n C 1 dX2_lampsOfCoat_1 rfl ?_
  refine V_callV (As := [.int p1]) (st := []) C (c_X2_isStuff hb h) Y_X2_isStuff Z_X2_isStuff (T := TX2) (N := 13) rfl (o2 hb) (ltN hH (by decide)) u_102 rfl rfl (Nat.le_of_ble_eq_true rfl) dX2_lampsOfCoat_2 ?_
  rintro v9 M9 ⟨rfl, r1, rfl, h⟩
  show V X 5 _ [.int r1] M
  refine V_if_eq (tgt := 27) C dX2_lampsOfCoat_5 (by decide) (fun hc => ?_) (fun hc => ?_)
  · have h := h.1 hc
    refine V_iconst C 0 dX2_lampsOfCoat_27 (by decide) ?_
    exact V_iret C dX2_lampsOfCoat_28 (hQ _ h)
  · have h := h.2 hc
    refine V_iload_n C 2 dX2_lampsOfCoat_8 rfl ?_
    refine V_aload_n C 0 dX2_lampsOfCoat_9 rfl ?_
    refine V_getR C FL_RX2_21 (f2_3 hb) dX2_lampsOfCoat_10 ?_
    refine V_iload_n C 1 dX2_lampsOfCoat_13 rfl ?_
    obtain ⟨b2, h⟩ := h
    refine V_iald C (k2_4 hb) b2 dX2_lampsOfCoat_14 ?_
    refine V_icmp_lt (tgt := 27) C dX2_lampsOfCoat_15 (by decide) (fun hc => ?_) (fun hc => ?_)
    · have h := h.1 hc
      refine V_iconst C 0 dX2_lampsOfCoat_27 (by decide) ?_
      exact V_iret C dX2_lampsOfCoat_28 (hQ _ h)
    · have h := h.2 hc
      refine V_aload_n C 0 dX2_lampsOfCoat_18 rfl ?_
      refine V_getR C FL_RX2_18 (f2_2 hb) dX2_lampsOfCoat_19 ?_
      refine V_iload_n C 1 dX2_lampsOfCoat_22 rfl ?_
      obtain ⟨b3, h⟩ := h
      refine V_iald C (k2_3 hb) b3 dX2_lampsOfCoat_23 ?_
      refine V_goto (tgt := 28) C dX2_lampsOfCoat_24 (by decide) ?_
      exact V_iret C dX2_lampsOfCoat_28 (hQ _ h)
set_option maxRecDepth 20000 in
set_option maxHeartbeats 1000000 in
theorem c_X2_lampsOfCoat {w : wU} {l : Launch} {b : Nat} {p1 : Int32} {p2 : Int32} {M : mM} {Q : Int32 → Prop} (hb : isC w 2 b) (h : p_X2_lampsOfCoat b p1 p2 M Q) : CT w l 1 yX2_lampsOfCoat cX2_lampsOfCoat 3 (some .int) [.ref (uA w b), .int p1, .int p2] M (poI M Q) := by
  refine CT.of (by decide +kernel) (Nat.le_of_ble_eq_true rfl) (fun X hw hH hl hP hN C => ?_)
  subst hw
  exact s_X2_lampsOfCoat C hH hN (fun r q => by rw [hP]; exact ⟨rfl, r, rfl, q⟩) hb h
set_option maxRecDepth 20000 in
set_option maxHeartbeats 1000000 in
theorem s_X2_lampsOf {X : wX} (C : CX X cX2_lampsOf RX2 (some .int)) (hH : xH X = 2) (hN : xN X = 3) {b : Nat} {p1 : Int32} {p2 : Int32} {M : mM} {Q : Int32 → Prop} (hQ : ∀ r, Q r → xPo X (some (.int r)) M) (hb : isC (xW X) 2 b)   (h : p_X2_lampsOf b p1 p2 M Q) : V X 0 [(0, vR X b), (1, .int p1), (2, .int p2)] [] M := by
  refine V_aload_n C 0 dX2_lampsOf_0 rfl ?_
  refine V_iload_n C 1 dX2_lampsOf_1 rfl ?_
  refine V_callN (As := [.int p1]) (st := [vR X b]) C (c_X6_groundOf  h) Y_X6_groundOf Z_X6_groundOf (ltN hH (by decide)) (List.mem_of_getElem? (i := 6) rfl) rfl rfl (Nat.le_of_ble_eq_true rfl) dX2_lampsOf_2 ?_
  rintro v9 M9 ⟨rfl, r1, rfl, h⟩
  show V X 5 _ [.int r1, vR X b] M
  refine V_aload_n C 0 dX2_lampsOf_5 rfl ?_
  refine V_iload_n C 1 dX2_lampsOf_6 rfl ?_
  refine V_iload_n C 2 dX2_lampsOf_7 rfl ?_
  refine V_callV (As := [.int p1, .int p2]) (st := [.int r1, vR X b]) C (c_X2_groundLeft hb h) Y_X2_groundLeft Z_X2_groundLeft (T := TX2) (N := 13) rfl (o2 hb) (ltN hH (by decide)) u_109 rfl rfl (Nat.le_of_ble_eq_true rfl) dX2_lampsOf_8 ?_
  rintro v9 M9 ⟨rfl, r2, rfl, h⟩
  show V X 11 _ [.int r2, .int r1, vR X b] M
  refine V_callV (As := [.int r1, .int r2]) (st := []) C (c_X2_lampsOfCoat hb h) Y_X2_lampsOfCoat Z_X2_lampsOfCoat (T := TX2) (N := 13) rfl (o2 hb) (ltN hH (by decide)) u_107 rfl rfl (Nat.le_of_ble_eq_true rfl) dX2_lampsOf_11 ?_
  rintro v9 M9 ⟨rfl, r3, rfl, h⟩
  show V X 14 _ [.int r3] M
  refine V_aload_n C 0 dX2_lampsOf_14 rfl ?_
  refine V_iload_n C 1 dX2_lampsOf_15 rfl ?_
  refine V_callN (As := [.int p1]) (st := [vR X b, .int r3]) C (c_X6_upperOf  h) Y_X6_upperOf Z_X6_upperOf (ltN hH (by decide)) (List.mem_of_getElem? (i := 7) rfl) rfl rfl (Nat.le_of_ble_eq_true rfl) dX2_lampsOf_16 ?_
  rintro v9 M9 ⟨rfl, r4, rfl, h⟩
  show V X 19 _ [.int r4, vR X b, .int r3] M
  refine V_aload_n C 0 dX2_lampsOf_19 rfl ?_
  refine V_iload_n C 1 dX2_lampsOf_20 rfl ?_
  refine V_iload_n C 2 dX2_lampsOf_21 rfl ?_
  refine V_callV (As := [.int p1, .int p2]) (st := [.int r4, vR X b, .int r3]) C (c_X2_upperLeft hb h) Y_X2_upperLeft Z_X2_upperLeft (T := TX2) (N := 13) rfl (o2 hb) (ltN hH (by decide)) u_108 rfl rfl (Nat.le_of_ble_eq_true rfl) dX2_lampsOf_22 ?_
  rintro v9 M9 ⟨rfl, r5, rfl, h⟩
  show V X 25 _ [.int r5, .int r4, vR X b, .int r3] M
  refine V_callV (As := [.int r4, .int r5]) (st := [.int r3]) C (c_X2_lampsOfCoat hb h) Y_X2_lampsOfCoat Z_X2_lampsOfCoat (T := TX2) (N := 13) rfl (o2 hb) (ltN hH (by decide)) u_107 rfl rfl (Nat.le_of_ble_eq_true rfl) dX2_lampsOf_25 ?_
  rintro v9 M9 ⟨rfl, r6, rfl, h⟩
  show V X 28 _ [.int r6, .int r3] M
  refine V_ior C dX2_lampsOf_28 ?_
  exact V_iret C dX2_lampsOf_29 (hQ _ h)
set_option maxRecDepth 20000 in
set_option maxHeartbeats 1000000 in
theorem c_X2_lampsOf {w : wU} {l : Launch} {b : Nat} {p1 : Int32} {p2 : Int32} {M : mM} {Q : Int32 → Prop} (hb : isC w 2 b) (h : p_X2_lampsOf b p1 p2 M Q) : CT w l 2 yX2_lampsOf cX2_lampsOf 3 (some .int) [.ref (uA w b), .int p1, .int p2] M (poI M Q) := by
  refine CT.of (by decide +kernel) (Nat.le_of_ble_eq_true rfl) (fun X hw hH hl hP hN C => ?_)
  subst hw
  exact s_X2_lampsOf C hH hN (fun r q => by rw [hP]; exact ⟨rfl, r, rfl, q⟩) hb h
set_option maxRecDepth 20000 in
set_option maxHeartbeats 1000000 in
theorem s_X2_grainsOf_J19 {X : wX} (C : CX X cX2_grainsOf RX2 (some .int)) (hH : xH X = 2) (hN : xN X = 5) {b : Nat} {p1 : Int32} {p2 : Int32} {M : mM} {Q : Int32 → Prop} (hQ : ∀ r, Q r → xPo X (some (.int r)) M) (hb : isC (xW X) 2 b) {s0 : Int32}  (h : p_X2_grainsOf_J19 b p1 p2 Q  s0 M) : V X 19 [(0, vR X b), (1, .int p1), (2, .int p2)] [.int s0] M := by
  refine V_istore_n (lv' := [(3, .int s0), (0, vR X b), (1, .int p1), (2, .int p2)]) C (ltN hN (by decide)) dX2_grainsOf_19 rfl ?_
  refine V_aload_n C 1 dX2_grainsOf_20 rfl ?_
  refine V_iload_n C 2 dX2_grainsOf_21 rfl ?_
  refine V_iload_n C 3 dX2_grainsOf_22 rfl ?_
  refine V_callV (As := [.int p1, .int p2]) (st := []) C (c_X2_upperLeft hb h) Y_X2_upperLeft Z_X2_upperLeft (T := TX2) (N := 13) rfl (o2 hb) (ltN hH (by decide)) u_108 rfl rfl (Nat.le_of_ble_eq_true rfl) dX2_grainsOf_23 ?_
  rintro v9 M9 ⟨rfl, r2, rfl, h⟩
  show V X 26 _ [.int r2] M
  refine V_if_le (tgt := 38) C dX2_grainsOf_26 (by decide) (fun hc => ?_) (fun hc => ?_)
  · have h := h.1 hc
    refine V_iconst C 0 dX2_grainsOf_38 (by decide) ?_
    refine V_istore (lv' := [(4, .int 0), (3, .int s0), (0, vR X b), (1, .int p1), (2, .int p2)]) C (ltN hN (by decide)) dX2_grainsOf_39 rfl ?_
    refine V_iload_n C 1 dX2_grainsOf_41 rfl ?_
    refine V_iload C 0 dX2_grainsOf_42 rfl ?_
    refine V_ior C dX2_grainsOf_44 ?_
    exact V_iret C dX2_grainsOf_45 (hQ _ h)
  · have h := h.2 hc
    refine V_iconst C 1 dX2_grainsOf_29 (by decide) ?_
    refine V_iload_n C 2 dX2_grainsOf_30 rfl ?_
    refine V_callN (As := [.int p1]) (st := [.int 1]) C (c_X6_upperOf  h) Y_X6_upperOf Z_X6_upperOf (ltN hH (by decide)) (List.mem_of_getElem? (i := 7) rfl) rfl rfl (Nat.le_of_ble_eq_true rfl) dX2_grainsOf_31 ?_
    rintro v9 M9 ⟨rfl, r3, rfl, h⟩
    show V X 34 _ [.int r3, .int 1] M
    refine V_ishl C dX2_grainsOf_34 ?_
    refine V_goto (tgt := 39) C dX2_grainsOf_35 (by decide) ?_
    refine V_istore (lv' := [(4, .int (1 <<< (r3 &&& 31))), (3, .int s0), (0, vR X b), (1, .int p1), (2, .int p2)]) C (ltN hN (by decide)) dX2_grainsOf_39 rfl ?_
    refine V_iload_n C 1 dX2_grainsOf_41 rfl ?_
    refine V_iload C 0 dX2_grainsOf_42 rfl ?_
    refine V_ior C dX2_grainsOf_44 ?_
    exact V_iret C dX2_grainsOf_45 (hQ _ h)
set_option maxRecDepth 20000 in
set_option maxHeartbeats 1000000 in
theorem s_X2_grainsOf {X : wX} (C : CX X cX2_grainsOf RX2 (some .int)) (hH : xH X = 2) (hN : xN X = 5) {b : Nat} {p1 : Int32} {p2 : Int32} {M : mM} {Q : Int32 → Prop} (hQ : ∀ r, Q r → xPo X (some (.int r)) M) (hb : isC (xW X) 2 b)   (h : p_X2_grainsOf b p1 p2 M Q) : V X 0 [(0, vR X b), (1, .int p1), (2, .int p2)] [] M := by
  refine V_aload_n C 0 dX2_grainsOf_0 rfl ?_
  refine V_iload_n C 1 dX2_grainsOf_1 rfl ?_
  refine V_iload_n C 2 dX2_grainsOf_2 rfl ?_
  refine V_callV (As := [.int p1, .int p2]) (st := []) C (c_X2_groundLeft hb h) Y_X2_groundLeft Z_X2_groundLeft (T := TX2) (N := 13) rfl (o2 hb) (ltN hH (by decide)) u_109 rfl rfl (Nat.le_of_ble_eq_true rfl) dX2_grainsOf_3 ?_
  rintro v9 M9 ⟨rfl, r1, rfl, h⟩
  show V X 6 _ [.int r1] M
  refine V_if_le (tgt := 18) C dX2_grainsOf_6 (by decide) (fun hc => ?_) (fun hc => ?_)
  · have h := h.1 hc
    refine V_iconst C 0 dX2_grainsOf_18 (by decide) ?_
    exact V_sub [0, 1, 2] rfl (s_X2_grainsOf_J19 C hH hN hQ hb   h)
  · have h := h.2 hc
    refine V_iconst C 1 dX2_grainsOf_9 (by decide) ?_
    refine V_iload_n C 1 dX2_grainsOf_10 rfl ?_
    refine V_callN (As := [.int p1]) (st := [.int 1]) C (c_X6_groundOf  h) Y_X6_groundOf Z_X6_groundOf (ltN hH (by decide)) (List.mem_of_getElem? (i := 6) rfl) rfl rfl (Nat.le_of_ble_eq_true rfl) dX2_grainsOf_11 ?_
    rintro v9 M9 ⟨rfl, r4, rfl, h⟩
    show V X 14 _ [.int r4, .int 1] M
    refine V_ishl C dX2_grainsOf_14 ?_
    refine V_goto (tgt := 19) C dX2_grainsOf_15 (by decide) ?_
    exact V_sub [0, 1, 2] rfl (s_X2_grainsOf_J19 C hH hN hQ hb   h)
set_option maxRecDepth 20000 in
set_option maxHeartbeats 1000000 in
theorem c_X2_grainsOf {w : wU} {l : Launch} {b : Nat} {p1 : Int32} {p2 : Int32} {M : mM} {Q : Int32 → Prop} (hb : isC w 2 b) (h : p_X2_grainsOf b p1 p2 M Q) : CT w l 2 yX2_grainsOf cX2_grainsOf 5 (some .int) [.ref (uA w b), .int p1, .int p2] M (poI M Q) := by
  refine CT.of (by decide +kernel) (Nat.le_of_ble_eq_true rfl) (fun X hw hH hl hP hN C => ?_)
  subst hw
  exact s_X2_grainsOf C hH hN (fun r q => by rw [hP]; exact ⟨rfl, r, rfl, q⟩) hb h
set_option maxRecDepth 20000 in
set_option maxHeartbeats 1000000 in
theorem s_X6_topOf {X : wX} (C : CX X cX6_topOf RX6 (some .int)) (hH : xH X = 1) (hN : xN X = 2) {p1 : Int32} {M : mM} {Q : Int32 → Prop} (hQ : ∀ r, Q r → xPo X (some (.int r)) M)    (h : p_X6_topOf p1 M Q) : V X 0 [(0, .int p1)] [] M := by
  refine V_iload_n C 0 dX6_topOf_0 rfl ?_
  refine V_callS (As := [.int p1]) (st := []) C (c_X6_upperOf  h) Y_X6_upperOf Z_X6_upperOf (ltN hH (by decide)) u_111 rfl rfl (Nat.le_of_ble_eq_true rfl) dX6_topOf_1 ?_
  rintro v9 M9 ⟨rfl, r1, rfl, h⟩
  show V X 4 _ [.int r1] M
  refine V_istore_n (lv' := [(1, .int r1), (0, .int p1)]) C (ltN hN (by decide)) dX6_topOf_4 rfl ?_
  refine V_iload_n C 0 dX6_topOf_5 rfl ?_
  refine V_iconst C (-1) dX6_topOf_6 (by decide) ?_
  refine V_icmp_ne (tgt := 17) C dX6_topOf_7 (by decide) (fun hc => ?_) (fun hc => ?_)
  · have h := h.1 hc
    refine V_iload_n C 0 dX6_topOf_17 rfl ?_
    exact V_iret C dX6_topOf_18 (hQ _ h)
  · have h := h.2 hc
    refine V_iload_n C 1 dX6_topOf_10 rfl ?_
    refine V_callS (As := [.int p1]) (st := []) C (c_X6_groundOf  h) Y_X6_groundOf Z_X6_groundOf (ltN hH (by decide)) u_110 rfl rfl (Nat.le_of_ble_eq_true rfl) dX6_topOf_11 ?_
    rintro v9 M9 ⟨rfl, r2, rfl, h⟩
    show V X 14 _ [.int r2] M
    refine V_goto (tgt := 18) C dX6_topOf_14 (by decide) ?_
    exact V_iret C dX6_topOf_18 (hQ _ h)
set_option maxRecDepth 20000 in
set_option maxHeartbeats 1000000 in
theorem c_X6_topOf {w : wU} {l : Launch} {p1 : Int32} {M : mM} {Q : Int32 → Prop}  (h : p_X6_topOf p1 M Q) : CT w l 1 yX6_topOf cX6_topOf 2 (some .int) [.int p1] M (poI M Q) := by
  refine CT.of (by decide +kernel) (Nat.le_of_ble_eq_true rfl) (fun X hw hH hl hP hN C => ?_)
  subst hw
  exact s_X6_topOf C hH hN (fun r q => by rw [hP]; exact ⟨rfl, r, rfl, q⟩)  h
set_option maxRecDepth 20000 in
set_option maxHeartbeats 1000000 in
theorem s_X2_brightOf {X : wX} (C : CX X cX2_brightOf RX2 (some .int)) (hH : xH X = 2) (hN : xN X = 3) {b : Nat} {p1 : Int32} {M : mM} {Q : Int32 → Prop} (hQ : ∀ r, Q r → xPo X (some (.int r)) M) (hb : isC (xW X) 2 b)   (h : p_X2_brightOf b p1 M Q) : V X 0 [(0, vR X b), (1, .int p1)] [] M := by
  refine V_iload_n C 1 dX2_brightOf_0 rfl ?_
  refine V_callN (As := [.int p1]) (st := []) C (c_X6_topOf  h) Y_X6_topOf Z_X6_topOf (ltN hH (by decide)) (List.mem_of_getElem? (i := 3) rfl) rfl rfl (Nat.le_of_ble_eq_true rfl) dX2_brightOf_1 ?_
  rintro v9 M9 ⟨rfl, r1, rfl, h⟩
  show V X 4 _ [.int r1] M
  refine V_istore_n (lv' := [(2, .int r1), (0, vR X b), (1, .int p1)]) C (ltN hN (by decide)) dX2_brightOf_4 rfl ?_
  refine V_aload_n C 1 dX2_brightOf_5 rfl ?_
  refine V_iload_n C 0 dX2_brightOf_6 rfl ?_
  refine V_callV (As := [.int r1]) (st := []) C (c_X2_isStuff hb h) Y_X2_isStuff Z_X2_isStuff (T := TX2) (N := 13) rfl (o2 hb) (ltN hH (by decide)) u_102 rfl rfl (Nat.le_of_ble_eq_true rfl) dX2_brightOf_7 ?_
  rintro v9 M9 ⟨rfl, r2, rfl, h⟩
  show V X 10 _ [.int r2] M
  refine V_if_eq (tgt := 22) C dX2_brightOf_10 (by decide) (fun hc => ?_) (fun hc => ?_)
  · have h := h.1 hc
    refine V_bipush C 9 dX2_brightOf_22 (by decide) ?_
    exact V_iret C dX2_brightOf_24 (hQ _ h)
  · have h := h.2 hc
    refine V_aload_n C 1 dX2_brightOf_13 rfl ?_
    refine V_getR C FL_RX2_15 (f2_1 hb) dX2_brightOf_14 ?_
    refine V_iload_n C 0 dX2_brightOf_17 rfl ?_
    obtain ⟨b3, h⟩ := h
    refine V_iald C (k2_2 hb) b3 dX2_brightOf_18 ?_
    refine V_goto (tgt := 24) C dX2_brightOf_19 (by decide) ?_
    exact V_iret C dX2_brightOf_24 (hQ _ h)
set_option maxRecDepth 20000 in
set_option maxHeartbeats 1000000 in
theorem c_X2_brightOf {w : wU} {l : Launch} {b : Nat} {p1 : Int32} {M : mM} {Q : Int32 → Prop} (hb : isC w 2 b) (h : p_X2_brightOf b p1 M Q) : CT w l 2 yX2_brightOf cX2_brightOf 3 (some .int) [.ref (uA w b), .int p1] M (poI M Q) := by
  refine CT.of (by decide +kernel) (Nat.le_of_ble_eq_true rfl) (fun X hw hH hl hP hN C => ?_)
  subst hw
  exact s_X2_brightOf C hH hN (fun r q => by rw [hP]; exact ⟨rfl, r, rfl, q⟩) hb h
set_option maxRecDepth 20000 in
set_option maxHeartbeats 1000000 in
theorem s_X2_mix_F223 {X : wX} (C : CX X cX2_mix RX2 (some .long)) (hH : xH X = 0) (hN : xN X = 6) {b : Nat} {p1 : Int64} {M : mM} {Q : Int64 → Prop} (hQ : ∀ r, Q r → xPo X (some (.long r)) M) (hb : isC (xW X) 2 b) {v3 : Int64} {v5 : Int32} {ag223 : (Int64 × Int32) → Prop} (hag223 : ∀ s, ag223 s → V X 223 [(0, vR X b), (3, .long (s.1)), (5, .int (s.2))] [] M) (h : p_X2_mix_F223 b p1  M Q  ag223 v3 v5) : V X 223 [(0, vR X b), (3, .long v3), (5, .int v5)] [] M := by
  refine V_iload C 2 dX2_mix_223 rfl ?_
  refine V_bipush C 48 dX2_mix_225 (by decide) ?_
  refine V_icmp_ge (tgt := 251) C dX2_mix_227 (by decide) (fun hc => ?_) (fun hc => ?_)
  · have h := h.1 hc
    refine V_lload_n C 1 dX2_mix_251 rfl ?_
    exact V_lret C dX2_mix_252 (hQ _ h)
  · have h := h.2 hc
    refine V_ldc2 C u_112 dX2_mix_230 ?_
    refine V_lload_n C 1 dX2_mix_233 rfl ?_
    refine V_lmul C dX2_mix_234 ?_
    refine V_aload_n C 0 dX2_mix_235 rfl ?_
    refine V_getR C FL_RX2_42 (f2_10 hb) dX2_mix_236 ?_
    refine V_iload C 2 dX2_mix_239 rfl ?_
    obtain ⟨b1, h⟩ := h
    refine V_iald C (k2_11 hb) b1 dX2_mix_241 ?_
    refine V_i2l C dX2_mix_242 ?_
    refine V_ladd C dX2_mix_243 ?_
    refine V_nmL (fun x2 e_x2 => ?_)
    have h := h x2 e_x2
    refine V_lstore_n (lv' := [(3, .long x2), (0, vR X b), (5, .int v5)]) C (ltN hN (by decide)) dX2_mix_244 rfl ?_
    refine V_iinc (v := (v5 + 1)) (lv' := [(5, .int (v5 + 1)), (3, .long x2), (0, vR X b)]) C 2 (ltN hN (by decide)) dX2_mix_245 rfl rfl rfl ?_
    refine V_goto (tgt := 223) C dX2_mix_248 (by decide) ?_
    exact V_sub [2, 1, 0] rfl (hag223 (x2, (v5 + 1)) h)
set_option maxRecDepth 20000 in
set_option maxHeartbeats 1000000 in
theorem s_X2_mix_F145 {X : wX} (C : CX X cX2_mix RX2 (some .long)) (hH : xH X = 0) (hN : xN X = 6) {b : Nat} {p1 : Int64} {M : mM} {Q : Int64 → Prop} (hQ : ∀ r, Q r → xPo X (some (.long r)) M) (hb : isC (xW X) 2 b) {v3 : Int64} {v5 : Int32} {ag145 : (Int64 × Int32) → Prop} (hag145 : ∀ s, ag145 s → V X 145 [(0, vR X b), (3, .long (s.1)), (5, .int (s.2))] [] M) (h : p_X2_mix_F145 b p1  M Q  ag145 v3 v5) : V X 145 [(0, vR X b), (3, .long v3), (5, .int v5)] [] M := by
  refine V_iload C 2 dX2_mix_145 rfl ?_
  refine V_aload_n C 0 dX2_mix_147 rfl ?_
  refine V_getI C FL_RX2_52 (f2_12 hb) dX2_mix_148 ?_
  refine V_icmp_ge (tgt := 220) C dX2_mix_151 (by decide) (fun hc => ?_) (fun hc => ?_)
  · have h := h.1 hc
    refine V_iconst C 0 dX2_mix_220 (by decide) ?_
    refine V_istore (lv' := [(5, .int 0), (0, vR X b), (3, .long v3)]) C (ltN hN (by decide)) dX2_mix_221 rfl ?_
    refine V_sub [1, 2, 0] rfl ?_
    exact Loop.sound (s0 := (v3, (0 : Int32))) (P := fun s => V X 223 [(0, vR X b), (3, .long (s.1)), (5, .int (s.2))] [] M) h (fun ag hag s hs => s_X2_mix_F223 C hH hN hQ hb  hag hs)
  · have h := h.2 hc
    refine V_ldc2 C u_112 dX2_mix_154 ?_
    refine V_lload_n C 1 dX2_mix_157 rfl ?_
    refine V_lmul C dX2_mix_158 ?_
    refine V_aload_n C 0 dX2_mix_159 rfl ?_
    refine V_getR C FL_RX2_30 (f2_6 hb) dX2_mix_160 ?_
    refine V_iload C 2 dX2_mix_163 rfl ?_
    obtain ⟨b3, h⟩ := h
    refine V_iald C (k2_7 hb) b3 dX2_mix_165 ?_
    refine V_i2l C dX2_mix_166 ?_
    refine V_ladd C dX2_mix_167 ?_
    refine V_nmL (fun x4 e_x4 => ?_)
    have h := h x4 e_x4
    refine V_lstore_n (lv' := [(3, .long x4), (0, vR X b), (5, .int v5)]) C (ltN hN (by decide)) dX2_mix_168 rfl ?_
    refine V_ldc2 C u_112 dX2_mix_169 ?_
    refine V_lload_n C 0 dX2_mix_172 rfl ?_
    refine V_lmul C dX2_mix_173 ?_
    refine V_aload_n C 1 dX2_mix_174 rfl ?_
    refine V_getR C FL_RX2_33 (f2_7 hb) dX2_mix_175 ?_
    refine V_iload C 2 dX2_mix_178 rfl ?_
    obtain ⟨b5, h⟩ := h
    refine V_iald C (k2_8 hb) b5 dX2_mix_180 ?_
    refine V_i2l C dX2_mix_181 ?_
    refine V_ladd C dX2_mix_182 ?_
    refine V_nmL (fun x6 e_x6 => ?_)
    have h := h x6 e_x6
    refine V_lstore_n (lv' := [(3, .long x6), (0, vR X b), (5, .int v5)]) C (ltN hN (by decide)) dX2_mix_183 rfl ?_
    refine V_ldc2 C u_112 dX2_mix_184 ?_
    refine V_lload_n C 0 dX2_mix_187 rfl ?_
    refine V_lmul C dX2_mix_188 ?_
    refine V_aload_n C 1 dX2_mix_189 rfl ?_
    refine V_getR C FL_RX2_36 (f2_8 hb) dX2_mix_190 ?_
    refine V_iload C 2 dX2_mix_193 rfl ?_
    obtain ⟨b7, h⟩ := h
    refine V_iald C (k2_9 hb) b7 dX2_mix_195 ?_
    refine V_i2l C dX2_mix_196 ?_
    refine V_ladd C dX2_mix_197 ?_
    refine V_nmL (fun x8 e_x8 => ?_)
    have h := h x8 e_x8
    refine V_lstore_n (lv' := [(3, .long x8), (0, vR X b), (5, .int v5)]) C (ltN hN (by decide)) dX2_mix_198 rfl ?_
    refine V_ldc2 C u_112 dX2_mix_199 ?_
    refine V_lload_n C 0 dX2_mix_202 rfl ?_
    refine V_lmul C dX2_mix_203 ?_
    refine V_aload_n C 1 dX2_mix_204 rfl ?_
    refine V_getR C FL_RX2_39 (f2_9 hb) dX2_mix_205 ?_
    refine V_iload C 2 dX2_mix_208 rfl ?_
    obtain ⟨b9, h⟩ := h
    refine V_iald C (k2_10 hb) b9 dX2_mix_210 ?_
    refine V_i2l C dX2_mix_211 ?_
    refine V_ladd C dX2_mix_212 ?_
    refine V_nmL (fun x10 e_x10 => ?_)
    have h := h x10 e_x10
    refine V_lstore_n (lv' := [(3, .long x10), (0, vR X b), (5, .int v5)]) C (ltN hN (by decide)) dX2_mix_213 rfl ?_
    refine V_iinc (v := (v5 + 1)) (lv' := [(5, .int (v5 + 1)), (3, .long x10), (0, vR X b)]) C 2 (ltN hN (by decide)) dX2_mix_214 rfl rfl rfl ?_
    refine V_goto (tgt := 145) C dX2_mix_217 (by decide) ?_
    exact V_sub [2, 1, 0] rfl (hag145 (x10, (v5 + 1)) h)
set_option maxRecDepth 20000 in
set_option maxHeartbeats 1000000 in
theorem s_X2_mix_F114 {X : wX} (C : CX X cX2_mix RX2 (some .long)) (hH : xH X = 0) (hN : xN X = 6) {b : Nat} {p1 : Int64} {M : mM} {Q : Int64 → Prop} (hQ : ∀ r, Q r → xPo X (some (.long r)) M) (hb : isC (xW X) 2 b) {v3 : Int64} {v5 : Int32} {ag114 : (Int64 × Int32) → Prop} (hag114 : ∀ s, ag114 s → V X 114 [(0, vR X b), (3, .long (s.1)), (5, .int (s.2))] [] M) (h : p_X2_mix_F114 b p1  M Q  ag114 v3 v5) : V X 114 [(0, vR X b), (3, .long v3), (5, .int v5)] [] M := by
  refine V_iload C 2 dX2_mix_114 rfl ?_
  refine V_bipush C 21 dX2_mix_116 (by decide) ?_
  refine V_icmp_ge (tgt := 142) C dX2_mix_118 (by decide) (fun hc => ?_) (fun hc => ?_)
  · have h := h.1 hc
    refine V_iconst C 0 dX2_mix_142 (by decide) ?_
    refine V_istore (lv' := [(5, .int 0), (0, vR X b), (3, .long v3)]) C (ltN hN (by decide)) dX2_mix_143 rfl ?_
    refine V_sub [1, 2, 0] rfl ?_
    exact Loop.sound (s0 := (v3, (0 : Int32))) (P := fun s => V X 145 [(0, vR X b), (3, .long (s.1)), (5, .int (s.2))] [] M) h (fun ag hag s hs => s_X2_mix_F145 C hH hN hQ hb  hag hs)
  · have h := h.2 hc
    refine V_ldc2 C u_112 dX2_mix_121 ?_
    refine V_lload_n C 1 dX2_mix_124 rfl ?_
    refine V_lmul C dX2_mix_125 ?_
    refine V_aload_n C 0 dX2_mix_126 rfl ?_
    refine V_getR C FL_RX2_27 (f2_5 hb) dX2_mix_127 ?_
    refine V_iload C 2 dX2_mix_130 rfl ?_
    obtain ⟨b11, h⟩ := h
    refine V_iald C (k2_6 hb) b11 dX2_mix_132 ?_
    refine V_i2l C dX2_mix_133 ?_
    refine V_ladd C dX2_mix_134 ?_
    refine V_nmL (fun x12 e_x12 => ?_)
    have h := h x12 e_x12
    refine V_lstore_n (lv' := [(3, .long x12), (0, vR X b), (5, .int v5)]) C (ltN hN (by decide)) dX2_mix_135 rfl ?_
    refine V_iinc (v := (v5 + 1)) (lv' := [(5, .int (v5 + 1)), (3, .long x12), (0, vR X b)]) C 2 (ltN hN (by decide)) dX2_mix_136 rfl rfl rfl ?_
    refine V_goto (tgt := 114) C dX2_mix_139 (by decide) ?_
    exact V_sub [2, 1, 0] rfl (hag114 (x12, (v5 + 1)) h)
set_option maxRecDepth 20000 in
set_option maxHeartbeats 1000000 in
theorem s_X2_mix_F83 {X : wX} (C : CX X cX2_mix RX2 (some .long)) (hH : xH X = 0) (hN : xN X = 6) {b : Nat} {p1 : Int64} {M : mM} {Q : Int64 → Prop} (hQ : ∀ r, Q r → xPo X (some (.long r)) M) (hb : isC (xW X) 2 b) {v3 : Int64} {v5 : Int32} {ag83 : (Int64 × Int32) → Prop} (hag83 : ∀ s, ag83 s → V X 83 [(0, vR X b), (3, .long (s.1)), (5, .int (s.2))] [] M) (h : p_X2_mix_F83 b p1  M Q  ag83 v3 v5) : V X 83 [(0, vR X b), (3, .long v3), (5, .int v5)] [] M := by
  refine V_iload C 2 dX2_mix_83 rfl ?_
  refine V_bipush C 7 dX2_mix_85 (by decide) ?_
  refine V_icmp_ge (tgt := 111) C dX2_mix_87 (by decide) (fun hc => ?_) (fun hc => ?_)
  · have h := h.1 hc
    refine V_iconst C 0 dX2_mix_111 (by decide) ?_
    refine V_istore (lv' := [(5, .int 0), (0, vR X b), (3, .long v3)]) C (ltN hN (by decide)) dX2_mix_112 rfl ?_
    refine V_sub [1, 2, 0] rfl ?_
    exact Loop.sound (s0 := (v3, (0 : Int32))) (P := fun s => V X 114 [(0, vR X b), (3, .long (s.1)), (5, .int (s.2))] [] M) h (fun ag hag s hs => s_X2_mix_F114 C hH hN hQ hb  hag hs)
  · have h := h.2 hc
    refine V_ldc2 C u_112 dX2_mix_90 ?_
    refine V_lload_n C 1 dX2_mix_93 rfl ?_
    refine V_lmul C dX2_mix_94 ?_
    refine V_aload_n C 0 dX2_mix_95 rfl ?_
    refine V_getR C FL_RX2_24 (f2_4 hb) dX2_mix_96 ?_
    refine V_iload C 2 dX2_mix_99 rfl ?_
    obtain ⟨b13, h⟩ := h
    refine V_iald C (k2_5 hb) b13 dX2_mix_101 ?_
    refine V_i2l C dX2_mix_102 ?_
    refine V_ladd C dX2_mix_103 ?_
    refine V_nmL (fun x14 e_x14 => ?_)
    have h := h x14 e_x14
    refine V_lstore_n (lv' := [(3, .long x14), (0, vR X b), (5, .int v5)]) C (ltN hN (by decide)) dX2_mix_104 rfl ?_
    refine V_iinc (v := (v5 + 1)) (lv' := [(5, .int (v5 + 1)), (3, .long x14), (0, vR X b)]) C 2 (ltN hN (by decide)) dX2_mix_105 rfl rfl rfl ?_
    refine V_goto (tgt := 83) C dX2_mix_108 (by decide) ?_
    exact V_sub [2, 1, 0] rfl (hag83 (x14, (v5 + 1)) h)
set_option maxRecDepth 20000 in
set_option maxHeartbeats 1000000 in
theorem s_X2_mix_F5 {X : wX} (C : CX X cX2_mix RX2 (some .long)) (hH : xH X = 0) (hN : xN X = 6) {b : Nat} {p1 : Int64} {M : mM} {Q : Int64 → Prop} (hQ : ∀ r, Q r → xPo X (some (.long r)) M) (hb : isC (xW X) 2 b) {v3 : Int64} {v5 : Int32} {ag5 : (Int64 × Int32) → Prop} (hag5 : ∀ s, ag5 s → V X 5 [(0, vR X b), (3, .long (s.1)), (5, .int (s.2))] [] M) (h : p_X2_mix_F5 b p1  M Q  ag5 v3 v5) : V X 5 [(0, vR X b), (3, .long v3), (5, .int v5)] [] M := by
  refine V_iload C 2 dX2_mix_5 rfl ?_
  refine V_aload_n C 0 dX2_mix_7 rfl ?_
  refine V_getI C FL_RX2_48 (f2_11 hb) dX2_mix_8 ?_
  refine V_icmp_ge (tgt := 80) C dX2_mix_11 (by decide) (fun hc => ?_) (fun hc => ?_)
  · have h := h.1 hc
    refine V_iconst C 0 dX2_mix_80 (by decide) ?_
    refine V_istore (lv' := [(5, .int 0), (0, vR X b), (3, .long v3)]) C (ltN hN (by decide)) dX2_mix_81 rfl ?_
    refine V_sub [1, 2, 0] rfl ?_
    exact Loop.sound (s0 := (v3, (0 : Int32))) (P := fun s => V X 83 [(0, vR X b), (3, .long (s.1)), (5, .int (s.2))] [] M) h (fun ag hag s hs => s_X2_mix_F83 C hH hN hQ hb  hag hs)
  · have h := h.2 hc
    refine V_ldc2 C u_112 dX2_mix_14 ?_
    refine V_lload_n C 1 dX2_mix_17 rfl ?_
    refine V_lmul C dX2_mix_18 ?_
    refine V_aload_n C 0 dX2_mix_19 rfl ?_
    refine V_getR C FL_RX2_9 (f2_0 hb) dX2_mix_20 ?_
    refine V_iload C 2 dX2_mix_23 rfl ?_
    obtain ⟨b15, h⟩ := h
    refine V_iald C (k2_1 hb) b15 dX2_mix_25 ?_
    refine V_i2l C dX2_mix_26 ?_
    refine V_ladd C dX2_mix_27 ?_
    refine V_nmL (fun x16 e_x16 => ?_)
    have h := h x16 e_x16
    refine V_lstore_n (lv' := [(3, .long x16), (0, vR X b), (5, .int v5)]) C (ltN hN (by decide)) dX2_mix_28 rfl ?_
    refine V_ldc2 C u_112 dX2_mix_29 ?_
    refine V_lload_n C 0 dX2_mix_32 rfl ?_
    refine V_lmul C dX2_mix_33 ?_
    refine V_aload_n C 1 dX2_mix_34 rfl ?_
    refine V_getR C FL_RX2_15 (f2_1 hb) dX2_mix_35 ?_
    refine V_iload C 2 dX2_mix_38 rfl ?_
    obtain ⟨b17, h⟩ := h
    refine V_iald C (k2_2 hb) b17 dX2_mix_40 ?_
    refine V_i2l C dX2_mix_41 ?_
    refine V_ladd C dX2_mix_42 ?_
    refine V_nmL (fun x18 e_x18 => ?_)
    have h := h x18 e_x18
    refine V_lstore_n (lv' := [(3, .long x18), (0, vR X b), (5, .int v5)]) C (ltN hN (by decide)) dX2_mix_43 rfl ?_
    refine V_ldc2 C u_112 dX2_mix_44 ?_
    refine V_lload_n C 0 dX2_mix_47 rfl ?_
    refine V_lmul C dX2_mix_48 ?_
    refine V_aload_n C 1 dX2_mix_49 rfl ?_
    refine V_getR C FL_RX2_18 (f2_2 hb) dX2_mix_50 ?_
    refine V_iload C 2 dX2_mix_53 rfl ?_
    obtain ⟨b19, h⟩ := h
    refine V_iald C (k2_3 hb) b19 dX2_mix_55 ?_
    refine V_i2l C dX2_mix_56 ?_
    refine V_ladd C dX2_mix_57 ?_
    refine V_nmL (fun x20 e_x20 => ?_)
    have h := h x20 e_x20
    refine V_lstore_n (lv' := [(3, .long x20), (0, vR X b), (5, .int v5)]) C (ltN hN (by decide)) dX2_mix_58 rfl ?_
    refine V_ldc2 C u_112 dX2_mix_59 ?_
    refine V_lload_n C 0 dX2_mix_62 rfl ?_
    refine V_lmul C dX2_mix_63 ?_
    refine V_aload_n C 1 dX2_mix_64 rfl ?_
    refine V_getR C FL_RX2_21 (f2_3 hb) dX2_mix_65 ?_
    refine V_iload C 2 dX2_mix_68 rfl ?_
    obtain ⟨b21, h⟩ := h
    refine V_iald C (k2_4 hb) b21 dX2_mix_70 ?_
    refine V_i2l C dX2_mix_71 ?_
    refine V_ladd C dX2_mix_72 ?_
    refine V_nmL (fun x22 e_x22 => ?_)
    have h := h x22 e_x22
    refine V_lstore_n (lv' := [(3, .long x22), (0, vR X b), (5, .int v5)]) C (ltN hN (by decide)) dX2_mix_73 rfl ?_
    refine V_iinc (v := (v5 + 1)) (lv' := [(5, .int (v5 + 1)), (3, .long x22), (0, vR X b)]) C 2 (ltN hN (by decide)) dX2_mix_74 rfl rfl rfl ?_
    refine V_goto (tgt := 5) C dX2_mix_77 (by decide) ?_
    exact V_sub [2, 1, 0] rfl (hag5 (x22, (v5 + 1)) h)
set_option maxRecDepth 20000 in
set_option maxHeartbeats 1000000 in
theorem s_X2_mix {X : wX} (C : CX X cX2_mix RX2 (some .long)) (hH : xH X = 0) (hN : xN X = 6) {b : Nat} {p1 : Int64} {M : mM} {Q : Int64 → Prop} (hQ : ∀ r, Q r → xPo X (some (.long r)) M) (hb : isC (xW X) 2 b)   (h : p_X2_mix b p1 M Q) : V X 0 [(0, vR X b), (1, .long p1)] [] M := by
  refine V_lload_n C 1 dX2_mix_0 rfl ?_
  refine V_lstore_n (lv' := [(3, .long p1), (0, vR X b), (1, .long p1)]) C (ltN hN (by decide)) dX2_mix_1 rfl ?_
  refine V_iconst C 0 dX2_mix_2 (by decide) ?_
  refine V_istore (lv' := [(5, .int 0), (3, .long p1), (0, vR X b), (1, .long p1)]) C (ltN hN (by decide)) dX2_mix_3 rfl ?_
  refine V_sub [2, 1, 0] rfl ?_
  exact Loop.sound (s0 := (p1, (0 : Int32))) (P := fun s => V X 5 [(0, vR X b), (3, .long (s.1)), (5, .int (s.2))] [] M) h (fun ag hag s hs => s_X2_mix_F5 C hH hN hQ hb  hag hs)
set_option maxRecDepth 20000 in
set_option maxHeartbeats 1000000 in
theorem c_X2_mix {w : wU} {l : Launch} {b : Nat} {p1 : Int64} {M : mM} {Q : Int64 → Prop} (hb : isC w 2 b) (h : p_X2_mix b p1 M Q) : CT w l 0 yX2_mix cX2_mix 6 (some .long) [.ref (uA w b), .long p1] M (poL M Q) := by
  refine CT.of (by decide +kernel) (Nat.le_of_ble_eq_true rfl) (fun X hw hH hl hP hN C => ?_)
  subst hw
  exact s_X2_mix C hH hN (fun r q => by rw [hP]; exact ⟨rfl, r, rfl, q⟩) hb h
set_option maxRecDepth 20000 in
set_option maxHeartbeats 1000000 in
theorem s_X3_write_F33 {X : wX} (C : CX X cX3_write RX3 (some .int)) (hH : xH X = 1) (hN : xN X = 5) {b : Nat} {p1 : Int64} {p2 : Int32} {M : mM} {Q : Int32 → mM → Prop} (hQ : ∀ r M, Q r M → xPo X (some (.int r)) M) (hb : isC (xW X) 3 b) {v4 : Int32} {ag33 : (Int32 × mM) → Prop} (hag33 : ∀ s, ag33 s → V X 33 [(0, vR X b), (1, .long p1), (4, .int (s.1))] [] (s.2)) (h : p_X3_write_F33 b p1 p2  Q  ag33 v4 M) : V X 33 [(0, vR X b), (1, .long p1), (4, .int v4)] [] M := by
  refine V_iload C 2 dX3_write_33 rfl ?_
  refine V_if_lt (tgt := 69) C dX3_write_35 (by decide) (fun hc => ?_) (fun hc => ?_)
  · have h := h.1 hc
    refine V_aload_n C 0 dX3_write_69 rfl ?_
    refine V_getI C FL_RX3_23 (f3_2 hb) dX3_write_70 ?_
    exact V_iret C dX3_write_73 (hQ _ _ h)
  · have h := h.2 hc
    refine V_aload_n C 0 dX3_write_38 rfl ?_
    refine V_getR C FL_RX3_9 (f3_0 hb) dX3_write_39 ?_
    refine V_aload_n C 0 dX3_write_42 rfl ?_
    refine V_dup C dX3_write_43 rfl ?_
    refine V_getI C FL_RX3_23 (f3_2 hb) dX3_write_44 ?_
    refine V_dup_x1 C dX3_write_47 rfl rfl ?_
    refine V_iconst C 1 dX3_write_48 (by decide) ?_
    refine V_iadd C dX3_write_49 ?_
    refine V_putI C FW_RX3_23 (f3_2 hb) rfl rfl dX3_write_50 ?_
    refine V_nmM (fun M2 e_M2 => ?_)
    have h := h M2 e_M2
    refine V_lload_n C 1 dX3_write_53 rfl ?_
    refine V_bipush C 8 dX3_write_54 (by decide) ?_
    refine V_iload C 2 dX3_write_56 rfl ?_
    refine V_imul C dX3_write_58 ?_
    refine V_lushr C dX3_write_59 ?_
    refine V_l2i C dX3_write_60 ?_
    refine V_i2b C dX3_write_61 ?_
    obtain ⟨b4, h⟩ := h
    refine V_bast C (k3_1 hb) b4 dX3_write_62 ?_
    refine V_nmM (fun M3 e_M3 => ?_)
    have h := h M3 e_M3
    refine V_iinc (v := (v4 + (-1))) (lv' := [(4, .int (v4 + (-1))), (0, vR X b), (1, .long p1)]) C 2 (ltN hN (by decide)) dX3_write_63 rfl rfl rfl ?_
    refine V_goto (tgt := 33) C dX3_write_66 (by decide) ?_
    exact V_sub [1, 2, 0] rfl (hag33 ((v4 + (-1)), M3) h)
set_option maxRecDepth 20000 in
set_option maxHeartbeats 1000000 in
theorem s_X3_write {X : wX} (C : CX X cX3_write RX3 (some .int)) (hH : xH X = 1) (hN : xN X = 5) {b : Nat} {p1 : Int64} {p2 : Int32} {M : mM} {Q : Int32 → mM → Prop} (hQ : ∀ r M, Q r M → xPo X (some (.int r)) M) (hb : isC (xW X) 3 b)   (h : p_X3_write b p1 p2 M Q) : V X 0 [(0, vR X b), (1, .long p1), (3, .int p2)] [] M := by
  refine V_iload_n C 2 dX3_write_0 rfl ?_
  refine V_iconst C 1 dX3_write_1 (by decide) ?_
  refine V_bipush C 8 dX3_write_2 (by decide) ?_
  refine V_callN (As := [.int p2, .int 1, .int 8]) (st := []) C (c_X6_within  h) Y_X6_within Z_X6_within (ltN hH (by decide)) (List.mem_of_getElem? (i := 8) rfl) rfl rfl (Nat.le_of_ble_eq_true rfl) dX3_write_4 ?_
  rintro v9 M9 ⟨rfl, r1, rfl, h⟩
  show V X 7 _ [.int r1] M
  refine V_if_ne (tgt := 13) C dX3_write_7 (by decide) (fun hc => ?_) (fun hc => ?_)
  · have h := h.1 hc
    refine V_aload_n C 0 dX3_write_13 rfl ?_
    refine V_getI C FL_RX3_23 (f3_2 hb) dX3_write_14 ?_
    refine V_iload_n C 2 dX3_write_17 rfl ?_
    refine V_iadd C dX3_write_18 ?_
    refine V_sipush C 300 dX3_write_19 (by decide) ?_
    refine V_icmp_le (tgt := 28) C dX3_write_22 (by decide) (fun hc => ?_) (fun hc => ?_)
    · have h := h.1 hc
      refine V_iload_n C 2 dX3_write_28 rfl ?_
      refine V_iconst C 1 dX3_write_29 (by decide) ?_
      refine V_isub C dX3_write_30 ?_
      refine V_istore (lv' := [(4, .int (p2 - 1)), (0, vR X b), (1, .long p1), (3, .int p2)]) C (ltN hN (by decide)) dX3_write_31 rfl ?_
      refine V_sub [1, 2, 0] rfl ?_
      exact Loop.sound (s0 := ((p2 - 1), M)) (P := fun s => V X 33 [(0, vR X b), (1, .long p1), (4, .int (s.1))] [] (s.2)) h (fun ag hag s hs => s_X3_write_F33 C hH hN hQ hb  hag hs)
    · have h := h.2 hc
      refine V_bipush C (-4) dX3_write_25 (by decide) ?_
      exact V_iret C dX3_write_27 (hQ _ _ h)
  · have h := h.2 hc
    refine V_bipush C (-2) dX3_write_10 (by decide) ?_
    exact V_iret C dX3_write_12 (hQ _ _ h)
set_option maxRecDepth 20000 in
set_option maxHeartbeats 1000000 in
theorem c_X3_write {w : wU} {l : Launch} {b : Nat} {p1 : Int64} {p2 : Int32} {M : mM} {Q : Int32 → mM → Prop} (hb : isC w 3 b) (h : p_X3_write b p1 p2 M Q) : CT w l 1 yX3_write cX3_write 5 (some .int) [.ref (uA w b), .long p1, .int p2] M (piI Q) := by
  refine CT.of (by decide +kernel) (Nat.le_of_ble_eq_true rfl) (fun X hw hH hl hP hN C => ?_)
  subst hw
  exact s_X3_write C hH hN (fun r M1 q => by rw [hP]; exact ⟨r, rfl, q⟩) hb h
set_option maxRecDepth 20000 in
set_option maxHeartbeats 1000000 in
theorem s_X3_wipe {X : wX} (C : CX X cX3_wipe RX3 (some .int)) (hH : xH X = 0) (hN : xN X = 2) {b : Nat} {M : mM} {Q : Int32 → mM → Prop} (hQ : ∀ r M, Q r M → xPo X (some (.int r)) M) (hb : isC (xW X) 3 b)   (h : p_X3_wipe b M Q) : V X 0 [(0, vR X b)] [] M := by
  refine V_aload_n C 0 dX3_wipe_0 rfl ?_
  refine V_getI C FL_RX3_23 (f3_2 hb) dX3_wipe_1 ?_
  refine V_istore_n (lv' := [(1, .int (M.1 b 2)), (0, vR X b)]) C (ltN hN (by decide)) dX3_wipe_4 rfl ?_
  refine V_aload_n C 1 dX3_wipe_5 rfl ?_
  refine V_iconst C 0 dX3_wipe_6 (by decide) ?_
  refine V_putI C FW_RX3_23 (f3_2 hb) rfl rfl dX3_wipe_7 ?_
  refine V_nmM (fun M1 e_M1 => ?_)
  have h := h M1 e_M1
  refine V_iload_n C 0 dX3_wipe_10 rfl ?_
  exact V_iret C dX3_wipe_11 (hQ _ _ h)
set_option maxRecDepth 20000 in
set_option maxHeartbeats 1000000 in
theorem c_X3_wipe {w : wU} {l : Launch} {b : Nat} {M : mM} {Q : Int32 → mM → Prop} (hb : isC w 3 b) (h : p_X3_wipe b M Q) : CT w l 0 yX3_wipe cX3_wipe 2 (some .int) [.ref (uA w b)] M (piI Q) := by
  refine CT.of (by decide +kernel) (Nat.le_of_ble_eq_true rfl) (fun X hw hH hl hP hN C => ?_)
  subst hw
  exact s_X3_wipe C hH hN (fun r M1 q => by rw [hP]; exact ⟨r, rfl, q⟩) hb h
set_option maxRecDepth 20000 in
set_option maxHeartbeats 1000000 in
theorem s_X3_byteAt {X : wX} (C : CX X cX3_byteAt RX3 (some .int)) (hH : xH X = 0) (hN : xN X = 2) {b : Nat} {p1 : Int32} {M : mM} {Q : Int32 → Prop} (hQ : ∀ r, Q r → xPo X (some (.int r)) M) (hb : isC (xW X) 3 b)   (h : p_X3_byteAt b p1 M Q) : V X 0 [(0, vR X b), (1, .int p1)] [] M := by
  refine V_iload_n C 1 dX3_byteAt_0 rfl ?_
  refine V_if_lt (tgt := 24) C dX3_byteAt_1 (by decide) (fun hc => ?_) (fun hc => ?_)
  · have h := h.1 hc
    refine V_iconst C 0 dX3_byteAt_24 (by decide) ?_
    exact V_iret C dX3_byteAt_25 (hQ _ h)
  · have h := h.2 hc
    refine V_iload_n C 1 dX3_byteAt_4 rfl ?_
    refine V_sipush C 300 dX3_byteAt_5 (by decide) ?_
    refine V_icmp_ge (tgt := 24) C dX3_byteAt_8 (by decide) (fun hc => ?_) (fun hc => ?_)
    · have h := h.1 hc
      refine V_iconst C 0 dX3_byteAt_24 (by decide) ?_
      exact V_iret C dX3_byteAt_25 (hQ _ h)
    · have h := h.2 hc
      refine V_aload_n C 0 dX3_byteAt_11 rfl ?_
      refine V_getR C FL_RX3_9 (f3_0 hb) dX3_byteAt_12 ?_
      refine V_iload_n C 1 dX3_byteAt_15 rfl ?_
      obtain ⟨b1, h⟩ := h
      refine V_bald C (k3_1 hb) b1 dX3_byteAt_16 ?_
      refine V_sipush C 255 dX3_byteAt_17 (by decide) ?_
      refine V_iand C dX3_byteAt_20 ?_
      refine V_goto (tgt := 25) C dX3_byteAt_21 (by decide) ?_
      exact V_iret C dX3_byteAt_25 (hQ _ h)
set_option maxRecDepth 20000 in
set_option maxHeartbeats 1000000 in
theorem c_X3_byteAt {w : wU} {l : Launch} {b : Nat} {p1 : Int32} {M : mM} {Q : Int32 → Prop} (hb : isC w 3 b) (h : p_X3_byteAt b p1 M Q) : CT w l 0 yX3_byteAt cX3_byteAt 2 (some .int) [.ref (uA w b), .int p1] M (poI M Q) := by
  refine CT.of (by decide +kernel) (Nat.le_of_ble_eq_true rfl) (fun X hw hH hl hP hN C => ?_)
  subst hw
  exact s_X3_byteAt C hH hN (fun r q => by rw [hP]; exact ⟨rfl, r, rfl, q⟩) hb h
set_option maxRecDepth 20000 in
set_option maxHeartbeats 1000000 in
theorem s_X3_isLetter {X : wX} (C : CX X cX3_isLetter RX3 (some .boolean)) (hH : xH X = 1) (hN : xN X = 1) {p1 : Int32} {M : mM} {Q : Int32 → Prop} (hQ : ∀ r, Q r → xPo X (some (.int r)) M)    (h : p_X3_isLetter p1 M Q) : V X 0 [(0, .int p1)] [] M := by
  refine V_iload_n C 0 dX3_isLetter_0 rfl ?_
  refine V_bipush C 97 dX3_isLetter_1 (by decide) ?_
  refine V_bipush C 122 dX3_isLetter_3 (by decide) ?_
  refine V_callN (As := [.int p1, .int 97, .int 122]) (st := []) C (c_X6_within  h) Y_X6_within Z_X6_within (ltN hH (by decide)) (List.mem_of_getElem? (i := 8) rfl) rfl rfl (Nat.le_of_ble_eq_true rfl) dX3_isLetter_5 ?_
  rintro v9 M9 ⟨rfl, r1, rfl, h⟩
  show V X 8 _ [.int r1] M
  exact V_zret C rfl h.1 dX3_isLetter_8 (hQ _ h.2)
set_option maxRecDepth 20000 in
set_option maxHeartbeats 1000000 in
theorem c_X3_isLetter {w : wU} {l : Launch} {p1 : Int32} {M : mM} {Q : Int32 → Prop}  (h : p_X3_isLetter p1 M Q) : CT w l 1 yX3_isLetter cX3_isLetter 1 (some .boolean) [.int p1] M (poI M Q) := by
  refine CT.of (by decide +kernel) (Nat.le_of_ble_eq_true rfl) (fun X hw hH hl hP hN C => ?_)
  subst hw
  exact s_X3_isLetter C hH hN (fun r q => by rw [hP]; exact ⟨rfl, r, rfl, q⟩)  h
set_option maxRecDepth 20000 in
set_option maxHeartbeats 1000000 in
theorem s_X3_wordFrom_J53 {X : wX} (C : CX X cX3_wordFrom RX3 (some .int)) (hH : xH X = 4) (hN : xN X = 7) {b : Nat} {p1 : Int32} {M : mM} {Q : Int32 → Prop} (hQ : ∀ r, Q r → xPo X (some (.int r)) M) (hb : isC (xW X) 3 b) {v2 : Int32} {v5 : Int32} {ag10 : (Int32 × Int32 × Int32 × Int32) → Prop} (hag10 : ∀ s, ag10 s → V X 10 [(0, vR X b), (1, .int p1), (2, .int (s.1)), (3, .int (s.2.1)), (4, .int (s.2.2.1)), (5, .int (s.2.2.2))] [] M) (h : p_X3_wordFrom_J53 b p1 Q ag10 v2 v5 M) : V X 53 [(0, vR X b), (1, .int p1), (2, .int v2), (5, .int v5)] [] M := by
  refine V_iinc (v := (v2 + 1)) (lv' := [(2, .int (v2 + 1)), (0, vR X b), (1, .int p1), (5, .int v5)]) C 2 (ltN hN (by decide)) dX3_wordFrom_53 rfl rfl rfl ?_
  refine V_iconst C 0 dX3_wordFrom_56 (by decide) ?_
  refine V_istore_n (lv' := [(3, .int 0), (2, .int (v2 + 1)), (0, vR X b), (1, .int p1), (5, .int v5)]) C (ltN hN (by decide)) dX3_wordFrom_57 rfl ?_
  refine V_iconst C 1 dX3_wordFrom_58 (by decide) ?_
  refine V_istore (lv' := [(4, .int 1), (3, .int 0), (2, .int (v2 + 1)), (0, vR X b), (1, .int p1), (5, .int v5)]) C (ltN hN (by decide)) dX3_wordFrom_59 rfl ?_
  refine V_goto (tgt := 101) C dX3_wordFrom_61 (by decide) ?_
  refine V_iinc (v := (v5 + 1)) (lv' := [(5, .int (v5 + 1)), (4, .int 1), (3, .int 0), (2, .int (v2 + 1)), (0, vR X b), (1, .int p1)]) C 5 (ltN hN (by decide)) dX3_wordFrom_101 rfl rfl rfl ?_
  refine V_goto (tgt := 10) C dX3_wordFrom_104 (by decide) ?_
  exact V_sub [4, 5, 3, 2, 1, 0] rfl (hag10 ((v2 + 1), (0 : Int32), (1 : Int32), (v5 + 1)) h)
set_option maxRecDepth 20000 in
set_option maxHeartbeats 1000000 in
theorem s_X3_wordFrom_F10 {X : wX} (C : CX X cX3_wordFrom RX3 (some .int)) (hH : xH X = 4) (hN : xN X = 7) {b : Nat} {p1 : Int32} {M : mM} {Q : Int32 → Prop} (hQ : ∀ r, Q r → xPo X (some (.int r)) M) (hb : isC (xW X) 3 b) {v2 : Int32} {v3 : Int32} {v4 : Int32} {v5 : Int32} {ag10 : (Int32 × Int32 × Int32 × Int32) → Prop} (hag10 : ∀ s, ag10 s → V X 10 [(0, vR X b), (1, .int p1), (2, .int (s.1)), (3, .int (s.2.1)), (4, .int (s.2.2.1)), (5, .int (s.2.2.2))] [] M) (h : p_X3_wordFrom_F10 b p1  M Q  ag10 v2 v3 v4 v5) : V X 10 [(0, vR X b), (1, .int p1), (2, .int v2), (3, .int v3), (4, .int v4), (5, .int v5)] [] M := by
  refine V_iload C 5 dX3_wordFrom_10 rfl ?_
  refine V_ldcS C dX3_wordFrom_12 ?_
  refine V_strlen C (by rw [hH]; decide) u_115 (Nat.le_of_ble_eq_true rfl) dX3_wordFrom_14 ?_
  refine V_icmp_ge (tgt := 107) C dX3_wordFrom_17 (by decide) (fun hc => ?_) (fun hc => ?_)
  · have h := h.1 hc
    refine V_iconst C (-1) dX3_wordFrom_107 (by decide) ?_
    exact V_iret C dX3_wordFrom_108 (hQ _ h)
  · have h := h.2 hc
    refine V_ldcS C dX3_wordFrom_20 ?_
    refine V_iload C 5 dX3_wordFrom_22 rfl ?_
    obtain ⟨b1, h⟩ := h
    refine V_strchr C (by rw [hH]; decide) u_116 b1 (Nat.le_of_ble_eq_true rfl) dX3_wordFrom_24 ?_
    refine V_istore (lv' := [(6, .int (zCh v5.toNatClampNeg)), (0, vR X b), (1, .int p1), (2, .int v2), (3, .int v3), (4, .int v4), (5, .int v5)]) C (ltN hN (by decide)) dX3_wordFrom_27 rfl ?_
    refine V_iload C 0 dX3_wordFrom_29 rfl ?_
    refine V_bipush C 32 dX3_wordFrom_31 (by decide) ?_
    refine V_icmp_ne (tgt := 64) C dX3_wordFrom_33 (by decide) (fun hc => ?_) (fun hc => ?_)
    · have h := h.1 hc
      refine V_iload C 5 dX3_wordFrom_64 rfl ?_
      refine V_if_eq (tgt := 95) C dX3_wordFrom_66 (by decide) (fun hc => ?_) (fun hc => ?_)
      · have h := h.1 hc
        refine V_iconst C 0 dX3_wordFrom_95 (by decide) ?_
        refine V_istore (lv' := [(4, .int 0), (6, .int (zCh v5.toNatClampNeg)), (0, vR X b), (1, .int p1), (2, .int v2), (3, .int v3), (5, .int v5)]) C (ltN hN (by decide)) dX3_wordFrom_96 rfl ?_
        refine V_iinc (v := (v3 + 1)) (lv' := [(3, .int (v3 + 1)), (4, .int 0), (6, .int (zCh v5.toNatClampNeg)), (0, vR X b), (1, .int p1), (2, .int v2), (5, .int v5)]) C 5 (ltN hN (by decide)) dX3_wordFrom_98 rfl rfl rfl ?_
        refine V_iinc (v := (v5 + 1)) (lv' := [(5, .int (v5 + 1)), (3, .int (v3 + 1)), (4, .int 0), (6, .int (zCh v5.toNatClampNeg)), (0, vR X b), (1, .int p1), (2, .int v2)]) C 6 (ltN hN (by decide)) dX3_wordFrom_101 rfl rfl rfl ?_
        refine V_goto (tgt := 10) C dX3_wordFrom_104 (by decide) ?_
        exact V_sub [4, 5, 6, 1, 2, 0] rfl (hag10 (v2, (v3 + 1), (0 : Int32), (v5 + 1)) h)
      · have h := h.2 hc
        refine V_iload_n C 4 dX3_wordFrom_69 rfl ?_
        refine V_aload_n C 1 dX3_wordFrom_70 rfl ?_
        refine V_getI C FL_RX3_32 (f3_3 hb) dX3_wordFrom_71 ?_
        refine V_iload_n C 2 dX3_wordFrom_74 rfl ?_
        refine V_isub C dX3_wordFrom_75 ?_
        refine V_icmp_ge (tgt := 95) C dX3_wordFrom_76 (by decide) (fun hc => ?_) (fun hc => ?_)
        · have h := h.1 hc
          refine V_iconst C 0 dX3_wordFrom_95 (by decide) ?_
          refine V_istore (lv' := [(4, .int 0), (6, .int (zCh v5.toNatClampNeg)), (0, vR X b), (1, .int p1), (2, .int v2), (3, .int v3), (5, .int v5)]) C (ltN hN (by decide)) dX3_wordFrom_96 rfl ?_
          refine V_iinc (v := (v3 + 1)) (lv' := [(3, .int (v3 + 1)), (4, .int 0), (6, .int (zCh v5.toNatClampNeg)), (0, vR X b), (1, .int p1), (2, .int v2), (5, .int v5)]) C 5 (ltN hN (by decide)) dX3_wordFrom_98 rfl rfl rfl ?_
          refine V_iinc (v := (v5 + 1)) (lv' := [(5, .int (v5 + 1)), (3, .int (v3 + 1)), (4, .int 0), (6, .int (zCh v5.toNatClampNeg)), (0, vR X b), (1, .int p1), (2, .int v2)]) C 6 (ltN hN (by decide)) dX3_wordFrom_101 rfl rfl rfl ?_
          refine V_goto (tgt := 10) C dX3_wordFrom_104 (by decide) ?_
          exact V_sub [4, 5, 6, 1, 2, 0] rfl (hag10 (v2, (v3 + 1), (0 : Int32), (v5 + 1)) h)
        · have h := h.2 hc
          refine V_aload_n C 1 dX3_wordFrom_79 rfl ?_
          refine V_iload_n C 2 dX3_wordFrom_80 rfl ?_
          refine V_iload_n C 4 dX3_wordFrom_81 rfl ?_
          refine V_iadd C dX3_wordFrom_82 ?_
          refine V_callV (As := [.int (p1 + v3)]) (st := []) C (c_X3_byteAt hb h) Y_X3_byteAt Z_X3_byteAt (T := TX3) (N := 7) rfl (o3 hb) (ltN hH (by decide)) u_118 rfl rfl (Nat.le_of_ble_eq_true rfl) dX3_wordFrom_83 ?_
          rintro v9 M9 ⟨rfl, r2, rfl, h⟩
          show V X 86 _ [.int r2] M
          refine V_iload C 0 dX3_wordFrom_86 rfl ?_
          refine V_icmp_ne (tgt := 95) C dX3_wordFrom_88 (by decide) (fun hc => ?_) (fun hc => ?_)
          · have h := h.1 hc
            refine V_iconst C 0 dX3_wordFrom_95 (by decide) ?_
            refine V_istore (lv' := [(4, .int 0), (6, .int (zCh v5.toNatClampNeg)), (0, vR X b), (1, .int p1), (2, .int v2), (3, .int v3), (5, .int v5)]) C (ltN hN (by decide)) dX3_wordFrom_96 rfl ?_
            refine V_iinc (v := (v3 + 1)) (lv' := [(3, .int (v3 + 1)), (4, .int 0), (6, .int (zCh v5.toNatClampNeg)), (0, vR X b), (1, .int p1), (2, .int v2), (5, .int v5)]) C 5 (ltN hN (by decide)) dX3_wordFrom_98 rfl rfl rfl ?_
            refine V_iinc (v := (v5 + 1)) (lv' := [(5, .int (v5 + 1)), (3, .int (v3 + 1)), (4, .int 0), (6, .int (zCh v5.toNatClampNeg)), (0, vR X b), (1, .int p1), (2, .int v2)]) C 6 (ltN hN (by decide)) dX3_wordFrom_101 rfl rfl rfl ?_
            refine V_goto (tgt := 10) C dX3_wordFrom_104 (by decide) ?_
            exact V_sub [4, 5, 6, 1, 2, 0] rfl (hag10 (v2, (v3 + 1), (0 : Int32), (v5 + 1)) h)
          · have h := h.2 hc
            refine V_iconst C 1 dX3_wordFrom_91 (by decide) ?_
            refine V_goto (tgt := 96) C dX3_wordFrom_92 (by decide) ?_
            refine V_istore (lv' := [(4, .int 1), (6, .int (zCh v5.toNatClampNeg)), (0, vR X b), (1, .int p1), (2, .int v2), (3, .int v3), (5, .int v5)]) C (ltN hN (by decide)) dX3_wordFrom_96 rfl ?_
            refine V_iinc (v := (v3 + 1)) (lv' := [(3, .int (v3 + 1)), (4, .int 1), (6, .int (zCh v5.toNatClampNeg)), (0, vR X b), (1, .int p1), (2, .int v2), (5, .int v5)]) C 5 (ltN hN (by decide)) dX3_wordFrom_98 rfl rfl rfl ?_
            refine V_iinc (v := (v5 + 1)) (lv' := [(5, .int (v5 + 1)), (3, .int (v3 + 1)), (4, .int 1), (6, .int (zCh v5.toNatClampNeg)), (0, vR X b), (1, .int p1), (2, .int v2)]) C 6 (ltN hN (by decide)) dX3_wordFrom_101 rfl rfl rfl ?_
            refine V_goto (tgt := 10) C dX3_wordFrom_104 (by decide) ?_
            exact V_sub [4, 5, 6, 1, 2, 0] rfl (hag10 (v2, (v3 + 1), (1 : Int32), (v5 + 1)) h)
    · have h := h.2 hc
      refine V_iload C 5 dX3_wordFrom_36 rfl ?_
      refine V_if_eq (tgt := 53) C dX3_wordFrom_38 (by decide) (fun hc => ?_) (fun hc => ?_)
      · have h := h.1 hc
        exact V_sub [1, 2, 3, 6] rfl (s_X3_wordFrom_J53 C hH hN hQ hb hag10  h)
      · have h := h.2 hc
        refine V_iload_n C 4 dX3_wordFrom_41 rfl ?_
        refine V_aload_n C 1 dX3_wordFrom_42 rfl ?_
        refine V_getI C FL_RX3_32 (f3_3 hb) dX3_wordFrom_43 ?_
        refine V_iload_n C 2 dX3_wordFrom_46 rfl ?_
        refine V_isub C dX3_wordFrom_47 ?_
        refine V_icmp_ne (tgt := 53) C dX3_wordFrom_48 (by decide) (fun hc => ?_) (fun hc => ?_)
        · have h := h.1 hc
          exact V_sub [1, 2, 3, 6] rfl (s_X3_wordFrom_J53 C hH hN hQ hb hag10  h)
        · have h := h.2 hc
          refine V_iload_n C 3 dX3_wordFrom_51 rfl ?_
          exact V_iret C dX3_wordFrom_52 (hQ _ h)
set_option maxRecDepth 20000 in
set_option maxHeartbeats 1000000 in
theorem s_X3_wordFrom {X : wX} (C : CX X cX3_wordFrom RX3 (some .int)) (hH : xH X = 4) (hN : xN X = 7) {b : Nat} {p1 : Int32} {M : mM} {Q : Int32 → Prop} (hQ : ∀ r, Q r → xPo X (some (.int r)) M) (hb : isC (xW X) 3 b)   (h : p_X3_wordFrom b p1 M Q) : V X 0 [(0, vR X b), (1, .int p1)] [] M := by
  refine V_iconst C 0 dX3_wordFrom_0 (by decide) ?_
  refine V_istore_n (lv' := [(2, .int 0), (0, vR X b), (1, .int p1)]) C (ltN hN (by decide)) dX3_wordFrom_1 rfl ?_
  refine V_iconst C 0 dX3_wordFrom_2 (by decide) ?_
  refine V_istore_n (lv' := [(3, .int 0), (2, .int 0), (0, vR X b), (1, .int p1)]) C (ltN hN (by decide)) dX3_wordFrom_3 rfl ?_
  refine V_iconst C 1 dX3_wordFrom_4 (by decide) ?_
  refine V_istore (lv' := [(4, .int 1), (3, .int 0), (2, .int 0), (0, vR X b), (1, .int p1)]) C (ltN hN (by decide)) dX3_wordFrom_5 rfl ?_
  refine V_iconst C 0 dX3_wordFrom_7 (by decide) ?_
  refine V_istore (lv' := [(5, .int 0), (4, .int 1), (3, .int 0), (2, .int 0), (0, vR X b), (1, .int p1)]) C (ltN hN (by decide)) dX3_wordFrom_8 rfl ?_
  refine V_sub [4, 5, 3, 2, 1, 0] rfl ?_
  exact Loop.sound (s0 := ((0 : Int32), (0 : Int32), (1 : Int32), (0 : Int32))) (P := fun s => V X 10 [(0, vR X b), (1, .int p1), (2, .int (s.1)), (3, .int (s.2.1)), (4, .int (s.2.2.1)), (5, .int (s.2.2.2))] [] M) h (fun ag hag s hs => s_X3_wordFrom_F10 C hH hN hQ hb  hag hs)
set_option maxRecDepth 20000 in
set_option maxHeartbeats 1000000 in
theorem c_X3_wordFrom {w : wU} {l : Launch} {b : Nat} {p1 : Int32} {M : mM} {Q : Int32 → Prop} (hb : isC w 3 b) (h : p_X3_wordFrom b p1 M Q) : CT w l 4 yX3_wordFrom cX3_wordFrom 7 (some .int) [.ref (uA w b), .int p1] M (poI M Q) := by
  refine CT.of (by decide +kernel) (Nat.le_of_ble_eq_true rfl) (fun X hw hH hl hP hN C => ?_)
  subst hw
  exact s_X3_wordFrom C hH hN (fun r q => by rw [hP]; exact ⟨rfl, r, rfl, q⟩) hb h
set_option maxRecDepth 20000 in
set_option maxHeartbeats 1000000 in
theorem s_X3_readWord_J38 {X : wX} (C : CX X cX3_readWord RX3 (none)) (hH : xH X = 5) (hN : xN X = 1) {b : Nat} {M : mM} {Q : mM → Prop} (hQ : ∀ M, Q M → xPo X none M) (hb : isC (xW X) 3 b)   (h : p_X3_readWord_J38 b Q   M) : V X 38 [(0, vR X b)] [] M := by
  refine V_aload_n C 0 dX3_readWord_38 rfl ?_
  refine V_aload_n C 0 dX3_readWord_39 rfl ?_
  refine V_aload_n C 0 dX3_readWord_40 rfl ?_
  refine V_getI C FL_RX3_48 (f3_5 hb) dX3_readWord_41 ?_
  refine V_callV (As := [.int (M.1 b 5)]) (st := [vR X b]) C (c_X3_wordFrom hb h) Y_X3_wordFrom Z_X3_wordFrom (T := TX3) (N := 7) rfl (o3 hb) (ltN hH (by decide)) u_122 rfl rfl (Nat.le_of_ble_eq_true rfl) dX3_readWord_44 ?_
  rintro v9 M9 ⟨rfl, r1, rfl, h⟩
  show V X 47 _ [.int r1, vR X b] M
  refine V_putI C FW_RX3_41 (f3_6 hb) rfl rfl dX3_readWord_47 ?_
  refine V_nmM (fun M2 e_M2 => ?_)
  have h := h M2 e_M2
  refine V_aload_n C 0 dX3_readWord_50 rfl ?_
  refine V_aload_n C 0 dX3_readWord_51 rfl ?_
  refine V_getI C FL_RX3_41 (f3_6 hb) dX3_readWord_52 ?_
  refine V_iconst C (-1) dX3_readWord_55 (by decide) ?_
  refine V_icmp_ne (tgt := 63) C dX3_readWord_56 (by decide) (fun hc => ?_) (fun hc => ?_)
  · have h := h.1 hc
    refine V_iconst C 1 dX3_readWord_63 (by decide) ?_
    refine V_putI C FW_RX3_38 (f3_4 hb) rfl rfl dX3_readWord_64 ?_
    refine V_nmM (fun M3 e_M3 => ?_)
    have h := h M3 e_M3
    exact V_vret C dX3_readWord_67 (hQ _ h)
  · have h := h.2 hc
    refine V_iconst C 4 dX3_readWord_59 (by decide) ?_
    refine V_goto (tgt := 64) C dX3_readWord_60 (by decide) ?_
    refine V_putI C FW_RX3_38 (f3_4 hb) rfl rfl dX3_readWord_64 ?_
    refine V_nmM (fun M4 e_M4 => ?_)
    have h := h M4 e_M4
    exact V_vret C dX3_readWord_67 (hQ _ h)
set_option maxRecDepth 20000 in
set_option maxHeartbeats 1000000 in
theorem s_X3_readWord_F0 {X : wX} (C : CX X cX3_readWord RX3 (none)) (hH : xH X = 5) (hN : xN X = 1) {b : Nat} {M : mM} {Q : mM → Prop} (hQ : ∀ M, Q M → xPo X none M) (hb : isC (xW X) 3 b) {ag0 : mM → Prop} (hag0 : ∀ s, ag0 s → V X 0 [(0, vR X b)] [] s) (h : p_X3_readWord_F0 b  Q  ag0  M) : V X 0 [(0, vR X b)] [] M := by
  refine V_aload_n C 0 dX3_readWord_0 rfl ?_
  refine V_getI C FL_RX3_32 (f3_3 hb) dX3_readWord_1 ?_
  refine V_aload_n C 0 dX3_readWord_4 rfl ?_
  refine V_getI C FL_RX3_23 (f3_2 hb) dX3_readWord_5 ?_
  refine V_icmp_ge (tgt := 38) C dX3_readWord_8 (by decide) (fun hc => ?_) (fun hc => ?_)
  · have h := h.1 hc
    exact V_sub [0] rfl (s_X3_readWord_J38 C hH hN hQ hb   h)
  · have h := h.2 hc
    refine V_aload_n C 0 dX3_readWord_11 rfl ?_
    refine V_aload_n C 0 dX3_readWord_12 rfl ?_
    refine V_getI C FL_RX3_32 (f3_3 hb) dX3_readWord_13 ?_
    refine V_callV (As := [.int (M.1 b 3)]) (st := []) C (c_X3_byteAt hb h) Y_X3_byteAt Z_X3_byteAt (T := TX3) (N := 7) rfl (o3 hb) (ltN hH (by decide)) u_118 rfl rfl (Nat.le_of_ble_eq_true rfl) dX3_readWord_16 ?_
    rintro v9 M9 ⟨rfl, r5, rfl, h⟩
    show V X 19 _ [.int r5] M
    refine V_callS (As := [.int r5]) (st := []) C (c_X3_isLetter  h) Y_X3_isLetter Z_X3_isLetter (ltN hH (by decide)) u_123 rfl rfl (Nat.le_of_ble_eq_true rfl) dX3_readWord_19 ?_
    rintro v9 M9 ⟨rfl, r6, rfl, h⟩
    show V X 22 _ [.int r6] M
    refine V_if_eq (tgt := 38) C dX3_readWord_22 (by decide) (fun hc => ?_) (fun hc => ?_)
    · have h := h.1 hc
      exact V_sub [0] rfl (s_X3_readWord_J38 C hH hN hQ hb   h)
    · have h := h.2 hc
      refine V_aload_n C 0 dX3_readWord_25 rfl ?_
      refine V_dup C dX3_readWord_26 rfl ?_
      refine V_getI C FL_RX3_32 (f3_3 hb) dX3_readWord_27 ?_
      refine V_iconst C 1 dX3_readWord_30 (by decide) ?_
      refine V_iadd C dX3_readWord_31 ?_
      refine V_putI C FW_RX3_32 (f3_3 hb) rfl rfl dX3_readWord_32 ?_
      refine V_nmM (fun M7 e_M7 => ?_)
      have h := h M7 e_M7
      refine V_goto (tgt := 0) C dX3_readWord_35 (by decide) ?_
      exact V_sub [0] rfl (hag0 M7 h)
set_option maxRecDepth 20000 in
set_option maxHeartbeats 1000000 in
theorem s_X3_readWord {X : wX} (C : CX X cX3_readWord RX3 (none)) (hH : xH X = 5) (hN : xN X = 1) {b : Nat} {M : mM} {Q : mM → Prop} (hQ : ∀ M, Q M → xPo X none M) (hb : isC (xW X) 3 b)   (h : p_X3_readWord b M Q) : V X 0 [(0, vR X b)] [] M := by
  refine V_sub [0] rfl ?_
  exact Loop.sound (s0 := M) (P := fun s => V X 0 [(0, vR X b)] [] s) h (fun ag hag s hs => s_X3_readWord_F0 C hH hN hQ hb  hag hs)
set_option maxRecDepth 20000 in
set_option maxHeartbeats 1000000 in
theorem c_X3_readWord {w : wU} {l : Launch} {b : Nat} {M : mM} {Q : mM → Prop} (hb : isC w 3 b) (h : p_X3_readWord b M Q) : CT w l 5 yX3_readWord cX3_readWord 1 (none) [.ref (uA w b)] M (piV Q) := by
  refine CT.of (by decide +kernel) (Nat.le_of_ble_eq_true rfl) (fun X hw hH hl hP hN C => ?_)
  subst hw
  exact s_X3_readWord C hH hN (fun M1 q => by rw [hP]; exact ⟨rfl, q⟩) hb h
set_option maxRecDepth 20000 in
set_option maxHeartbeats 1000000 in
theorem s_X3_isFigure {X : wX} (C : CX X cX3_isFigure RX3 (some .boolean)) (hH : xH X = 1) (hN : xN X = 1) {p1 : Int32} {M : mM} {Q : Int32 → Prop} (hQ : ∀ r, Q r → xPo X (some (.int r)) M)    (h : p_X3_isFigure p1 M Q) : V X 0 [(0, .int p1)] [] M := by
  refine V_iload_n C 0 dX3_isFigure_0 rfl ?_
  refine V_bipush C 48 dX3_isFigure_1 (by decide) ?_
  refine V_bipush C 57 dX3_isFigure_3 (by decide) ?_
  refine V_callN (As := [.int p1, .int 48, .int 57]) (st := []) C (c_X6_within  h) Y_X6_within Z_X6_within (ltN hH (by decide)) (List.mem_of_getElem? (i := 8) rfl) rfl rfl (Nat.le_of_ble_eq_true rfl) dX3_isFigure_5 ?_
  rintro v9 M9 ⟨rfl, r1, rfl, h⟩
  show V X 8 _ [.int r1] M
  exact V_zret C rfl h.1 dX3_isFigure_8 (hQ _ h.2)
set_option maxRecDepth 20000 in
set_option maxHeartbeats 1000000 in
theorem c_X3_isFigure {w : wU} {l : Launch} {p1 : Int32} {M : mM} {Q : Int32 → Prop}  (h : p_X3_isFigure p1 M Q) : CT w l 1 yX3_isFigure cX3_isFigure 1 (some .boolean) [.int p1] M (poI M Q) := by
  refine CT.of (by decide +kernel) (Nat.le_of_ble_eq_true rfl) (fun X hw hH hl hP hN C => ?_)
  subst hw
  exact s_X3_isFigure C hH hN (fun r q => by rw [hP]; exact ⟨rfl, r, rfl, q⟩)  h
set_option maxRecDepth 20000 in
set_option maxHeartbeats 1000000 in
theorem s_X3_readNumber_J79 {X : wX} (C : CX X cX3_readNumber RX3 (none)) (hH : xH X = 2) (hN : xN X = 1) {b : Nat} {M : mM} {Q : mM → Prop} (hQ : ∀ M, Q M → xPo X none M) (hb : isC (xW X) 3 b)   (h : p_X3_readNumber_J79 b Q   M) : V X 79 [(0, vR X b)] [] M := by
  refine V_aload_n C 0 dX3_readNumber_79 rfl ?_
  refine V_aload_n C 0 dX3_readNumber_80 rfl ?_
  refine V_getI C FL_RX3_32 (f3_3 hb) dX3_readNumber_81 ?_
  refine V_aload_n C 0 dX3_readNumber_84 rfl ?_
  refine V_getI C FL_RX3_48 (f3_5 hb) dX3_readNumber_85 ?_
  refine V_isub C dX3_readNumber_88 ?_
  refine V_iconst C 3 dX3_readNumber_89 (by decide) ?_
  refine V_icmp_le (tgt := 97) C dX3_readNumber_90 (by decide) (fun hc => ?_) (fun hc => ?_)
  · have h := h.1 hc
    refine V_iconst C 2 dX3_readNumber_97 (by decide) ?_
    refine V_putI C FW_RX3_38 (f3_4 hb) rfl rfl dX3_readNumber_98 ?_
    refine V_nmM (fun M2 e_M2 => ?_)
    have h := h M2 e_M2
    exact V_vret C dX3_readNumber_101 (hQ _ h)
  · have h := h.2 hc
    refine V_iconst C 4 dX3_readNumber_93 (by decide) ?_
    refine V_goto (tgt := 98) C dX3_readNumber_94 (by decide) ?_
    refine V_putI C FW_RX3_38 (f3_4 hb) rfl rfl dX3_readNumber_98 ?_
    refine V_nmM (fun M3 e_M3 => ?_)
    have h := h M3 e_M3
    exact V_vret C dX3_readNumber_101 (hQ _ h)
set_option maxRecDepth 20000 in
set_option maxHeartbeats 1000000 in
theorem s_X3_readNumber_J66 {X : wX} (C : CX X cX3_readNumber RX3 (none)) (hH : xH X = 2) (hN : xN X = 1) {b : Nat} {M : mM} {Q : mM → Prop} (hQ : ∀ M, Q M → xPo X none M) (hb : isC (xW X) 3 b) {ag5 : mM → Prop} (hag5 : ∀ s, ag5 s → V X 5 [(0, vR X b)] [] s) (h : p_X3_readNumber_J66 b Q ag5  M) : V X 66 [(0, vR X b)] [] M := by
  refine V_aload_n C 0 dX3_readNumber_66 rfl ?_
  refine V_dup C dX3_readNumber_67 rfl ?_
  refine V_getI C FL_RX3_32 (f3_3 hb) dX3_readNumber_68 ?_
  refine V_iconst C 1 dX3_readNumber_71 (by decide) ?_
  refine V_iadd C dX3_readNumber_72 ?_
  refine V_putI C FW_RX3_32 (f3_3 hb) rfl rfl dX3_readNumber_73 ?_
  refine V_nmM (fun M6 e_M6 => ?_)
  have h := h M6 e_M6
  refine V_goto (tgt := 5) C dX3_readNumber_76 (by decide) ?_
  exact V_sub [0] rfl (hag5 M6 h)
set_option maxRecDepth 20000 in
set_option maxHeartbeats 1000000 in
theorem s_X3_readNumber_F5 {X : wX} (C : CX X cX3_readNumber RX3 (none)) (hH : xH X = 2) (hN : xN X = 1) {b : Nat} {M : mM} {Q : mM → Prop} (hQ : ∀ M, Q M → xPo X none M) (hb : isC (xW X) 3 b) {ag5 : mM → Prop} (hag5 : ∀ s, ag5 s → V X 5 [(0, vR X b)] [] s) (h : p_X3_readNumber_F5 b  Q  ag5  M) : V X 5 [(0, vR X b)] [] M := by
  refine V_aload_n C 0 dX3_readNumber_5 rfl ?_
  refine V_getI C FL_RX3_32 (f3_3 hb) dX3_readNumber_6 ?_
  refine V_aload_n C 0 dX3_readNumber_9 rfl ?_
  refine V_getI C FL_RX3_23 (f3_2 hb) dX3_readNumber_10 ?_
  refine V_icmp_ge (tgt := 79) C dX3_readNumber_13 (by decide) (fun hc => ?_) (fun hc => ?_)
  · have h := h.1 hc
    exact V_sub [0] rfl (s_X3_readNumber_J79 C hH hN hQ hb   h)
  · have h := h.2 hc
    refine V_aload_n C 0 dX3_readNumber_16 rfl ?_
    refine V_aload_n C 0 dX3_readNumber_17 rfl ?_
    refine V_getI C FL_RX3_32 (f3_3 hb) dX3_readNumber_18 ?_
    refine V_callV (As := [.int (M.1 b 3)]) (st := []) C (c_X3_byteAt hb h) Y_X3_byteAt Z_X3_byteAt (T := TX3) (N := 7) rfl (o3 hb) (ltN hH (by decide)) u_118 rfl rfl (Nat.le_of_ble_eq_true rfl) dX3_readNumber_21 ?_
    rintro v9 M9 ⟨rfl, r4, rfl, h⟩
    show V X 24 _ [.int r4] M
    refine V_callS (As := [.int r4]) (st := []) C (c_X3_isFigure  h) Y_X3_isFigure Z_X3_isFigure (ltN hH (by decide)) u_124 rfl rfl (Nat.le_of_ble_eq_true rfl) dX3_readNumber_24 ?_
    rintro v9 M9 ⟨rfl, r5, rfl, h⟩
    show V X 27 _ [.int r5] M
    refine V_if_eq (tgt := 79) C dX3_readNumber_27 (by decide) (fun hc => ?_) (fun hc => ?_)
    · have h := h.1 hc
      exact V_sub [0] rfl (s_X3_readNumber_J79 C hH hN hQ hb   h)
    · have h := h.2 hc
      refine V_aload_n C 0 dX3_readNumber_30 rfl ?_
      refine V_getI C FL_RX3_32 (f3_3 hb) dX3_readNumber_31 ?_
      refine V_aload_n C 0 dX3_readNumber_34 rfl ?_
      refine V_getI C FL_RX3_48 (f3_5 hb) dX3_readNumber_35 ?_
      refine V_isub C dX3_readNumber_38 ?_
      refine V_iconst C 3 dX3_readNumber_39 (by decide) ?_
      refine V_icmp_ge (tgt := 66) C dX3_readNumber_40 (by decide) (fun hc => ?_) (fun hc => ?_)
      · have h := h.1 hc
        exact V_sub [0] rfl (s_X3_readNumber_J66 C hH hN hQ hb hag5  h)
      · have h := h.2 hc
        refine V_aload_n C 0 dX3_readNumber_43 rfl ?_
        refine V_bipush C 10 dX3_readNumber_44 (by decide) ?_
        refine V_aload_n C 0 dX3_readNumber_46 rfl ?_
        refine V_getI C FL_RX3_41 (f3_6 hb) dX3_readNumber_47 ?_
        refine V_imul C dX3_readNumber_50 ?_
        refine V_aload_n C 0 dX3_readNumber_51 rfl ?_
        refine V_aload_n C 0 dX3_readNumber_52 rfl ?_
        refine V_getI C FL_RX3_32 (f3_3 hb) dX3_readNumber_53 ?_
        refine V_callV (As := [.int (M.1 b 3)]) (st := [.int (10 * (M.1 b 6)), vR X b]) C (c_X3_byteAt hb h) Y_X3_byteAt Z_X3_byteAt (T := TX3) (N := 7) rfl (o3 hb) (ltN hH (by decide)) u_118 rfl rfl (Nat.le_of_ble_eq_true rfl) dX3_readNumber_56 ?_
        rintro v9 M9 ⟨rfl, r7, rfl, h⟩
        show V X 59 _ [.int r7, .int (10 * (M.1 b 6)), vR X b] M
        refine V_iadd C dX3_readNumber_59 ?_
        refine V_bipush C 48 dX3_readNumber_60 (by decide) ?_
        refine V_isub C dX3_readNumber_62 ?_
        refine V_putI C FW_RX3_41 (f3_6 hb) rfl rfl dX3_readNumber_63 ?_
        refine V_nmM (fun M8 e_M8 => ?_)
        have h := h M8 e_M8
        exact V_sub [0] rfl (s_X3_readNumber_J66 C hH hN hQ hb hag5  h)
set_option maxRecDepth 20000 in
set_option maxHeartbeats 1000000 in
theorem s_X3_readNumber {X : wX} (C : CX X cX3_readNumber RX3 (none)) (hH : xH X = 2) (hN : xN X = 1) {b : Nat} {M : mM} {Q : mM → Prop} (hQ : ∀ M, Q M → xPo X none M) (hb : isC (xW X) 3 b)   (h : p_X3_readNumber b M Q) : V X 0 [(0, vR X b)] [] M := by
  refine V_aload_n C 0 dX3_readNumber_0 rfl ?_
  refine V_iconst C 0 dX3_readNumber_1 (by decide) ?_
  refine V_putI C FW_RX3_41 (f3_6 hb) rfl rfl dX3_readNumber_2 ?_
  refine V_nmM (fun M1 e_M1 => ?_)
  have h := h M1 e_M1
  refine V_sub [0] rfl ?_
  exact Loop.sound (s0 := M1) (P := fun s => V X 5 [(0, vR X b)] [] s) h (fun ag hag s hs => s_X3_readNumber_F5 C hH hN hQ hb  hag hs)
set_option maxRecDepth 20000 in
set_option maxHeartbeats 1000000 in
theorem c_X3_readNumber {w : wU} {l : Launch} {b : Nat} {M : mM} {Q : mM → Prop} (hb : isC w 3 b) (h : p_X3_readNumber b M Q) : CT w l 2 yX3_readNumber cX3_readNumber 1 (none) [.ref (uA w b)] M (piV Q) := by
  refine CT.of (by decide +kernel) (Nat.le_of_ble_eq_true rfl) (fun X hw hH hl hP hN C => ?_)
  subst hw
  exact s_X3_readNumber C hH hN (fun M1 q => by rw [hP]; exact ⟨rfl, q⟩) hb h
set_option maxRecDepth 20000 in
set_option maxHeartbeats 1000000 in
theorem s_X3_readToken_J113 {X : wX} (C : CX X cX3_readToken RX3 (none)) (hH : xH X = 6) (hN : xN X = 2) {b : Nat} {M : mM} {Q : mM → Prop} (hQ : ∀ M, Q M → xPo X none M) (hb : isC (xW X) 3 b) {s0 : Int32}  (h : p_X3_readToken_J113 b Q  s0 M) : V X 113 [(0, vR X b)] [.int s0, vR X b] M := by
  refine V_putI C FW_RX3_38 (f3_4 hb) rfl rfl dX3_readToken_113 ?_
  refine V_nmM (fun M5 e_M5 => ?_)
  have h := h M5 e_M5
  refine V_aload_n C 0 dX3_readToken_116 rfl ?_
  refine V_dup C dX3_readToken_117 rfl ?_
  refine V_getI C FL_RX3_32 (f3_3 hb) dX3_readToken_118 ?_
  refine V_iconst C 1 dX3_readToken_121 (by decide) ?_
  refine V_iadd C dX3_readToken_122 ?_
  refine V_putI C FW_RX3_32 (f3_3 hb) rfl rfl dX3_readToken_123 ?_
  refine V_nmM (fun M6 e_M6 => ?_)
  have h := h M6 e_M6
  exact V_vret C dX3_readToken_126 (hQ _ h)
set_option maxRecDepth 20000 in
set_option maxHeartbeats 1000000 in
theorem s_X3_readToken_J37 {X : wX} (C : CX X cX3_readToken RX3 (none)) (hH : xH X = 6) (hN : xN X = 2) {b : Nat} {M : mM} {Q : mM → Prop} (hQ : ∀ M, Q M → xPo X none M) (hb : isC (xW X) 3 b)   (h : p_X3_readToken_J37 b Q   M) : V X 37 [(0, vR X b)] [] M := by
  refine V_aload_n C 0 dX3_readToken_37 rfl ?_
  refine V_aload_n C 0 dX3_readToken_38 rfl ?_
  refine V_getI C FL_RX3_32 (f3_3 hb) dX3_readToken_39 ?_
  refine V_putI C FW_RX3_48 (f3_5 hb) rfl rfl dX3_readToken_42 ?_
  refine V_nmM (fun M1 e_M1 => ?_)
  have h := h M1 e_M1
  refine V_aload_n C 0 dX3_readToken_45 rfl ?_
  refine V_aload_n C 0 dX3_readToken_46 rfl ?_
  refine V_getI C FL_RX3_32 (f3_3 hb) dX3_readToken_47 ?_
  refine V_callV (As := [.int (M1.1 b 3)]) (st := []) C (c_X3_byteAt hb h) Y_X3_byteAt Z_X3_byteAt (T := TX3) (N := 7) rfl (o3 hb) (ltN hH (by decide)) u_118 rfl rfl (Nat.le_of_ble_eq_true rfl) dX3_readToken_50 ?_
  rintro v9 M9 ⟨rfl, r2, rfl, h⟩
  show V X 53 _ [.int r2] M1
  refine V_istore_n (lv' := [(1, .int r2), (0, vR X b)]) C (ltN hN (by decide)) dX3_readToken_53 rfl ?_
  refine V_aload_n C 1 dX3_readToken_54 rfl ?_
  refine V_getI C FL_RX3_32 (f3_3 hb) dX3_readToken_55 ?_
  refine V_aload_n C 1 dX3_readToken_58 rfl ?_
  refine V_getI C FL_RX3_23 (f3_2 hb) dX3_readToken_59 ?_
  refine V_icmp_lt (tgt := 73) C dX3_readToken_62 (by decide) (fun hc => ?_) (fun hc => ?_)
  · have h := h.1 hc
    refine V_iload_n C 0 dX3_readToken_73 rfl ?_
    refine V_callS (As := [.int r2]) (st := []) C (c_X3_isLetter  h) Y_X3_isLetter Z_X3_isLetter (ltN hH (by decide)) u_123 rfl rfl (Nat.le_of_ble_eq_true rfl) dX3_readToken_74 ?_
    rintro v9 M9 ⟨rfl, r3, rfl, h⟩
    show V X 77 _ [.int r3] M1
    refine V_if_eq (tgt := 87) C dX3_readToken_77 (by decide) (fun hc => ?_) (fun hc => ?_)
    · have h := h.1 hc
      refine V_iload_n C 0 dX3_readToken_87 rfl ?_
      refine V_callS (As := [.int r2]) (st := []) C (c_X3_isFigure  h) Y_X3_isFigure Z_X3_isFigure (ltN hH (by decide)) u_124 rfl rfl (Nat.le_of_ble_eq_true rfl) dX3_readToken_88 ?_
      rintro v9 M9 ⟨rfl, r4, rfl, h⟩
      show V X 91 _ [.int r4] M1
      refine V_if_eq (tgt := 101) C dX3_readToken_91 (by decide) (fun hc => ?_) (fun hc => ?_)
      · have h := h.1 hc
        refine V_aload_n C 1 dX3_readToken_101 rfl ?_
        refine V_iload_n C 0 dX3_readToken_102 rfl ?_
        refine V_bipush C 59 dX3_readToken_103 (by decide) ?_
        refine V_icmp_ne (tgt := 112) C dX3_readToken_105 (by decide) (fun hc => ?_) (fun hc => ?_)
        · have h := h.1 hc
          refine V_iconst C 4 dX3_readToken_112 (by decide) ?_
          exact V_sub [1] rfl (s_X3_readToken_J113 C hH hN hQ hb   h)
        · have h := h.2 hc
          refine V_iconst C 3 dX3_readToken_108 (by decide) ?_
          refine V_goto (tgt := 113) C dX3_readToken_109 (by decide) ?_
          exact V_sub [1] rfl (s_X3_readToken_J113 C hH hN hQ hb   h)
      · have h := h.2 hc
        refine V_aload_n C 1 dX3_readToken_94 rfl ?_
        refine V_callV (As := []) (st := []) C (c_X3_readNumber hb h) Y_X3_readNumber Z_X3_readNumber (T := TX3) (N := 7) rfl (o3 hb) (ltN hH (by decide)) u_125 rfl rfl (Nat.le_of_ble_eq_true rfl) dX3_readToken_95 ?_
        rintro v9 M7 ⟨rfl, h⟩
        show V X 98 _ [] M7
        refine V_goto (tgt := 126) C dX3_readToken_98 (by decide) ?_
        exact V_vret C dX3_readToken_126 (hQ _ h)
    · have h := h.2 hc
      refine V_aload_n C 1 dX3_readToken_80 rfl ?_
      refine V_callV (As := []) (st := []) C (c_X3_readWord hb h) Y_X3_readWord Z_X3_readWord (T := TX3) (N := 7) rfl (o3 hb) (ltN hH (by decide)) u_126 rfl rfl (Nat.le_of_ble_eq_true rfl) dX3_readToken_81 ?_
      rintro v9 M8 ⟨rfl, h⟩
      show V X 84 _ [] M8
      refine V_goto (tgt := 126) C dX3_readToken_84 (by decide) ?_
      exact V_vret C dX3_readToken_126 (hQ _ h)
  · have h := h.2 hc
    refine V_aload_n C 1 dX3_readToken_65 rfl ?_
    refine V_iconst C 0 dX3_readToken_66 (by decide) ?_
    refine V_putI C FW_RX3_38 (f3_4 hb) rfl rfl dX3_readToken_67 ?_
    refine V_nmM (fun M9 e_M9 => ?_)
    have h := h M9 e_M9
    refine V_goto (tgt := 126) C dX3_readToken_70 (by decide) ?_
    exact V_vret C dX3_readToken_126 (hQ _ h)
set_option maxRecDepth 20000 in
set_option maxHeartbeats 1000000 in
theorem s_X3_readToken_F0 {X : wX} (C : CX X cX3_readToken RX3 (none)) (hH : xH X = 6) (hN : xN X = 2) {b : Nat} {M : mM} {Q : mM → Prop} (hQ : ∀ M, Q M → xPo X none M) (hb : isC (xW X) 3 b) {ag0 : mM → Prop} (hag0 : ∀ s, ag0 s → V X 0 [(0, vR X b)] [] s) (h : p_X3_readToken_F0 b  Q  ag0  M) : V X 0 [(0, vR X b)] [] M := by
  refine V_aload_n C 0 dX3_readToken_0 rfl ?_
  refine V_getI C FL_RX3_32 (f3_3 hb) dX3_readToken_1 ?_
  refine V_aload_n C 0 dX3_readToken_4 rfl ?_
  refine V_getI C FL_RX3_23 (f3_2 hb) dX3_readToken_5 ?_
  refine V_icmp_ge (tgt := 37) C dX3_readToken_8 (by decide) (fun hc => ?_) (fun hc => ?_)
  · have h := h.1 hc
    exact V_sub [0] rfl (s_X3_readToken_J37 C hH hN hQ hb   h)
  · have h := h.2 hc
    refine V_aload_n C 0 dX3_readToken_11 rfl ?_
    refine V_aload_n C 0 dX3_readToken_12 rfl ?_
    refine V_getI C FL_RX3_32 (f3_3 hb) dX3_readToken_13 ?_
    refine V_callV (As := [.int (M.1 b 3)]) (st := []) C (c_X3_byteAt hb h) Y_X3_byteAt Z_X3_byteAt (T := TX3) (N := 7) rfl (o3 hb) (ltN hH (by decide)) u_118 rfl rfl (Nat.le_of_ble_eq_true rfl) dX3_readToken_16 ?_
    rintro v9 M9 ⟨rfl, r10, rfl, h⟩
    show V X 19 _ [.int r10] M
    refine V_bipush C 32 dX3_readToken_19 (by decide) ?_
    refine V_icmp_ne (tgt := 37) C dX3_readToken_21 (by decide) (fun hc => ?_) (fun hc => ?_)
    · have h := h.1 hc
      exact V_sub [0] rfl (s_X3_readToken_J37 C hH hN hQ hb   h)
    · have h := h.2 hc
      refine V_aload_n C 0 dX3_readToken_24 rfl ?_
      refine V_dup C dX3_readToken_25 rfl ?_
      refine V_getI C FL_RX3_32 (f3_3 hb) dX3_readToken_26 ?_
      refine V_iconst C 1 dX3_readToken_29 (by decide) ?_
      refine V_iadd C dX3_readToken_30 ?_
      refine V_putI C FW_RX3_32 (f3_3 hb) rfl rfl dX3_readToken_31 ?_
      refine V_nmM (fun M11 e_M11 => ?_)
      have h := h M11 e_M11
      refine V_goto (tgt := 0) C dX3_readToken_34 (by decide) ?_
      exact V_sub [0] rfl (hag0 M11 h)
set_option maxRecDepth 20000 in
set_option maxHeartbeats 1000000 in
theorem s_X3_readToken {X : wX} (C : CX X cX3_readToken RX3 (none)) (hH : xH X = 6) (hN : xN X = 2) {b : Nat} {M : mM} {Q : mM → Prop} (hQ : ∀ M, Q M → xPo X none M) (hb : isC (xW X) 3 b)   (h : p_X3_readToken b M Q) : V X 0 [(0, vR X b)] [] M := by
  refine V_sub [0] rfl ?_
  exact Loop.sound (s0 := M) (P := fun s => V X 0 [(0, vR X b)] [] s) h (fun ag hag s hs => s_X3_readToken_F0 C hH hN hQ hb  hag hs)
set_option maxRecDepth 20000 in
set_option maxHeartbeats 1000000 in
theorem c_X3_readToken {w : wU} {l : Launch} {b : Nat} {M : mM} {Q : mM → Prop} (hb : isC w 3 b) (h : p_X3_readToken b M Q) : CT w l 6 yX3_readToken cX3_readToken 2 (none) [.ref (uA w b)] M (piV Q) := by
  refine CT.of (by decide +kernel) (Nat.le_of_ble_eq_true rfl) (fun X hw hH hl hP hN C => ?_)
  subst hw
  exact s_X3_readToken C hH hN (fun M1 q => by rw [hP]; exact ⟨rfl, q⟩) hb h
set_option maxRecDepth 20000 in
set_option maxHeartbeats 1000000 in
theorem s_X3_readItem_J82 {X : wX} (C : CX X cX3_readItem RX3 (some .boolean)) (hH : xH X = 7) (hN : xN X = 3) {b : Nat} {M : mM} {Q : Int32 → mM → Prop} (hQ : ∀ r M, Q r M → xPo X (some (.int r)) M) (hb : isC (xW X) 3 b)   (h : p_X3_readItem_J82 b Q   M) : V X 82 [(0, vR X b)] [] M := by
  refine V_aload_n C 0 dX3_readItem_82 rfl ?_
  refine V_callV (As := []) (st := []) C (c_X3_readToken hb h) Y_X3_readToken Z_X3_readToken (T := TX3) (N := 7) rfl (o3 hb) (ltN hH (by decide)) u_128 rfl rfl (Nat.le_of_ble_eq_true rfl) dX3_readItem_83 ?_
  rintro v9 M4 ⟨rfl, h⟩
  show V X 86 _ [] M4
  refine V_aload_n C 0 dX3_readItem_86 rfl ?_
  refine V_getI C FL_RX3_38 (f3_4 hb) dX3_readItem_87 ?_
  refine V_iconst C 3 dX3_readItem_90 (by decide) ?_
  refine V_icmp_ne (tgt := 98) C dX3_readItem_91 (by decide) (fun hc => ?_) (fun hc => ?_)
  · have h := h.1 hc
    refine V_iconst C 0 dX3_readItem_98 (by decide) ?_
    exact V_zret C rfl (by decide) dX3_readItem_99 (hQ _ _ h)
  · have h := h.2 hc
    refine V_iconst C 1 dX3_readItem_94 (by decide) ?_
    refine V_goto (tgt := 99) C dX3_readItem_95 (by decide) ?_
    exact V_zret C rfl (by decide) dX3_readItem_99 (hQ _ _ h)
set_option maxRecDepth 20000 in
set_option maxHeartbeats 1000000 in
theorem s_X3_readItem_F38 {X : wX} (C : CX X cX3_readItem RX3 (some .boolean)) (hH : xH X = 7) (hN : xN X = 3) {b : Nat} {M : mM} {Q : Int32 → mM → Prop} (hQ : ∀ r M, Q r M → xPo X (some (.int r)) M) (hb : isC (xW X) 3 b) {v1 : Int32} {v2 : Int32} {ag38 : (Int32 × mM) → Prop} (hag38 : ∀ s, ag38 s → V X 38 [(0, vR X b), (1, .int v1), (2, .int (s.1))] [] (s.2)) (h : p_X3_readItem_F38 b v1 Q  ag38 v2 M) : V X 38 [(0, vR X b), (1, .int v1), (2, .int v2)] [] M := by
  refine V_iload_n C 2 dX3_readItem_38 rfl ?_
  refine V_iload_n C 1 dX3_readItem_39 rfl ?_
  refine V_icmp_ge (tgt := 82) C dX3_readItem_40 (by decide) (fun hc => ?_) (fun hc => ?_)
  · have h := h.1 hc
    exact V_sub [0] rfl (s_X3_readItem_J82 C hH hN hQ hb   h)
  · have h := h.2 hc
    refine V_iload_n C 2 dX3_readItem_43 rfl ?_
    refine V_aload_n C 0 dX3_readItem_44 rfl ?_
    refine V_getR C FL_RX3_15 (f3_1 hb) dX3_readItem_45 ?_
    refine V_alenI C (k3_2 hb) 4 (by decide) dX3_readItem_48 ?_
    refine V_icmp_ge (tgt := 82) C dX3_readItem_49 (by decide) (fun hc => ?_) (fun hc => ?_)
    · have h := h.1 hc
      exact V_sub [0] rfl (s_X3_readItem_J82 C hH hN hQ hb   h)
    · have h := h.2 hc
      refine V_aload_n C 0 dX3_readItem_52 rfl ?_
      refine V_callV (As := []) (st := []) C (c_X3_readToken hb h) Y_X3_readToken Z_X3_readToken (T := TX3) (N := 7) rfl (o3 hb) (ltN hH (by decide)) u_128 rfl rfl (Nat.le_of_ble_eq_true rfl) dX3_readItem_53 ?_
      rintro v9 M5 ⟨rfl, h⟩
      show V X 56 _ [] M5
      refine V_aload_n C 0 dX3_readItem_56 rfl ?_
      refine V_getI C FL_RX3_38 (f3_4 hb) dX3_readItem_57 ?_
      refine V_iconst C 2 dX3_readItem_60 (by decide) ?_
      refine V_icmp_eq (tgt := 66) C dX3_readItem_61 (by decide) (fun hc => ?_) (fun hc => ?_)
      · have h := h.1 hc
        refine V_aload_n C 0 dX3_readItem_66 rfl ?_
        refine V_getR C FL_RX3_15 (f3_1 hb) dX3_readItem_67 ?_
        refine V_iload_n C 2 dX3_readItem_70 rfl ?_
        refine V_aload_n C 0 dX3_readItem_71 rfl ?_
        refine V_getI C FL_RX3_41 (f3_6 hb) dX3_readItem_72 ?_
        obtain ⟨b7, h⟩ := h
        refine V_iast C (k3_2 hb) b7 dX3_readItem_75 ?_
        refine V_nmM (fun M6 e_M6 => ?_)
        have h := h M6 e_M6
        refine V_iinc (v := (v2 + 1)) (lv' := [(2, .int (v2 + 1)), (0, vR X b), (1, .int v1)]) C 2 (ltN hN (by decide)) dX3_readItem_76 rfl rfl rfl ?_
        refine V_goto (tgt := 38) C dX3_readItem_79 (by decide) ?_
        exact V_sub [1, 2, 0] rfl (hag38 ((v2 + 1), M6) h)
      · have h := h.2 hc
        refine V_iconst C 0 dX3_readItem_64 (by decide) ?_
        exact V_zret C rfl (by decide) dX3_readItem_65 (hQ _ _ h)
set_option maxRecDepth 20000 in
set_option maxHeartbeats 1000000 in
theorem s_X3_readItem {X : wX} (C : CX X cX3_readItem RX3 (some .boolean)) (hH : xH X = 7) (hN : xN X = 3) {b : Nat} {M : mM} {Q : Int32 → mM → Prop} (hQ : ∀ r M, Q r M → xPo X (some (.int r)) M) (hb : isC (xW X) 3 b)   (h : p_X3_readItem b M Q) : V X 0 [(0, vR X b)] [] M := by
  refine V_aload_n C 0 dX3_readItem_0 rfl ?_
  refine V_getI C FL_RX3_38 (f3_4 hb) dX3_readItem_1 ?_
  refine V_iconst C 1 dX3_readItem_4 (by decide) ?_
  refine V_icmp_ne (tgt := 25) C dX3_readItem_5 (by decide) (fun hc => ?_) (fun hc => ?_)
  · have h := h.1 hc
    refine V_iconst C 0 dX3_readItem_25 (by decide) ?_
    exact V_zret C rfl (by decide) dX3_readItem_26 (hQ _ _ h)
  · have h := h.2 hc
    refine V_aload_n C 0 dX3_readItem_8 rfl ?_
    refine V_getI C FL_RX3_41 (f3_6 hb) dX3_readItem_9 ?_
    refine V_iconst C 0 dX3_readItem_12 (by decide) ?_
    refine V_gets C 3 (by decide) u_127 dX3_readItem_13 ?_
    refine V_slen C (by decide) 14 (by decide) dX3_readItem_16 ?_
    refine V_iconst C 1 dX3_readItem_17 (by decide) ?_
    refine V_isub C dX3_readItem_18 ?_
    refine V_callN (As := [.int (M.1 b 6), .int 0, .int ((14 : Int32) - 1)]) (st := []) C (c_X6_within  h) Y_X6_within Z_X6_within (ltN hH (by decide)) (List.mem_of_getElem? (i := 8) rfl) rfl rfl (Nat.le_of_ble_eq_true rfl) dX3_readItem_19 ?_
    rintro v9 M9 ⟨rfl, r1, rfl, h⟩
    show V X 22 _ [.int r1] M
    refine V_if_ne (tgt := 27) C dX3_readItem_22 (by decide) (fun hc => ?_) (fun hc => ?_)
    · have h := h.1 hc
      refine V_gets C 3 (by decide) u_127 dX3_readItem_27 ?_
      refine V_aload_n C 0 dX3_readItem_30 rfl ?_
      refine V_getI C FL_RX3_41 (f3_6 hb) dX3_readItem_31 ?_
      obtain ⟨b2, h⟩ := h
      refine V_sald C (by decide) b2 dX3_readItem_34 ?_
      refine V_nmI (fun x3 e_x3 => ?_)
      have h := h x3 e_x3
      refine V_istore_n (lv' := [(1, .int x3), (0, vR X b)]) C (ltN hN (by decide)) dX3_readItem_35 rfl ?_
      refine V_iconst C 0 dX3_readItem_36 (by decide) ?_
      refine V_istore_n (lv' := [(2, .int 0), (1, .int x3), (0, vR X b)]) C (ltN hN (by decide)) dX3_readItem_37 rfl ?_
      refine V_sub [2, 1, 0] rfl ?_
      exact Loop.sound (s0 := ((0 : Int32), M)) (P := fun s => V X 38 [(0, vR X b), (1, .int x3), (2, .int (s.1))] [] (s.2)) h (fun ag hag s hs => s_X3_readItem_F38 C hH hN hQ hb  hag hs)
    · have h := h.2 hc
      refine V_iconst C 0 dX3_readItem_25 (by decide) ?_
      exact V_zret C rfl (by decide) dX3_readItem_26 (hQ _ _ h)
set_option maxRecDepth 20000 in
set_option maxHeartbeats 1000000 in
theorem c_X3_readItem {w : wU} {l : Launch} {b : Nat} {M : mM} {Q : Int32 → mM → Prop} (hb : isC w 3 b) (h : p_X3_readItem b M Q) : CT w l 7 yX3_readItem cX3_readItem 3 (some .boolean) [.ref (uA w b)] M (piI Q) := by
  refine CT.of (by decide +kernel) (Nat.le_of_ble_eq_true rfl) (fun X hw hH hl hP hN C => ?_)
  subst hw
  exact s_X3_readItem C hH hN (fun r M1 q => by rw [hP]; exact ⟨r, rfl, q⟩) hb h
set_option maxRecDepth 20000 in
set_option maxHeartbeats 1000000 in
theorem s_X3_answerTo_J218 {X : wX} (C : CX X cX3_answerTo RX3 (some .int)) (hH : xH X = 3) (hN : xN X = 3) {b : Nat} {p1 : Nat} {p2 : Int32} {M : mM} {Q : Int32 → mM → Prop} (hQ : ∀ r M, Q r M → xPo X (some (.int r)) M) (hb : isC (xW X) 3 b) (h1 : isC (xW X) 2 p1)   (h : p_X3_answerTo_J218 b p1 p2 Q   M) : V X 218 [(0, vR X b), (1, vR X p1), (2, .int p2)] [] M := by
  refine V_aload_n C 1 dX3_answerTo_218 rfl ?_
  refine V_aload_n C 0 dX3_answerTo_219 rfl ?_
  refine V_getR C FL_RX3_15 (f3_1 hb) dX3_answerTo_220 ?_
  refine V_iconst C 0 dX3_answerTo_223 (by decide) ?_
  refine V_iald C (k3_2 hb) (vp_lit (by decide)) dX3_answerTo_224 ?_
  refine V_iload_n C 2 dX3_answerTo_225 rfl ?_
  refine V_bipush C 6 dX3_answerTo_226 (by decide) ?_
  refine V_isub C dX3_answerTo_228 ?_
  refine V_aload_n C 0 dX3_answerTo_229 rfl ?_
  refine V_getR C FL_RX3_15 (f3_1 hb) dX3_answerTo_230 ?_
  refine V_iconst C 1 dX3_answerTo_233 (by decide) ?_
  refine V_iald C (k3_2 hb) (vp_lit (by decide)) dX3_answerTo_234 ?_
  refine V_callV (As := [.int (M.1 (b + 2) (0 : Int32).toNatClampNeg), .int (p2 - 6), .int (M.1 (b + 2) (1 : Int32).toNatClampNeg)]) (st := []) C (c_X2_addTrace h1 h) Y_X2_addTrace Z_X2_addTrace (T := TX2) (N := 13) rfl (o2 h1) (ltN hH (by decide)) u_133 rfl rfl (Nat.le_of_ble_eq_true rfl) dX3_answerTo_235 ?_
  rintro v9 M13 ⟨r14, rfl, h⟩
  show V X 238 _ [.int r14] M13
  exact V_iret C dX3_answerTo_238 (hQ _ _ h)
set_option maxRecDepth 20000 in
set_option maxHeartbeats 1000000 in
theorem s_X3_answerTo {X : wX} (C : CX X cX3_answerTo RX3 (some .int)) (hH : xH X = 3) (hN : xN X = 3) {b : Nat} {p1 : Nat} {p2 : Int32} {M : mM} {Q : Int32 → mM → Prop} (hQ : ∀ r M, Q r M → xPo X (some (.int r)) M) (hb : isC (xW X) 3 b) (h1 : isC (xW X) 2 p1)   (h : p_X3_answerTo b p1 p2 M Q) : V X 0 [(0, vR X b), (1, vR X p1), (2, .int p2)] [] M := by
  refine V_iload_n C 2 dX3_answerTo_0 rfl ?_
  by_cases n0 : p2 = 0
  · have h := h.1 n0
    refine V_tsw (tgt := 72) C dX3_answerTo_1 (71) (by rw [n0]; decide) (by rw [n0]; decide) (by rw [n0]; decide) (by decide) ?_
    refine V_aload_n C 1 dX3_answerTo_72 rfl ?_
    refine V_aload_n C 0 dX3_answerTo_73 rfl ?_
    refine V_getR C FL_RX3_15 (f3_1 hb) dX3_answerTo_74 ?_
    refine V_iconst C 0 dX3_answerTo_77 (by decide) ?_
    refine V_iald C (k3_2 hb) (vp_lit (by decide)) dX3_answerTo_78 ?_
    refine V_aload_n C 0 dX3_answerTo_79 rfl ?_
    refine V_getR C FL_RX3_15 (f3_1 hb) dX3_answerTo_80 ?_
    refine V_iconst C 1 dX3_answerTo_83 (by decide) ?_
    refine V_iald C (k3_2 hb) (vp_lit (by decide)) dX3_answerTo_84 ?_
    refine V_aload_n C 0 dX3_answerTo_85 rfl ?_
    refine V_getR C FL_RX3_15 (f3_1 hb) dX3_answerTo_86 ?_
    refine V_iconst C 2 dX3_answerTo_89 (by decide) ?_
    refine V_iald C (k3_2 hb) (vp_lit (by decide)) dX3_answerTo_90 ?_
    refine V_aload_n C 0 dX3_answerTo_91 rfl ?_
    refine V_getR C FL_RX3_15 (f3_1 hb) dX3_answerTo_92 ?_
    refine V_iconst C 3 dX3_answerTo_95 (by decide) ?_
    refine V_iald C (k3_2 hb) (vp_lit (by decide)) dX3_answerTo_96 ?_
    refine V_callV (As := [.int (M.1 (b + 2) (0 : Int32).toNatClampNeg), .int (M.1 (b + 2) (1 : Int32).toNatClampNeg), .int (M.1 (b + 2) (2 : Int32).toNatClampNeg), .int (M.1 (b + 2) (3 : Int32).toNatClampNeg)]) (st := []) C (c_X2_addStuff h1 h) Y_X2_addStuff Z_X2_addStuff (T := TX2) (N := 13) rfl (o2 h1) (ltN hH (by decide)) u_130 rfl rfl (Nat.le_of_ble_eq_true rfl) dX3_answerTo_97 ?_
    rintro v9 M1 ⟨r2, rfl, h⟩
    show V X 100 _ [.int r2] M1
    exact V_iret C dX3_answerTo_100 (hQ _ _ h)
  by_cases n1 : p2 = 1
  · have h := h.2.1 n1
    refine V_tsw (tgt := 101) C dX3_answerTo_1 (100) (by rw [n1]; decide) (by rw [n1]; decide) (by rw [n1]; decide) (by decide) ?_
    refine V_aload_n C 0 dX3_answerTo_101 rfl ?_
    refine V_getR C FL_RX3_15 (f3_1 hb) dX3_answerTo_102 ?_
    refine V_iconst C 0 dX3_answerTo_105 (by decide) ?_
    refine V_iald C (k3_2 hb) (vp_lit (by decide)) dX3_answerTo_106 ?_
    refine V_iconst C 4 dX3_answerTo_107 (by decide) ?_
    refine V_icmp_ge (tgt := 130) C dX3_answerTo_108 (by decide) (fun hc => ?_) (fun hc => ?_)
    · have h := h.1 hc
      refine V_bipush C (-2) dX3_answerTo_130 (by decide) ?_
      exact V_iret C dX3_answerTo_132 (hQ _ _ h)
    · have h := h.2 hc
      refine V_aload_n C 1 dX3_answerTo_111 rfl ?_
      refine V_aload_n C 0 dX3_answerTo_112 rfl ?_
      refine V_getR C FL_RX3_15 (f3_1 hb) dX3_answerTo_113 ?_
      refine V_iconst C 0 dX3_answerTo_116 (by decide) ?_
      refine V_iald C (k3_2 hb) (vp_lit (by decide)) dX3_answerTo_117 ?_
      refine V_aload_n C 0 dX3_answerTo_118 rfl ?_
      refine V_getR C FL_RX3_15 (f3_1 hb) dX3_answerTo_119 ?_
      refine V_iconst C 1 dX3_answerTo_122 (by decide) ?_
      refine V_iald C (k3_2 hb) (vp_lit (by decide)) dX3_answerTo_123 ?_
      refine V_callV (As := [.int (M.1 (b + 2) (0 : Int32).toNatClampNeg), .int (M.1 (b + 2) (1 : Int32).toNatClampNeg)]) (st := []) C (c_X2_set h1 h) Y_X2_set Z_X2_set (T := TX2) (N := 13) rfl (o2 h1) (ltN hH (by decide)) u_131 rfl rfl (Nat.le_of_ble_eq_true rfl) dX3_answerTo_124 ?_
      rintro v9 M3 ⟨r4, rfl, h⟩
      show V X 127 _ [.int r4] M3
      refine V_goto (tgt := 132) C dX3_answerTo_127 (by decide) ?_
      exact V_iret C dX3_answerTo_132 (hQ _ _ h)
  by_cases n2 : p2 = 2
  · have h := h.2.2.1 n2
    refine V_tsw (tgt := 133) C dX3_answerTo_1 (132) (by rw [n2]; decide) (by rw [n2]; decide) (by rw [n2]; decide) (by decide) ?_
    refine V_aload_n C 1 dX3_answerTo_133 rfl ?_
    refine V_iconst C 4 dX3_answerTo_134 (by decide) ?_
    refine V_aload_n C 0 dX3_answerTo_135 rfl ?_
    refine V_getR C FL_RX3_15 (f3_1 hb) dX3_answerTo_136 ?_
    refine V_iconst C 0 dX3_answerTo_139 (by decide) ?_
    refine V_iald C (k3_2 hb) (vp_lit (by decide)) dX3_answerTo_140 ?_
    refine V_callV (As := [.int 4, .int (M.1 (b + 2) (0 : Int32).toNatClampNeg)]) (st := []) C (c_X2_set h1 h) Y_X2_set Z_X2_set (T := TX2) (N := 13) rfl (o2 h1) (ltN hH (by decide)) u_131 rfl rfl (Nat.le_of_ble_eq_true rfl) dX3_answerTo_141 ?_
    rintro v9 M5 ⟨r6, rfl, h⟩
    show V X 144 _ [.int r6] M5
    exact V_iret C dX3_answerTo_144 (hQ _ _ h)
  by_cases n3 : p2 = 3
  · have h := h.2.2.2.1 n3
    refine V_tsw (tgt := 145) C dX3_answerTo_1 (144) (by rw [n3]; decide) (by rw [n3]; decide) (by rw [n3]; decide) (by decide) ?_
    refine V_aload_n C 1 dX3_answerTo_145 rfl ?_
    refine V_iconst C 5 dX3_answerTo_146 (by decide) ?_
    refine V_aload_n C 0 dX3_answerTo_147 rfl ?_
    refine V_getR C FL_RX3_15 (f3_1 hb) dX3_answerTo_148 ?_
    refine V_iconst C 0 dX3_answerTo_151 (by decide) ?_
    refine V_iald C (k3_2 hb) (vp_lit (by decide)) dX3_answerTo_152 ?_
    refine V_callV (As := [.int 5, .int (M.1 (b + 2) (0 : Int32).toNatClampNeg)]) (st := []) C (c_X2_set h1 h) Y_X2_set Z_X2_set (T := TX2) (N := 13) rfl (o2 h1) (ltN hH (by decide)) u_131 rfl rfl (Nat.le_of_ble_eq_true rfl) dX3_answerTo_153 ?_
    rintro v9 M7 ⟨r8, rfl, h⟩
    show V X 156 _ [.int r8] M7
    exact V_iret C dX3_answerTo_156 (hQ _ _ h)
  by_cases n4 : p2 = 4
  · have h := h.2.2.2.2.1 n4
    refine V_tsw (tgt := 157) C dX3_answerTo_1 (156) (by rw [n4]; decide) (by rw [n4]; decide) (by rw [n4]; decide) (by decide) ?_
    refine V_aload_n C 1 dX3_answerTo_157 rfl ?_
    refine V_bipush C 6 dX3_answerTo_158 (by decide) ?_
    refine V_aload_n C 0 dX3_answerTo_160 rfl ?_
    refine V_getR C FL_RX3_15 (f3_1 hb) dX3_answerTo_161 ?_
    refine V_iconst C 0 dX3_answerTo_164 (by decide) ?_
    refine V_iald C (k3_2 hb) (vp_lit (by decide)) dX3_answerTo_165 ?_
    refine V_callV (As := [.int 6, .int (M.1 (b + 2) (0 : Int32).toNatClampNeg)]) (st := []) C (c_X2_set h1 h) Y_X2_set Z_X2_set (T := TX2) (N := 13) rfl (o2 h1) (ltN hH (by decide)) u_131 rfl rfl (Nat.le_of_ble_eq_true rfl) dX3_answerTo_166 ?_
    rintro v9 M9 ⟨r10, rfl, h⟩
    show V X 169 _ [.int r10] M9
    exact V_iret C dX3_answerTo_169 (hQ _ _ h)
  by_cases n5 : p2 = 5
  · have h := h.2.2.2.2.2.1 n5
    refine V_tsw (tgt := 170) C dX3_answerTo_1 (169) (by rw [n5]; decide) (by rw [n5]; decide) (by rw [n5]; decide) (by decide) ?_
    refine V_aload_n C 1 dX3_answerTo_170 rfl ?_
    refine V_aload_n C 0 dX3_answerTo_171 rfl ?_
    refine V_getR C FL_RX3_15 (f3_1 hb) dX3_answerTo_172 ?_
    refine V_iconst C 0 dX3_answerTo_175 (by decide) ?_
    refine V_iald C (k3_2 hb) (vp_lit (by decide)) dX3_answerTo_176 ?_
    refine V_aload_n C 0 dX3_answerTo_177 rfl ?_
    refine V_getR C FL_RX3_15 (f3_1 hb) dX3_answerTo_178 ?_
    refine V_iconst C 1 dX3_answerTo_181 (by decide) ?_
    refine V_iald C (k3_2 hb) (vp_lit (by decide)) dX3_answerTo_182 ?_
    refine V_callV (As := [.int (M.1 (b + 2) (0 : Int32).toNatClampNeg), .int (M.1 (b + 2) (1 : Int32).toNatClampNeg)]) (st := []) C (c_X2_setHabit h1 h) Y_X2_setHabit Z_X2_setHabit (T := TX2) (N := 13) rfl (o2 h1) (ltN hH (by decide)) u_132 rfl rfl (Nat.le_of_ble_eq_true rfl) dX3_answerTo_183 ?_
    rintro v9 M11 ⟨r12, rfl, h⟩
    show V X 186 _ [.int r12] M11
    exact V_iret C dX3_answerTo_186 (hQ _ _ h)
  by_cases n6 : p2 = 6
  · have h := h.2.2.2.2.2.2.1 n6
    refine V_tsw (tgt := 218) C dX3_answerTo_1 (217) (by rw [n6]; decide) (by rw [n6]; decide) (by rw [n6]; decide) (by decide) ?_
    exact V_sub [0, 1, 2] rfl (s_X3_answerTo_J218 C hH hN hQ hb h1   h)
  by_cases n7 : p2 = 7
  · have h := h.2.2.2.2.2.2.2.1 n7
    refine V_tsw (tgt := 218) C dX3_answerTo_1 (217) (by rw [n7]; decide) (by rw [n7]; decide) (by rw [n7]; decide) (by decide) ?_
    exact V_sub [0, 1, 2] rfl (s_X3_answerTo_J218 C hH hN hQ hb h1   h)
  by_cases n8 : p2 = 8
  · have h := h.2.2.2.2.2.2.2.2.1 n8
    refine V_tsw (tgt := 218) C dX3_answerTo_1 (217) (by rw [n8]; decide) (by rw [n8]; decide) (by rw [n8]; decide) (by decide) ?_
    exact V_sub [0, 1, 2] rfl (s_X3_answerTo_J218 C hH hN hQ hb h1   h)
  by_cases n9 : p2 = 9
  · have h := h.2.2.2.2.2.2.2.2.2.1 n9
    refine V_tsw (tgt := 218) C dX3_answerTo_1 (217) (by rw [n9]; decide) (by rw [n9]; decide) (by rw [n9]; decide) (by decide) ?_
    exact V_sub [0, 1, 2] rfl (s_X3_answerTo_J218 C hH hN hQ hb h1   h)
  by_cases n10 : p2 = 10
  · have h := h.2.2.2.2.2.2.2.2.2.2.1 n10
    refine V_tsw (tgt := 218) C dX3_answerTo_1 (217) (by rw [n10]; decide) (by rw [n10]; decide) (by rw [n10]; decide) (by decide) ?_
    exact V_sub [0, 1, 2] rfl (s_X3_answerTo_J218 C hH hN hQ hb h1   h)
  by_cases n11 : p2 = 11
  · have h := h.2.2.2.2.2.2.2.2.2.2.2.1 n11
    refine V_tsw (tgt := 218) C dX3_answerTo_1 (217) (by rw [n11]; decide) (by rw [n11]; decide) (by rw [n11]; decide) (by decide) ?_
    exact V_sub [0, 1, 2] rfl (s_X3_answerTo_J218 C hH hN hQ hb h1   h)
  by_cases n12 : p2 = 12
  · have h := h.2.2.2.2.2.2.2.2.2.2.2.2.1 n12
    refine V_tsw (tgt := 187) C dX3_answerTo_1 (186) (by rw [n12]; decide) (by rw [n12]; decide) (by rw [n12]; decide) (by decide) ?_
    refine V_aload_n C 1 dX3_answerTo_187 rfl ?_
    refine V_aload_n C 0 dX3_answerTo_188 rfl ?_
    refine V_getR C FL_RX3_15 (f3_1 hb) dX3_answerTo_189 ?_
    refine V_iconst C 0 dX3_answerTo_192 (by decide) ?_
    refine V_iald C (k3_2 hb) (vp_lit (by decide)) dX3_answerTo_193 ?_
    refine V_bipush C 6 dX3_answerTo_194 (by decide) ?_
    refine V_iconst C 0 dX3_answerTo_196 (by decide) ?_
    refine V_callV (As := [.int (M.1 (b + 2) (0 : Int32).toNatClampNeg), .int 6, .int 0]) (st := []) C (c_X2_addTrace h1 h) Y_X2_addTrace Z_X2_addTrace (T := TX2) (N := 13) rfl (o2 h1) (ltN hH (by decide)) u_133 rfl rfl (Nat.le_of_ble_eq_true rfl) dX3_answerTo_197 ?_
    rintro v9 M15 ⟨r16, rfl, h⟩
    show V X 200 _ [.int r16] M15
    exact V_iret C dX3_answerTo_200 (hQ _ _ h)
  by_cases n13 : p2 = 13
  · have h := h.2.2.2.2.2.2.2.2.2.2.2.2.2.1 n13
    refine V_tsw (tgt := 201) C dX3_answerTo_1 (200) (by rw [n13]; decide) (by rw [n13]; decide) (by rw [n13]; decide) (by decide) ?_
    refine V_aload_n C 1 dX3_answerTo_201 rfl ?_
    refine V_aload_n C 0 dX3_answerTo_202 rfl ?_
    refine V_getR C FL_RX3_15 (f3_1 hb) dX3_answerTo_203 ?_
    refine V_iconst C 0 dX3_answerTo_206 (by decide) ?_
    refine V_iald C (k3_2 hb) (vp_lit (by decide)) dX3_answerTo_207 ?_
    refine V_aload_n C 0 dX3_answerTo_208 rfl ?_
    refine V_getR C FL_RX3_15 (f3_1 hb) dX3_answerTo_209 ?_
    refine V_iconst C 1 dX3_answerTo_212 (by decide) ?_
    refine V_iald C (k3_2 hb) (vp_lit (by decide)) dX3_answerTo_213 ?_
    refine V_callV (As := [.int (M.1 (b + 2) (0 : Int32).toNatClampNeg), .int (M.1 (b + 2) (1 : Int32).toNatClampNeg)]) (st := []) C (c_X2_paint h1 h) Y_X2_paint Z_X2_paint (T := TX2) (N := 13) rfl (o2 h1) (ltN hH (by decide)) u_134 rfl rfl (Nat.le_of_ble_eq_true rfl) dX3_answerTo_214 ?_
    rintro v9 M17 ⟨r18, rfl, h⟩
    show V X 217 _ [.int r18] M17
    exact V_iret C dX3_answerTo_217 (hQ _ _ h)
  have h := h.2.2.2.2.2.2.2.2.2.2.2.2.2.2 n0 n1 n2 n3 n4 n5 n6 n7 n8 n9 n10 n11 n12 n13
  refine V_tswOut (tgt := 218) C dX3_answerTo_1 (by have q0 : p2.toInt ≠ 0 := fun e => n0 (Int32.toInt_inj.mp (e.trans (by decide))); have q1 : p2.toInt ≠ 1 := fun e => n1 (Int32.toInt_inj.mp (e.trans (by decide))); have q2 : p2.toInt ≠ 2 := fun e => n2 (Int32.toInt_inj.mp (e.trans (by decide))); have q3 : p2.toInt ≠ 3 := fun e => n3 (Int32.toInt_inj.mp (e.trans (by decide))); have q4 : p2.toInt ≠ 4 := fun e => n4 (Int32.toInt_inj.mp (e.trans (by decide))); have q5 : p2.toInt ≠ 5 := fun e => n5 (Int32.toInt_inj.mp (e.trans (by decide))); have q6 : p2.toInt ≠ 6 := fun e => n6 (Int32.toInt_inj.mp (e.trans (by decide))); have q7 : p2.toInt ≠ 7 := fun e => n7 (Int32.toInt_inj.mp (e.trans (by decide))); have q8 : p2.toInt ≠ 8 := fun e => n8 (Int32.toInt_inj.mp (e.trans (by decide))); have q9 : p2.toInt ≠ 9 := fun e => n9 (Int32.toInt_inj.mp (e.trans (by decide))); have q10 : p2.toInt ≠ 10 := fun e => n10 (Int32.toInt_inj.mp (e.trans (by decide))); have q11 : p2.toInt ≠ 11 := fun e => n11 (Int32.toInt_inj.mp (e.trans (by decide))); have q12 : p2.toInt ≠ 12 := fun e => n12 (Int32.toInt_inj.mp (e.trans (by decide))); have q13 : p2.toInt ≠ 13 := fun e => n13 (Int32.toInt_inj.mp (e.trans (by decide))); omega) (by decide) ?_
  exact V_sub [0, 1, 2] rfl (s_X3_answerTo_J218 C hH hN hQ hb h1   h)
set_option maxRecDepth 20000 in
set_option maxHeartbeats 1000000 in
theorem c_X3_answerTo {w : wU} {l : Launch} {b : Nat} {p1 : Nat} {p2 : Int32} {M : mM} {Q : Int32 → mM → Prop} (hb : isC w 3 b) (h1 : isC w 2 p1) (h : p_X3_answerTo b p1 p2 M Q) : CT w l 3 yX3_answerTo cX3_answerTo 3 (some .int) [.ref (uA w b), .ref (uA w p1), .int p2] M (piI Q) := by
  refine CT.of (by decide +kernel) (Nat.le_of_ble_eq_true rfl) (fun X hw hH hl hP hN C => ?_)
  subst hw
  exact s_X3_answerTo C hH hN (fun r M1 q => by rw [hP]; exact ⟨r, rfl, q⟩) hb h1 h
