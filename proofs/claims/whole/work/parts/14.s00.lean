set_option maxRecDepth 20000 in
set_option maxHeartbeats 1000000 in
theorem s_X5_measure_F6 {X : wX} (C : CX X cX5_measure RX5 (none)) (hH : xH X = 0) (hN : xN X = 1) {b : Nat} {M : mM} {Q : mM → Prop} (hQ : ∀ M, Q M → xPo X none M) (hb : isC (xW X) 5 b) {ag6 : mM → Prop} (hag6 : ∀ s, ag6 s → V X 6 [(0, vR X b)] [] s) (h : p_X5_measure_F6 b  Q  ag6  M) : V X 6 [(0, vR X b)] [] M := by
  refine V_aload_n C 0 dX5_measure_6 rfl ?_
  refine V_getI C FL_RX5_18 (f5_2 hb) dX5_measure_7 ?_
  refine V_if_le (tgt := 40) C dX5_measure_10 (by decide) (fun hc => ?_) (fun hc => ?_)
  · have h := h.1 hc
    exact V_vret C dX5_measure_40 (hQ _ h)
  · have h := h.2 hc
    refine V_aload_n C 0 dX5_measure_13 rfl ?_
    refine V_getR C FL_RX5_11 (f5_0 hb) dX5_measure_14 ?_
    refine V_aload_n C 0 dX5_measure_17 rfl ?_
    refine V_getI C FL_RX5_18 (f5_2 hb) dX5_measure_18 ?_
    refine V_iconst C 1 dX5_measure_21 (by decide) ?_
    refine V_isub C dX5_measure_22 ?_
    obtain ⟨b2, h⟩ := h
    refine V_iald C (k5_1 hb) b2 dX5_measure_23 ?_
    refine V_if_ne (tgt := 40) C dX5_measure_24 (by decide) (fun hc => ?_) (fun hc => ?_)
    · have h := h.1 hc
      exact V_vret C dX5_measure_40 (hQ _ h)
    · have h := h.2 hc
      refine V_aload_n C 0 dX5_measure_27 rfl ?_
      refine V_dup C dX5_measure_28 rfl ?_
      refine V_getI C FL_RX5_18 (f5_2 hb) dX5_measure_29 ?_
      refine V_iconst C 1 dX5_measure_32 (by decide) ?_
      refine V_isub C dX5_measure_33 ?_
      refine V_putI C FW_RX5_18 (f5_2 hb) rfl rfl dX5_measure_34 ?_
      refine V_nmM (fun M3 e_M3 => ?_)
      have h := h M3 e_M3
      refine V_goto (tgt := 6) C dX5_measure_37 (by decide) ?_
      exact V_sub [0] rfl (hag6 M3 h)
set_option maxRecDepth 20000 in
set_option maxHeartbeats 1000000 in
theorem s_X5_measure {X : wX} (C : CX X cX5_measure RX5 (none)) (hH : xH X = 0) (hN : xN X = 1) {b : Nat} {M : mM} {Q : mM → Prop} (hQ : ∀ M, Q M → xPo X none M) (hb : isC (xW X) 5 b)   (h : p_X5_measure b M Q) : V X 0 [(0, vR X b)] [] M := by
  refine V_aload_n C 0 dX5_measure_0 rfl ?_
  refine V_bipush C 16 dX5_measure_1 (by decide) ?_
  refine V_putI C FW_RX5_18 (f5_2 hb) rfl rfl dX5_measure_3 ?_
  refine V_nmM (fun M1 e_M1 => ?_)
  have h := h M1 e_M1
  refine V_sub [0] rfl ?_
  exact Loop.sound (s0 := M1) (P := fun s => V X 6 [(0, vR X b)] [] s) h (fun ag hag s hs => s_X5_measure_F6 C hH hN hQ hb  hag hs)
set_option maxRecDepth 20000 in
set_option maxHeartbeats 1000000 in
theorem c_X5_measure {w : wU} {l : Launch} {b : Nat} {M : mM} {Q : mM → Prop} (hb : isC w 5 b) (h : p_X5_measure b M Q) : CT w l 0 yX5_measure cX5_measure 1 (none) [.ref (uA w b)] M (piV Q) := by
  refine CT.of (by decide +kernel) (Nat.le_of_ble_eq_true rfl) (fun X hw hH hl hP hN C => ?_)
  subst hw
  exact s_X5_measure C hH hN (fun M1 q => by rw [hP]; exact ⟨rfl, q⟩) hb h
set_option maxRecDepth 20000 in
set_option maxHeartbeats 1000000 in
theorem s_X5_addTimes_F9 {X : wX} (C : CX X cX5_addTimes RX5 (none)) (hH : xH X = 1) (hN : xN X = 9) {b : Nat} {p1 : Int64} {p2 : Int32} {M : mM} {Q : mM → Prop} (hQ : ∀ M, Q M → xPo X none M) (hb : isC (xW X) 5 b) {v4 : Int64} {v6 : Int64} {v8 : Int32} {ag9 : (Int64 × Int64 × Int32 × mM) → Prop} (hag9 : ∀ s, ag9 s → V X 9 [(0, vR X b), (3, .int p2), (4, .long (s.1)), (6, .long (s.2.1)), (8, .int (s.2.2.1))] [] (s.2.2.2)) (h : p_X5_addTimes_F9 b p1 p2  Q  ag9 v4 v6 v8 M) : V X 9 [(0, vR X b), (3, .int p2), (4, .long v4), (6, .long v6), (8, .int v8)] [] M := by
  refine V_iload C 4 dX5_addTimes_9 rfl ?_
  refine V_bipush C 16 dX5_addTimes_11 (by decide) ?_
  refine V_icmp_ge (tgt := 73) C dX5_addTimes_13 (by decide) (fun hc => ?_) (fun hc => ?_)
  · have h := h.1 hc
    refine V_aload_n C 0 dX5_addTimes_73 rfl ?_
    refine V_callV (As := []) (st := []) C (c_X5_measure hb h) Y_X5_measure Z_X5_measure (T := TX5) (N := 3) rfl (o5 hb) (ltN hH (by decide)) u_2 rfl rfl (Nat.le_of_ble_eq_true rfl) dX5_addTimes_74 ?_
    rintro v9 M1 ⟨rfl, h⟩
    show V X 77 _ [] M1
    exact V_vret C dX5_addTimes_77 (hQ _ h)
  · have h := h.2 hc
    refine V_lload C 3 dX5_addTimes_16 rfl ?_
    refine V_aload_n C 0 dX5_addTimes_18 rfl ?_
    refine V_getR C FL_RX5_11 (f5_0 hb) dX5_addTimes_19 ?_
    refine V_iload C 4 dX5_addTimes_22 rfl ?_
    obtain ⟨b2, h⟩ := h
    refine V_iald C (k5_1 hb) b2 dX5_addTimes_24 ?_
    refine V_i2l C dX5_addTimes_25 ?_
    refine V_lload C 2 dX5_addTimes_26 rfl ?_
    refine V_ldc2 C u_3 dX5_addTimes_28 ?_
    refine V_land C dX5_addTimes_31 ?_
    refine V_iload_n C 1 dX5_addTimes_32 rfl ?_
    refine V_i2l C dX5_addTimes_33 ?_
    refine V_lmul C dX5_addTimes_34 ?_
    refine V_ladd C dX5_addTimes_35 ?_
    refine V_ladd C dX5_addTimes_36 ?_
    refine V_nmL (fun x3 e_x3 => ?_)
    have h := h x3 e_x3
    refine V_lstore (lv' := [(6, .long x3), (0, vR X b), (3, .int p2), (4, .long v4), (8, .int v8)]) C (ltN hN (by decide)) dX5_addTimes_37 rfl ?_
    refine V_aload_n C 1 dX5_addTimes_39 rfl ?_
    refine V_getR C FL_RX5_11 (f5_0 hb) dX5_addTimes_40 ?_
    refine V_iload C 4 dX5_addTimes_43 rfl ?_
    refine V_lload C 0 dX5_addTimes_45 rfl ?_
    refine V_ldc2 C u_3 dX5_addTimes_47 ?_
    refine V_land C dX5_addTimes_50 ?_
    refine V_l2i C dX5_addTimes_51 ?_
    obtain ⟨b5, h⟩ := h
    refine V_iast C (k5_1 hb) b5 dX5_addTimes_52 ?_
    refine V_nmM (fun M4 e_M4 => ?_)
    have h := h M4 e_M4
    refine V_lload C 0 dX5_addTimes_53 rfl ?_
    refine V_bipush C 30 dX5_addTimes_55 (by decide) ?_
    refine V_lushr C dX5_addTimes_57 ?_
    refine V_nmL (fun x6 e_x6 => ?_)
    have h := h x6 e_x6
    refine V_lstore (lv' := [(6, .long x6), (0, vR X b), (3, .int p2), (4, .long v4), (8, .int v8)]) C (ltN hN (by decide)) dX5_addTimes_58 rfl ?_
    refine V_lload C 3 dX5_addTimes_60 rfl ?_
    refine V_bipush C 30 dX5_addTimes_62 (by decide) ?_
    refine V_lushr C dX5_addTimes_64 ?_
    refine V_nmL (fun x7 e_x7 => ?_)
    have h := h x7 e_x7
    refine V_lstore (lv' := [(4, .long x7), (6, .long x6), (0, vR X b), (3, .int p2), (8, .int v8)]) C (ltN hN (by decide)) dX5_addTimes_65 rfl ?_
    refine V_iinc (v := (v8 + 1)) (lv' := [(8, .int (v8 + 1)), (4, .long x7), (6, .long x6), (0, vR X b), (3, .int p2)]) C 4 (ltN hN (by decide)) dX5_addTimes_67 rfl rfl rfl ?_
    refine V_goto (tgt := 9) C dX5_addTimes_70 (by decide) ?_
    exact V_sub [3, 4, 1, 2, 0] rfl (hag9 (x7, x6, (v8 + 1), M4) h)
set_option maxRecDepth 20000 in
set_option maxHeartbeats 1000000 in
theorem s_X5_addTimes {X : wX} (C : CX X cX5_addTimes RX5 (none)) (hH : xH X = 1) (hN : xN X = 9) {b : Nat} {p1 : Int64} {p2 : Int32} {M : mM} {Q : mM → Prop} (hQ : ∀ M, Q M → xPo X none M) (hb : isC (xW X) 5 b)   (h : p_X5_addTimes b p1 p2 M Q) : V X 0 [(0, vR X b), (1, .long p1), (3, .int p2)] [] M := by
  refine V_lload_n C 1 dX5_addTimes_0 rfl ?_
  refine V_lstore (lv' := [(4, .long p1), (0, vR X b), (1, .long p1), (3, .int p2)]) C (ltN hN (by decide)) dX5_addTimes_1 rfl ?_
  refine V_lconst C 0 dX5_addTimes_3 (by decide) ?_
  refine V_lstore (lv' := [(6, .long 0), (4, .long p1), (0, vR X b), (1, .long p1), (3, .int p2)]) C (ltN hN (by decide)) dX5_addTimes_4 rfl ?_
  refine V_iconst C 0 dX5_addTimes_6 (by decide) ?_
  refine V_istore (lv' := [(8, .int 0), (6, .long 0), (4, .long p1), (0, vR X b), (1, .long p1), (3, .int p2)]) C (ltN hN (by decide)) dX5_addTimes_7 rfl ?_
  refine V_sub [3, 5, 2, 1, 0] rfl ?_
  exact Loop.sound (s0 := (p1, (0 : Int64), (0 : Int32), M)) (P := fun s => V X 9 [(0, vR X b), (3, .int p2), (4, .long (s.1)), (6, .long (s.2.1)), (8, .int (s.2.2.1))] [] (s.2.2.2)) h (fun ag hag s hs => s_X5_addTimes_F9 C hH hN hQ hb  hag hs)
set_option maxRecDepth 20000 in
set_option maxHeartbeats 1000000 in
theorem c_X5_addTimes {w : wU} {l : Launch} {b : Nat} {p1 : Int64} {p2 : Int32} {M : mM} {Q : mM → Prop} (hb : isC w 5 b) (h : p_X5_addTimes b p1 p2 M Q) : CT w l 1 yX5_addTimes cX5_addTimes 9 (none) [.ref (uA w b), .long p1, .int p2] M (piV Q) := by
  refine CT.of (by decide +kernel) (Nat.le_of_ble_eq_true rfl) (fun X hw hH hl hP hN C => ?_)
  subst hw
  exact s_X5_addTimes C hH hN (fun M1 q => by rw [hP]; exact ⟨rfl, q⟩) hb h
set_option maxRecDepth 20000 in
set_option maxHeartbeats 1000000 in
theorem s_X5_set_F2 {X : wX} (C : CX X cX5_set RX5 (none)) (hH : xH X = 2) (hN : xN X = 4) {b : Nat} {p1 : Int64} {M : mM} {Q : mM → Prop} (hQ : ∀ M, Q M → xPo X none M) (hb : isC (xW X) 5 b) {v3 : Int32} {ag2 : (Int32 × mM) → Prop} (hag2 : ∀ s, ag2 s → V X 2 [(0, vR X b), (1, .long p1), (3, .int (s.1))] [] (s.2)) (h : p_X5_set_F2 b p1  Q  ag2 v3 M) : V X 2 [(0, vR X b), (1, .long p1), (3, .int v3)] [] M := by
  refine V_iload_n C 2 dX5_set_2 rfl ?_
  refine V_bipush C 16 dX5_set_3 (by decide) ?_
  refine V_icmp_ge (tgt := 21) C dX5_set_5 (by decide) (fun hc => ?_) (fun hc => ?_)
  · have h := h.1 hc
    refine V_aload_n C 0 dX5_set_21 rfl ?_
    refine V_lload_n C 1 dX5_set_22 rfl ?_
    refine V_iconst C 1 dX5_set_23 (by decide) ?_
    refine V_callV (As := [.long p1, .int 1]) (st := []) C (c_X5_addTimes hb h) Y_X5_addTimes Z_X5_addTimes (T := TX5) (N := 3) rfl (o5 hb) (ltN hH (by decide)) u_4 rfl rfl (Nat.le_of_ble_eq_true rfl) dX5_set_24 ?_
    rintro v9 M1 ⟨rfl, h⟩
    show V X 27 _ [] M1
    exact V_vret C dX5_set_27 (hQ _ h)
  · have h := h.2 hc
    refine V_aload_n C 0 dX5_set_8 rfl ?_
    refine V_getR C FL_RX5_11 (f5_0 hb) dX5_set_9 ?_
    refine V_iload_n C 2 dX5_set_12 rfl ?_
    refine V_iconst C 0 dX5_set_13 (by decide) ?_
    obtain ⟨b3, h⟩ := h
    refine V_iast C (k5_1 hb) b3 dX5_set_14 ?_
    refine V_nmM (fun M2 e_M2 => ?_)
    have h := h M2 e_M2
    refine V_iinc (v := (v3 + 1)) (lv' := [(3, .int (v3 + 1)), (0, vR X b), (1, .long p1)]) C 2 (ltN hN (by decide)) dX5_set_15 rfl rfl rfl ?_
    refine V_goto (tgt := 2) C dX5_set_18 (by decide) ?_
    exact V_sub [1, 2, 0] rfl (hag2 ((v3 + 1), M2) h)
set_option maxRecDepth 20000 in
set_option maxHeartbeats 1000000 in
theorem s_X5_set {X : wX} (C : CX X cX5_set RX5 (none)) (hH : xH X = 2) (hN : xN X = 4) {b : Nat} {p1 : Int64} {M : mM} {Q : mM → Prop} (hQ : ∀ M, Q M → xPo X none M) (hb : isC (xW X) 5 b)   (h : p_X5_set b p1 M Q) : V X 0 [(0, vR X b), (1, .long p1)] [] M := by
  refine V_iconst C 0 dX5_set_0 (by decide) ?_
  refine V_istore_n (lv' := [(3, .int 0), (0, vR X b), (1, .long p1)]) C (ltN hN (by decide)) dX5_set_1 rfl ?_
  refine V_sub [1, 2, 0] rfl ?_
  exact Loop.sound (s0 := ((0 : Int32), M)) (P := fun s => V X 2 [(0, vR X b), (1, .long p1), (3, .int (s.1))] [] (s.2)) h (fun ag hag s hs => s_X5_set_F2 C hH hN hQ hb  hag hs)
set_option maxRecDepth 20000 in
set_option maxHeartbeats 1000000 in
theorem c_X5_set {w : wU} {l : Launch} {b : Nat} {p1 : Int64} {M : mM} {Q : mM → Prop} (hb : isC w 5 b) (h : p_X5_set b p1 M Q) : CT w l 2 yX5_set cX5_set 4 (none) [.ref (uA w b), .long p1] M (piV Q) := by
  refine CT.of (by decide +kernel) (Nat.le_of_ble_eq_true rfl) (fun X hw hH hl hP hN C => ?_)
  subst hw
  exact s_X5_set C hH hN (fun M1 q => by rw [hP]; exact ⟨rfl, q⟩) hb h
set_option maxRecDepth 20000 in
set_option maxHeartbeats 1000000 in
theorem s_X5_isZero {X : wX} (C : CX X cX5_isZero RX5 (some .boolean)) (hH : xH X = 0) (hN : xN X = 1) {b : Nat} {M : mM} {Q : Int32 → Prop} (hQ : ∀ r, Q r → xPo X (some (.int r)) M) (hb : isC (xW X) 5 b)   (h : p_X5_isZero b M Q) : V X 0 [(0, vR X b)] [] M := by
  refine V_aload_n C 0 dX5_isZero_0 rfl ?_
  refine V_getI C FL_RX5_18 (f5_2 hb) dX5_isZero_1 ?_
  refine V_if_ne (tgt := 11) C dX5_isZero_4 (by decide) (fun hc => ?_) (fun hc => ?_)
  · have h := h.1 hc
    refine V_iconst C 0 dX5_isZero_11 (by decide) ?_
    exact V_zret C rfl (by decide) dX5_isZero_12 (hQ _ h)
  · have h := h.2 hc
    refine V_iconst C 1 dX5_isZero_7 (by decide) ?_
    refine V_goto (tgt := 12) C dX5_isZero_8 (by decide) ?_
    exact V_zret C rfl (by decide) dX5_isZero_12 (hQ _ h)
set_option maxRecDepth 20000 in
set_option maxHeartbeats 1000000 in
theorem c_X5_isZero {w : wU} {l : Launch} {b : Nat} {M : mM} {Q : Int32 → Prop} (hb : isC w 5 b) (h : p_X5_isZero b M Q) : CT w l 0 yX5_isZero cX5_isZero 1 (some .boolean) [.ref (uA w b)] M (poI M Q) := by
  refine CT.of (by decide +kernel) (Nat.le_of_ble_eq_true rfl) (fun X hw hH hl hP hN C => ?_)
  subst hw
  exact s_X5_isZero C hH hN (fun r q => by rw [hP]; exact ⟨rfl, r, rfl, q⟩) hb h
set_option maxRecDepth 20000 in
set_option maxHeartbeats 1000000 in
theorem s_J6_bitCount_0f7a4 {X : wX} (C : CX X cJ6_bitCount_0f7a4 RJ6 (some .int)) (hH : xH X = 0) (hN : xN X = 1) {p1 : Int32} {M : mM} {Q : Int32 → Prop} (hQ : ∀ r, Q r → xPo X (some (.int r)) M)    (h : p_J6_bitCount_0f7a4 p1 M Q) : V X 0 [(0, .int p1)] [] M := by
  refine V_iload_n C 0 dJ6_bitCount_0f7a4_0 rfl ?_
  refine V_iload_n C 0 dJ6_bitCount_0f7a4_1 rfl ?_
  refine V_iconst C 1 dJ6_bitCount_0f7a4_2 (by decide) ?_
  refine V_iushr C dJ6_bitCount_0f7a4_3 ?_
  refine V_ldcw C u_5 dJ6_bitCount_0f7a4_4 ?_
  refine V_iand C dJ6_bitCount_0f7a4_7 ?_
  refine V_isub C dJ6_bitCount_0f7a4_8 ?_
  refine V_nmI (fun x1 e_x1 => ?_)
  have h := h x1 e_x1
  refine V_istore_n (lv' := [(0, .int x1)]) C (ltN hN (by decide)) dJ6_bitCount_0f7a4_9 rfl ?_
  refine V_iload_n C 0 dJ6_bitCount_0f7a4_10 rfl ?_
  refine V_ldcw C u_6 dJ6_bitCount_0f7a4_11 ?_
  refine V_iand C dJ6_bitCount_0f7a4_14 ?_
  refine V_iload_n C 0 dJ6_bitCount_0f7a4_15 rfl ?_
  refine V_iconst C 2 dJ6_bitCount_0f7a4_16 (by decide) ?_
  refine V_iushr C dJ6_bitCount_0f7a4_17 ?_
  refine V_ldcw C u_6 dJ6_bitCount_0f7a4_18 ?_
  refine V_iand C dJ6_bitCount_0f7a4_21 ?_
  refine V_iadd C dJ6_bitCount_0f7a4_22 ?_
  refine V_nmI (fun x2 e_x2 => ?_)
  have h := h x2 e_x2
  refine V_istore_n (lv' := [(0, .int x2)]) C (ltN hN (by decide)) dJ6_bitCount_0f7a4_23 rfl ?_
  refine V_iload_n C 0 dJ6_bitCount_0f7a4_24 rfl ?_
  refine V_iload_n C 0 dJ6_bitCount_0f7a4_25 rfl ?_
  refine V_iconst C 4 dJ6_bitCount_0f7a4_26 (by decide) ?_
  refine V_iushr C dJ6_bitCount_0f7a4_27 ?_
  refine V_iadd C dJ6_bitCount_0f7a4_28 ?_
  refine V_ldcw C u_7 dJ6_bitCount_0f7a4_29 ?_
  refine V_iand C dJ6_bitCount_0f7a4_32 ?_
  refine V_nmI (fun x3 e_x3 => ?_)
  have h := h x3 e_x3
  refine V_istore_n (lv' := [(0, .int x3)]) C (ltN hN (by decide)) dJ6_bitCount_0f7a4_33 rfl ?_
  refine V_iload_n C 0 dJ6_bitCount_0f7a4_34 rfl ?_
  refine V_iload_n C 0 dJ6_bitCount_0f7a4_35 rfl ?_
  refine V_bipush C 8 dJ6_bitCount_0f7a4_36 (by decide) ?_
  refine V_iushr C dJ6_bitCount_0f7a4_38 ?_
  refine V_iadd C dJ6_bitCount_0f7a4_39 ?_
  refine V_nmI (fun x4 e_x4 => ?_)
  have h := h x4 e_x4
  refine V_istore_n (lv' := [(0, .int x4)]) C (ltN hN (by decide)) dJ6_bitCount_0f7a4_40 rfl ?_
  refine V_iload_n C 0 dJ6_bitCount_0f7a4_41 rfl ?_
  refine V_iload_n C 0 dJ6_bitCount_0f7a4_42 rfl ?_
  refine V_bipush C 16 dJ6_bitCount_0f7a4_43 (by decide) ?_
  refine V_iushr C dJ6_bitCount_0f7a4_45 ?_
  refine V_iadd C dJ6_bitCount_0f7a4_46 ?_
  refine V_nmI (fun x5 e_x5 => ?_)
  have h := h x5 e_x5
  refine V_istore_n (lv' := [(0, .int x5)]) C (ltN hN (by decide)) dJ6_bitCount_0f7a4_47 rfl ?_
  refine V_iload_n C 0 dJ6_bitCount_0f7a4_48 rfl ?_
  refine V_bipush C 63 dJ6_bitCount_0f7a4_49 (by decide) ?_
  refine V_iand C dJ6_bitCount_0f7a4_51 ?_
  exact V_iret C dJ6_bitCount_0f7a4_52 (hQ _ h)
set_option maxRecDepth 20000 in
set_option maxHeartbeats 1000000 in
theorem c_J6_bitCount_0f7a4 {w : wU} {l : Launch} {p1 : Int32} {M : mM} {Q : Int32 → Prop}  (h : p_J6_bitCount_0f7a4 p1 M Q) : CT w l 0 yJ6_bitCount_0f7a4 cJ6_bitCount_0f7a4 1 (some .int) [.int p1] M (poI M Q) := by
  refine CT.of (by decide +kernel) (Nat.le_of_ble_eq_true rfl) (fun X hw hH hl hP hN C => ?_)
  subst hw
  exact s_J6_bitCount_0f7a4 C hH hN (fun r q => by rw [hP]; exact ⟨rfl, r, rfl, q⟩)  h
set_option maxRecDepth 20000 in
set_option maxHeartbeats 1000000 in
theorem s_X5_twos_F2 {X : wX} (C : CX X cX5_twos RX5 (some .int)) (hH : xH X = 1) (hN : xN X = 2) {b : Nat} {M : mM} {Q : Int32 → Prop} (hQ : ∀ r, Q r → xPo X (some (.int r)) M) (hb : isC (xW X) 5 b) {v1 : Int32} {ag2 : Int32 → Prop} (hag2 : ∀ s, ag2 s → V X 2 [(0, vR X b), (1, .int s)] [] M) (h : p_X5_twos_F2 b  M Q  ag2 v1) : V X 2 [(0, vR X b), (1, .int v1)] [] M := by
  refine V_iload_n C 1 dX5_twos_2 rfl ?_
  refine V_aload_n C 0 dX5_twos_3 rfl ?_
  refine V_getI C FL_RX5_18 (f5_2 hb) dX5_twos_4 ?_
  refine V_icmp_ge (tgt := 56) C dX5_twos_7 (by decide) (fun hc => ?_) (fun hc => ?_)
  · have h := h.1 hc
    refine V_iconst C 0 dX5_twos_56 (by decide) ?_
    exact V_iret C dX5_twos_57 (hQ _ h)
  · have h := h.2 hc
    refine V_iload_n C 1 dX5_twos_10 rfl ?_
    refine V_bipush C 16 dX5_twos_11 (by decide) ?_
    refine V_icmp_ge (tgt := 56) C dX5_twos_13 (by decide) (fun hc => ?_) (fun hc => ?_)
    · have h := h.1 hc
      refine V_iconst C 0 dX5_twos_56 (by decide) ?_
      exact V_iret C dX5_twos_57 (hQ _ h)
    · have h := h.2 hc
      refine V_aload_n C 0 dX5_twos_16 rfl ?_
      refine V_getR C FL_RX5_11 (f5_0 hb) dX5_twos_17 ?_
      refine V_iload_n C 1 dX5_twos_20 rfl ?_
      obtain ⟨b1, h⟩ := h
      refine V_iald C (k5_1 hb) b1 dX5_twos_21 ?_
      refine V_if_eq (tgt := 50) C dX5_twos_22 (by decide) (fun hc => ?_) (fun hc => ?_)
      · have h := h.1 hc
        refine V_iinc (v := (v1 + 1)) (lv' := [(1, .int (v1 + 1)), (0, vR X b)]) C 1 (ltN hN (by decide)) dX5_twos_50 rfl rfl rfl ?_
        refine V_goto (tgt := 2) C dX5_twos_53 (by decide) ?_
        exact V_sub [1, 0] rfl (hag2 (v1 + 1) h)
      · have h := h.2 hc
        refine V_iload_n C 1 dX5_twos_25 rfl ?_
        refine V_bipush C 30 dX5_twos_26 (by decide) ?_
        refine V_imul C dX5_twos_28 ?_
        refine V_aload_n C 0 dX5_twos_29 rfl ?_
        refine V_getR C FL_RX5_11 (f5_0 hb) dX5_twos_30 ?_
        refine V_iload_n C 1 dX5_twos_33 rfl ?_
        obtain ⟨b2, h⟩ := h
        refine V_iald C (k5_1 hb) b2 dX5_twos_34 ?_
        refine V_aload_n C 0 dX5_twos_35 rfl ?_
        refine V_getR C FL_RX5_11 (f5_0 hb) dX5_twos_36 ?_
        refine V_iload_n C 1 dX5_twos_39 rfl ?_
        obtain ⟨b3, h⟩ := h
        refine V_iald C (k5_1 hb) b3 dX5_twos_40 ?_
        refine V_ineg C dX5_twos_41 ?_
        refine V_iand C dX5_twos_42 ?_
        refine V_iconst C 1 dX5_twos_43 (by decide) ?_
        refine V_isub C dX5_twos_44 ?_
        refine V_callS (As := [.int (((M.1 (b + 1) v1.toNatClampNeg) &&& (-(M.1 (b + 1) v1.toNatClampNeg))) - 1)]) (st := [.int (v1 * 30)]) C (c_J6_bitCount_0f7a4  h) Y_J6_bitCount_0f7a4 Z_J6_bitCount_0f7a4 (ltN hH (by decide)) u_8 rfl rfl (Nat.le_of_ble_eq_true rfl) dX5_twos_45 ?_
        rintro v9 M9 ⟨rfl, r4, rfl, h⟩
        show V X 48 _ [.int r4, .int (v1 * 30)] M
        refine V_iadd C dX5_twos_48 ?_
        exact V_iret C dX5_twos_49 (hQ _ h)
set_option maxRecDepth 20000 in
set_option maxHeartbeats 1000000 in
theorem s_X5_twos {X : wX} (C : CX X cX5_twos RX5 (some .int)) (hH : xH X = 1) (hN : xN X = 2) {b : Nat} {M : mM} {Q : Int32 → Prop} (hQ : ∀ r, Q r → xPo X (some (.int r)) M) (hb : isC (xW X) 5 b)   (h : p_X5_twos b M Q) : V X 0 [(0, vR X b)] [] M := by
  refine V_iconst C 0 dX5_twos_0 (by decide) ?_
  refine V_istore_n (lv' := [(1, .int 0), (0, vR X b)]) C (ltN hN (by decide)) dX5_twos_1 rfl ?_
  refine V_sub [1, 0] rfl ?_
  exact Loop.sound (s0 := (0 : Int32)) (P := fun s => V X 2 [(0, vR X b), (1, .int s)] [] M) h (fun ag hag s hs => s_X5_twos_F2 C hH hN hQ hb  hag hs)
set_option maxRecDepth 20000 in
set_option maxHeartbeats 1000000 in
theorem c_X5_twos {w : wU} {l : Launch} {b : Nat} {M : mM} {Q : Int32 → Prop} (hb : isC w 5 b) (h : p_X5_twos b M Q) : CT w l 1 yX5_twos cX5_twos 2 (some .int) [.ref (uA w b)] M (poI M Q) := by
  refine CT.of (by decide +kernel) (Nat.le_of_ble_eq_true rfl) (fun X hw hH hl hP hN C => ?_)
  subst hw
  exact s_X5_twos C hH hN (fun r q => by rw [hP]; exact ⟨rfl, r, rfl, q⟩) hb h
set_option maxRecDepth 20000 in
set_option maxHeartbeats 1000000 in
theorem s_X5_shiftDown_J77 {X : wX} (C : CX X cX5_shiftDown RX5 (none)) (hH : xH X = 1) (hN : xN X = 9) {b : Nat} {p1 : Int32} {M : mM} {Q : mM → Prop} (hQ : ∀ M, Q M → xPo X none M) (hb : isC (xW X) 5 b) {v2 : Int32} {v3 : Int32} {v4 : Int32} {v5 : Int64} {s0 : Int64} {ag18 : (Int32 × mM) → Prop} (hag18 : ∀ s, ag18 s → V X 18 [(0, vR X b), (2, .int v2), (3, .int v3), (4, .int (s.1))] [] (s.2)) (h : p_X5_shiftDown_J77 b p1 Q ag18 v2 v3 v4 v5 s0 M) : V X 77 [(0, vR X b), (2, .int v2), (3, .int v3), (4, .int v4), (5, .long v5)] [.long s0] M := by
  refine V_lstore (lv' := [(7, .long s0), (0, vR X b), (2, .int v2), (3, .int v3), (4, .int v4), (5, .long v5)]) C (ltN hN (by decide)) dX5_shiftDown_77 rfl ?_
  refine V_aload_n C 1 dX5_shiftDown_79 rfl ?_
  refine V_getR C FL_RX5_11 (f5_0 hb) dX5_shiftDown_80 ?_
  refine V_iload C 4 dX5_shiftDown_83 rfl ?_
  refine V_lload C 0 dX5_shiftDown_85 rfl ?_
  refine V_bipush C 30 dX5_shiftDown_87 (by decide) ?_
  refine V_lshl C dX5_shiftDown_89 ?_
  refine V_lload C 5 dX5_shiftDown_90 rfl ?_
  refine V_lor C dX5_shiftDown_92 ?_
  refine V_iload_n C 3 dX5_shiftDown_93 rfl ?_
  refine V_lushr C dX5_shiftDown_94 ?_
  refine V_ldc2 C u_3 dX5_shiftDown_95 ?_
  refine V_land C dX5_shiftDown_98 ?_
  refine V_l2i C dX5_shiftDown_99 ?_
  obtain ⟨b3, h⟩ := h
  refine V_iast C (k5_1 hb) b3 dX5_shiftDown_100 ?_
  refine V_nmM (fun M2 e_M2 => ?_)
  have h := h M2 e_M2
  refine V_iinc (v := (v4 + 1)) (lv' := [(4, .int (v4 + 1)), (7, .long s0), (0, vR X b), (2, .int v2), (3, .int v3), (5, .long v5)]) C 4 (ltN hN (by decide)) dX5_shiftDown_101 rfl rfl rfl ?_
  refine V_goto (tgt := 18) C dX5_shiftDown_104 (by decide) ?_
  exact V_sub [2, 3, 4, 0] rfl (hag18 ((v4 + 1), M2) h)
set_option maxRecDepth 20000 in
set_option maxHeartbeats 1000000 in
theorem s_X5_shiftDown_J48 {X : wX} (C : CX X cX5_shiftDown RX5 (none)) (hH : xH X = 1) (hN : xN X = 9) {b : Nat} {p1 : Int32} {M : mM} {Q : mM → Prop} (hQ : ∀ M, Q M → xPo X none M) (hb : isC (xW X) 5 b) {v2 : Int32} {v3 : Int32} {v4 : Int32} {s0 : Int64} {ag18 : (Int32 × mM) → Prop} (hag18 : ∀ s, ag18 s → V X 18 [(0, vR X b), (2, .int v2), (3, .int v3), (4, .int (s.1))] [] (s.2)) (h : p_X5_shiftDown_J48 b p1 Q ag18 v2 v3 v4 s0 M) : V X 48 [(0, vR X b), (2, .int v2), (3, .int v3), (4, .int v4)] [.long s0] M := by
  refine V_lstore (lv' := [(5, .long s0), (0, vR X b), (2, .int v2), (3, .int v3), (4, .int v4)]) C (ltN hN (by decide)) dX5_shiftDown_48 rfl ?_
  refine V_iload C 4 dX5_shiftDown_50 rfl ?_
  refine V_iload_n C 2 dX5_shiftDown_52 rfl ?_
  refine V_iadd C dX5_shiftDown_53 ?_
  refine V_iconst C 1 dX5_shiftDown_54 (by decide) ?_
  refine V_iadd C dX5_shiftDown_55 ?_
  refine V_bipush C 16 dX5_shiftDown_56 (by decide) ?_
  refine V_icmp_ge (tgt := 76) C dX5_shiftDown_58 (by decide) (fun hc => ?_) (fun hc => ?_)
  · have h := h.1 hc
    refine V_lconst C 0 dX5_shiftDown_76 (by decide) ?_
    exact V_sub [1, 2, 3, 4, 0] rfl (s_X5_shiftDown_J77 C hH hN hQ hb hag18  h)
  · have h := h.2 hc
    refine V_aload_n C 1 dX5_shiftDown_61 rfl ?_
    refine V_getR C FL_RX5_11 (f5_0 hb) dX5_shiftDown_62 ?_
    refine V_iload C 4 dX5_shiftDown_65 rfl ?_
    refine V_iload_n C 2 dX5_shiftDown_67 rfl ?_
    refine V_iadd C dX5_shiftDown_68 ?_
    refine V_iconst C 1 dX5_shiftDown_69 (by decide) ?_
    refine V_iadd C dX5_shiftDown_70 ?_
    obtain ⟨b4, h⟩ := h
    refine V_iald C (k5_1 hb) b4 dX5_shiftDown_71 ?_
    refine V_i2l C dX5_shiftDown_72 ?_
    refine V_goto (tgt := 77) C dX5_shiftDown_73 (by decide) ?_
    exact V_sub [1, 2, 3, 4, 0] rfl (s_X5_shiftDown_J77 C hH hN hQ hb hag18  h)
set_option maxRecDepth 20000 in
set_option maxHeartbeats 1000000 in
theorem s_X5_shiftDown_F18 {X : wX} (C : CX X cX5_shiftDown RX5 (none)) (hH : xH X = 1) (hN : xN X = 9) {b : Nat} {p1 : Int32} {M : mM} {Q : mM → Prop} (hQ : ∀ M, Q M → xPo X none M) (hb : isC (xW X) 5 b) {v2 : Int32} {v3 : Int32} {v4 : Int32} {ag18 : (Int32 × mM) → Prop} (hag18 : ∀ s, ag18 s → V X 18 [(0, vR X b), (2, .int v2), (3, .int v3), (4, .int (s.1))] [] (s.2)) (h : p_X5_shiftDown_F18 b p1 v2 v3 Q  ag18 v4 M) : V X 18 [(0, vR X b), (2, .int v2), (3, .int v3), (4, .int v4)] [] M := by
  refine V_iload C 3 dX5_shiftDown_18 rfl ?_
  refine V_bipush C 16 dX5_shiftDown_20 (by decide) ?_
  refine V_icmp_ge (tgt := 107) C dX5_shiftDown_22 (by decide) (fun hc => ?_) (fun hc => ?_)
  · have h := h.1 hc
    refine V_aload_n C 0 dX5_shiftDown_107 rfl ?_
    refine V_callV (As := []) (st := []) C (c_X5_measure hb h) Y_X5_measure Z_X5_measure (T := TX5) (N := 3) rfl (o5 hb) (ltN hH (by decide)) u_2 rfl rfl (Nat.le_of_ble_eq_true rfl) dX5_shiftDown_108 ?_
    rintro v9 M1 ⟨rfl, h⟩
    show V X 111 _ [] M1
    exact V_vret C dX5_shiftDown_111 (hQ _ h)
  · have h := h.2 hc
    refine V_iload C 3 dX5_shiftDown_25 rfl ?_
    refine V_iload_n C 1 dX5_shiftDown_27 rfl ?_
    refine V_iadd C dX5_shiftDown_28 ?_
    refine V_bipush C 16 dX5_shiftDown_29 (by decide) ?_
    refine V_icmp_ge (tgt := 47) C dX5_shiftDown_31 (by decide) (fun hc => ?_) (fun hc => ?_)
    · have h := h.1 hc
      refine V_lconst C 0 dX5_shiftDown_47 (by decide) ?_
      exact V_sub [0, 1, 2, 3] rfl (s_X5_shiftDown_J48 C hH hN hQ hb hag18  h)
    · have h := h.2 hc
      refine V_aload_n C 0 dX5_shiftDown_34 rfl ?_
      refine V_getR C FL_RX5_11 (f5_0 hb) dX5_shiftDown_35 ?_
      refine V_iload C 3 dX5_shiftDown_38 rfl ?_
      refine V_iload_n C 1 dX5_shiftDown_40 rfl ?_
      refine V_iadd C dX5_shiftDown_41 ?_
      obtain ⟨b5, h⟩ := h
      refine V_iald C (k5_1 hb) b5 dX5_shiftDown_42 ?_
      refine V_i2l C dX5_shiftDown_43 ?_
      refine V_goto (tgt := 48) C dX5_shiftDown_44 (by decide) ?_
      exact V_sub [0, 1, 2, 3] rfl (s_X5_shiftDown_J48 C hH hN hQ hb hag18  h)
set_option maxRecDepth 20000 in
set_option maxHeartbeats 1000000 in
theorem s_X5_shiftDown {X : wX} (C : CX X cX5_shiftDown RX5 (none)) (hH : xH X = 1) (hN : xN X = 9) {b : Nat} {p1 : Int32} {M : mM} {Q : mM → Prop} (hQ : ∀ M, Q M → xPo X none M) (hb : isC (xW X) 5 b)   (h : p_X5_shiftDown b p1 M Q) : V X 0 [(0, vR X b), (1, .int p1)] [] M := by
  refine V_iload_n C 1 dX5_shiftDown_0 rfl ?_
  refine V_if_gt (tgt := 5) C dX5_shiftDown_1 (by decide) (fun hc => ?_) (fun hc => ?_)
  · have h := h.1 hc
    refine V_iload_n C 1 dX5_shiftDown_5 rfl ?_
    refine V_bipush C 30 dX5_shiftDown_6 (by decide) ?_
    refine V_idiv C dX5_shiftDown_8 (by decide) ?_
    refine V_istore_n (lv' := [(2, .int (p1 / 30)), (0, vR X b), (1, .int p1)]) C (ltN hN (by decide)) dX5_shiftDown_9 rfl ?_
    refine V_iload_n C 2 dX5_shiftDown_10 rfl ?_
    refine V_bipush C 30 dX5_shiftDown_11 (by decide) ?_
    refine V_irem C dX5_shiftDown_13 (by decide) ?_
    refine V_istore_n (lv' := [(3, .int (p1 - p1 / 30 * 30)), (2, .int (p1 / 30)), (0, vR X b), (1, .int p1)]) C (ltN hN (by decide)) dX5_shiftDown_14 rfl ?_
    refine V_iconst C 0 dX5_shiftDown_15 (by decide) ?_
    refine V_istore (lv' := [(4, .int 0), (3, .int (p1 - p1 / 30 * 30)), (2, .int (p1 / 30)), (0, vR X b), (1, .int p1)]) C (ltN hN (by decide)) dX5_shiftDown_16 rfl ?_
    refine V_sub [3, 2, 1, 0] rfl ?_
    exact Loop.sound (s0 := ((0 : Int32), M)) (P := fun s => V X 18 [(0, vR X b), (2, .int (p1 / 30)), (3, .int (p1 - p1 / 30 * 30)), (4, .int (s.1))] [] (s.2)) h (fun ag hag s hs => s_X5_shiftDown_F18 C hH hN hQ hb  hag hs)
  · have h := h.2 hc
    exact V_vret C dX5_shiftDown_4 (hQ _ h)
set_option maxRecDepth 20000 in
set_option maxHeartbeats 1000000 in
theorem c_X5_shiftDown {w : wU} {l : Launch} {b : Nat} {p1 : Int32} {M : mM} {Q : mM → Prop} (hb : isC w 5 b) (h : p_X5_shiftDown b p1 M Q) : CT w l 1 yX5_shiftDown cX5_shiftDown 9 (none) [.ref (uA w b), .int p1] M (piV Q) := by
  refine CT.of (by decide +kernel) (Nat.le_of_ble_eq_true rfl) (fun X hw hH hl hP hN C => ?_)
  subst hw
  exact s_X5_shiftDown C hH hN (fun M1 q => by rw [hP]; exact ⟨rfl, q⟩) hb h
set_option maxRecDepth 20000 in
set_option maxHeartbeats 1000000 in
theorem s_X5_become {X : wX} (C : CX X cX5_become RX5 (none)) (hH : xH X = 1) (hN : xN X = 2) {b : Nat} {p1 : Nat} {M : mM} {Q : mM → Prop} (hQ : ∀ M, Q M → xPo X none M) (hb : isC (xW X) 5 b) (h1 : isC (xW X) 5 p1)   (h : p_X5_become b p1 M Q) : V X 0 [(0, vR X b), (1, vR X p1)] [] M := by
  refine V_aload_n C 1 dX5_become_0 rfl ?_
  refine V_getR C FL_RX5_11 (f5_0 h1) dX5_become_1 ?_
  refine V_iconst C 0 dX5_become_4 (by decide) ?_
  refine V_aload_n C 0 dX5_become_5 rfl ?_
  refine V_getR C FL_RX5_11 (f5_0 hb) dX5_become_6 ?_
  refine V_iconst C 0 dX5_become_9 (by decide) ?_
  refine V_bipush C 16 dX5_become_10 (by decide) ?_
  refine V_copy C (k5_1 h1) (k5_1 hb) (ltN hH (by decide)) u_9 ⟨u_10, u_11, u_12⟩ (by decide) (by decide) (by decide) (by decide) (by decide) (Nat.le_of_ble_eq_true rfl) dX5_become_12 ?_
  refine V_nmM (fun M1 e_M1 => ?_)
  have h := h M1 e_M1
  refine V_aload_n C 0 dX5_become_15 rfl ?_
  refine V_aload_n C 1 dX5_become_16 rfl ?_
  refine V_getI C FL_RX5_18 (f5_2 h1) dX5_become_17 ?_
  refine V_putI C FW_RX5_18 (f5_2 hb) rfl rfl dX5_become_20 ?_
  refine V_nmM (fun M2 e_M2 => ?_)
  have h := h M2 e_M2
  exact V_vret C dX5_become_23 (hQ _ h)
set_option maxRecDepth 20000 in
set_option maxHeartbeats 1000000 in
theorem c_X5_become {w : wU} {l : Launch} {b : Nat} {p1 : Nat} {M : mM} {Q : mM → Prop} (hb : isC w 5 b) (h1 : isC w 5 p1) (h : p_X5_become b p1 M Q) : CT w l 1 yX5_become cX5_become 2 (none) [.ref (uA w b), .ref (uA w p1)] M (piV Q) := by
  refine CT.of (by decide +kernel) (Nat.le_of_ble_eq_true rfl) (fun X hw hH hl hP hN C => ?_)
  subst hw
  exact s_X5_become C hH hN (fun M1 q => by rw [hP]; exact ⟨rfl, q⟩) hb h1 h
set_option maxRecDepth 20000 in
set_option maxHeartbeats 1000000 in
theorem s_X5_compareWith_F31 {X : wX} (C : CX X cX5_compareWith RX5 (some .int)) (hH : xH X = 0) (hN : xN X = 3) {b : Nat} {p1 : Nat} {M : mM} {Q : Int32 → Prop} (hQ : ∀ r, Q r → xPo X (some (.int r)) M) (hb : isC (xW X) 5 b) (h1 : isC (xW X) 5 p1) {v2 : Int32} {ag31 : Int32 → Prop} (hag31 : ∀ s, ag31 s → V X 31 [(0, vR X b), (1, vR X p1), (2, .int s)] [] M) (h : p_X5_compareWith_F31 b p1  M Q  ag31 v2) : V X 31 [(0, vR X b), (1, vR X p1), (2, .int v2)] [] M := by
  refine V_iload_n C 2 dX5_compareWith_31 rfl ?_
  refine V_if_lt (tgt := 77) C dX5_compareWith_32 (by decide) (fun hc => ?_) (fun hc => ?_)
  · have h := h.1 hc
    refine V_iconst C 0 dX5_compareWith_77 (by decide) ?_
    exact V_iret C dX5_compareWith_78 (hQ _ h)
  · have h := h.2 hc
    refine V_aload_n C 0 dX5_compareWith_35 rfl ?_
    refine V_getR C FL_RX5_11 (f5_0 hb) dX5_compareWith_36 ?_
    refine V_iload_n C 2 dX5_compareWith_39 rfl ?_
    obtain ⟨b1, h⟩ := h
    refine V_iald C (k5_1 hb) b1 dX5_compareWith_40 ?_
    refine V_aload_n C 1 dX5_compareWith_41 rfl ?_
    refine V_getR C FL_RX5_11 (f5_0 h1) dX5_compareWith_42 ?_
    refine V_iload_n C 2 dX5_compareWith_45 rfl ?_
    obtain ⟨b2, h⟩ := h
    refine V_iald C (k5_1 h1) b2 dX5_compareWith_46 ?_
    refine V_icmp_eq (tgt := 71) C dX5_compareWith_47 (by decide) (fun hc => ?_) (fun hc => ?_)
    · have h := h.1 hc
      refine V_iinc (v := (v2 + (-1))) (lv' := [(2, .int (v2 + (-1))), (0, vR X b), (1, vR X p1)]) C 2 (ltN hN (by decide)) dX5_compareWith_71 rfl rfl rfl ?_
      refine V_goto (tgt := 31) C dX5_compareWith_74 (by decide) ?_
      exact V_sub [1, 2, 0] rfl (hag31 (v2 + (-1)) h)
    · have h := h.2 hc
      refine V_aload_n C 0 dX5_compareWith_50 rfl ?_
      refine V_getR C FL_RX5_11 (f5_0 hb) dX5_compareWith_51 ?_
      refine V_iload_n C 2 dX5_compareWith_54 rfl ?_
      obtain ⟨b3, h⟩ := h
      refine V_iald C (k5_1 hb) b3 dX5_compareWith_55 ?_
      refine V_aload_n C 1 dX5_compareWith_56 rfl ?_
      refine V_getR C FL_RX5_11 (f5_0 h1) dX5_compareWith_57 ?_
      refine V_iload_n C 2 dX5_compareWith_60 rfl ?_
      obtain ⟨b4, h⟩ := h
      refine V_iald C (k5_1 h1) b4 dX5_compareWith_61 ?_
      refine V_icmp_ge (tgt := 69) C dX5_compareWith_62 (by decide) (fun hc => ?_) (fun hc => ?_)
      · have h := h.1 hc
        refine V_iconst C 1 dX5_compareWith_69 (by decide) ?_
        exact V_iret C dX5_compareWith_70 (hQ _ h)
      · have h := h.2 hc
        refine V_iconst C (-1) dX5_compareWith_65 (by decide) ?_
        refine V_goto (tgt := 70) C dX5_compareWith_66 (by decide) ?_
        exact V_iret C dX5_compareWith_70 (hQ _ h)
set_option maxRecDepth 20000 in
set_option maxHeartbeats 1000000 in
theorem s_X5_compareWith {X : wX} (C : CX X cX5_compareWith RX5 (some .int)) (hH : xH X = 0) (hN : xN X = 3) {b : Nat} {p1 : Nat} {M : mM} {Q : Int32 → Prop} (hQ : ∀ r, Q r → xPo X (some (.int r)) M) (hb : isC (xW X) 5 b) (h1 : isC (xW X) 5 p1)   (h : p_X5_compareWith b p1 M Q) : V X 0 [(0, vR X b), (1, vR X p1)] [] M := by
  refine V_aload_n C 0 dX5_compareWith_0 rfl ?_
  refine V_getI C FL_RX5_18 (f5_2 hb) dX5_compareWith_1 ?_
  refine V_aload_n C 1 dX5_compareWith_4 rfl ?_
  refine V_getI C FL_RX5_18 (f5_2 h1) dX5_compareWith_5 ?_
  refine V_icmp_eq (tgt := 28) C dX5_compareWith_8 (by decide) (fun hc => ?_) (fun hc => ?_)
  · have h := h.1 hc
    refine V_bipush C 15 dX5_compareWith_28 (by decide) ?_
    refine V_istore_n (lv' := [(2, .int 15), (0, vR X b), (1, vR X p1)]) C (ltN hN (by decide)) dX5_compareWith_30 rfl ?_
    refine V_sub [1, 2, 0] rfl ?_
    exact Loop.sound (s0 := (15 : Int32)) (P := fun s => V X 31 [(0, vR X b), (1, vR X p1), (2, .int s)] [] M) h (fun ag hag s hs => s_X5_compareWith_F31 C hH hN hQ hb h1  hag hs)
  · have h := h.2 hc
    refine V_aload_n C 0 dX5_compareWith_11 rfl ?_
    refine V_getI C FL_RX5_18 (f5_2 hb) dX5_compareWith_12 ?_
    refine V_aload_n C 1 dX5_compareWith_15 rfl ?_
    refine V_getI C FL_RX5_18 (f5_2 h1) dX5_compareWith_16 ?_
    refine V_icmp_ge (tgt := 26) C dX5_compareWith_19 (by decide) (fun hc => ?_) (fun hc => ?_)
    · have h := h.1 hc
      refine V_iconst C 1 dX5_compareWith_26 (by decide) ?_
      exact V_iret C dX5_compareWith_27 (hQ _ h)
    · have h := h.2 hc
      refine V_iconst C (-1) dX5_compareWith_22 (by decide) ?_
      refine V_goto (tgt := 27) C dX5_compareWith_23 (by decide) ?_
      exact V_iret C dX5_compareWith_27 (hQ _ h)
set_option maxRecDepth 20000 in
set_option maxHeartbeats 1000000 in
theorem c_X5_compareWith {w : wU} {l : Launch} {b : Nat} {p1 : Nat} {M : mM} {Q : Int32 → Prop} (hb : isC w 5 b) (h1 : isC w 5 p1) (h : p_X5_compareWith b p1 M Q) : CT w l 0 yX5_compareWith cX5_compareWith 3 (some .int) [.ref (uA w b), .ref (uA w p1)] M (poI M Q) := by
  refine CT.of (by decide +kernel) (Nat.le_of_ble_eq_true rfl) (fun X hw hH hl hP hN C => ?_)
  subst hw
  exact s_X5_compareWith C hH hN (fun r q => by rw [hP]; exact ⟨rfl, r, rfl, q⟩) hb h1 h
set_option maxRecDepth 20000 in
set_option maxHeartbeats 1000000 in
theorem s_X5_subtract_F4 {X : wX} (C : CX X cX5_subtract RX5 (none)) (hH : xH X = 1) (hN : xN X = 4) {b : Nat} {p1 : Nat} {M : mM} {Q : mM → Prop} (hQ : ∀ M, Q M → xPo X none M) (hb : isC (xW X) 5 b) (h1 : isC (xW X) 5 p1) {v2 : Int32} {v3 : Int32} {ag4 : (Int32 × Int32 × mM) → Prop} (hag4 : ∀ s, ag4 s → V X 4 [(0, vR X b), (1, vR X p1), (2, .int (s.1)), (3, .int (s.2.1))] [] (s.2.2)) (h : p_X5_subtract_F4 b p1  Q  ag4 v2 v3 M) : V X 4 [(0, vR X b), (1, vR X p1), (2, .int v2), (3, .int v3)] [] M := by
  refine V_iload_n C 3 dX5_subtract_4 rfl ?_
  refine V_bipush C 16 dX5_subtract_5 (by decide) ?_
  refine V_icmp_ge (tgt := 47) C dX5_subtract_7 (by decide) (fun hc => ?_) (fun hc => ?_)
  · have h := h.1 hc
    refine V_aload_n C 0 dX5_subtract_47 rfl ?_
    refine V_callV (As := []) (st := []) C (c_X5_measure hb h) Y_X5_measure Z_X5_measure (T := TX5) (N := 3) rfl (o5 hb) (ltN hH (by decide)) u_2 rfl rfl (Nat.le_of_ble_eq_true rfl) dX5_subtract_48 ?_
    rintro v9 M1 ⟨rfl, h⟩
    show V X 51 _ [] M1
    exact V_vret C dX5_subtract_51 (hQ _ h)
  · have h := h.2 hc
    refine V_iload_n C 2 dX5_subtract_10 rfl ?_
    refine V_aload_n C 0 dX5_subtract_11 rfl ?_
    refine V_getR C FL_RX5_11 (f5_0 hb) dX5_subtract_12 ?_
    refine V_iload_n C 3 dX5_subtract_15 rfl ?_
    obtain ⟨b2, h⟩ := h
    refine V_iald C (k5_1 hb) b2 dX5_subtract_16 ?_
    refine V_aload_n C 1 dX5_subtract_17 rfl ?_
    refine V_getR C FL_RX5_11 (f5_0 h1) dX5_subtract_18 ?_
    refine V_iload_n C 3 dX5_subtract_21 rfl ?_
    obtain ⟨b3, h⟩ := h
    refine V_iald C (k5_1 h1) b3 dX5_subtract_22 ?_
    refine V_isub C dX5_subtract_23 ?_
    refine V_iadd C dX5_subtract_24 ?_
    refine V_nmI (fun x4 e_x4 => ?_)
    have h := h x4 e_x4
    refine V_istore_n (lv' := [(2, .int x4), (0, vR X b), (1, vR X p1), (3, .int v3)]) C (ltN hN (by decide)) dX5_subtract_25 rfl ?_
    refine V_aload_n C 1 dX5_subtract_26 rfl ?_
    refine V_getR C FL_RX5_11 (f5_0 hb) dX5_subtract_27 ?_
    refine V_iload_n C 3 dX5_subtract_30 rfl ?_
    refine V_iload_n C 0 dX5_subtract_31 rfl ?_
    refine V_ldc C u_13 dX5_subtract_32 ?_
    refine V_iand C dX5_subtract_34 ?_
    obtain ⟨b6, h⟩ := h
    refine V_iast C (k5_1 hb) b6 dX5_subtract_35 ?_
    refine V_nmM (fun M5 e_M5 => ?_)
    have h := h M5 e_M5
    refine V_iload_n C 0 dX5_subtract_36 rfl ?_
    refine V_bipush C 30 dX5_subtract_37 (by decide) ?_
    refine V_ishr C dX5_subtract_39 ?_
    refine V_istore_n (lv' := [(2, .int (x4 >>> (30 &&& 31))), (0, vR X b), (1, vR X p1), (3, .int v3)]) C (ltN hN (by decide)) dX5_subtract_40 rfl ?_
    refine V_iinc (v := (v3 + 1)) (lv' := [(3, .int (v3 + 1)), (2, .int (x4 >>> (30 &&& 31))), (0, vR X b), (1, vR X p1)]) C 3 (ltN hN (by decide)) dX5_subtract_41 rfl rfl rfl ?_
    refine V_goto (tgt := 4) C dX5_subtract_44 (by decide) ?_
    exact V_sub [2, 3, 1, 0] rfl (hag4 ((x4 >>> (30 &&& 31)), (v3 + 1), M5) h)
set_option maxRecDepth 20000 in
set_option maxHeartbeats 1000000 in
theorem s_X5_subtract {X : wX} (C : CX X cX5_subtract RX5 (none)) (hH : xH X = 1) (hN : xN X = 4) {b : Nat} {p1 : Nat} {M : mM} {Q : mM → Prop} (hQ : ∀ M, Q M → xPo X none M) (hb : isC (xW X) 5 b) (h1 : isC (xW X) 5 p1)   (h : p_X5_subtract b p1 M Q) : V X 0 [(0, vR X b), (1, vR X p1)] [] M := by
  refine V_iconst C 0 dX5_subtract_0 (by decide) ?_
  refine V_istore_n (lv' := [(2, .int 0), (0, vR X b), (1, vR X p1)]) C (ltN hN (by decide)) dX5_subtract_1 rfl ?_
  refine V_iconst C 0 dX5_subtract_2 (by decide) ?_
  refine V_istore_n (lv' := [(3, .int 0), (2, .int 0), (0, vR X b), (1, vR X p1)]) C (ltN hN (by decide)) dX5_subtract_3 rfl ?_
  refine V_sub [2, 3, 1, 0] rfl ?_
  exact Loop.sound (s0 := ((0 : Int32), (0 : Int32), M)) (P := fun s => V X 4 [(0, vR X b), (1, vR X p1), (2, .int (s.1)), (3, .int (s.2.1))] [] (s.2.2)) h (fun ag hag s hs => s_X5_subtract_F4 C hH hN hQ hb h1  hag hs)
set_option maxRecDepth 20000 in
set_option maxHeartbeats 1000000 in
theorem c_X5_subtract {w : wU} {l : Launch} {b : Nat} {p1 : Nat} {M : mM} {Q : mM → Prop} (hb : isC w 5 b) (h1 : isC w 5 p1) (h : p_X5_subtract b p1 M Q) : CT w l 1 yX5_subtract cX5_subtract 4 (none) [.ref (uA w b), .ref (uA w p1)] M (piV Q) := by
  refine CT.of (by decide +kernel) (Nat.le_of_ble_eq_true rfl) (fun X hw hH hl hP hN C => ?_)
  subst hw
  exact s_X5_subtract C hH hN (fun M1 q => by rw [hP]; exact ⟨rfl, q⟩) hb h1 h
set_option maxRecDepth 20000 in
set_option maxHeartbeats 1000000 in
theorem s_X0_findCommon_J108 {X : wX} (C : CX X cX0_findCommon RX0 (none)) (hH : xH X = 2) (hN : xN X = 4) {b : Nat} {M : mM} {Q : mM → Prop} (hQ : ∀ M, Q M → xPo X none M) (hb : isC (xW X) 0 b) {v1 : Int32} {v3 : Nat} {s0 : Nat} {s1 : Nat} {ag52 : (Int32 × mM) → Prop} (hag52 : ∀ s, ag52 s → V X 52 [(0, vR X b), (1, .int (s.1))] [] (s.2)) (hv3 : isC (xW X) 5 v3) (hs0 : isC (xW X) 5 s0) (hs1 : isC (xW X) 5 s1) (h : p_X0_findCommon_J108 b Q ag52 v1 v3 s0 s1 M) : V X 108 [(0, vR X b), (1, .int v1), (3, vR X v3)] [vR X s0, vR X s1] M := by
  refine V_callV (As := [vR X s0]) (st := []) C (c_X5_subtract hs1 hs0 h) Y_X5_subtract Z_X5_subtract (T := TX5) (N := 3) rfl (o5 hs1) (ltN hH (by decide)) u_20 rfl rfl (Nat.le_of_ble_eq_true rfl) dX0_findCommon_108 ?_
  rintro v9 M8 ⟨rfl, h⟩
  show V X 111 _ [] M8
  refine V_aload_n C 2 dX0_findCommon_111 rfl ?_
  refine V_aload_n C 2 dX0_findCommon_112 rfl ?_
  refine V_callV (As := []) (st := [vR X v3]) C (c_X5_twos hv3 h) Y_X5_twos Z_X5_twos (T := TX5) (N := 3) rfl (o5 hv3) (ltN hH (by decide)) u_19 rfl rfl (Nat.le_of_ble_eq_true rfl) dX0_findCommon_113 ?_
  rintro v9 M9 ⟨rfl, r9, rfl, h⟩
  show V X 116 _ [.int r9, vR X v3] M8
  refine V_callV (As := [.int r9]) (st := []) C (c_X5_shiftDown hv3 h) Y_X5_shiftDown Z_X5_shiftDown (T := TX5) (N := 3) rfl (o5 hv3) (ltN hH (by decide)) u_18 rfl rfl (Nat.le_of_ble_eq_true rfl) dX0_findCommon_116 ?_
  rintro v9 M10 ⟨rfl, h⟩
  show V X 119 _ [] M10
  refine V_iinc (v := (v1 + 1)) (lv' := [(1, .int (v1 + 1)), (0, vR X b), (3, vR X v3)]) C 1 (ltN hN (by decide)) dX0_findCommon_119 rfl rfl rfl ?_
  refine V_goto (tgt := 52) C dX0_findCommon_122 (by decide) ?_
  exact V_sub [1, 0] rfl (hag52 ((v1 + 1), M10) h)
set_option maxRecDepth 20000 in
set_option maxHeartbeats 1000000 in
theorem s_X0_findCommon_J91 {X : wX} (C : CX X cX0_findCommon RX0 (none)) (hH : xH X = 2) (hN : xN X = 4) {b : Nat} {M : mM} {Q : mM → Prop} (hQ : ∀ M, Q M → xPo X none M) (hb : isC (xW X) 0 b) {v1 : Int32} {v2 : Int32} {s0 : Nat} {ag52 : (Int32 × mM) → Prop} (hag52 : ∀ s, ag52 s → V X 52 [(0, vR X b), (1, .int (s.1))] [] (s.2)) (hs0 : isC (xW X) 5 s0) (h : p_X0_findCommon_J91 b Q ag52 v1 v2 s0 M) : V X 91 [(0, vR X b), (1, .int v1), (2, .int v2)] [vR X s0] M := by
  refine V_astore_n (lv' := [(3, vR X s0), (0, vR X b), (1, .int v1), (2, .int v2)]) C (ltN hN (by decide)) dX0_findCommon_91 rfl ?_
  refine V_aload_n C 0 dX0_findCommon_92 rfl ?_
  refine V_iload_n C 3 dX0_findCommon_93 rfl ?_
  refine V_if_le (tgt := 104) C dX0_findCommon_94 (by decide) (fun hc => ?_) (fun hc => ?_)
  · have h := h.1 hc
    refine V_aload_n C 1 dX0_findCommon_104 rfl ?_
    refine V_getR C FL_RX0_19 (f0_2 hb) dX0_findCommon_105 ?_
    exact V_sub [1, 2, 0] rfl (s_X0_findCommon_J108 C hH hN hQ hb hag52 hs0 (j0_7 hb) hs0 h)
  · have h := h.2 hc
    refine V_aload_n C 1 dX0_findCommon_97 rfl ?_
    refine V_getR C FL_RX0_22 (f0_3 hb) dX0_findCommon_98 ?_
    refine V_goto (tgt := 108) C dX0_findCommon_101 (by decide) ?_
    exact V_sub [1, 2, 0] rfl (s_X0_findCommon_J108 C hH hN hQ hb hag52 hs0 (j0_10 hb) hs0 h)
set_option maxRecDepth 20000 in
set_option maxHeartbeats 1000000 in
theorem s_X0_findCommon_F52 {X : wX} (C : CX X cX0_findCommon RX0 (none)) (hH : xH X = 2) (hN : xN X = 4) {b : Nat} {M : mM} {Q : mM → Prop} (hQ : ∀ M, Q M → xPo X none M) (hb : isC (xW X) 0 b) {v1 : Int32} {ag52 : (Int32 × mM) → Prop} (hag52 : ∀ s, ag52 s → V X 52 [(0, vR X b), (1, .int (s.1))] [] (s.2)) (h : p_X0_findCommon_F52 b  Q  ag52 v1 M) : V X 52 [(0, vR X b), (1, .int v1)] [] M := by
  refine V_iload_n C 1 dX0_findCommon_52 rfl ?_
  refine V_sipush C 960 dX0_findCommon_53 (by decide) ?_
  refine V_icmp_ge (tgt := 125) C dX0_findCommon_56 (by decide) (fun hc => ?_) (fun hc => ?_)
  · have h := h.1 hc
    exact V_vret C dX0_findCommon_125 (hQ _ h)
  · have h := h.2 hc
    refine V_aload_n C 0 dX0_findCommon_59 rfl ?_
    refine V_getR C FL_RX0_19 (f0_2 hb) dX0_findCommon_60 ?_
    refine V_aload_n C 0 dX0_findCommon_63 rfl ?_
    refine V_getR C FL_RX0_22 (f0_3 hb) dX0_findCommon_64 ?_
    refine V_callV (As := [vR X (b + 10)]) (st := []) C (c_X5_compareWith (j0_7 hb) (j0_10 hb) h) Y_X5_compareWith Z_X5_compareWith (T := TX5) (N := 3) rfl (o5 (j0_7 hb)) (ltN hH (by decide)) u_21 rfl rfl (Nat.le_of_ble_eq_true rfl) dX0_findCommon_67 ?_
    rintro v9 M9 ⟨rfl, r7, rfl, h⟩
    show V X 70 _ [.int r7] M
    refine V_istore_n (lv' := [(2, .int r7), (0, vR X b), (1, .int v1)]) C (ltN hN (by decide)) dX0_findCommon_70 rfl ?_
    refine V_iload_n C 0 dX0_findCommon_71 rfl ?_
    refine V_if_ne (tgt := 76) C dX0_findCommon_72 (by decide) (fun hc => ?_) (fun hc => ?_)
    · have h := h.1 hc
      refine V_iload_n C 0 dX0_findCommon_76 rfl ?_
      refine V_if_le (tgt := 87) C dX0_findCommon_77 (by decide) (fun hc => ?_) (fun hc => ?_)
      · have h := h.1 hc
        refine V_aload_n C 1 dX0_findCommon_87 rfl ?_
        refine V_getR C FL_RX0_22 (f0_3 hb) dX0_findCommon_88 ?_
        exact V_sub [1, 2, 0] rfl (s_X0_findCommon_J91 C hH hN hQ hb hag52 (j0_10 hb) h)
      · have h := h.2 hc
        refine V_aload_n C 1 dX0_findCommon_80 rfl ?_
        refine V_getR C FL_RX0_19 (f0_2 hb) dX0_findCommon_81 ?_
        refine V_goto (tgt := 91) C dX0_findCommon_84 (by decide) ?_
        exact V_sub [1, 2, 0] rfl (s_X0_findCommon_J91 C hH hN hQ hb hag52 (j0_7 hb) h)
    · have h := h.2 hc
      exact V_vret C dX0_findCommon_75 (hQ _ h)
set_option maxRecDepth 20000 in
set_option maxHeartbeats 1000000 in
theorem s_X0_findCommon {X : wX} (C : CX X cX0_findCommon RX0 (none)) (hH : xH X = 2) (hN : xN X = 4) {b : Nat} {M : mM} {Q : mM → Prop} (hQ : ∀ M, Q M → xPo X none M) (hb : isC (xW X) 0 b)   (h : p_X0_findCommon b M Q) : V X 0 [(0, vR X b)] [] M := by
  refine V_aload_n C 0 dX0_findCommon_0 rfl ?_
  refine V_getR C FL_RX0_19 (f0_2 hb) dX0_findCommon_1 ?_
  refine V_aload_n C 0 dX0_findCommon_4 rfl ?_
  refine V_getR C FL_RX0_10 (f0_0 hb) dX0_findCommon_5 ?_
  refine V_callV (As := [vR X (b + 1)]) (st := []) C (c_X5_become (j0_7 hb) (j0_1 hb) h) Y_X5_become Z_X5_become (T := TX5) (N := 3) rfl (o5 (j0_7 hb)) (ltN hH (by decide)) u_22 rfl rfl (Nat.le_of_ble_eq_true rfl) dX0_findCommon_8 ?_
  rintro v9 M1 ⟨rfl, h⟩
  show V X 11 _ [] M1
  refine V_aload_n C 0 dX0_findCommon_11 rfl ?_
  refine V_getR C FL_RX0_22 (f0_3 hb) dX0_findCommon_12 ?_
  refine V_aload_n C 0 dX0_findCommon_15 rfl ?_
  refine V_getR C FL_RX0_16 (f0_1 hb) dX0_findCommon_16 ?_
  refine V_callV (As := [vR X (b + 4)]) (st := []) C (c_X5_become (j0_10 hb) (j0_4 hb) h) Y_X5_become Z_X5_become (T := TX5) (N := 3) rfl (o5 (j0_10 hb)) (ltN hH (by decide)) u_22 rfl rfl (Nat.le_of_ble_eq_true rfl) dX0_findCommon_19 ?_
  rintro v9 M2 ⟨rfl, h⟩
  show V X 22 _ [] M2
  refine V_aload_n C 0 dX0_findCommon_22 rfl ?_
  refine V_getR C FL_RX0_19 (f0_2 hb) dX0_findCommon_23 ?_
  refine V_aload_n C 0 dX0_findCommon_26 rfl ?_
  refine V_getR C FL_RX0_19 (f0_2 hb) dX0_findCommon_27 ?_
  refine V_callV (As := []) (st := [vR X (b + 7)]) C (c_X5_twos (j0_7 hb) h) Y_X5_twos Z_X5_twos (T := TX5) (N := 3) rfl (o5 (j0_7 hb)) (ltN hH (by decide)) u_19 rfl rfl (Nat.le_of_ble_eq_true rfl) dX0_findCommon_30 ?_
  rintro v9 M9 ⟨rfl, r3, rfl, h⟩
  show V X 33 _ [.int r3, vR X (b + 7)] M2
  refine V_callV (As := [.int r3]) (st := []) C (c_X5_shiftDown (j0_7 hb) h) Y_X5_shiftDown Z_X5_shiftDown (T := TX5) (N := 3) rfl (o5 (j0_7 hb)) (ltN hH (by decide)) u_18 rfl rfl (Nat.le_of_ble_eq_true rfl) dX0_findCommon_33 ?_
  rintro v9 M4 ⟨rfl, h⟩
  show V X 36 _ [] M4
  refine V_aload_n C 0 dX0_findCommon_36 rfl ?_
  refine V_getR C FL_RX0_22 (f0_3 hb) dX0_findCommon_37 ?_
  refine V_aload_n C 0 dX0_findCommon_40 rfl ?_
  refine V_getR C FL_RX0_22 (f0_3 hb) dX0_findCommon_41 ?_
  refine V_callV (As := []) (st := [vR X (b + 10)]) C (c_X5_twos (j0_10 hb) h) Y_X5_twos Z_X5_twos (T := TX5) (N := 3) rfl (o5 (j0_10 hb)) (ltN hH (by decide)) u_19 rfl rfl (Nat.le_of_ble_eq_true rfl) dX0_findCommon_44 ?_
  rintro v9 M9 ⟨rfl, r5, rfl, h⟩
  show V X 47 _ [.int r5, vR X (b + 10)] M4
  refine V_callV (As := [.int r5]) (st := []) C (c_X5_shiftDown (j0_10 hb) h) Y_X5_shiftDown Z_X5_shiftDown (T := TX5) (N := 3) rfl (o5 (j0_10 hb)) (ltN hH (by decide)) u_18 rfl rfl (Nat.le_of_ble_eq_true rfl) dX0_findCommon_47 ?_
  rintro v9 M6 ⟨rfl, h⟩
  show V X 50 _ [] M6
  refine V_iconst C 0 dX0_findCommon_50 (by decide) ?_
  refine V_istore_n (lv' := [(1, .int 0), (0, vR X b)]) C (ltN hN (by decide)) dX0_findCommon_51 rfl ?_
  refine V_sub [1, 0] rfl ?_
  exact Loop.sound (s0 := ((0 : Int32), M6)) (P := fun s => V X 52 [(0, vR X b), (1, .int (s.1))] [] (s.2)) h (fun ag hag s hs => s_X0_findCommon_F52 C hH hN hQ hb  hag hs)
set_option maxRecDepth 20000 in
set_option maxHeartbeats 1000000 in
theorem c_X0_findCommon {w : wU} {l : Launch} {b : Nat} {M : mM} {Q : mM → Prop} (hb : isC w 0 b) (h : p_X0_findCommon b M Q) : CT w l 2 yX0_findCommon cX0_findCommon 4 (none) [.ref (uA w b)] M (piV Q) := by
  refine CT.of (by decide +kernel) (Nat.le_of_ble_eq_true rfl) (fun X hw hH hl hP hN C => ?_)
  subst hw
  exact s_X0_findCommon C hH hN (fun M1 q => by rw [hP]; exact ⟨rfl, q⟩) hb h
set_option maxRecDepth 20000 in
set_option maxHeartbeats 1000000 in
theorem s_X5_divideExactly_F66 {X : wX} (C : CX X cX5_divideExactly RX5 (none)) (hH : xH X = 1) (hN : xN X = 9) {b : Nat} {p1 : Nat} {M : mM} {Q : mM → Prop} (hQ : ∀ M, Q M → xPo X none M) (hb : isC (xW X) 5 b) (h1 : isC (xW X) 5 p1) {v3 : Int32} {v4 : Int32} {v5 : Int32} {v6 : Int64} {v8 : Int32} {ag39 : (Int32 × mM) → Prop} {ag66 : (Int64 × Int32 × mM) → Prop} (hag39 : ∀ s, ag39 s → V X 39 [(0, vR X b), (1, vR X p1), (3, .int v3), (4, .int (s.1))] [] (s.2)) (hag66 : ∀ s, ag66 s → V X 66 [(0, vR X b), (1, vR X p1), (3, .int v3), (4, .int v4), (5, .int v5), (6, .long (s.1)), (8, .int (s.2.1))] [] (s.2.2)) (h : p_X5_divideExactly_F66 b p1 v3 v4 v5 Q ag39 ag66 v6 v8 M) : V X 66 [(0, vR X b), (1, vR X p1), (3, .int v3), (4, .int v4), (5, .int v5), (6, .long v6), (8, .int v8)] [] M := by
  refine V_iload C 6 dX5_divideExactly_66 rfl ?_
  refine V_iload C 3 dX5_divideExactly_68 rfl ?_
  refine V_iadd C dX5_divideExactly_70 ?_
  refine V_bipush C 16 dX5_divideExactly_71 (by decide) ?_
  refine V_icmp_ge (tgt := 135) C dX5_divideExactly_73 (by decide) (fun hc => ?_) (fun hc => ?_)
  · have h := h.1 hc
    refine V_aload_n C 0 dX5_divideExactly_135 rfl ?_
    refine V_getR C FL_RX5_15 (f5_1 hb) dX5_divideExactly_136 ?_
    refine V_iload C 3 dX5_divideExactly_139 rfl ?_
    refine V_iload C 4 dX5_divideExactly_141 rfl ?_
    obtain ⟨b7, h⟩ := h
    refine V_iast C (k5_2 hb) b7 dX5_divideExactly_143 ?_
    refine V_nmM (fun M6 e_M6 => ?_)
    have h := h M6 e_M6
    refine V_iinc (v := (v4 + 1)) (lv' := [(4, .int (v4 + 1)), (0, vR X b), (1, vR X p1), (3, .int v3), (5, .int v5), (6, .long v6), (8, .int v8)]) C 3 (ltN hN (by decide)) dX5_divideExactly_144 rfl rfl rfl ?_
    refine V_goto (tgt := 39) C dX5_divideExactly_147 (by decide) ?_
    exact V_sub [1, 2, 3, 0] rfl (hag39 ((v4 + 1), M6) h)
  · have h := h.2 hc
    refine V_lload C 5 dX5_divideExactly_76 rfl ?_
    refine V_aload_n C 0 dX5_divideExactly_78 rfl ?_
    refine V_getR C FL_RX5_11 (f5_0 hb) dX5_divideExactly_79 ?_
    refine V_iload C 6 dX5_divideExactly_82 rfl ?_
    refine V_iload C 3 dX5_divideExactly_84 rfl ?_
    refine V_iadd C dX5_divideExactly_86 ?_
    obtain ⟨b8, h⟩ := h
    refine V_iald C (k5_1 hb) b8 dX5_divideExactly_87 ?_
    refine V_i2l C dX5_divideExactly_88 ?_
    refine V_iload C 4 dX5_divideExactly_89 rfl ?_
    refine V_i2l C dX5_divideExactly_91 ?_
    refine V_aload_n C 1 dX5_divideExactly_92 rfl ?_
    refine V_getR C FL_RX5_11 (f5_0 h1) dX5_divideExactly_93 ?_
    refine V_iload C 6 dX5_divideExactly_96 rfl ?_
    obtain ⟨b9, h⟩ := h
    refine V_iald C (k5_1 h1) b9 dX5_divideExactly_98 ?_
    refine V_i2l C dX5_divideExactly_99 ?_
    refine V_lmul C dX5_divideExactly_100 ?_
    refine V_lsub C dX5_divideExactly_101 ?_
    refine V_ladd C dX5_divideExactly_102 ?_
    refine V_nmL (fun x10 e_x10 => ?_)
    have h := h x10 e_x10
    refine V_lstore (lv' := [(6, .long x10), (0, vR X b), (1, vR X p1), (3, .int v3), (4, .int v4), (5, .int v5), (8, .int v8)]) C (ltN hN (by decide)) dX5_divideExactly_103 rfl ?_
    refine V_aload_n C 1 dX5_divideExactly_105 rfl ?_
    refine V_getR C FL_RX5_11 (f5_0 hb) dX5_divideExactly_106 ?_
    refine V_iload C 6 dX5_divideExactly_109 rfl ?_
    refine V_iload C 4 dX5_divideExactly_111 rfl ?_
    refine V_iadd C dX5_divideExactly_113 ?_
    refine V_lload C 0 dX5_divideExactly_114 rfl ?_
    refine V_ldc2 C u_3 dX5_divideExactly_116 ?_
    refine V_land C dX5_divideExactly_119 ?_
    refine V_l2i C dX5_divideExactly_120 ?_
    obtain ⟨b12, h⟩ := h
    refine V_iast C (k5_1 hb) b12 dX5_divideExactly_121 ?_
    refine V_nmM (fun M11 e_M11 => ?_)
    have h := h M11 e_M11
    refine V_lload C 0 dX5_divideExactly_122 rfl ?_
    refine V_bipush C 30 dX5_divideExactly_124 (by decide) ?_
    refine V_lshr C dX5_divideExactly_126 ?_
    refine V_nmL (fun x13 e_x13 => ?_)
    have h := h x13 e_x13
    refine V_lstore (lv' := [(6, .long x13), (0, vR X b), (1, vR X p1), (3, .int v3), (4, .int v4), (5, .int v5), (8, .int v8)]) C (ltN hN (by decide)) dX5_divideExactly_127 rfl ?_
    refine V_iinc (v := (v8 + 1)) (lv' := [(8, .int (v8 + 1)), (6, .long x13), (0, vR X b), (1, vR X p1), (3, .int v3), (4, .int v4), (5, .int v5)]) C 6 (ltN hN (by decide)) dX5_divideExactly_129 rfl rfl rfl ?_
    refine V_goto (tgt := 66) C dX5_divideExactly_132 (by decide) ?_
    exact V_sub [2, 3, 4, 5, 6, 1, 0] rfl (hag66 (x13, (v8 + 1), M11) h)
set_option maxRecDepth 20000 in
set_option maxHeartbeats 1000000 in
theorem s_X5_divideExactly_F39 {X : wX} (C : CX X cX5_divideExactly RX5 (none)) (hH : xH X = 1) (hN : xN X = 9) {b : Nat} {p1 : Nat} {M : mM} {Q : mM → Prop} (hQ : ∀ M, Q M → xPo X none M) (hb : isC (xW X) 5 b) (h1 : isC (xW X) 5 p1) {v3 : Int32} {v4 : Int32} {ag39 : (Int32 × mM) → Prop} (hag39 : ∀ s, ag39 s → V X 39 [(0, vR X b), (1, vR X p1), (3, .int v3), (4, .int (s.1))] [] (s.2)) (h : p_X5_divideExactly_F39 b p1 v3 Q  ag39 v4 M) : V X 39 [(0, vR X b), (1, vR X p1), (3, .int v3), (4, .int v4)] [] M := by
  refine V_iload C 3 dX5_divideExactly_39 rfl ?_
  refine V_bipush C 16 dX5_divideExactly_41 (by decide) ?_
  refine V_icmp_ge (tgt := 150) C dX5_divideExactly_43 (by decide) (fun hc => ?_) (fun hc => ?_)
  · have h := h.1 hc
    refine V_aload_n C 0 dX5_divideExactly_150 rfl ?_
    refine V_getR C FL_RX5_15 (f5_1 hb) dX5_divideExactly_151 ?_
    refine V_iconst C 0 dX5_divideExactly_154 (by decide) ?_
    refine V_aload_n C 0 dX5_divideExactly_155 rfl ?_
    refine V_getR C FL_RX5_11 (f5_0 hb) dX5_divideExactly_156 ?_
    refine V_iconst C 0 dX5_divideExactly_159 (by decide) ?_
    refine V_bipush C 16 dX5_divideExactly_160 (by decide) ?_
    refine V_copy C (k5_2 hb) (k5_1 hb) (ltN hH (by decide)) u_9 ⟨u_10, u_11, u_12⟩ (by decide) (by decide) (by decide) (by decide) (by decide) (Nat.le_of_ble_eq_true rfl) dX5_divideExactly_162 ?_
    refine V_nmM (fun M2 e_M2 => ?_)
    have h := h M2 e_M2
    refine V_aload_n C 0 dX5_divideExactly_165 rfl ?_
    refine V_callV (As := []) (st := []) C (c_X5_measure hb h) Y_X5_measure Z_X5_measure (T := TX5) (N := 3) rfl (o5 hb) (ltN hH (by decide)) u_2 rfl rfl (Nat.le_of_ble_eq_true rfl) dX5_divideExactly_166 ?_
    rintro v9 M3 ⟨rfl, h⟩
    show V X 169 _ [] M3
    exact V_vret C dX5_divideExactly_169 (hQ _ h)
  · have h := h.2 hc
    refine V_aload_n C 0 dX5_divideExactly_46 rfl ?_
    refine V_getR C FL_RX5_11 (f5_0 hb) dX5_divideExactly_47 ?_
    refine V_iload C 3 dX5_divideExactly_50 rfl ?_
    obtain ⟨b4, h⟩ := h
    refine V_iald C (k5_1 hb) b4 dX5_divideExactly_52 ?_
    refine V_iload_n C 2 dX5_divideExactly_53 rfl ?_
    refine V_imul C dX5_divideExactly_54 ?_
    refine V_ldc C u_13 dX5_divideExactly_55 ?_
    refine V_iand C dX5_divideExactly_57 ?_
    refine V_nmI (fun x5 e_x5 => ?_)
    have h := h x5 e_x5
    refine V_istore (lv' := [(5, .int x5), (0, vR X b), (1, vR X p1), (3, .int v3), (4, .int v4)]) C (ltN hN (by decide)) dX5_divideExactly_58 rfl ?_
    refine V_lconst C 0 dX5_divideExactly_60 (by decide) ?_
    refine V_lstore (lv' := [(6, .long 0), (5, .int x5), (0, vR X b), (1, vR X p1), (3, .int v3), (4, .int v4)]) C (ltN hN (by decide)) dX5_divideExactly_61 rfl ?_
    refine V_iconst C 0 dX5_divideExactly_63 (by decide) ?_
    refine V_istore (lv' := [(8, .int 0), (6, .long 0), (5, .int x5), (0, vR X b), (1, vR X p1), (3, .int v3), (4, .int v4)]) C (ltN hN (by decide)) dX5_divideExactly_64 rfl ?_
    refine V_sub [3, 4, 5, 6, 2, 1, 0] rfl ?_
    exact Loop.sound (s0 := ((0 : Int64), (0 : Int32), M)) (P := fun s => V X 66 [(0, vR X b), (1, vR X p1), (3, .int v3), (4, .int v4), (5, .int x5), (6, .long (s.1)), (8, .int (s.2.1))] [] (s.2.2)) h (fun ag hag s hs => s_X5_divideExactly_F66 C hH hN hQ hb h1 hag39 hag hs)
set_option maxRecDepth 20000 in
set_option maxHeartbeats 1000000 in
theorem s_X5_divideExactly_F12 {X : wX} (C : CX X cX5_divideExactly RX5 (none)) (hH : xH X = 1) (hN : xN X = 9) {b : Nat} {p1 : Nat} {M : mM} {Q : mM → Prop} (hQ : ∀ M, Q M → xPo X none M) (hb : isC (xW X) 5 b) (h1 : isC (xW X) 5 p1) {v2 : Int32} {v3 : Int32} {v4 : Int32} {ag12 : (Int32 × Int32) → Prop} (hag12 : ∀ s, ag12 s → V X 12 [(0, vR X b), (1, vR X p1), (2, .int v2), (3, .int (s.1)), (4, .int (s.2))] [] M) (h : p_X5_divideExactly_F12 b p1 v2 M Q  ag12 v3 v4) : V X 12 [(0, vR X b), (1, vR X p1), (2, .int v2), (3, .int v3), (4, .int v4)] [] M := by
  refine V_iload C 4 dX5_divideExactly_12 rfl ?_
  refine V_bipush C 30 dX5_divideExactly_14 (by decide) ?_
  refine V_icmp_ge (tgt := 36) C dX5_divideExactly_16 (by decide) (fun hc => ?_) (fun hc => ?_)
  · have h := h.1 hc
    refine V_iconst C 0 dX5_divideExactly_36 (by decide) ?_
    refine V_istore (lv' := [(4, .int 0), (0, vR X b), (1, vR X p1), (2, .int v2), (3, .int v3)]) C (ltN hN (by decide)) dX5_divideExactly_37 rfl ?_
    refine V_sub [1, 2, 4, 0] rfl ?_
    exact Loop.sound (s0 := ((0 : Int32), M)) (P := fun s => V X 39 [(0, vR X b), (1, vR X p1), (3, .int v3), (4, .int (s.1))] [] (s.2)) h (fun ag hag s hs => s_X5_divideExactly_F39 C hH hN hQ hb h1  hag hs)
  · have h := h.2 hc
    refine V_iload_n C 3 dX5_divideExactly_19 rfl ?_
    refine V_iconst C 2 dX5_divideExactly_20 (by decide) ?_
    refine V_iload_n C 2 dX5_divideExactly_21 rfl ?_
    refine V_iload_n C 3 dX5_divideExactly_22 rfl ?_
    refine V_imul C dX5_divideExactly_23 ?_
    refine V_isub C dX5_divideExactly_24 ?_
    refine V_imul C dX5_divideExactly_25 ?_
    refine V_istore_n (lv' := [(3, .int (v3 * (2 - (v2 * v3)))), (0, vR X b), (1, vR X p1), (2, .int v2), (4, .int v4)]) C (ltN hN (by decide)) dX5_divideExactly_26 rfl ?_
    refine V_iload C 4 dX5_divideExactly_27 rfl ?_
    refine V_iconst C 2 dX5_divideExactly_29 (by decide) ?_
    refine V_imul C dX5_divideExactly_30 ?_
    refine V_istore (lv' := [(4, .int (v4 * 2)), (3, .int (v3 * (2 - (v2 * v3)))), (0, vR X b), (1, vR X p1), (2, .int v2)]) C (ltN hN (by decide)) dX5_divideExactly_31 rfl ?_
    refine V_goto (tgt := 12) C dX5_divideExactly_33 (by decide) ?_
    exact V_sub [2, 3, 4, 1, 0] rfl (hag12 ((v3 * (2 - (v2 * v3))), (v4 * 2)) h)
set_option maxRecDepth 20000 in
set_option maxHeartbeats 1000000 in
theorem s_X5_divideExactly {X : wX} (C : CX X cX5_divideExactly RX5 (none)) (hH : xH X = 1) (hN : xN X = 9) {b : Nat} {p1 : Nat} {M : mM} {Q : mM → Prop} (hQ : ∀ M, Q M → xPo X none M) (hb : isC (xW X) 5 b) (h1 : isC (xW X) 5 p1)   (h : p_X5_divideExactly b p1 M Q) : V X 0 [(0, vR X b), (1, vR X p1)] [] M := by
  refine V_aload_n C 1 dX5_divideExactly_0 rfl ?_
  refine V_getR C FL_RX5_11 (f5_0 h1) dX5_divideExactly_1 ?_
  refine V_iconst C 0 dX5_divideExactly_4 (by decide) ?_
  refine V_iald C (k5_1 h1) (vp_lit (by decide)) dX5_divideExactly_5 ?_
  refine V_nmI (fun x1 e_x1 => ?_)
  have h := h x1 e_x1
  refine V_istore_n (lv' := [(2, .int x1), (0, vR X b), (1, vR X p1)]) C (ltN hN (by decide)) dX5_divideExactly_6 rfl ?_
  refine V_iload_n C 0 dX5_divideExactly_7 rfl ?_
  refine V_istore_n (lv' := [(3, .int x1), (2, .int x1), (0, vR X b), (1, vR X p1)]) C (ltN hN (by decide)) dX5_divideExactly_8 rfl ?_
  refine V_iconst C 3 dX5_divideExactly_9 (by decide) ?_
  refine V_istore (lv' := [(4, .int 3), (3, .int x1), (2, .int x1), (0, vR X b), (1, vR X p1)]) C (ltN hN (by decide)) dX5_divideExactly_10 rfl ?_
  refine V_sub [3, 4, 2, 1, 0] rfl ?_
  exact Loop.sound (s0 := (x1, (3 : Int32))) (P := fun s => V X 12 [(0, vR X b), (1, vR X p1), (2, .int x1), (3, .int (s.1)), (4, .int (s.2))] [] M) h (fun ag hag s hs => s_X5_divideExactly_F12 C hH hN hQ hb h1  hag hs)
set_option maxRecDepth 20000 in
set_option maxHeartbeats 1000000 in
theorem c_X5_divideExactly {w : wU} {l : Launch} {b : Nat} {p1 : Nat} {M : mM} {Q : mM → Prop} (hb : isC w 5 b) (h1 : isC w 5 p1) (h : p_X5_divideExactly b p1 M Q) : CT w l 1 yX5_divideExactly cX5_divideExactly 9 (none) [.ref (uA w b), .ref (uA w p1)] M (piV Q) := by
  refine CT.of (by decide +kernel) (Nat.le_of_ble_eq_true rfl) (fun X hw hH hl hP hN C => ?_)
  subst hw
  exact s_X5_divideExactly C hH hN (fun M1 q => by rw [hP]; exact ⟨rfl, q⟩) hb h1 h
set_option maxRecDepth 20000 in
set_option maxHeartbeats 1000000 in
theorem s_X0_reduce {X : wX} (C : CX X cX0_reduce RX0 (none)) (hH : xH X = 3) (hN : xN X = 2) {b : Nat} {M : mM} {Q : mM → Prop} (hQ : ∀ M, Q M → xPo X none M) (hb : isC (xW X) 0 b)   (h : p_X0_reduce b M Q) : V X 0 [(0, vR X b)] [] M := by
  refine V_aload_n C 0 dX0_reduce_0 rfl ?_
  refine V_getR C FL_RX0_10 (f0_0 hb) dX0_reduce_1 ?_
  refine V_callV (As := []) (st := []) C (c_X5_isZero (j0_1 hb) h) Y_X5_isZero Z_X5_isZero (T := TX5) (N := 3) rfl (o5 (j0_1 hb)) (ltN hH (by decide)) u_31 rfl rfl (Nat.le_of_ble_eq_true rfl) dX0_reduce_4 ?_
  rintro v9 M9 ⟨rfl, r1, rfl, h⟩
  show V X 7 _ [.int r1] M
  refine V_if_eq (tgt := 19) C dX0_reduce_7 (by decide) (fun hc => ?_) (fun hc => ?_)
  · have h := h.1 hc
    refine V_aload_n C 0 dX0_reduce_19 rfl ?_
    refine V_getR C FL_RX0_10 (f0_0 hb) dX0_reduce_20 ?_
    refine V_callV (As := []) (st := []) C (c_X5_twos (j0_1 hb) h) Y_X5_twos Z_X5_twos (T := TX5) (N := 3) rfl (o5 (j0_1 hb)) (ltN hH (by decide)) u_19 rfl rfl (Nat.le_of_ble_eq_true rfl) dX0_reduce_23 ?_
    rintro v9 M9 ⟨rfl, r2, rfl, h⟩
    show V X 26 _ [.int r2] M
    refine V_aload_n C 0 dX0_reduce_26 rfl ?_
    refine V_getR C FL_RX0_16 (f0_1 hb) dX0_reduce_27 ?_
    refine V_callV (As := []) (st := [.int r2]) C (c_X5_twos (j0_4 hb) h) Y_X5_twos Z_X5_twos (T := TX5) (N := 3) rfl (o5 (j0_4 hb)) (ltN hH (by decide)) u_19 rfl rfl (Nat.le_of_ble_eq_true rfl) dX0_reduce_30 ?_
    rintro v9 M9 ⟨rfl, r3, rfl, h⟩
    show V X 33 _ [.int r3, .int r2] M
    refine V_min C (ltN hH (by decide)) u_24 u_25 u_26 u_27 (Nat.le_of_ble_eq_true rfl) dX0_reduce_33 ?_
    refine V_nmI (fun x4 e_x4 => ?_)
    have h := h x4 e_x4
    refine V_istore_n (lv' := [(1, .int x4), (0, vR X b)]) C (ltN hN (by decide)) dX0_reduce_36 rfl ?_
    refine V_aload_n C 1 dX0_reduce_37 rfl ?_
    refine V_getR C FL_RX0_10 (f0_0 hb) dX0_reduce_38 ?_
    refine V_iload_n C 0 dX0_reduce_41 rfl ?_
    refine V_callV (As := [.int x4]) (st := []) C (c_X5_shiftDown (j0_1 hb) h) Y_X5_shiftDown Z_X5_shiftDown (T := TX5) (N := 3) rfl (o5 (j0_1 hb)) (ltN hH (by decide)) u_18 rfl rfl (Nat.le_of_ble_eq_true rfl) dX0_reduce_42 ?_
    rintro v9 M5 ⟨rfl, h⟩
    show V X 45 _ [] M5
    refine V_aload_n C 1 dX0_reduce_45 rfl ?_
    refine V_getR C FL_RX0_16 (f0_1 hb) dX0_reduce_46 ?_
    refine V_iload_n C 0 dX0_reduce_49 rfl ?_
    refine V_callV (As := [.int x4]) (st := []) C (c_X5_shiftDown (j0_4 hb) h) Y_X5_shiftDown Z_X5_shiftDown (T := TX5) (N := 3) rfl (o5 (j0_4 hb)) (ltN hH (by decide)) u_18 rfl rfl (Nat.le_of_ble_eq_true rfl) dX0_reduce_50 ?_
    rintro v9 M6 ⟨rfl, h⟩
    show V X 53 _ [] M6
    refine V_aload_n C 1 dX0_reduce_53 rfl ?_
    refine V_callV (As := []) (st := []) C (c_X0_findCommon hb h) Y_X0_findCommon Z_X0_findCommon (T := TX0) (N := 4) rfl (o0 hb) (ltN hH (by decide)) u_29 rfl rfl (Nat.le_of_ble_eq_true rfl) dX0_reduce_54 ?_
    rintro v9 M7 ⟨rfl, h⟩
    show V X 57 _ [] M7
    refine V_aload_n C 1 dX0_reduce_57 rfl ?_
    refine V_getR C FL_RX0_10 (f0_0 hb) dX0_reduce_58 ?_
    refine V_aload_n C 1 dX0_reduce_61 rfl ?_
    refine V_getR C FL_RX0_19 (f0_2 hb) dX0_reduce_62 ?_
    refine V_callV (As := [vR X (b + 7)]) (st := []) C (c_X5_divideExactly (j0_1 hb) (j0_7 hb) h) Y_X5_divideExactly Z_X5_divideExactly (T := TX5) (N := 3) rfl (o5 (j0_1 hb)) (ltN hH (by decide)) u_28 rfl rfl (Nat.le_of_ble_eq_true rfl) dX0_reduce_65 ?_
    rintro v9 M8 ⟨rfl, h⟩
    show V X 68 _ [] M8
    refine V_aload_n C 1 dX0_reduce_68 rfl ?_
    refine V_getR C FL_RX0_16 (f0_1 hb) dX0_reduce_69 ?_
    refine V_aload_n C 1 dX0_reduce_72 rfl ?_
    refine V_getR C FL_RX0_19 (f0_2 hb) dX0_reduce_73 ?_
    refine V_callV (As := [vR X (b + 7)]) (st := []) C (c_X5_divideExactly (j0_4 hb) (j0_7 hb) h) Y_X5_divideExactly Z_X5_divideExactly (T := TX5) (N := 3) rfl (o5 (j0_4 hb)) (ltN hH (by decide)) u_28 rfl rfl (Nat.le_of_ble_eq_true rfl) dX0_reduce_76 ?_
    rintro v9 M9 ⟨rfl, h⟩
    show V X 79 _ [] M9
    exact V_vret C dX0_reduce_79 (hQ _ h)
  · have h := h.2 hc
    refine V_aload_n C 0 dX0_reduce_10 rfl ?_
    refine V_getR C FL_RX0_16 (f0_1 hb) dX0_reduce_11 ?_
    refine V_lconst C 1 dX0_reduce_14 (by decide) ?_
    refine V_callV (As := [.long 1]) (st := []) C (c_X5_set (j0_4 hb) h) Y_X5_set Z_X5_set (T := TX5) (N := 3) rfl (o5 (j0_4 hb)) (ltN hH (by decide)) u_30 rfl rfl (Nat.le_of_ble_eq_true rfl) dX0_reduce_15 ?_
    rintro v9 M10 ⟨rfl, h⟩
    show V X 18 _ [] M10
    exact V_vret C dX0_reduce_18 (hQ _ h)
set_option maxRecDepth 20000 in
set_option maxHeartbeats 1000000 in
theorem c_X0_reduce {w : wU} {l : Launch} {b : Nat} {M : mM} {Q : mM → Prop} (hb : isC w 0 b) (h : p_X0_reduce b M Q) : CT w l 3 yX0_reduce cX0_reduce 2 (none) [.ref (uA w b)] M (piV Q) := by
  refine CT.of (by decide +kernel) (Nat.le_of_ble_eq_true rfl) (fun X hw hH hl hP hN C => ?_)
  subst hw
  exact s_X0_reduce C hH hN (fun M1 q => by rw [hP]; exact ⟨rfl, q⟩) hb h
set_option maxRecDepth 20000 in
set_option maxHeartbeats 1000000 in
theorem s_X0_setTo {X : wX} (C : CX X cX0_setTo RX0 (none)) (hH : xH X = 4) (hN : xN X = 5) {b : Nat} {p1 : Int64} {p2 : Int64} {M : mM} {Q : mM → Prop} (hQ : ∀ M, Q M → xPo X none M) (hb : isC (xW X) 0 b)   (h : p_X0_setTo b p1 p2 M Q) : V X 0 [(0, vR X b), (1, .long p1), (3, .long p2)] [] M := by
  refine V_aload_n C 0 dX0_setTo_0 rfl ?_
  refine V_getR C FL_RX0_10 (f0_0 hb) dX0_setTo_1 ?_
  refine V_lload_n C 1 dX0_setTo_4 rfl ?_
  refine V_callV (As := [.long p1]) (st := []) C (c_X5_set (j0_1 hb) h) Y_X5_set Z_X5_set (T := TX5) (N := 3) rfl (o5 (j0_1 hb)) (ltN hH (by decide)) u_30 rfl rfl (Nat.le_of_ble_eq_true rfl) dX0_setTo_5 ?_
  rintro v9 M1 ⟨rfl, h⟩
  show V X 8 _ [] M1
  refine V_aload_n C 0 dX0_setTo_8 rfl ?_
  refine V_getR C FL_RX0_16 (f0_1 hb) dX0_setTo_9 ?_
  refine V_lload_n C 2 dX0_setTo_12 rfl ?_
  refine V_callV (As := [.long p2]) (st := []) C (c_X5_set (j0_4 hb) h) Y_X5_set Z_X5_set (T := TX5) (N := 3) rfl (o5 (j0_4 hb)) (ltN hH (by decide)) u_30 rfl rfl (Nat.le_of_ble_eq_true rfl) dX0_setTo_13 ?_
  rintro v9 M2 ⟨rfl, h⟩
  show V X 16 _ [] M2
  refine V_aload_n C 0 dX0_setTo_16 rfl ?_
  refine V_callV (As := []) (st := []) C (c_X0_reduce hb h) Y_X0_reduce Z_X0_reduce (T := TX0) (N := 4) rfl (o0 hb) (ltN hH (by decide)) u_32 rfl rfl (Nat.le_of_ble_eq_true rfl) dX0_setTo_17 ?_
  rintro v9 M3 ⟨rfl, h⟩
  show V X 20 _ [] M3
  exact V_vret C dX0_setTo_20 (hQ _ h)
set_option maxRecDepth 20000 in
set_option maxHeartbeats 1000000 in
theorem c_X0_setTo {w : wU} {l : Launch} {b : Nat} {p1 : Int64} {p2 : Int64} {M : mM} {Q : mM → Prop} (hb : isC w 0 b) (h : p_X0_setTo b p1 p2 M Q) : CT w l 4 yX0_setTo cX0_setTo 5 (none) [.ref (uA w b), .long p1, .long p2] M (piV Q) := by
  refine CT.of (by decide +kernel) (Nat.le_of_ble_eq_true rfl) (fun X hw hH hl hP hN C => ?_)
  subst hw
  exact s_X0_setTo C hH hN (fun M1 q => by rw [hP]; exact ⟨rfl, q⟩) hb h
set_option maxRecDepth 20000 in
set_option maxHeartbeats 1000000 in
theorem s_X0_setTo_ {X : wX} (C : CX X cX0_setTo_ RX0 (none)) (hH : xH X = 4) (hN : xN X = 3) {b : Nat} {p1 : Nat} {p2 : Nat} {M : mM} {Q : mM → Prop} (hQ : ∀ M, Q M → xPo X none M) (hb : isC (xW X) 0 b) (h1 : isC (xW X) 5 p1) (h2 : isC (xW X) 5 p2)   (h : p_X0_setTo_ b p1 p2 M Q) : V X 0 [(0, vR X b), (1, vR X p1), (2, vR X p2)] [] M := by
  refine V_aload_n C 0 dX0_setTo__0 rfl ?_
  refine V_getR C FL_RX0_10 (f0_0 hb) dX0_setTo__1 ?_
  refine V_aload_n C 1 dX0_setTo__4 rfl ?_
  refine V_callV (As := [vR X p1]) (st := []) C (c_X5_become (j0_1 hb) h1 h) Y_X5_become Z_X5_become (T := TX5) (N := 3) rfl (o5 (j0_1 hb)) (ltN hH (by decide)) u_22 rfl rfl (Nat.le_of_ble_eq_true rfl) dX0_setTo__5 ?_
  rintro v9 M1 ⟨rfl, h⟩
  show V X 8 _ [] M1
  refine V_aload_n C 0 dX0_setTo__8 rfl ?_
  refine V_getR C FL_RX0_16 (f0_1 hb) dX0_setTo__9 ?_
  refine V_aload_n C 2 dX0_setTo__12 rfl ?_
  refine V_callV (As := [vR X p2]) (st := []) C (c_X5_become (j0_4 hb) h2 h) Y_X5_become Z_X5_become (T := TX5) (N := 3) rfl (o5 (j0_4 hb)) (ltN hH (by decide)) u_22 rfl rfl (Nat.le_of_ble_eq_true rfl) dX0_setTo__13 ?_
  rintro v9 M2 ⟨rfl, h⟩
  show V X 16 _ [] M2
  refine V_aload_n C 0 dX0_setTo__16 rfl ?_
  refine V_callV (As := []) (st := []) C (c_X0_reduce hb h) Y_X0_reduce Z_X0_reduce (T := TX0) (N := 4) rfl (o0 hb) (ltN hH (by decide)) u_32 rfl rfl (Nat.le_of_ble_eq_true rfl) dX0_setTo__17 ?_
  rintro v9 M3 ⟨rfl, h⟩
  show V X 20 _ [] M3
  exact V_vret C dX0_setTo__20 (hQ _ h)
set_option maxRecDepth 20000 in
set_option maxHeartbeats 1000000 in
theorem c_X0_setTo_ {w : wU} {l : Launch} {b : Nat} {p1 : Nat} {p2 : Nat} {M : mM} {Q : mM → Prop} (hb : isC w 0 b) (h1 : isC w 5 p1) (h2 : isC w 5 p2) (h : p_X0_setTo_ b p1 p2 M Q) : CT w l 4 yX0_setTo_ cX0_setTo_ 3 (none) [.ref (uA w b), .ref (uA w p1), .ref (uA w p2)] M (piV Q) := by
  refine CT.of (by decide +kernel) (Nat.le_of_ble_eq_true rfl) (fun X hw hH hl hP hN C => ?_)
  subst hw
  exact s_X0_setTo_ C hH hN (fun M1 q => by rw [hP]; exact ⟨rfl, q⟩) hb h1 h2 h
set_option maxRecDepth 20000 in
set_option maxHeartbeats 1000000 in
theorem s_X6_within {X : wX} (C : CX X cX6_within RX6 (some .boolean)) (hH : xH X = 0) (hN : xN X = 3) {p1 : Int32} {p2 : Int32} {p3 : Int32} {M : mM} {Q : Int32 → Prop} (hQ : ∀ r, Q r → xPo X (some (.int r)) M)    (h : p_X6_within p1 p2 p3 M Q) : V X 0 [(0, .int p1), (1, .int p2), (2, .int p3)] [] M := by
  refine V_iload_n C 0 dX6_within_0 rfl ?_
  refine V_iload_n C 1 dX6_within_1 rfl ?_
  refine V_icmp_lt (tgt := 14) C dX6_within_2 (by decide) (fun hc => ?_) (fun hc => ?_)
  · have h := h.1 hc
    refine V_iconst C 0 dX6_within_14 (by decide) ?_
    exact V_zret C rfl (by decide) dX6_within_15 (hQ _ h)
  · have h := h.2 hc
    refine V_iload_n C 0 dX6_within_5 rfl ?_
    refine V_iload_n C 2 dX6_within_6 rfl ?_
    refine V_icmp_gt (tgt := 14) C dX6_within_7 (by decide) (fun hc => ?_) (fun hc => ?_)
    · have h := h.1 hc
      refine V_iconst C 0 dX6_within_14 (by decide) ?_
      exact V_zret C rfl (by decide) dX6_within_15 (hQ _ h)
    · have h := h.2 hc
      refine V_iconst C 1 dX6_within_10 (by decide) ?_
      refine V_goto (tgt := 15) C dX6_within_11 (by decide) ?_
      exact V_zret C rfl (by decide) dX6_within_15 (hQ _ h)
set_option maxRecDepth 20000 in
set_option maxHeartbeats 1000000 in
theorem c_X6_within {w : wU} {l : Launch} {p1 : Int32} {p2 : Int32} {p3 : Int32} {M : mM} {Q : Int32 → Prop}  (h : p_X6_within p1 p2 p3 M Q) : CT w l 0 yX6_within cX6_within 3 (some .boolean) [.int p1, .int p2, .int p3] M (poI M Q) := by
  refine CT.of (by decide +kernel) (Nat.le_of_ble_eq_true rfl) (fun X hw hH hl hP hN C => ?_)
  subst hw
  exact s_X6_within C hH hN (fun r q => by rw [hP]; exact ⟨rfl, r, rfl, q⟩)  h
set_option maxRecDepth 20000 in
set_option maxHeartbeats 1000000 in
theorem s_X6_groundOf {X : wX} (C : CX X cX6_groundOf RX6 (some .int)) (hH : xH X = 0) (hN : xN X = 1) {p1 : Int32} {M : mM} {Q : Int32 → Prop} (hQ : ∀ r, Q r → xPo X (some (.int r)) M)    (h : p_X6_groundOf p1 M Q) : V X 0 [(0, .int p1)] [] M := by
  refine V_iload_n C 0 dX6_groundOf_0 rfl ?_
  refine V_if_gt (tgt := 6) C dX6_groundOf_1 (by decide) (fun hc => ?_) (fun hc => ?_)
  · have h := h.1 hc
    refine V_iload_n C 0 dX6_groundOf_6 rfl ?_
    refine V_iconst C 4 dX6_groundOf_7 (by decide) ?_
    refine V_icmp_gt (tgt := 17) C dX6_groundOf_8 (by decide) (fun hc => ?_) (fun hc => ?_)
    · have h := h.1 hc
      refine V_iload_n C 0 dX6_groundOf_17 rfl ?_
      refine V_iconst C 1 dX6_groundOf_18 (by decide) ?_
      refine V_isub C dX6_groundOf_19 ?_
      refine V_iconst C 4 dX6_groundOf_20 (by decide) ?_
      refine V_isub C dX6_groundOf_21 ?_
      refine V_iconst C 4 dX6_groundOf_22 (by decide) ?_
      refine V_idiv C dX6_groundOf_23 (by decide) ?_
      exact V_iret C dX6_groundOf_24 (hQ _ h)
    · have h := h.2 hc
      refine V_iload_n C 0 dX6_groundOf_11 rfl ?_
      refine V_iconst C 1 dX6_groundOf_12 (by decide) ?_
      refine V_isub C dX6_groundOf_13 ?_
      refine V_goto (tgt := 24) C dX6_groundOf_14 (by decide) ?_
      exact V_iret C dX6_groundOf_24 (hQ _ h)
  · have h := h.2 hc
    refine V_iconst C (-1) dX6_groundOf_4 (by decide) ?_
    exact V_iret C dX6_groundOf_5 (hQ _ h)
set_option maxRecDepth 20000 in
set_option maxHeartbeats 1000000 in
theorem c_X6_groundOf {w : wU} {l : Launch} {p1 : Int32} {M : mM} {Q : Int32 → Prop}  (h : p_X6_groundOf p1 M Q) : CT w l 0 yX6_groundOf cX6_groundOf 1 (some .int) [.int p1] M (poI M Q) := by
  refine CT.of (by decide +kernel) (Nat.le_of_ble_eq_true rfl) (fun X hw hH hl hP hN C => ?_)
  subst hw
  exact s_X6_groundOf C hH hN (fun r q => by rw [hP]; exact ⟨rfl, r, rfl, q⟩)  h
set_option maxRecDepth 20000 in
set_option maxHeartbeats 1000000 in
theorem s_X6_upperOf {X : wX} (C : CX X cX6_upperOf RX6 (some .int)) (hH : xH X = 0) (hN : xN X = 1) {p1 : Int32} {M : mM} {Q : Int32 → Prop} (hQ : ∀ r, Q r → xPo X (some (.int r)) M)    (h : p_X6_upperOf p1 M Q) : V X 0 [(0, .int p1)] [] M := by
  refine V_iload_n C 0 dX6_upperOf_0 rfl ?_
  refine V_iconst C 4 dX6_upperOf_1 (by decide) ?_
  refine V_icmp_gt (tgt := 9) C dX6_upperOf_2 (by decide) (fun hc => ?_) (fun hc => ?_)
  · have h := h.1 hc
    refine V_iload_n C 0 dX6_upperOf_9 rfl ?_
    refine V_iconst C 1 dX6_upperOf_10 (by decide) ?_
    refine V_isub C dX6_upperOf_11 ?_
    refine V_iconst C 4 dX6_upperOf_12 (by decide) ?_
    refine V_isub C dX6_upperOf_13 ?_
    refine V_iconst C 4 dX6_upperOf_14 (by decide) ?_
    refine V_irem C dX6_upperOf_15 (by decide) ?_
    exact V_iret C dX6_upperOf_16 (hQ _ h)
  · have h := h.2 hc
    refine V_iconst C (-1) dX6_upperOf_5 (by decide) ?_
    refine V_goto (tgt := 16) C dX6_upperOf_6 (by decide) ?_
    exact V_iret C dX6_upperOf_16 (hQ _ h)
set_option maxRecDepth 20000 in
set_option maxHeartbeats 1000000 in
theorem c_X6_upperOf {w : wU} {l : Launch} {p1 : Int32} {M : mM} {Q : Int32 → Prop}  (h : p_X6_upperOf p1 M Q) : CT w l 0 yX6_upperOf cX6_upperOf 1 (some .int) [.int p1] M (poI M Q) := by
  refine CT.of (by decide +kernel) (Nat.le_of_ble_eq_true rfl) (fun X hw hH hl hP hN C => ?_)
  subst hw
  exact s_X6_upperOf C hH hN (fun r q => by rw [hP]; exact ⟨rfl, r, rfl, q⟩)  h
set_option maxRecDepth 20000 in
set_option maxHeartbeats 1000000 in
theorem s_X2_isStack {X : wX} (C : CX X cX2_isStack RX2 (some .boolean)) (hH : xH X = 1) (hN : xN X = 2) {b : Nat} {p1 : Int32} {M : mM} {Q : Int32 → Prop} (hQ : ∀ r, Q r → xPo X (some (.int r)) M) (hb : isC (xW X) 2 b)   (h : p_X2_isStack b p1 M Q) : V X 0 [(0, vR X b), (1, .int p1)] [] M := by
  refine V_iload_n C 1 dX2_isStack_0 rfl ?_
  refine V_iconst C 0 dX2_isStack_1 (by decide) ?_
  refine V_bipush C 20 dX2_isStack_2 (by decide) ?_
  refine V_callN (As := [.int p1, .int 0, .int 20]) (st := []) C (c_X6_within  h) Y_X6_within Z_X6_within (ltN hH (by decide)) (List.mem_of_getElem? (i := 4) rfl) rfl rfl (Nat.le_of_ble_eq_true rfl) dX2_isStack_4 ?_
  rintro v9 M9 ⟨rfl, r1, rfl, h⟩
  show V X 7 _ [.int r1] M
  refine V_if_eq (tgt := 36) C dX2_isStack_7 (by decide) (fun hc => ?_) (fun hc => ?_)
  · have h := h.1 hc
    refine V_iconst C 0 dX2_isStack_36 (by decide) ?_
    exact V_zret C rfl (by decide) dX2_isStack_37 (hQ _ h)
  · have h := h.2 hc
    refine V_iload_n C 1 dX2_isStack_10 rfl ?_
    refine V_callN (As := [.int p1]) (st := []) C (c_X6_groundOf  h) Y_X6_groundOf Z_X6_groundOf (ltN hH (by decide)) (List.mem_of_getElem? (i := 6) rfl) rfl rfl (Nat.le_of_ble_eq_true rfl) dX2_isStack_11 ?_
    rintro v9 M9 ⟨rfl, r2, rfl, h⟩
    show V X 14 _ [.int r2] M
    refine V_aload_n C 0 dX2_isStack_14 rfl ?_
    refine V_getI C FL_RX2_48 (f2_11 hb) dX2_isStack_15 ?_
    refine V_icmp_ge (tgt := 36) C dX2_isStack_18 (by decide) (fun hc => ?_) (fun hc => ?_)
    · have h := h.1 hc
      refine V_iconst C 0 dX2_isStack_36 (by decide) ?_
      exact V_zret C rfl (by decide) dX2_isStack_37 (hQ _ h)
    · have h := h.2 hc
      refine V_iload_n C 1 dX2_isStack_21 rfl ?_
      refine V_callN (As := [.int p1]) (st := []) C (c_X6_upperOf  h) Y_X6_upperOf Z_X6_upperOf (ltN hH (by decide)) (List.mem_of_getElem? (i := 7) rfl) rfl rfl (Nat.le_of_ble_eq_true rfl) dX2_isStack_22 ?_
      rintro v9 M9 ⟨rfl, r3, rfl, h⟩
      show V X 25 _ [.int r3] M
      refine V_aload_n C 0 dX2_isStack_25 rfl ?_
      refine V_getI C FL_RX2_48 (f2_11 hb) dX2_isStack_26 ?_
      refine V_icmp_ge (tgt := 36) C dX2_isStack_29 (by decide) (fun hc => ?_) (fun hc => ?_)
      · have h := h.1 hc
        refine V_iconst C 0 dX2_isStack_36 (by decide) ?_
        exact V_zret C rfl (by decide) dX2_isStack_37 (hQ _ h)
      · have h := h.2 hc
        refine V_iconst C 1 dX2_isStack_32 (by decide) ?_
        refine V_goto (tgt := 37) C dX2_isStack_33 (by decide) ?_
        exact V_zret C rfl (by decide) dX2_isStack_37 (hQ _ h)
set_option maxRecDepth 20000 in
set_option maxHeartbeats 1000000 in
theorem c_X2_isStack {w : wU} {l : Launch} {b : Nat} {p1 : Int32} {M : mM} {Q : Int32 → Prop} (hb : isC w 2 b) (h : p_X2_isStack b p1 M Q) : CT w l 1 yX2_isStack cX2_isStack 2 (some .boolean) [.ref (uA w b), .int p1] M (poI M Q) := by
  refine CT.of (by decide +kernel) (Nat.le_of_ble_eq_true rfl) (fun X hw hH hl hP hN C => ?_)
  subst hw
  exact s_X2_isStack C hH hN (fun r q => by rw [hP]; exact ⟨rfl, r, rfl, q⟩) hb h
set_option maxRecDepth 20000 in
set_option maxHeartbeats 1000000 in
theorem s_X6_sideOf {X : wX} (C : CX X cX6_sideOf RX6 (some .int)) (hH : xH X = 0) (hN : xN X = 1) {p1 : Int32} {M : mM} {Q : Int32 → Prop} (hQ : ∀ r, Q r → xPo X (some (.int r)) M)    (h : p_X6_sideOf p1 M Q) : V X 0 [(0, .int p1)] [] M := by
  refine V_iload_n C 0 dX6_sideOf_0 rfl ?_
  refine V_bipush C 8 dX6_sideOf_1 (by decide) ?_
  refine V_irem C dX6_sideOf_3 (by decide) ?_
  refine V_iconst C 2 dX6_sideOf_4 (by decide) ?_
  refine V_idiv C dX6_sideOf_5 (by decide) ?_
  exact V_iret C dX6_sideOf_6 (hQ _ h)
set_option maxRecDepth 20000 in
set_option maxHeartbeats 1000000 in
theorem c_X6_sideOf {w : wU} {l : Launch} {p1 : Int32} {M : mM} {Q : Int32 → Prop}  (h : p_X6_sideOf p1 M Q) : CT w l 0 yX6_sideOf cX6_sideOf 1 (some .int) [.int p1] M (poI M Q) := by
  refine CT.of (by decide +kernel) (Nat.le_of_ble_eq_true rfl) (fun X hw hH hl hP hN C => ?_)
  subst hw
  exact s_X6_sideOf C hH hN (fun r q => by rw [hP]; exact ⟨rfl, r, rfl, q⟩)  h
set_option maxRecDepth 20000 in
set_option maxHeartbeats 1000000 in
theorem s_X4_isSo {X : wX} (C : CX X cX4_isSo RX4 (some .boolean)) (hH : xH X = 0) (hN : xN X = 5) {b : Nat} {p1 : Int32} {p2 : Int32} {p3 : Int32} {p4 : Int32} {M : mM} {Q : Int32 → Prop} (hQ : ∀ r, Q r → xPo X (some (.int r)) M) (hb : isC (xW X) 4 b)   (h : p_X4_isSo b p1 p2 p3 p4 M Q) : V X 0 [(0, vR X b), (1, .int p1), (2, .int p2), (3, .int p3), (4, .int p4)] [] M := by
  refine V_iload_n C 1 dX4_isSo_0 rfl ?_
  by_cases n0 : p1 = 0
  · have h := h.1 n0
    refine V_tsw (tgt := 44) C dX4_isSo_1 (43) (by rw [n0]; decide) (by rw [n0]; decide) (by rw [n0]; decide) (by decide) ?_
    refine V_aload_n C 0 dX4_isSo_44 rfl ?_
    refine V_getR C FL_RX4_19 (f4_2 hb) dX4_isSo_45 ?_
    refine V_iload_n C 3 dX4_isSo_48 rfl ?_
    obtain ⟨b1, h⟩ := h
    refine V_aald5 C (k4_11 hb) b1 dX4_isSo_49 ?_
    refine V_iload C 4 dX4_isSo_50 rfl ?_
    obtain ⟨b2, h⟩ := h
    refine V_iald C (r4_11 hb b1) b2 dX4_isSo_52 ?_
    refine V_iload_n C 2 dX4_isSo_53 rfl ?_
    refine V_ishr C dX4_isSo_54 ?_
    refine V_iconst C 1 dX4_isSo_55 (by decide) ?_
    refine V_iand C dX4_isSo_56 ?_
    refine V_iconst C 1 dX4_isSo_57 (by decide) ?_
    refine V_icmp_ne (tgt := 65) C dX4_isSo_58 (by decide) (fun hc => ?_) (fun hc => ?_)
    · have h := h.1 hc
      refine V_iconst C 0 dX4_isSo_65 (by decide) ?_
      exact V_zret C rfl (by decide) dX4_isSo_66 (hQ _ h)
    · have h := h.2 hc
      refine V_iconst C 1 dX4_isSo_61 (by decide) ?_
      refine V_goto (tgt := 66) C dX4_isSo_62 (by decide) ?_
      exact V_zret C rfl (by decide) dX4_isSo_66 (hQ _ h)
  by_cases n1 : p1 = 1
  · have h := h.2.1 n1
    refine V_tsw (tgt := 67) C dX4_isSo_1 (66) (by rw [n1]; decide) (by rw [n1]; decide) (by rw [n1]; decide) (by decide) ?_
    refine V_aload_n C 0 dX4_isSo_67 rfl ?_
    refine V_getR C FL_RX4_16 (f4_1 hb) dX4_isSo_68 ?_
    refine V_iload_n C 3 dX4_isSo_71 rfl ?_
    obtain ⟨b3, h⟩ := h
    refine V_aald5 C (k4_6 hb) b3 dX4_isSo_72 ?_
    refine V_iload C 4 dX4_isSo_73 rfl ?_
    obtain ⟨b4, h⟩ := h
    refine V_iald C (r4_6 hb b3) b4 dX4_isSo_75 ?_
    refine V_iload_n C 2 dX4_isSo_76 rfl ?_
    refine V_ishr C dX4_isSo_77 ?_
    refine V_iconst C 1 dX4_isSo_78 (by decide) ?_
    refine V_iand C dX4_isSo_79 ?_
    refine V_iconst C 1 dX4_isSo_80 (by decide) ?_
    refine V_icmp_ne (tgt := 88) C dX4_isSo_81 (by decide) (fun hc => ?_) (fun hc => ?_)
    · have h := h.1 hc
      refine V_iconst C 0 dX4_isSo_88 (by decide) ?_
      exact V_zret C rfl (by decide) dX4_isSo_89 (hQ _ h)
    · have h := h.2 hc
      refine V_iconst C 1 dX4_isSo_84 (by decide) ?_
      refine V_goto (tgt := 89) C dX4_isSo_85 (by decide) ?_
      exact V_zret C rfl (by decide) dX4_isSo_89 (hQ _ h)
  by_cases n2 : p1 = 2
  · have h := h.2.2.1 n2
    refine V_tsw (tgt := 90) C dX4_isSo_1 (89) (by rw [n2]; decide) (by rw [n2]; decide) (by rw [n2]; decide) (by decide) ?_
    refine V_aload_n C 0 dX4_isSo_90 rfl ?_
    refine V_getR C FL_RX4_16 (f4_1 hb) dX4_isSo_91 ?_
    refine V_iload_n C 3 dX4_isSo_94 rfl ?_
    obtain ⟨b5, h⟩ := h
    refine V_aald5 C (k4_6 hb) b5 dX4_isSo_95 ?_
    refine V_iload C 4 dX4_isSo_96 rfl ?_
    obtain ⟨b6, h⟩ := h
    refine V_iald C (r4_6 hb b5) b6 dX4_isSo_98 ?_
    refine V_iload_n C 2 dX4_isSo_99 rfl ?_
    refine V_ishr C dX4_isSo_100 ?_
    refine V_iconst C 1 dX4_isSo_101 (by decide) ?_
    refine V_iand C dX4_isSo_102 ?_
    refine V_if_ne (tgt := 110) C dX4_isSo_103 (by decide) (fun hc => ?_) (fun hc => ?_)
    · have h := h.1 hc
      refine V_iconst C 0 dX4_isSo_110 (by decide) ?_
      exact V_zret C rfl (by decide) dX4_isSo_111 (hQ _ h)
    · have h := h.2 hc
      refine V_iconst C 1 dX4_isSo_106 (by decide) ?_
      refine V_goto (tgt := 111) C dX4_isSo_107 (by decide) ?_
      exact V_zret C rfl (by decide) dX4_isSo_111 (hQ _ h)
  by_cases n3 : p1 = 3
  · have h := h.2.2.2.1 n3
    refine V_tsw (tgt := 112) C dX4_isSo_1 (111) (by rw [n3]; decide) (by rw [n3]; decide) (by rw [n3]; decide) (by decide) ?_
    refine V_aload_n C 0 dX4_isSo_112 rfl ?_
    refine V_getR C FL_RX4_11 (f4_0 hb) dX4_isSo_113 ?_
    refine V_iload_n C 3 dX4_isSo_116 rfl ?_
    obtain ⟨b7, h⟩ := h
    refine V_aald5 C (k4_1 hb) b7 dX4_isSo_117 ?_
    refine V_iload C 4 dX4_isSo_118 rfl ?_
    obtain ⟨b8, h⟩ := h
    refine V_iald C (r4_1 hb b7) b8 dX4_isSo_120 ?_
    refine V_iload_n C 2 dX4_isSo_121 rfl ?_
    refine V_icmp_gt (tgt := 129) C dX4_isSo_122 (by decide) (fun hc => ?_) (fun hc => ?_)
    · have h := h.1 hc
      refine V_iconst C 0 dX4_isSo_129 (by decide) ?_
      exact V_zret C rfl (by decide) dX4_isSo_130 (hQ _ h)
    · have h := h.2 hc
      refine V_iconst C 1 dX4_isSo_125 (by decide) ?_
      refine V_goto (tgt := 130) C dX4_isSo_126 (by decide) ?_
      exact V_zret C rfl (by decide) dX4_isSo_130 (hQ _ h)
  by_cases n4 : p1 = 4
  · have h := h.2.2.2.2.1 n4
    refine V_tsw (tgt := 131) C dX4_isSo_1 (130) (by rw [n4]; decide) (by rw [n4]; decide) (by rw [n4]; decide) (by decide) ?_
    refine V_aload_n C 0 dX4_isSo_131 rfl ?_
    refine V_getR C FL_RX4_11 (f4_0 hb) dX4_isSo_132 ?_
    refine V_iload_n C 3 dX4_isSo_135 rfl ?_
    obtain ⟨b9, h⟩ := h
    refine V_aald5 C (k4_1 hb) b9 dX4_isSo_136 ?_
    refine V_iload C 4 dX4_isSo_137 rfl ?_
    obtain ⟨b10, h⟩ := h
    refine V_iald C (r4_1 hb b9) b10 dX4_isSo_139 ?_
    refine V_iload_n C 2 dX4_isSo_140 rfl ?_
    refine V_icmp_lt (tgt := 148) C dX4_isSo_141 (by decide) (fun hc => ?_) (fun hc => ?_)
    · have h := h.1 hc
      refine V_iconst C 0 dX4_isSo_148 (by decide) ?_
      exact V_zret C rfl (by decide) dX4_isSo_149 (hQ _ h)
    · have h := h.2 hc
      refine V_iconst C 1 dX4_isSo_144 (by decide) ?_
      refine V_goto (tgt := 149) C dX4_isSo_145 (by decide) ?_
      exact V_zret C rfl (by decide) dX4_isSo_149 (hQ _ h)
  by_cases n5 : p1 = 5
  · have h := h.2.2.2.2.2.1 n5
    refine V_tsw (tgt := 161) C dX4_isSo_1 (160) (by rw [n5]; decide) (by rw [n5]; decide) (by rw [n5]; decide) (by decide) ?_
    refine V_iconst C 1 dX4_isSo_161 (by decide) ?_
    exact V_zret C rfl (by decide) dX4_isSo_162 (hQ _ h)
  by_cases n6 : p1 = 6
  · have h := h.2.2.2.2.2.2.1 n6
    refine V_tsw (tgt := 150) C dX4_isSo_1 (149) (by rw [n6]; decide) (by rw [n6]; decide) (by rw [n6]; decide) (by decide) ?_
    refine V_iload C 4 dX4_isSo_150 rfl ?_
    refine V_if_eq (tgt := 159) C dX4_isSo_152 (by decide) (fun hc => ?_) (fun hc => ?_)
    · have h := h.1 hc
      refine V_iconst C 0 dX4_isSo_159 (by decide) ?_
      exact V_zret C rfl (by decide) dX4_isSo_160 (hQ _ h)
    · have h := h.2 hc
      refine V_iconst C 1 dX4_isSo_155 (by decide) ?_
      refine V_goto (tgt := 160) C dX4_isSo_156 (by decide) ?_
      exact V_zret C rfl (by decide) dX4_isSo_160 (hQ _ h)
  have h := h.2.2.2.2.2.2.2 n0 n1 n2 n3 n4 n5 n6
  refine V_tswOut (tgt := 161) C dX4_isSo_1 (by have q0 : p1.toInt ≠ 0 := fun e => n0 (Int32.toInt_inj.mp (e.trans (by decide))); have q1 : p1.toInt ≠ 1 := fun e => n1 (Int32.toInt_inj.mp (e.trans (by decide))); have q2 : p1.toInt ≠ 2 := fun e => n2 (Int32.toInt_inj.mp (e.trans (by decide))); have q3 : p1.toInt ≠ 3 := fun e => n3 (Int32.toInt_inj.mp (e.trans (by decide))); have q4 : p1.toInt ≠ 4 := fun e => n4 (Int32.toInt_inj.mp (e.trans (by decide))); have q5 : p1.toInt ≠ 5 := fun e => n5 (Int32.toInt_inj.mp (e.trans (by decide))); have q6 : p1.toInt ≠ 6 := fun e => n6 (Int32.toInt_inj.mp (e.trans (by decide))); omega) (by decide) ?_
  refine V_iconst C 1 dX4_isSo_161 (by decide) ?_
  exact V_zret C rfl (by decide) dX4_isSo_162 (hQ _ h)
set_option maxRecDepth 20000 in
set_option maxHeartbeats 1000000 in
theorem c_X4_isSo {w : wU} {l : Launch} {b : Nat} {p1 : Int32} {p2 : Int32} {p3 : Int32} {p4 : Int32} {M : mM} {Q : Int32 → Prop} (hb : isC w 4 b) (h : p_X4_isSo b p1 p2 p3 p4 M Q) : CT w l 0 yX4_isSo cX4_isSo 5 (some .boolean) [.ref (uA w b), .int p1, .int p2, .int p3, .int p4] M (poI M Q) := by
  refine CT.of (by decide +kernel) (Nat.le_of_ble_eq_true rfl) (fun X hw hH hl hP hN C => ?_)
  subst hw
  exact s_X4_isSo C hH hN (fun r q => by rw [hP]; exact ⟨rfl, r, rfl, q⟩) hb h
set_option maxRecDepth 20000 in
set_option maxHeartbeats 1000000 in
theorem s_X1_lookAtTrace_F61 {X : wX} (C : CX X cX1_lookAtTrace RX1 (none)) (hH : xH X = 1) (hN : xN X = 7) {b : Nat} {p1 : Nat} {p2 : Nat} {p3 : Int32} {M : mM} {Q : mM → Prop} (hQ : ∀ M, Q M → xPo X none M) (hb : isC (xW X) 1 b) (h1 : isC (xW X) 2 p1) (h2 : isC (xW X) 4 p2) {v4 : Int32} {v5 : Int32} {v6 : Int32} {ag61 : (Int32 × mM) → Prop} (hag61 : ∀ s, ag61 s → V X 61 [(0, vR X b), (1, vR X p1), (2, vR X p2), (3, .int p3), (4, .int v4), (5, .int v5), (6, .int (s.1))] [] (s.2)) (h : p_X1_lookAtTrace_F61 b p1 p2 p3 v4 v5 Q  ag61 v6 M) : V X 61 [(0, vR X b), (1, vR X p1), (2, vR X p2), (3, .int p3), (4, .int v4), (5, .int v5), (6, .int v6)] [] M := by
  refine V_iload C 6 dX1_lookAtTrace_61 rfl ?_
  refine V_bipush C 21 dX1_lookAtTrace_63 (by decide) ?_
  refine V_icmp_ge (tgt := 112) C dX1_lookAtTrace_65 (by decide) (fun hc => ?_) (fun hc => ?_)
  · have h := h.1 hc
    exact V_vret C dX1_lookAtTrace_112 (hQ _ h)
  · have h := h.2 hc
    refine V_aload_n C 2 dX1_lookAtTrace_68 rfl ?_
    refine V_iload C 5 dX1_lookAtTrace_69 rfl ?_
    refine V_aload_n C 1 dX1_lookAtTrace_71 rfl ?_
    refine V_getR C FL_RX1_97 (f2_8 h1) dX1_lookAtTrace_72 ?_
    refine V_iload_n C 3 dX1_lookAtTrace_75 rfl ?_
    obtain ⟨b6, h⟩ := h
    refine V_iald C (k2_9 h1) b6 dX1_lookAtTrace_76 ?_
    refine V_iload C 4 dX1_lookAtTrace_77 rfl ?_
    refine V_callN (As := [.int v4]) (st := [.int (M.1 (p1 + 9) p3.toNatClampNeg), .int v5, vR X p2]) C (c_X6_sideOf  h) Y_X6_sideOf Z_X6_sideOf (ltN hH (by decide)) (List.mem_of_getElem? (i := 2) rfl) rfl rfl (Nat.le_of_ble_eq_true rfl) dX1_lookAtTrace_79 ?_
    rintro v9 M9 ⟨rfl, r7, rfl, h⟩
    show V X 82 _ [.int r7, .int (M.1 (p1 + 9) p3.toNatClampNeg), .int v5, vR X p2] M
    refine V_iload C 6 dX1_lookAtTrace_82 rfl ?_
    refine V_callV (As := [.int v5, .int (M.1 (p1 + 9) p3.toNatClampNeg), .int r7, .int v6]) (st := []) C (c_X4_isSo h2 h) Y_X4_isSo Z_X4_isSo (T := TX4) (N := 3) rfl (o4 h2) (ltN hH (by decide)) u_42 rfl rfl (Nat.le_of_ble_eq_true rfl) dX1_lookAtTrace_84 ?_
    rintro v9 M9 ⟨rfl, r8, rfl, h⟩
    show V X 87 _ [.int r8] M
    refine V_if_ne (tgt := 106) C dX1_lookAtTrace_87 (by decide) (fun hc => ?_) (fun hc => ?_)
    · have h := h.1 hc
      refine V_iinc (v := (v6 + 1)) (lv' := [(6, .int (v6 + 1)), (0, vR X b), (1, vR X p1), (2, vR X p2), (3, .int p3), (4, .int v4), (5, .int v5)]) C 6 (ltN hN (by decide)) dX1_lookAtTrace_106 rfl rfl rfl ?_
      refine V_goto (tgt := 61) C dX1_lookAtTrace_109 (by decide) ?_
      exact V_sub [1, 2, 3, 4, 5, 6, 0] rfl (hag61 ((v6 + 1), M) h)
    · have h := h.2 hc
      refine V_aload_n C 0 dX1_lookAtTrace_90 rfl ?_
      refine V_getR C FL_RX1_17 (f1_1 hb) dX1_lookAtTrace_91 ?_
      refine V_iload C 4 dX1_lookAtTrace_94 rfl ?_
      obtain ⟨b9, h⟩ := h
      refine V_aald5 C (k1_2 hb) b9 dX1_lookAtTrace_96 ?_
      refine V_iload C 6 dX1_lookAtTrace_97 rfl ?_
      refine V_dup2_1 C dX1_lookAtTrace_99 rfl rfl ?_
      obtain ⟨b10, h⟩ := h
      refine V_iald C (r1_2 hb b9) b10 dX1_lookAtTrace_100 ?_
      refine V_iconst C 1 dX1_lookAtTrace_101 (by decide) ?_
      refine V_iload_n C 3 dX1_lookAtTrace_102 rfl ?_
      refine V_ishl C dX1_lookAtTrace_103 ?_
      refine V_ior C dX1_lookAtTrace_104 ?_
      obtain ⟨b12, h⟩ := h
      refine V_iast C (r1_2 hb b9) b12 dX1_lookAtTrace_105 ?_
      refine V_nmM (fun M11 e_M11 => ?_)
      have h := h M11 e_M11
      refine V_iinc (v := (v6 + 1)) (lv' := [(6, .int (v6 + 1)), (0, vR X b), (1, vR X p1), (2, vR X p2), (3, .int p3), (4, .int v4), (5, .int v5)]) C 6 (ltN hN (by decide)) dX1_lookAtTrace_106 rfl rfl rfl ?_
      refine V_goto (tgt := 61) C dX1_lookAtTrace_109 (by decide) ?_
      exact V_sub [1, 2, 3, 4, 5, 6, 0] rfl (hag61 ((v6 + 1), M11) h)
set_option maxRecDepth 20000 in
set_option maxHeartbeats 1000000 in
theorem s_X1_lookAtTrace {X : wX} (C : CX X cX1_lookAtTrace RX1 (none)) (hH : xH X = 1) (hN : xN X = 7) {b : Nat} {p1 : Nat} {p2 : Nat} {p3 : Int32} {M : mM} {Q : mM → Prop} (hQ : ∀ M, Q M → xPo X none M) (hb : isC (xW X) 1 b) (h1 : isC (xW X) 2 p1) (h2 : isC (xW X) 4 p2)   (h : p_X1_lookAtTrace b p1 p2 p3 M Q) : V X 0 [(0, vR X b), (1, vR X p1), (2, vR X p2), (3, .int p3)] [] M := by
  refine V_aload_n C 1 dX1_lookAtTrace_0 rfl ?_
  refine V_getR C FL_RX1_83 (f2_6 h1) dX1_lookAtTrace_1 ?_
  refine V_iload_n C 3 dX1_lookAtTrace_4 rfl ?_
  obtain ⟨b1, h⟩ := h
  refine V_iald C (k2_7 h1) b1 dX1_lookAtTrace_5 ?_
  refine V_bipush C 8 dX1_lookAtTrace_6 (by decide) ?_
  refine V_irem C dX1_lookAtTrace_8 (by decide) ?_
  refine V_nmI (fun x2 e_x2 => ?_)
  have h := h x2 e_x2
  refine V_istore (lv' := [(4, .int x2), (0, vR X b), (1, vR X p1), (2, vR X p2), (3, .int p3)]) C (ltN hN (by decide)) dX1_lookAtTrace_9 rfl ?_
  refine V_aload_n C 2 dX1_lookAtTrace_11 rfl ?_
  refine V_getR C FL_RX1_94 (f2_7 h1) dX1_lookAtTrace_12 ?_
  refine V_iload_n C 4 dX1_lookAtTrace_15 rfl ?_
  obtain ⟨b3, h⟩ := h
  refine V_iald C (k2_8 h1) b3 dX1_lookAtTrace_16 ?_
  refine V_nmI (fun x4 e_x4 => ?_)
  have h := h x4 e_x4
  refine V_istore (lv' := [(5, .int x4), (4, .int x2), (0, vR X b), (1, vR X p1), (2, vR X p2), (3, .int p3)]) C (ltN hN (by decide)) dX1_lookAtTrace_17 rfl ?_
  refine V_aload_n C 2 dX1_lookAtTrace_19 rfl ?_
  refine V_dup C dX1_lookAtTrace_20 rfl ?_
  refine V_getI C FL_RX1_74 (f1_16 hb) dX1_lookAtTrace_21 ?_
  refine V_iconst C 1 dX1_lookAtTrace_24 (by decide) ?_
  refine V_iload_n C 5 dX1_lookAtTrace_25 rfl ?_
  refine V_ishl C dX1_lookAtTrace_26 ?_
  refine V_ior C dX1_lookAtTrace_27 ?_
  refine V_putI C FW_RX1_74 (f1_16 hb) rfl rfl dX1_lookAtTrace_28 ?_
  refine V_nmM (fun M5 e_M5 => ?_)
  have h := h M5 e_M5
  refine V_iload C 0 dX1_lookAtTrace_31 rfl ?_
  refine V_iconst C 5 dX1_lookAtTrace_33 (by decide) ?_
  refine V_icmp_ne (tgt := 58) C dX1_lookAtTrace_34 (by decide) (fun hc => ?_) (fun hc => ?_)
  · have h := h.1 hc
    refine V_iconst C 0 dX1_lookAtTrace_58 (by decide) ?_
    refine V_istore (lv' := [(6, .int 0), (5, .int x4), (4, .int x2), (0, vR X b), (1, vR X p1), (2, vR X p2), (3, .int p3)]) C (ltN hN (by decide)) dX1_lookAtTrace_59 rfl ?_
    refine V_sub [3, 4, 5, 6, 2, 1, 0] rfl ?_
    exact Loop.sound (s0 := ((0 : Int32), M5)) (P := fun s => V X 61 [(0, vR X b), (1, vR X p1), (2, vR X p2), (3, .int p3), (4, .int x2), (5, .int x4), (6, .int (s.1))] [] (s.2)) h (fun ag hag s hs => s_X1_lookAtTrace_F61 C hH hN hQ hb h1 h2  hag hs)
  · have h := h.2 hc
    refine V_aload_n C 2 dX1_lookAtTrace_37 rfl ?_
    refine V_getR C FL_RX1_23 (f1_3 hb) dX1_lookAtTrace_38 ?_
    refine V_iload_n C 5 dX1_lookAtTrace_41 rfl ?_
    refine V_iload C 1 dX1_lookAtTrace_42 rfl ?_
    obtain ⟨b14, h⟩ := h
    refine V_iast C (k1_20 hb) b14 dX1_lookAtTrace_44 ?_
    refine V_nmM (fun M13 e_M13 => ?_)
    have h := h M13 e_M13
    refine V_aload_n C 2 dX1_lookAtTrace_45 rfl ?_
    refine V_getR C FL_RX1_26 (f1_4 hb) dX1_lookAtTrace_46 ?_
    refine V_iload_n C 5 dX1_lookAtTrace_49 rfl ?_
    refine V_aload_n C 3 dX1_lookAtTrace_50 rfl ?_
    refine V_getR C FL_RX1_97 (f2_8 h1) dX1_lookAtTrace_51 ?_
    refine V_iload_n C 5 dX1_lookAtTrace_54 rfl ?_
    obtain ⟨b15, h⟩ := h
    refine V_iald C (k2_9 h1) b15 dX1_lookAtTrace_55 ?_
    obtain ⟨b17, h⟩ := h
    refine V_iast C (k1_21 hb) b17 dX1_lookAtTrace_56 ?_
    refine V_nmM (fun M16 e_M16 => ?_)
    have h := h M16 e_M16
    exact V_vret C dX1_lookAtTrace_57 (hQ _ h)
set_option maxRecDepth 20000 in
set_option maxHeartbeats 1000000 in
theorem c_X1_lookAtTrace {w : wU} {l : Launch} {b : Nat} {p1 : Nat} {p2 : Nat} {p3 : Int32} {M : mM} {Q : mM → Prop} (hb : isC w 1 b) (h1 : isC w 2 p1) (h2 : isC w 4 p2) (h : p_X1_lookAtTrace b p1 p2 p3 M Q) : CT w l 1 yX1_lookAtTrace cX1_lookAtTrace 7 (none) [.ref (uA w b), .ref (uA w p1), .ref (uA w p2), .int p3] M (piV Q) := by
  refine CT.of (by decide +kernel) (Nat.le_of_ble_eq_true rfl) (fun X hw hH hl hP hN C => ?_)
  subst hw
  exact s_X1_lookAtTrace C hH hN (fun M1 q => by rw [hP]; exact ⟨rfl, q⟩) hb h1 h2 h
set_option maxRecDepth 20000 in
set_option maxHeartbeats 1000000 in
theorem s_X1_findSteps_F23 {X : wX} (C : CX X cX1_findSteps RX1 (none)) (hH : xH X = 1) (hN : xN X = 4) {b : Nat} {p1 : Int32} {M : mM} {Q : mM → Prop} (hQ : ∀ M, Q M → xPo X none M) (hb : isC (xW X) 1 b) {v2 : Int32} {ag23 : (Int32 × mM) → Prop} (hag23 : ∀ s, ag23 s → V X 23 [(0, vR X b), (1, .int p1), (2, .int (s.1))] [] (s.2)) (h : p_X1_findSteps_F23 b p1  Q  ag23 v2 M) : V X 23 [(0, vR X b), (1, .int p1), (2, .int v2)] [] M := by
  refine V_iload_n C 2 dX1_findSteps_23 rfl ?_
  refine V_bipush C 20 dX1_findSteps_24 (by decide) ?_
  refine V_icmp_ge (tgt := 81) C dX1_findSteps_26 (by decide) (fun hc => ?_) (fun hc => ?_)
  · have h := h.1 hc
    exact V_vret C dX1_findSteps_81 (hQ _ h)
  · have h := h.2 hc
    refine V_aload_n C 0 dX1_findSteps_29 rfl ?_
    refine V_getR C FL_RX1_23 (f1_3 hb) dX1_findSteps_30 ?_
    refine V_iload_n C 2 dX1_findSteps_33 rfl ?_
    obtain ⟨b1, h⟩ := h
    refine V_iald C (k1_20 hb) b1 dX1_findSteps_34 ?_
    refine V_nmI (fun x2 e_x2 => ?_)
    have h := h x2 e_x2
    refine V_istore_n (lv' := [(3, .int x2), (0, vR X b), (1, .int p1), (2, .int v2)]) C (ltN hN (by decide)) dX1_findSteps_35 rfl ?_
    refine V_iload_n C 0 dX1_findSteps_36 rfl ?_
    refine V_iconst C 0 dX1_findSteps_37 (by decide) ?_
    refine V_bipush C 7 dX1_findSteps_38 (by decide) ?_
    refine V_callN (As := [.int x2, .int 0, .int 7]) (st := []) C (c_X6_within  h) Y_X6_within Z_X6_within (ltN hH (by decide)) (List.mem_of_getElem? (i := 0) rfl) rfl rfl (Nat.le_of_ble_eq_true rfl) dX1_findSteps_40 ?_
    rintro v9 M9 ⟨rfl, r3, rfl, h⟩
    show V X 43 _ [.int r3] M
    refine V_if_eq (tgt := 75) C dX1_findSteps_43 (by decide) (fun hc => ?_) (fun hc => ?_)
    · have h := h.1 hc
      refine V_iinc (v := (v2 + 1)) (lv' := [(2, .int (v2 + 1)), (3, .int x2), (0, vR X b), (1, .int p1)]) C 3 (ltN hN (by decide)) dX1_findSteps_75 rfl rfl rfl ?_
      refine V_goto (tgt := 23) C dX1_findSteps_78 (by decide) ?_
      exact V_sub [2, 3, 0] rfl (hag23 ((v2 + 1), M) h)
    · have h := h.2 hc
      refine V_iload_n C 2 dX1_findSteps_46 rfl ?_
      refine V_iload_n C 3 dX1_findSteps_47 rfl ?_
      refine V_ishr C dX1_findSteps_48 ?_
      refine V_iconst C 1 dX1_findSteps_49 (by decide) ?_
      refine V_iand C dX1_findSteps_50 ?_
      refine V_if_ne (tgt := 75) C dX1_findSteps_51 (by decide) (fun hc => ?_) (fun hc => ?_)
      · have h := h.1 hc
        refine V_iinc (v := (v2 + 1)) (lv' := [(2, .int (v2 + 1)), (3, .int x2), (0, vR X b), (1, .int p1)]) C 3 (ltN hN (by decide)) dX1_findSteps_75 rfl rfl rfl ?_
        refine V_goto (tgt := 23) C dX1_findSteps_78 (by decide) ?_
        exact V_sub [2, 3, 0] rfl (hag23 ((v2 + 1), M) h)
      · have h := h.2 hc
        refine V_aload_n C 1 dX1_findSteps_54 rfl ?_
        refine V_getR C FL_RX1_29 (f1_5 hb) dX1_findSteps_55 ?_
        refine V_iload_n C 0 dX1_findSteps_58 rfl ?_
        refine V_aload_n C 1 dX1_findSteps_59 rfl ?_
        refine V_getR C FL_RX1_29 (f1_5 hb) dX1_findSteps_60 ?_
        refine V_iload_n C 0 dX1_findSteps_63 rfl ?_
        obtain ⟨b4, h⟩ := h
        refine V_iald C (k1_22 hb) b4 dX1_findSteps_64 ?_
        refine V_aload_n C 1 dX1_findSteps_65 rfl ?_
        refine V_getR C FL_RX1_26 (f1_4 hb) dX1_findSteps_66 ?_
        refine V_iload_n C 3 dX1_findSteps_69 rfl ?_
        obtain ⟨b5, h⟩ := h
        refine V_iald C (k1_21 hb) b5 dX1_findSteps_70 ?_
        refine V_max C (ltN hH (by decide)) u_46 u_47 u_26 u_48 (Nat.le_of_ble_eq_true rfl) dX1_findSteps_71 ?_
        obtain ⟨b7, h⟩ := h
        refine V_iast C (k1_22 hb) b7 dX1_findSteps_74 ?_
        refine V_nmM (fun M6 e_M6 => ?_)
        have h := h M6 e_M6
        refine V_iinc (v := (v2 + 1)) (lv' := [(2, .int (v2 + 1)), (3, .int x2), (0, vR X b), (1, .int p1)]) C 3 (ltN hN (by decide)) dX1_findSteps_75 rfl rfl rfl ?_
        refine V_goto (tgt := 23) C dX1_findSteps_78 (by decide) ?_
        exact V_sub [2, 3, 0] rfl (hag23 ((v2 + 1), M6) h)
set_option maxRecDepth 20000 in
set_option maxHeartbeats 1000000 in
theorem s_X1_findSteps_F2 {X : wX} (C : CX X cX1_findSteps RX1 (none)) (hH : xH X = 1) (hN : xN X = 4) {b : Nat} {p1 : Int32} {M : mM} {Q : mM → Prop} (hQ : ∀ M, Q M → xPo X none M) (hb : isC (xW X) 1 b) {v2 : Int32} {ag2 : (Int32 × mM) → Prop} (hag2 : ∀ s, ag2 s → V X 2 [(0, vR X b), (1, .int p1), (2, .int (s.1))] [] (s.2)) (h : p_X1_findSteps_F2 b p1  Q  ag2 v2 M) : V X 2 [(0, vR X b), (1, .int p1), (2, .int v2)] [] M := by
  refine V_iload_n C 2 dX1_findSteps_2 rfl ?_
  refine V_bipush C 8 dX1_findSteps_3 (by decide) ?_
  refine V_icmp_ge (tgt := 21) C dX1_findSteps_5 (by decide) (fun hc => ?_) (fun hc => ?_)
  · have h := h.1 hc
    refine V_iconst C 0 dX1_findSteps_21 (by decide) ?_
    refine V_istore_n (lv' := [(2, .int 0), (0, vR X b), (1, .int p1)]) C (ltN hN (by decide)) dX1_findSteps_22 rfl ?_
    refine V_sub [1, 2, 0] rfl ?_
    exact Loop.sound (s0 := ((0 : Int32), M)) (P := fun s => V X 23 [(0, vR X b), (1, .int p1), (2, .int (s.1))] [] (s.2)) h (fun ag hag s hs => s_X1_findSteps_F23 C hH hN hQ hb  hag hs)
  · have h := h.2 hc
    refine V_aload_n C 0 dX1_findSteps_8 rfl ?_
    refine V_getR C FL_RX1_29 (f1_5 hb) dX1_findSteps_9 ?_
    refine V_iload_n C 2 dX1_findSteps_12 rfl ?_
    refine V_iconst C 0 dX1_findSteps_13 (by decide) ?_
    obtain ⟨b9, h⟩ := h
    refine V_iast C (k1_22 hb) b9 dX1_findSteps_14 ?_
    refine V_nmM (fun M8 e_M8 => ?_)
    have h := h M8 e_M8
    refine V_iinc (v := (v2 + 1)) (lv' := [(2, .int (v2 + 1)), (0, vR X b), (1, .int p1)]) C 2 (ltN hN (by decide)) dX1_findSteps_15 rfl rfl rfl ?_
    refine V_goto (tgt := 2) C dX1_findSteps_18 (by decide) ?_
    exact V_sub [1, 2, 0] rfl (hag2 ((v2 + 1), M8) h)
set_option maxRecDepth 20000 in
set_option maxHeartbeats 1000000 in
theorem s_X1_findSteps {X : wX} (C : CX X cX1_findSteps RX1 (none)) (hH : xH X = 1) (hN : xN X = 4) {b : Nat} {p1 : Int32} {M : mM} {Q : mM → Prop} (hQ : ∀ M, Q M → xPo X none M) (hb : isC (xW X) 1 b)   (h : p_X1_findSteps b p1 M Q) : V X 0 [(0, vR X b), (1, .int p1)] [] M := by
  refine V_iconst C 0 dX1_findSteps_0 (by decide) ?_
  refine V_istore_n (lv' := [(2, .int 0), (0, vR X b), (1, .int p1)]) C (ltN hN (by decide)) dX1_findSteps_1 rfl ?_
  refine V_sub [1, 2, 0] rfl ?_
  exact Loop.sound (s0 := ((0 : Int32), M)) (P := fun s => V X 2 [(0, vR X b), (1, .int p1), (2, .int (s.1))] [] (s.2)) h (fun ag hag s hs => s_X1_findSteps_F2 C hH hN hQ hb  hag hs)
set_option maxRecDepth 20000 in
set_option maxHeartbeats 1000000 in
theorem c_X1_findSteps {w : wU} {l : Launch} {b : Nat} {p1 : Int32} {M : mM} {Q : mM → Prop} (hb : isC w 1 b) (h : p_X1_findSteps b p1 M Q) : CT w l 1 yX1_findSteps cX1_findSteps 4 (none) [.ref (uA w b), .int p1] M (piV Q) := by
  refine CT.of (by decide +kernel) (Nat.le_of_ble_eq_true rfl) (fun X hw hH hl hP hN C => ?_)
  subst hw
  exact s_X1_findSteps C hH hN (fun M1 q => by rw [hP]; exact ⟨rfl, q⟩) hb h
set_option maxRecDepth 20000 in
set_option maxHeartbeats 1000000 in
theorem s_X1_look_F143 {X : wX} (C : CX X cX1_look RX1 (none)) (hH : xH X = 2) (hN : xN X = 6) {b : Nat} {p1 : Nat} {p2 : Nat} {p3 : Int32} {M : mM} {Q : mM → Prop} (hQ : ∀ M, Q M → xPo X none M) (hb : isC (xW X) 1 b) (h1 : isC (xW X) 2 p1) (h2 : isC (xW X) 4 p2) {v4 : Int32} {ag143 : (Int32 × mM) → Prop} (hag143 : ∀ s, ag143 s → V X 143 [(0, vR X b), (1, vR X p1), (2, vR X p2), (3, .int p3), (4, .int (s.1))] [] (s.2)) (h : p_X1_look_F143 b p1 p2 p3  Q  ag143 v4 M) : V X 143 [(0, vR X b), (1, vR X p1), (2, vR X p2), (3, .int p3), (4, .int v4)] [] M := by
  refine V_iload C 4 dX1_look_143 rfl ?_
  refine V_bipush C 20 dX1_look_145 (by decide) ?_
  refine V_icmp_ge (tgt := 205) C dX1_look_147 (by decide) (fun hc => ?_) (fun hc => ?_)
  · have h := h.1 hc
    refine V_aload_n C 0 dX1_look_205 rfl ?_
    refine V_iconst C 0 dX1_look_206 (by decide) ?_
    refine V_callV (As := [.int 0]) (st := []) C (c_X1_findSteps hb h) Y_X1_findSteps Z_X1_findSteps (T := TX1) (N := 17) rfl (o1 hb) (ltN hH (by decide)) u_51 rfl rfl (Nat.le_of_ble_eq_true rfl) dX1_look_207 ?_
    rintro v9 M3 ⟨rfl, h⟩
    show V X 210 _ [] M3
    exact V_vret C dX1_look_210 (hQ _ h)
  · have h := h.2 hc
    refine V_aload_n C 0 dX1_look_150 rfl ?_
    refine V_getR C FL_RX1_23 (f1_3 hb) dX1_look_151 ?_
    refine V_iload C 4 dX1_look_154 rfl ?_
    refine V_iconst C (-1) dX1_look_156 (by decide) ?_
    obtain ⟨b5, h⟩ := h
    refine V_iast C (k1_20 hb) b5 dX1_look_157 ?_
    refine V_nmM (fun M4 e_M4 => ?_)
    have h := h M4 e_M4
    refine V_iload C 4 dX1_look_158 rfl ?_
    refine V_aload_n C 1 dX1_look_160 rfl ?_
    refine V_getI C FL_RX1_77 (f2_12 h1) dX1_look_161 ?_
    refine V_icmp_ge (tgt := 199) C dX1_look_164 (by decide) (fun hc => ?_) (fun hc => ?_)
    · have h := h.1 hc
      refine V_iinc (v := (v4 + 1)) (lv' := [(4, .int (v4 + 1)), (0, vR X b), (1, vR X p1), (2, vR X p2), (3, .int p3)]) C 4 (ltN hN (by decide)) dX1_look_199 rfl rfl rfl ?_
      refine V_goto (tgt := 143) C dX1_look_202 (by decide) ?_
      exact V_sub [1, 2, 3, 4, 0] rfl (hag143 ((v4 + 1), M4) h)
    · have h := h.2 hc
      refine V_aload_n C 1 dX1_look_167 rfl ?_
      refine V_getR C FL_RX1_80 (f2_9 h1) dX1_look_168 ?_
      refine V_iload C 4 dX1_look_171 rfl ?_
      obtain ⟨b6, h⟩ := h
      refine V_iald C (k2_10 h1) b6 dX1_look_173 ?_
      refine V_if_ne (tgt := 199) C dX1_look_174 (by decide) (fun hc => ?_) (fun hc => ?_)
      · have h := h.1 hc
        refine V_iinc (v := (v4 + 1)) (lv' := [(4, .int (v4 + 1)), (0, vR X b), (1, vR X p1), (2, vR X p2), (3, .int p3)]) C 4 (ltN hN (by decide)) dX1_look_199 rfl rfl rfl ?_
        refine V_goto (tgt := 143) C dX1_look_202 (by decide) ?_
        exact V_sub [1, 2, 3, 4, 0] rfl (hag143 ((v4 + 1), M4) h)
      · have h := h.2 hc
        refine V_aload_n C 1 dX1_look_177 rfl ?_
        refine V_getR C FL_RX1_83 (f2_6 h1) dX1_look_178 ?_
        refine V_iload C 4 dX1_look_181 rfl ?_
        obtain ⟨b7, h⟩ := h
        refine V_iald C (k2_7 h1) b7 dX1_look_183 ?_
        refine V_bipush C 8 dX1_look_184 (by decide) ?_
        refine V_idiv C dX1_look_186 (by decide) ?_
        refine V_iload_n C 3 dX1_look_187 rfl ?_
        refine V_icmp_ne (tgt := 199) C dX1_look_188 (by decide) (fun hc => ?_) (fun hc => ?_)
        · have h := h.1 hc
          refine V_iinc (v := (v4 + 1)) (lv' := [(4, .int (v4 + 1)), (0, vR X b), (1, vR X p1), (2, vR X p2), (3, .int p3)]) C 4 (ltN hN (by decide)) dX1_look_199 rfl rfl rfl ?_
          refine V_goto (tgt := 143) C dX1_look_202 (by decide) ?_
          exact V_sub [1, 2, 3, 4, 0] rfl (hag143 ((v4 + 1), M4) h)
        · have h := h.2 hc
          refine V_aload_n C 0 dX1_look_191 rfl ?_
          refine V_aload_n C 1 dX1_look_192 rfl ?_
          refine V_aload_n C 2 dX1_look_193 rfl ?_
          refine V_iload C 4 dX1_look_194 rfl ?_
          refine V_callV (As := [vR X p1, vR X p2, .int v4]) (st := []) C (c_X1_lookAtTrace hb h1 h2 h) Y_X1_lookAtTrace Z_X1_lookAtTrace (T := TX1) (N := 17) rfl (o1 hb) (ltN hH (by decide)) u_54 rfl rfl (Nat.le_of_ble_eq_true rfl) dX1_look_196 ?_
          rintro v9 M8 ⟨rfl, h⟩
          show V X 199 _ [] M8
          refine V_iinc (v := (v4 + 1)) (lv' := [(4, .int (v4 + 1)), (0, vR X b), (1, vR X p1), (2, vR X p2), (3, .int p3)]) C 4 (ltN hN (by decide)) dX1_look_199 rfl rfl rfl ?_
          refine V_goto (tgt := 143) C dX1_look_202 (by decide) ?_
          exact V_sub [1, 2, 3, 4, 0] rfl (hag143 ((v4 + 1), M8) h)
set_option maxRecDepth 20000 in
set_option maxHeartbeats 1000000 in
theorem s_X1_look_F67 {X : wX} (C : CX X cX1_look RX1 (none)) (hH : xH X = 2) (hN : xN X = 6) {b : Nat} {p1 : Nat} {p2 : Nat} {p3 : Int32} {M : mM} {Q : mM → Prop} (hQ : ∀ M, Q M → xPo X none M) (hb : isC (xW X) 1 b) (h1 : isC (xW X) 2 p1) (h2 : isC (xW X) 4 p2) {v4 : Int32} {v5 : Int32} {ag57 : (Int32 × mM) → Prop} {ag67 : (Int32 × mM) → Prop} (hag57 : ∀ s, ag57 s → V X 57 [(0, vR X b), (1, vR X p1), (2, vR X p2), (3, .int p3), (4, .int (s.1))] [] (s.2)) (hag67 : ∀ s, ag67 s → V X 67 [(0, vR X b), (1, vR X p1), (2, vR X p2), (3, .int p3), (4, .int v4), (5, .int (s.1))] [] (s.2)) (h : p_X1_look_F67 b p1 p2 p3 v4 Q ag57 ag67 v5 M) : V X 67 [(0, vR X b), (1, vR X p1), (2, vR X p2), (3, .int p3), (4, .int v4), (5, .int v5)] [] M := by
  refine V_iload C 5 dX1_look_67 rfl ?_
  refine V_bipush C 21 dX1_look_69 (by decide) ?_
  refine V_icmp_ge (tgt := 129) C dX1_look_71 (by decide) (fun hc => ?_) (fun hc => ?_)
  · have h := h.1 hc
    refine V_iinc (v := (v4 + 1)) (lv' := [(4, .int (v4 + 1)), (0, vR X b), (1, vR X p1), (2, vR X p2), (3, .int p3), (5, .int v5)]) C 4 (ltN hN (by decide)) dX1_look_129 rfl rfl rfl ?_
    refine V_goto (tgt := 57) C dX1_look_132 (by decide) ?_
    exact V_sub [1, 2, 3, 4, 0] rfl (hag57 ((v4 + 1), M) h)
  · have h := h.2 hc
    refine V_aload_n C 0 dX1_look_74 rfl ?_
    refine V_getR C FL_RX1_20 (f1_2 hb) dX1_look_75 ?_
    refine V_iload C 4 dX1_look_78 rfl ?_
    obtain ⟨b9, h⟩ := h
    refine V_aald5 C (k1_11 hb) b9 dX1_look_80 ?_
    refine V_iload C 5 dX1_look_81 rfl ?_
    refine V_aload_n C 2 dX1_look_83 rfl ?_
    refine V_getR C FL_RX1_66 (f4_0 h2) dX1_look_84 ?_
    refine V_iload C 4 dX1_look_87 rfl ?_
    refine V_callN (As := [.int v4]) (st := [vR X (p2 + 1), .int v5, vR X (b + 12 + v4.toNatClampNeg)]) C (c_X6_sideOf  h) Y_X6_sideOf Z_X6_sideOf (ltN hH (by decide)) (List.mem_of_getElem? (i := 2) rfl) rfl rfl (Nat.le_of_ble_eq_true rfl) dX1_look_89 ?_
    rintro v9 M9 ⟨rfl, r10, rfl, h⟩
    show V X 92 _ [.int r10, vR X (p2 + 1), .int v5, vR X (b + 12 + v4.toNatClampNeg)] M
    obtain ⟨b11, h⟩ := h
    refine V_aald5 C (k4_1 h2) b11 dX1_look_92 ?_
    refine V_iload C 5 dX1_look_93 rfl ?_
    obtain ⟨b12, h⟩ := h
    refine V_iald C (r4_1 h2 b11) b12 dX1_look_95 ?_
    obtain ⟨b14, h⟩ := h
    refine V_iast C (r1_11 hb b9) b14 dX1_look_96 ?_
    refine V_nmM (fun M13 e_M13 => ?_)
    have h := h M13 e_M13
    refine V_aload_n C 0 dX1_look_97 rfl ?_
    refine V_getR C FL_RX1_17 (f1_1 hb) dX1_look_98 ?_
    refine V_iload C 4 dX1_look_101 rfl ?_
    obtain ⟨b15, h⟩ := h
    refine V_aald5 C (k1_2 hb) b15 dX1_look_103 ?_
    refine V_iload C 5 dX1_look_104 rfl ?_
    refine V_aload_n C 0 dX1_look_106 rfl ?_
    refine V_getR C FL_RX1_9 (f1_0 hb) dX1_look_107 ?_
    refine V_iload C 5 dX1_look_110 rfl ?_
    obtain ⟨b16, h⟩ := h
    refine V_iald C (k1_1 hb) b16 dX1_look_112 ?_
    refine V_if_ne (tgt := 121) C dX1_look_113 (by decide) (fun hc => ?_) (fun hc => ?_)
    · have h := h.1 hc
      refine V_iconst C 0 dX1_look_121 (by decide) ?_
      obtain ⟨b18, h⟩ := h
      refine V_iast C (r1_2 hb b15) b18 dX1_look_122 ?_
      refine V_nmM (fun M17 e_M17 => ?_)
      have h := h M17 e_M17
      refine V_iinc (v := (v5 + 1)) (lv' := [(5, .int (v5 + 1)), (0, vR X b), (1, vR X p1), (2, vR X p2), (3, .int p3), (4, .int v4)]) C 5 (ltN hN (by decide)) dX1_look_123 rfl rfl rfl ?_
      refine V_goto (tgt := 67) C dX1_look_126 (by decide) ?_
      exact V_sub [1, 2, 3, 4, 5, 0] rfl (hag67 ((v5 + 1), M17) h)
    · have h := h.2 hc
      refine V_ldc C u_58 dX1_look_116 ?_
      refine V_goto (tgt := 122) C dX1_look_118 (by decide) ?_
      obtain ⟨b20, h⟩ := h
      refine V_iast C (r1_2 hb b15) b20 dX1_look_122 ?_
      refine V_nmM (fun M19 e_M19 => ?_)
      have h := h M19 e_M19
      refine V_iinc (v := (v5 + 1)) (lv' := [(5, .int (v5 + 1)), (0, vR X b), (1, vR X p1), (2, vR X p2), (3, .int p3), (4, .int v4)]) C 5 (ltN hN (by decide)) dX1_look_123 rfl rfl rfl ?_
      refine V_goto (tgt := 67) C dX1_look_126 (by decide) ?_
      exact V_sub [1, 2, 3, 4, 5, 0] rfl (hag67 ((v5 + 1), M19) h)
set_option maxRecDepth 20000 in
set_option maxHeartbeats 1000000 in
theorem s_X1_look_F57 {X : wX} (C : CX X cX1_look RX1 (none)) (hH : xH X = 2) (hN : xN X = 6) {b : Nat} {p1 : Nat} {p2 : Nat} {p3 : Int32} {M : mM} {Q : mM → Prop} (hQ : ∀ M, Q M → xPo X none M) (hb : isC (xW X) 1 b) (h1 : isC (xW X) 2 p1) (h2 : isC (xW X) 4 p2) {v4 : Int32} {ag57 : (Int32 × mM) → Prop} (hag57 : ∀ s, ag57 s → V X 57 [(0, vR X b), (1, vR X p1), (2, vR X p2), (3, .int p3), (4, .int (s.1))] [] (s.2)) (h : p_X1_look_F57 b p1 p2 p3  Q  ag57 v4 M) : V X 57 [(0, vR X b), (1, vR X p1), (2, vR X p2), (3, .int p3), (4, .int v4)] [] M := by
  refine V_iload C 4 dX1_look_57 rfl ?_
  refine V_bipush C 8 dX1_look_59 (by decide) ?_
  refine V_icmp_ge (tgt := 135) C dX1_look_61 (by decide) (fun hc => ?_) (fun hc => ?_)
  · have h := h.1 hc
    refine V_aload_n C 0 dX1_look_135 rfl ?_
    refine V_iconst C 0 dX1_look_136 (by decide) ?_
    refine V_putI C FW_RX1_74 (f1_16 hb) rfl rfl dX1_look_137 ?_
    refine V_nmM (fun M2 e_M2 => ?_)
    have h := h M2 e_M2
    refine V_iconst C 0 dX1_look_140 (by decide) ?_
    refine V_istore (lv' := [(4, .int 0), (0, vR X b), (1, vR X p1), (2, vR X p2), (3, .int p3)]) C (ltN hN (by decide)) dX1_look_141 rfl ?_
    refine V_sub [1, 2, 3, 4, 0] rfl ?_
    exact Loop.sound (s0 := ((0 : Int32), M2)) (P := fun s => V X 143 [(0, vR X b), (1, vR X p1), (2, vR X p2), (3, .int p3), (4, .int (s.1))] [] (s.2)) h (fun ag hag s hs => s_X1_look_F143 C hH hN hQ hb h1 h2  hag hs)
  · have h := h.2 hc
    refine V_iconst C 0 dX1_look_64 (by decide) ?_
    refine V_istore (lv' := [(5, .int 0), (0, vR X b), (1, vR X p1), (2, vR X p2), (3, .int p3), (4, .int v4)]) C (ltN hN (by decide)) dX1_look_65 rfl ?_
    refine V_sub [1, 2, 3, 4, 5, 0] rfl ?_
    exact Loop.sound (s0 := ((0 : Int32), M)) (P := fun s => V X 67 [(0, vR X b), (1, vR X p1), (2, vR X p2), (3, .int p3), (4, .int v4), (5, .int (s.1))] [] (s.2)) h (fun ag hag s hs => s_X1_look_F67 C hH hN hQ hb h1 h2 hag57 hag hs)
set_option maxRecDepth 20000 in
set_option maxHeartbeats 1000000 in
theorem s_X1_look_F14 {X : wX} (C : CX X cX1_look RX1 (none)) (hH : xH X = 2) (hN : xN X = 6) {b : Nat} {p1 : Nat} {p2 : Nat} {p3 : Int32} {M : mM} {Q : mM → Prop} (hQ : ∀ M, Q M → xPo X none M) (hb : isC (xW X) 1 b) (h1 : isC (xW X) 2 p1) (h2 : isC (xW X) 4 p2) {v4 : Int32} {ag14 : (Int32 × mM) → Prop} (hag14 : ∀ s, ag14 s → V X 14 [(0, vR X b), (1, vR X p1), (2, vR X p2), (3, .int p3), (4, .int (s.1))] [] (s.2)) (h : p_X1_look_F14 b p1 p2 p3  Q  ag14 v4 M) : V X 14 [(0, vR X b), (1, vR X p1), (2, vR X p2), (3, .int p3), (4, .int v4)] [] M := by
  refine V_iload C 4 dX1_look_14 rfl ?_
  refine V_bipush C 21 dX1_look_16 (by decide) ?_
  refine V_icmp_ge (tgt := 54) C dX1_look_18 (by decide) (fun hc => ?_) (fun hc => ?_)
  · have h := h.1 hc
    refine V_iconst C 0 dX1_look_54 (by decide) ?_
    refine V_istore (lv' := [(4, .int 0), (0, vR X b), (1, vR X p1), (2, vR X p2), (3, .int p3)]) C (ltN hN (by decide)) dX1_look_55 rfl ?_
    refine V_sub [1, 2, 3, 4, 0] rfl ?_
    exact Loop.sound (s0 := ((0 : Int32), M)) (P := fun s => V X 57 [(0, vR X b), (1, vR X p1), (2, vR X p2), (3, .int p3), (4, .int (s.1))] [] (s.2)) h (fun ag hag s hs => s_X1_look_F57 C hH hN hQ hb h1 h2  hag hs)
  · have h := h.2 hc
    refine V_aload_n C 0 dX1_look_21 rfl ?_
    refine V_getR C FL_RX1_9 (f1_0 hb) dX1_look_22 ?_
    refine V_iload C 4 dX1_look_25 rfl ?_
    refine V_aload_n C 1 dX1_look_27 rfl ?_
    refine V_iload C 4 dX1_look_28 rfl ?_
    refine V_callV (As := [.int v4]) (st := [.int v4, vR X (b + 1)]) C (c_X2_isStack h1 h) Y_X2_isStack Z_X2_isStack (T := TX2) (N := 13) rfl (o2 h1) (ltN hH (by decide)) u_60 rfl rfl (Nat.le_of_ble_eq_true rfl) dX1_look_30 ?_
    rintro v9 M9 ⟨rfl, r21, rfl, h⟩
    show V X 33 _ [.int r21, .int v4, vR X (b + 1)] M
    refine V_if_eq (tgt := 46) C dX1_look_33 (by decide) (fun hc => ?_) (fun hc => ?_)
    · have h := h.1 hc
      refine V_iconst C 0 dX1_look_46 (by decide) ?_
      obtain ⟨b23, h⟩ := h
      refine V_iast C (k1_1 hb) b23 dX1_look_47 ?_
      refine V_nmM (fun M22 e_M22 => ?_)
      have h := h M22 e_M22
      refine V_iinc (v := (v4 + 1)) (lv' := [(4, .int (v4 + 1)), (0, vR X b), (1, vR X p1), (2, vR X p2), (3, .int p3)]) C 4 (ltN hN (by decide)) dX1_look_48 rfl rfl rfl ?_
      refine V_goto (tgt := 14) C dX1_look_51 (by decide) ?_
      exact V_sub [1, 2, 3, 4, 0] rfl (hag14 ((v4 + 1), M22) h)
    · have h := h.2 hc
      refine V_aload_n C 1 dX1_look_36 rfl ?_
      refine V_getR C FL_RX1_63 (f2_5 h1) dX1_look_37 ?_
      refine V_iload C 4 dX1_look_40 rfl ?_
      obtain ⟨b24, h⟩ := h
      refine V_iald C (k2_6 h1) b24 dX1_look_42 ?_
      refine V_goto (tgt := 47) C dX1_look_43 (by decide) ?_
      obtain ⟨b26, h⟩ := h
      refine V_iast C (k1_1 hb) b26 dX1_look_47 ?_
      refine V_nmM (fun M25 e_M25 => ?_)
      have h := h M25 e_M25
      refine V_iinc (v := (v4 + 1)) (lv' := [(4, .int (v4 + 1)), (0, vR X b), (1, vR X p1), (2, vR X p2), (3, .int p3)]) C 4 (ltN hN (by decide)) dX1_look_48 rfl rfl rfl ?_
      refine V_goto (tgt := 14) C dX1_look_51 (by decide) ?_
      exact V_sub [1, 2, 3, 4, 0] rfl (hag14 ((v4 + 1), M25) h)
set_option maxRecDepth 20000 in
set_option maxHeartbeats 1000000 in
theorem s_X1_look {X : wX} (C : CX X cX1_look RX1 (none)) (hH : xH X = 2) (hN : xN X = 6) {b : Nat} {p1 : Nat} {p2 : Nat} {p3 : Int32} {M : mM} {Q : mM → Prop} (hQ : ∀ M, Q M → xPo X none M) (hb : isC (xW X) 1 b) (h1 : isC (xW X) 2 p1) (h2 : isC (xW X) 4 p2)   (h : p_X1_look b p1 p2 p3 M Q) : V X 0 [(0, vR X b), (1, vR X p1), (2, vR X p2), (3, .int p3)] [] M := by
  refine V_aload_n C 0 dX1_look_0 rfl ?_
  refine V_aload_n C 1 dX1_look_1 rfl ?_
  refine V_getR C FL_RX1_50 (f2_4 h1) dX1_look_2 ?_
  refine V_bipush C 6 dX1_look_5 (by decide) ?_
  refine V_iald C (k2_5 h1) (vp_lit (by decide)) dX1_look_7 ?_
  refine V_putI C FW_RX1_55 (f1_15 hb) rfl rfl dX1_look_8 ?_
  refine V_nmM (fun M1 e_M1 => ?_)
  have h := h M1 e_M1
  refine V_iconst C 0 dX1_look_11 (by decide) ?_
  refine V_istore (lv' := [(4, .int 0), (0, vR X b), (1, vR X p1), (2, vR X p2), (3, .int p3)]) C (ltN hN (by decide)) dX1_look_12 rfl ?_
  refine V_sub [1, 2, 3, 4, 0] rfl ?_
  exact Loop.sound (s0 := ((0 : Int32), M1)) (P := fun s => V X 14 [(0, vR X b), (1, vR X p1), (2, vR X p2), (3, .int p3), (4, .int (s.1))] [] (s.2)) h (fun ag hag s hs => s_X1_look_F14 C hH hN hQ hb h1 h2  hag hs)
set_option maxRecDepth 20000 in
set_option maxHeartbeats 1000000 in
theorem c_X1_look {w : wU} {l : Launch} {b : Nat} {p1 : Nat} {p2 : Nat} {p3 : Int32} {M : mM} {Q : mM → Prop} (hb : isC w 1 b) (h1 : isC w 2 p1) (h2 : isC w 4 p2) (h : p_X1_look b p1 p2 p3 M Q) : CT w l 2 yX1_look cX1_look 6 (none) [.ref (uA w b), .ref (uA w p1), .ref (uA w p2), .int p3] M (piV Q) := by
  refine CT.of (by decide +kernel) (Nat.le_of_ble_eq_true rfl) (fun X hw hH hl hP hN C => ?_)
  subst hw
  exact s_X1_look C hH hN (fun M1 q => by rw [hP]; exact ⟨rfl, q⟩) hb h1 h2 h
set_option maxRecDepth 20000 in
set_option maxHeartbeats 1000000 in
theorem s_X1_isFree {X : wX} (C : CX X cX1_isFree RX1 (some .boolean)) (hH : xH X = 0) (hN : xN X = 3) {b : Nat} {p1 : Int32} {p2 : Int32} {M : mM} {Q : Int32 → Prop} (hQ : ∀ r, Q r → xPo X (some (.int r)) M) (hb : isC (xW X) 1 b)   (h : p_X1_isFree b p1 p2 M Q) : V X 0 [(0, vR X b), (1, .int p1), (2, .int p2)] [] M := by
  refine V_aload_n C 0 dX1_isFree_0 rfl ?_
  refine V_getR C FL_RX1_17 (f1_1 hb) dX1_isFree_1 ?_
  refine V_iload_n C 1 dX1_isFree_4 rfl ?_
  obtain ⟨b1, h⟩ := h
  refine V_aald5 C (k1_2 hb) b1 dX1_isFree_5 ?_
  refine V_iload_n C 2 dX1_isFree_6 rfl ?_
  obtain ⟨b2, h⟩ := h
  refine V_iald C (r1_2 hb b1) b2 dX1_isFree_7 ?_
  refine V_ldc C u_61 dX1_isFree_8 ?_
  refine V_iand C dX1_isFree_10 ?_
  refine V_if_ne (tgt := 18) C dX1_isFree_11 (by decide) (fun hc => ?_) (fun hc => ?_)
  · have h := h.1 hc
    refine V_iconst C 0 dX1_isFree_18 (by decide) ?_
    exact V_zret C rfl (by decide) dX1_isFree_19 (hQ _ h)
  · have h := h.2 hc
    refine V_iconst C 1 dX1_isFree_14 (by decide) ?_
    refine V_goto (tgt := 19) C dX1_isFree_15 (by decide) ?_
    exact V_zret C rfl (by decide) dX1_isFree_19 (hQ _ h)
set_option maxRecDepth 20000 in
set_option maxHeartbeats 1000000 in
theorem c_X1_isFree {w : wU} {l : Launch} {b : Nat} {p1 : Int32} {p2 : Int32} {M : mM} {Q : Int32 → Prop} (hb : isC w 1 b) (h : p_X1_isFree b p1 p2 M Q) : CT w l 0 yX1_isFree cX1_isFree 3 (some .boolean) [.ref (uA w b), .int p1, .int p2] M (poI M Q) := by
  refine CT.of (by decide +kernel) (Nat.le_of_ble_eq_true rfl) (fun X hw hH hl hP hN C => ?_)
  subst hw
  exact s_X1_isFree C hH hN (fun r q => by rw [hP]; exact ⟨rfl, r, rfl, q⟩) hb h
set_option maxRecDepth 20000 in
set_option maxHeartbeats 1000000 in
theorem s_X1_canBe_F21 {X : wX} (C : CX X cX1_canBe RX1 (some .boolean)) (hH : xH X = 2) (hN : xN X = 7) {b : Nat} {p1 : Int32} {M : mM} {Q : Int32 → mM → Prop} (hQ : ∀ r M, Q r M → xPo X (some (.int r)) M) (hb : isC (xW X) 1 b) {v2 : Int32} {v3 : Int32} {v4 : Int32} {v5 : Int32} {ag9 : (Int32 × Int32) → Prop} {ag21 : (Int32 × Int32) → Prop} (hag9 : ∀ s, ag9 s → V X 9 [(0, vR X b), (1, .int p1), (2, .int (s.1)), (3, .int (s.2))] [] M) (hag21 : ∀ s, ag21 s → V X 21 [(0, vR X b), (1, .int p1), (2, .int v2), (3, .int v3), (4, .int (s.1)), (5, .int (s.2))] [] M) (h : p_X1_canBe_F21 b p1 v2 v3 M Q ag9 ag21 v4 v5) : V X 21 [(0, vR X b), (1, .int p1), (2, .int v2), (3, .int v3), (4, .int v4), (5, .int v5)] [] M := by
  refine V_iload C 5 dX1_canBe_21 rfl ?_
  refine V_bipush C 21 dX1_canBe_23 (by decide) ?_
  refine V_icmp_ge (tgt := 84) C dX1_canBe_25 (by decide) (fun hc => ?_) (fun hc => ?_)
  · have h := h.1 hc
    refine V_iload C 4 dX1_canBe_84 rfl ?_
    refine V_iconst C (-1) dX1_canBe_86 (by decide) ?_
    refine V_icmp_ne (tgt := 92) C dX1_canBe_87 (by decide) (fun hc => ?_) (fun hc => ?_)
    · have h := h.1 hc
      refine V_aload_n C 0 dX1_canBe_92 rfl ?_
      refine V_getR C FL_RX1_29 (f1_5 hb) dX1_canBe_93 ?_
      refine V_iload_n C 3 dX1_canBe_96 rfl ?_
      obtain ⟨b2, h⟩ := h
      refine V_iald C (k1_22 hb) b2 dX1_canBe_97 ?_
      refine V_if_ne (tgt := 105) C dX1_canBe_98 (by decide) (fun hc => ?_) (fun hc => ?_)
      · have h := h.1 hc
        refine V_iload C 4 dX1_canBe_105 rfl ?_
        refine V_aload_n C 0 dX1_canBe_107 rfl ?_
        refine V_getR C FL_RX1_29 (f1_5 hb) dX1_canBe_108 ?_
        refine V_iload_n C 3 dX1_canBe_111 rfl ?_
        obtain ⟨b3, h⟩ := h
        refine V_iald C (k1_22 hb) b3 dX1_canBe_112 ?_
        refine V_iadd C dX1_canBe_113 ?_
        refine V_nmI (fun x4 e_x4 => ?_)
        have h := h x4 e_x4
        refine V_istore_n (lv' := [(2, .int x4), (0, vR X b), (1, .int p1), (3, .int v3), (4, .int v4), (5, .int v5)]) C (ltN hN (by decide)) dX1_canBe_114 rfl ?_
        refine V_iinc (v := (v3 + 1)) (lv' := [(3, .int (v3 + 1)), (2, .int x4), (0, vR X b), (1, .int p1), (4, .int v4), (5, .int v5)]) C 3 (ltN hN (by decide)) dX1_canBe_115 rfl rfl rfl ?_
        refine V_goto (tgt := 9) C dX1_canBe_118 (by decide) ?_
        exact V_sub [2, 3, 1, 0] rfl (hag9 (x4, (v3 + 1)) h)
      · have h := h.2 hc
        refine V_iconst C 0 dX1_canBe_101 (by decide) ?_
        refine V_goto (tgt := 114) C dX1_canBe_102 (by decide) ?_
        refine V_istore_n (lv' := [(2, .int 0), (0, vR X b), (1, .int p1), (3, .int v3), (4, .int v4), (5, .int v5)]) C (ltN hN (by decide)) dX1_canBe_114 rfl ?_
        refine V_iinc (v := (v3 + 1)) (lv' := [(3, .int (v3 + 1)), (2, .int 0), (0, vR X b), (1, .int p1), (4, .int v4), (5, .int v5)]) C 3 (ltN hN (by decide)) dX1_canBe_115 rfl rfl rfl ?_
        refine V_goto (tgt := 9) C dX1_canBe_118 (by decide) ?_
        exact V_sub [2, 3, 1, 0] rfl (hag9 ((0 : Int32), (v3 + 1)) h)
    · have h := h.2 hc
      refine V_iconst C 0 dX1_canBe_90 (by decide) ?_
      exact V_zret C rfl (by decide) dX1_canBe_91 (hQ _ _ h)
  · have h := h.2 hc
    refine V_aload_n C 0 dX1_canBe_28 rfl ?_
    refine V_getR C FL_RX1_20 (f1_2 hb) dX1_canBe_29 ?_
    refine V_iload_n C 3 dX1_canBe_32 rfl ?_
    obtain ⟨b5, h⟩ := h
    refine V_aald5 C (k1_11 hb) b5 dX1_canBe_33 ?_
    refine V_iload C 5 dX1_canBe_34 rfl ?_
    obtain ⟨b6, h⟩ := h
    refine V_iald C (r1_11 hb b5) b6 dX1_canBe_36 ?_
    refine V_nmI (fun x7 e_x7 => ?_)
    have h := h x7 e_x7
    refine V_istore (lv' := [(6, .int x7), (0, vR X b), (1, .int p1), (2, .int v2), (3, .int v3), (4, .int v4), (5, .int v5)]) C (ltN hN (by decide)) dX1_canBe_37 rfl ?_
    refine V_aload_n C 1 dX1_canBe_39 rfl ?_
    refine V_getR C FL_RX1_17 (f1_1 hb) dX1_canBe_40 ?_
    refine V_iload_n C 4 dX1_canBe_43 rfl ?_
    obtain ⟨b8, h⟩ := h
    refine V_aald5 C (k1_2 hb) b8 dX1_canBe_44 ?_
    refine V_iload C 6 dX1_canBe_45 rfl ?_
    obtain ⟨b9, h⟩ := h
    refine V_iald C (r1_2 hb b8) b9 dX1_canBe_47 ?_
    refine V_iload_n C 2 dX1_canBe_48 rfl ?_
    refine V_iconst C (-1) dX1_canBe_49 (by decide) ?_
    refine V_ixor C dX1_canBe_50 ?_
    refine V_iand C dX1_canBe_51 ?_
    refine V_if_ne (tgt := 78) C dX1_canBe_52 (by decide) (fun hc => ?_) (fun hc => ?_)
    · have h := h.1 hc
      refine V_iinc (v := (v5 + 1)) (lv' := [(5, .int (v5 + 1)), (6, .int x7), (0, vR X b), (1, .int p1), (2, .int v2), (3, .int v3), (4, .int v4)]) C 6 (ltN hN (by decide)) dX1_canBe_78 rfl rfl rfl ?_
      refine V_goto (tgt := 21) C dX1_canBe_81 (by decide) ?_
      exact V_sub [2, 3, 4, 5, 6, 0] rfl (hag21 (v4, (v5 + 1)) h)
    · have h := h.2 hc
      refine V_iload C 0 dX1_canBe_55 rfl ?_
      refine V_iload_n C 3 dX1_canBe_57 rfl ?_
      refine V_icmp_lt (tgt := 78) C dX1_canBe_58 (by decide) (fun hc => ?_) (fun hc => ?_)
      · have h := h.1 hc
        refine V_iinc (v := (v5 + 1)) (lv' := [(5, .int (v5 + 1)), (6, .int x7), (0, vR X b), (1, .int p1), (2, .int v2), (3, .int v3), (4, .int v4)]) C 6 (ltN hN (by decide)) dX1_canBe_78 rfl rfl rfl ?_
        refine V_goto (tgt := 21) C dX1_canBe_81 (by decide) ?_
        exact V_sub [2, 3, 4, 5, 6, 0] rfl (hag21 (v4, (v5 + 1)) h)
      · have h := h.2 hc
        refine V_iload C 5 dX1_canBe_61 rfl ?_
        refine V_iconst C (-1) dX1_canBe_63 (by decide) ?_
        refine V_icmp_eq (tgt := 74) C dX1_canBe_64 (by decide) (fun hc => ?_) (fun hc => ?_)
        · have h := h.1 hc
          refine V_iload C 0 dX1_canBe_74 rfl ?_
          refine V_istore (lv' := [(4, .int x7), (6, .int x7), (0, vR X b), (1, .int p1), (2, .int v2), (3, .int v3), (5, .int v5)]) C (ltN hN (by decide)) dX1_canBe_76 rfl ?_
          refine V_iinc (v := (v5 + 1)) (lv' := [(5, .int (v5 + 1)), (4, .int x7), (6, .int x7), (0, vR X b), (1, .int p1), (2, .int v2), (3, .int v3)]) C 6 (ltN hN (by decide)) dX1_canBe_78 rfl rfl rfl ?_
          refine V_goto (tgt := 21) C dX1_canBe_81 (by decide) ?_
          exact V_sub [3, 4, 5, 6, 1, 0] rfl (hag21 (x7, (v5 + 1)) h)
        · have h := h.2 hc
          refine V_iload C 0 dX1_canBe_67 rfl ?_
          refine V_iload C 5 dX1_canBe_69 rfl ?_
          refine V_icmp_ge (tgt := 78) C dX1_canBe_71 (by decide) (fun hc => ?_) (fun hc => ?_)
          · have h := h.1 hc
            refine V_iinc (v := (v5 + 1)) (lv' := [(5, .int (v5 + 1)), (6, .int x7), (0, vR X b), (1, .int p1), (2, .int v2), (3, .int v3), (4, .int v4)]) C 6 (ltN hN (by decide)) dX1_canBe_78 rfl rfl rfl ?_
            refine V_goto (tgt := 21) C dX1_canBe_81 (by decide) ?_
            exact V_sub [2, 3, 4, 5, 6, 0] rfl (hag21 (v4, (v5 + 1)) h)
          · have h := h.2 hc
            refine V_iload C 0 dX1_canBe_74 rfl ?_
            refine V_istore (lv' := [(4, .int x7), (6, .int x7), (0, vR X b), (1, .int p1), (2, .int v2), (3, .int v3), (5, .int v5)]) C (ltN hN (by decide)) dX1_canBe_76 rfl ?_
            refine V_iinc (v := (v5 + 1)) (lv' := [(5, .int (v5 + 1)), (4, .int x7), (6, .int x7), (0, vR X b), (1, .int p1), (2, .int v2), (3, .int v3)]) C 6 (ltN hN (by decide)) dX1_canBe_78 rfl rfl rfl ?_
            refine V_goto (tgt := 21) C dX1_canBe_81 (by decide) ?_
            exact V_sub [3, 4, 5, 6, 1, 0] rfl (hag21 (x7, (v5 + 1)) h)
set_option maxRecDepth 20000 in
set_option maxHeartbeats 1000000 in
theorem s_X1_canBe_F9 {X : wX} (C : CX X cX1_canBe RX1 (some .boolean)) (hH : xH X = 2) (hN : xN X = 7) {b : Nat} {p1 : Int32} {M : mM} {Q : Int32 → mM → Prop} (hQ : ∀ r M, Q r M → xPo X (some (.int r)) M) (hb : isC (xW X) 1 b) {v2 : Int32} {v3 : Int32} {ag9 : (Int32 × Int32) → Prop} (hag9 : ∀ s, ag9 s → V X 9 [(0, vR X b), (1, .int p1), (2, .int (s.1)), (3, .int (s.2))] [] M) (h : p_X1_canBe_F9 b p1  M Q  ag9 v2 v3) : V X 9 [(0, vR X b), (1, .int p1), (2, .int v2), (3, .int v3)] [] M := by
  refine V_iload_n C 3 dX1_canBe_9 rfl ?_
  refine V_bipush C 8 dX1_canBe_10 (by decide) ?_
  refine V_icmp_ge (tgt := 121) C dX1_canBe_12 (by decide) (fun hc => ?_) (fun hc => ?_)
  · have h := h.1 hc
    refine V_iconst C 1 dX1_canBe_121 (by decide) ?_
    exact V_zret C rfl (by decide) dX1_canBe_122 (hQ _ _ h)
  · have h := h.2 hc
    refine V_iconst C (-1) dX1_canBe_15 (by decide) ?_
    refine V_istore (lv' := [(4, .int (-1)), (0, vR X b), (1, .int p1), (2, .int v2), (3, .int v3)]) C (ltN hN (by decide)) dX1_canBe_16 rfl ?_
    refine V_iconst C 0 dX1_canBe_18 (by decide) ?_
    refine V_istore (lv' := [(5, .int 0), (4, .int (-1)), (0, vR X b), (1, .int p1), (2, .int v2), (3, .int v3)]) C (ltN hN (by decide)) dX1_canBe_19 rfl ?_
    refine V_sub [2, 3, 4, 5, 1, 0] rfl ?_
    exact Loop.sound (s0 := ((-1 : Int32), (0 : Int32))) (P := fun s => V X 21 [(0, vR X b), (1, .int p1), (2, .int v2), (3, .int v3), (4, .int (s.1)), (5, .int (s.2))] [] M) h (fun ag hag s hs => s_X1_canBe_F21 C hH hN hQ hb hag9 hag hs)
set_option maxRecDepth 20000 in
set_option maxHeartbeats 1000000 in
theorem s_X1_canBe {X : wX} (C : CX X cX1_canBe RX1 (some .boolean)) (hH : xH X = 2) (hN : xN X = 7) {b : Nat} {p1 : Int32} {M : mM} {Q : Int32 → mM → Prop} (hQ : ∀ r M, Q r M → xPo X (some (.int r)) M) (hb : isC (xW X) 1 b)   (h : p_X1_canBe b p1 M Q) : V X 0 [(0, vR X b), (1, .int p1)] [] M := by
  refine V_aload_n C 0 dX1_canBe_0 rfl ?_
  refine V_iload_n C 1 dX1_canBe_1 rfl ?_
  refine V_callV (As := [.int p1]) (st := []) C (c_X1_findSteps hb h) Y_X1_findSteps Z_X1_findSteps (T := TX1) (N := 17) rfl (o1 hb) (ltN hH (by decide)) u_51 rfl rfl (Nat.le_of_ble_eq_true rfl) dX1_canBe_2 ?_
  rintro v9 M1 ⟨rfl, h⟩
  show V X 5 _ [] M1
  refine V_iconst C 0 dX1_canBe_5 (by decide) ?_
  refine V_istore_n (lv' := [(2, .int 0), (0, vR X b), (1, .int p1)]) C (ltN hN (by decide)) dX1_canBe_6 rfl ?_
  refine V_iconst C 0 dX1_canBe_7 (by decide) ?_
  refine V_istore_n (lv' := [(3, .int 0), (2, .int 0), (0, vR X b), (1, .int p1)]) C (ltN hN (by decide)) dX1_canBe_8 rfl ?_
  refine V_sub [2, 3, 1, 0] rfl ?_
  exact Loop.sound (s0 := ((0 : Int32), (0 : Int32))) (P := fun s => V X 9 [(0, vR X b), (1, .int p1), (2, .int (s.1)), (3, .int (s.2))] [] M1) h (fun ag hag s hs => s_X1_canBe_F9 C hH hN hQ hb  hag hs)
set_option maxRecDepth 20000 in
set_option maxHeartbeats 1000000 in
theorem c_X1_canBe {w : wU} {l : Launch} {b : Nat} {p1 : Int32} {M : mM} {Q : Int32 → mM → Prop} (hb : isC w 1 b) (h : p_X1_canBe b p1 M Q) : CT w l 2 yX1_canBe cX1_canBe 7 (some .boolean) [.ref (uA w b), .int p1] M (piI Q) := by
  refine CT.of (by decide +kernel) (Nat.le_of_ble_eq_true rfl) (fun X hw hH hl hP hN C => ?_)
  subst hw
  exact s_X1_canBe C hH hN (fun r M1 q => by rw [hP]; exact ⟨r, rfl, q⟩) hb h
