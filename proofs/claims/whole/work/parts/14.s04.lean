set_option maxRecDepth 20000 in
set_option maxHeartbeats 1000000 in
theorem s_X6_later {X : wX} (C : CX X cX6_later RX6 (some .int)) (hH : xH X = 5) (hN : xN X = 2) {b : Nat} {p1 : Int32} {M : mM} {Q : Int32 → mM → Prop} (hQ : ∀ r M, Q r M → xPo X (some (.int r)) M) (hb : isC (xW X) 6 b)   (h : p_X6_later b p1 M Q) : V X 0 [(0, vR X b), (1, .int p1)] [] M := by
  refine V_iload_n C 1 dX6_later_0 rfl ?_
  refine V_callS (As := [.int p1]) (st := []) C (c_X6_isHem  h) Y_X6_isHem Z_X6_isHem (ltN hH (by decide)) u_182 rfl rfl (Nat.le_of_ble_eq_true rfl) dX6_later_1 ?_
  rintro v9 M9 ⟨rfl, r1, rfl, h⟩
  show V X 4 _ [.int r1] M
  refine V_if_ne (tgt := 14) C dX6_later_4 (by decide) (fun hc => ?_) (fun hc => ?_)
  · have h := h.1 hc
    refine V_aload_n C 0 dX6_later_14 rfl ?_
    refine V_aload_n C 0 dX6_later_15 rfl ?_
    refine V_getR C FL_RX6_10 (f6_0 hb) dX6_later_16 ?_
    refine V_iload_n C 1 dX6_later_19 rfl ?_
    refine V_callV (As := [vR X (b + 1), .int p1]) (st := []) C (c_X6_lookAt hb (j6_1 hb) h) Y_X6_lookAt Z_X6_lookAt (T := TX6) (N := 12) rfl (o6 hb) (ltN hH (by decide)) u_173 rfl rfl (Nat.le_of_ble_eq_true rfl) dX6_later_20 ?_
    rintro v9 M2 ⟨rfl, h⟩
    show V X 23 _ [] M2
    refine V_aload_n C 0 dX6_later_23 rfl ?_
    refine V_getR C FL_RX6_44 (f6_6 hb) dX6_later_24 ?_
    refine V_callV (As := []) (st := []) C (c_X1_fewestLater (j6_70 hb) h) Y_X1_fewestLater Z_X1_fewestLater (T := TX1) (N := 17) rfl (o1 (j6_70 hb)) (ltN hH (by decide)) u_197 rfl rfl (Nat.le_of_ble_eq_true rfl) dX6_later_27 ?_
    rintro v9 M3 ⟨r4, rfl, h⟩
    show V X 30 _ [.int r4] M3
    exact V_iret C dX6_later_30 (hQ _ _ h)
  · have h := h.2 hc
    refine V_aload_n C 0 dX6_later_7 rfl ?_
    refine V_bipush C (-2) dX6_later_8 (by decide) ?_
    refine V_callV (As := [.int (-2)]) (st := []) C (c_X6_told hb h) Y_X6_told Z_X6_told (T := TX6) (N := 12) rfl (o6 hb) (ltN hH (by decide)) u_147 rfl rfl (Nat.le_of_ble_eq_true rfl) dX6_later_10 ?_
    rintro v9 M5 ⟨r6, rfl, h⟩
    show V X 13 _ [.int r6] M5
    exact V_iret C dX6_later_13 (hQ _ _ h)
set_option maxRecDepth 20000 in
set_option maxHeartbeats 1000000 in
theorem c_X6_later {w : wU} {l : Launch} {b : Nat} {p1 : Int32} {M : mM} {Q : Int32 → mM → Prop} (hb : isC w 6 b) (h : p_X6_later b p1 M Q) : CT w l 5 yX6_later cX6_later 2 (some .int) [.ref (uA w b), .int p1] M (piI Q) := by
  refine CT.of (by decide +kernel) (Nat.le_of_ble_eq_true rfl) (fun X hw hH hl hP hN C => ?_)
  subst hw
  exact s_X6_later C hH hN (fun r M1 q => by rw [hP]; exact ⟨r, rfl, q⟩) hb h
set_option maxRecDepth 20000 in
set_option maxHeartbeats 1000000 in
theorem s_X6_highBits {X : wX} (C : CX X cX6_highBits RX6 (some .long)) (hH : xH X = 0) (hN : xN X = 10) {p1 : Int64} {p2 : Int64} {M : mM} {Q : Int64 → Prop} (hQ : ∀ r, Q r → xPo X (some (.long r)) M)    (h : p_X6_highBits p1 p2 M Q) : V X 0 [(0, .long p1), (2, .long p2)] [] M := by
  refine V_ldc2 C u_198 dX6_highBits_0 ?_
  refine V_lstore (lv' := [(4, .long 4294967295), (0, .long p1), (2, .long p2)]) C (ltN hN (by decide)) dX6_highBits_3 rfl ?_
  refine V_lload_n C 1 dX6_highBits_5 rfl ?_
  refine V_bipush C 32 dX6_highBits_6 (by decide) ?_
  refine V_lushr C dX6_highBits_8 ?_
  refine V_lload_n C 2 dX6_highBits_9 rfl ?_
  refine V_lload C 0 dX6_highBits_10 rfl ?_
  refine V_land C dX6_highBits_12 ?_
  refine V_lmul C dX6_highBits_13 ?_
  refine V_lload_n C 1 dX6_highBits_14 rfl ?_
  refine V_lload C 0 dX6_highBits_15 rfl ?_
  refine V_land C dX6_highBits_17 ?_
  refine V_lload_n C 2 dX6_highBits_18 rfl ?_
  refine V_lload C 0 dX6_highBits_19 rfl ?_
  refine V_land C dX6_highBits_21 ?_
  refine V_lmul C dX6_highBits_22 ?_
  refine V_bipush C 32 dX6_highBits_23 (by decide) ?_
  refine V_lushr C dX6_highBits_25 ?_
  refine V_ladd C dX6_highBits_26 ?_
  refine V_nmL (fun x1 e_x1 => ?_)
  have h := h x1 e_x1
  refine V_lstore (lv' := [(6, .long x1), (4, .long 4294967295), (0, .long p1), (2, .long p2)]) C (ltN hN (by decide)) dX6_highBits_27 rfl ?_
  refine V_lload_n C 2 dX6_highBits_29 rfl ?_
  refine V_lload C 1 dX6_highBits_30 rfl ?_
  refine V_land C dX6_highBits_32 ?_
  refine V_lload_n C 3 dX6_highBits_33 rfl ?_
  refine V_bipush C 32 dX6_highBits_34 (by decide) ?_
  refine V_lushr C dX6_highBits_36 ?_
  refine V_lmul C dX6_highBits_37 ?_
  refine V_lload C 0 dX6_highBits_38 rfl ?_
  refine V_lload C 1 dX6_highBits_40 rfl ?_
  refine V_land C dX6_highBits_42 ?_
  refine V_ladd C dX6_highBits_43 ?_
  refine V_nmL (fun x2 e_x2 => ?_)
  have h := h x2 e_x2
  refine V_lstore (lv' := [(8, .long x2), (6, .long x1), (4, .long 4294967295), (0, .long p1), (2, .long p2)]) C (ltN hN (by decide)) dX6_highBits_44 rfl ?_
  refine V_lload_n C 3 dX6_highBits_46 rfl ?_
  refine V_bipush C 32 dX6_highBits_47 (by decide) ?_
  refine V_lushr C dX6_highBits_49 ?_
  refine V_lload_n C 4 dX6_highBits_50 rfl ?_
  refine V_bipush C 32 dX6_highBits_51 (by decide) ?_
  refine V_lushr C dX6_highBits_53 ?_
  refine V_lmul C dX6_highBits_54 ?_
  refine V_lload C 1 dX6_highBits_55 rfl ?_
  refine V_bipush C 32 dX6_highBits_57 (by decide) ?_
  refine V_lushr C dX6_highBits_59 ?_
  refine V_ladd C dX6_highBits_60 ?_
  refine V_lload C 0 dX6_highBits_61 rfl ?_
  refine V_bipush C 32 dX6_highBits_63 (by decide) ?_
  refine V_lushr C dX6_highBits_65 ?_
  refine V_ladd C dX6_highBits_66 ?_
  exact V_lret C dX6_highBits_67 (hQ _ h)
set_option maxRecDepth 20000 in
set_option maxHeartbeats 1000000 in
theorem c_X6_highBits {w : wU} {l : Launch} {p1 : Int64} {p2 : Int64} {M : mM} {Q : Int64 → Prop}  (h : p_X6_highBits p1 p2 M Q) : CT w l 0 yX6_highBits cX6_highBits 10 (some .long) [.long p1, .long p2] M (poL M Q) := by
  refine CT.of (by decide +kernel) (Nat.le_of_ble_eq_true rfl) (fun X hw hH hl hP hN C => ?_)
  subst hw
  exact s_X6_highBits C hH hN (fun r q => by rw [hP]; exact ⟨rfl, r, rfl, q⟩)  h
set_option maxRecDepth 20000 in
set_option maxHeartbeats 1000000 in
theorem s_X6_isLess_ {X : wX} (C : CX X cX6_isLess_ RX6 (some .boolean)) (hH : xH X = 1) (hN : xN X = 12) {p1 : Int64} {p2 : Int64} {p3 : Int64} {p4 : Int64} {M : mM} {Q : Int32 → Prop} (hQ : ∀ r, Q r → xPo X (some (.int r)) M)    (h : p_X6_isLess_ p1 p2 p3 p4 M Q) : V X 0 [(0, .long p1), (2, .long p2), (4, .long p3), (6, .long p4)] [] M := by
  refine V_lload_n C 0 dX6_isLess__0 rfl ?_
  refine V_lload_n C 1 dX6_isLess__1 rfl ?_
  refine V_callS (As := [.long p1, .long p2]) (st := []) C (c_X6_highBits  h) Y_X6_highBits Z_X6_highBits (ltN hH (by decide)) u_200 rfl rfl (Nat.le_of_ble_eq_true rfl) dX6_isLess__2 ?_
  rintro v9 M9 ⟨rfl, r1, rfl, h⟩
  show V X 5 _ [.long r1] M
  refine V_lstore (lv' := [(8, .long r1), (0, .long p1), (2, .long p2), (4, .long p3), (6, .long p4)]) C (ltN hN (by decide)) dX6_isLess__5 rfl ?_
  refine V_lload C 3 dX6_isLess__7 rfl ?_
  refine V_lload C 4 dX6_isLess__9 rfl ?_
  refine V_callS (As := [.long p3, .long p4]) (st := []) C (c_X6_highBits  h) Y_X6_highBits Z_X6_highBits (ltN hH (by decide)) u_200 rfl rfl (Nat.le_of_ble_eq_true rfl) dX6_isLess__11 ?_
  rintro v9 M9 ⟨rfl, r2, rfl, h⟩
  show V X 14 _ [.long r2] M
  refine V_lstore (lv' := [(10, .long r2), (8, .long r1), (0, .long p1), (2, .long p2), (4, .long p3), (6, .long p4)]) C (ltN hN (by decide)) dX6_isLess__14 rfl ?_
  refine V_lload C 1 dX6_isLess__16 rfl ?_
  refine V_lload C 0 dX6_isLess__18 rfl ?_
  refine V_lcmp C dX6_isLess__20 ?_
  refine V_if_ne (tgt := 38) C dX6_isLess__21 (by decide) (fun hc => ?_) (fun hc => ?_)
  · have h := h.1 (lgc_ne.mp hc)
    refine V_lload C 1 dX6_isLess__38 rfl ?_
    refine V_lload C 0 dX6_isLess__40 rfl ?_
    refine V_callS (As := [.long r1, .long r2]) (st := []) C (c_X6_isLess  h) Y_X6_isLess Z_X6_isLess (ltN hH (by decide)) u_199 rfl rfl (Nat.le_of_ble_eq_true rfl) dX6_isLess__42 ?_
    rintro v9 M9 ⟨rfl, r3, rfl, h⟩
    show V X 45 _ [.int r3] M
    exact V_zret C rfl h.1 dX6_isLess__45 (hQ _ h.2)
  · have h := h.2 (lgc_eq.mp hc)
    refine V_lload_n C 2 dX6_isLess__24 rfl ?_
    refine V_lload_n C 3 dX6_isLess__25 rfl ?_
    refine V_lmul C dX6_isLess__26 ?_
    refine V_lload C 4 dX6_isLess__27 rfl ?_
    refine V_lload C 5 dX6_isLess__29 rfl ?_
    refine V_lmul C dX6_isLess__31 ?_
    refine V_callS (As := [.long (p1 * p2), .long (p3 * p4)]) (st := []) C (c_X6_isLess  h) Y_X6_isLess Z_X6_isLess (ltN hH (by decide)) u_199 rfl rfl (Nat.le_of_ble_eq_true rfl) dX6_isLess__32 ?_
    rintro v9 M9 ⟨rfl, r4, rfl, h⟩
    show V X 35 _ [.int r4] M
    refine V_goto (tgt := 45) C dX6_isLess__35 (by decide) ?_
    exact V_zret C rfl h.1 dX6_isLess__45 (hQ _ h.2)
set_option maxRecDepth 20000 in
set_option maxHeartbeats 1000000 in
theorem c_X6_isLess_ {w : wU} {l : Launch} {p1 : Int64} {p2 : Int64} {p3 : Int64} {p4 : Int64} {M : mM} {Q : Int32 → Prop}  (h : p_X6_isLess_ p1 p2 p3 p4 M Q) : CT w l 1 yX6_isLess_ cX6_isLess_ 12 (some .boolean) [.long p1, .long p2, .long p3, .long p4] M (poI M Q) := by
  refine CT.of (by decide +kernel) (Nat.le_of_ble_eq_true rfl) (fun X hw hH hl hP hN C => ?_)
  subst hw
  exact s_X6_isLess_ C hH hN (fun r q => by rw [hP]; exact ⟨rfl, r, rfl, q⟩)  h
set_option maxRecDepth 20000 in
set_option maxHeartbeats 1000000 in
theorem s_X6_next_J68 {X : wX} (C : CX X cX6_next RX6 (some .int)) (hH : xH X = 6) (hN : xN X = 7) {b : Nat} {M : mM} {Q : Int32 → mM → Prop} (hQ : ∀ r M, Q r M → xPo X (some (.int r)) M) (hb : isC (xW X) 6 b) {v6 : Int32} {ag10 : (Int32 × Int64 × Int64 × Int32 × mM) → Prop} (hag10 : ∀ s, ag10 s → V X 10 [(0, vR X b), (1, .int (s.1)), (2, .long (s.2.1)), (4, .long (s.2.2.1)), (6, .int (s.2.2.2.1))] [] (s.2.2.2.2)) (h : p_X6_next_J68 b Q ag10 v6 M) : V X 68 [(0, vR X b), (6, .int v6)] [] M := by
  refine V_bipush C 10 dX6_next_68 (by decide) ?_
  refine V_iload C 1 dX6_next_70 rfl ?_
  refine V_imul C dX6_next_72 ?_
  refine V_bipush C 8 dX6_next_73 (by decide) ?_
  refine V_imul C dX6_next_75 ?_
  refine V_aload_n C 0 dX6_next_76 rfl ?_
  refine V_getR C FL_RX6_44 (f6_6 hb) dX6_next_77 ?_
  refine V_getI C FL_RX6_221 (f1_14 (j6_70 hb)) dX6_next_80 ?_
  refine V_iadd C dX6_next_83 ?_
  refine V_nmI (fun x6 e_x6 => ?_)
  have h := h x6 e_x6
  refine V_istore_n (lv' := [(1, .int x6), (0, vR X b), (6, .int v6)]) C (ltN hN (by decide)) dX6_next_84 rfl ?_
  refine V_aload_n C 1 dX6_next_85 rfl ?_
  refine V_getR C FL_RX6_44 (f6_6 hb) dX6_next_86 ?_
  refine V_getL C FL_RX6_214 (f1_13 (j6_70 hb)) dX6_next_89 ?_
  refine V_lstore_n (lv' := [(2, .long (M.2 (b + 70) 13)), (1, .int x6), (0, vR X b), (6, .int v6)]) C (ltN hN (by decide)) dX6_next_92 rfl ?_
  refine V_aload_n C 2 dX6_next_93 rfl ?_
  refine V_getR C FL_RX6_44 (f6_6 hb) dX6_next_94 ?_
  refine V_getL C FL_RX6_158 (f1_12 (j6_70 hb)) dX6_next_97 ?_
  refine V_lstore (lv' := [(4, .long (M.2 (b + 70) 12)), (2, .long (M.2 (b + 70) 13)), (1, .int x6), (0, vR X b), (6, .int v6)]) C (ltN hN (by decide)) dX6_next_100 rfl ?_
  refine V_iinc (v := (v6 + 1)) (lv' := [(6, .int (v6 + 1)), (4, .long (M.2 (b + 70) 12)), (2, .long (M.2 (b + 70) 13)), (1, .int x6), (0, vR X b)]) C 4 (ltN hN (by decide)) dX6_next_102 rfl rfl rfl ?_
  refine V_goto (tgt := 10) C dX6_next_105 (by decide) ?_
  exact V_sub [4, 3, 2, 1, 0] rfl (hag10 (x6, (M.2 (b + 70) 13), (M.2 (b + 70) 12), (v6 + 1), M) h)
set_option maxRecDepth 20000 in
set_option maxHeartbeats 1000000 in
theorem s_X6_next_F10 {X : wX} (C : CX X cX6_next RX6 (some .int)) (hH : xH X = 6) (hN : xN X = 7) {b : Nat} {M : mM} {Q : Int32 → mM → Prop} (hQ : ∀ r M, Q r M → xPo X (some (.int r)) M) (hb : isC (xW X) 6 b) {v1 : Int32} {v2 : Int64} {v4 : Int64} {v6 : Int32} {ag10 : (Int32 × Int64 × Int64 × Int32 × mM) → Prop} (hag10 : ∀ s, ag10 s → V X 10 [(0, vR X b), (1, .int (s.1)), (2, .long (s.2.1)), (4, .long (s.2.2.1)), (6, .int (s.2.2.2.1))] [] (s.2.2.2.2)) (h : p_X6_next_F10 b  Q  ag10 v1 v2 v4 v6 M) : V X 10 [(0, vR X b), (1, .int v1), (2, .long v2), (4, .long v4), (6, .int v6)] [] M := by
  refine V_iload C 4 dX6_next_10 rfl ?_
  refine V_bipush C 6 dX6_next_12 (by decide) ?_
  refine V_icmp_ge (tgt := 108) C dX6_next_14 (by decide) (fun hc => ?_) (fun hc => ?_)
  · have h := h.1 hc
    refine V_iload_n C 1 dX6_next_108 rfl ?_
    refine V_iconst C (-1) dX6_next_109 (by decide) ?_
    refine V_icmp_ne (tgt := 122) C dX6_next_110 (by decide) (fun hc => ?_) (fun hc => ?_)
    · have h := h.1 hc
      refine V_iload_n C 1 dX6_next_122 rfl ?_
      exact V_iret C dX6_next_123 (hQ _ _ h)
    · have h := h.2 hc
      refine V_aload_n C 0 dX6_next_113 rfl ?_
      refine V_bipush C (-3) dX6_next_114 (by decide) ?_
      refine V_callV (As := [.int (-3)]) (st := []) C (c_X6_told hb h) Y_X6_told Z_X6_told (T := TX6) (N := 12) rfl (o6 hb) (ltN hH (by decide)) u_147 rfl rfl (Nat.le_of_ble_eq_true rfl) dX6_next_116 ?_
      rintro v9 M1 ⟨r2, rfl, h⟩
      show V X 119 _ [.int r2] M1
      refine V_goto (tgt := 123) C dX6_next_119 (by decide) ?_
      exact V_iret C dX6_next_123 (hQ _ _ h)
  · have h := h.2 hc
    refine V_aload_n C 0 dX6_next_17 rfl ?_
    refine V_iload C 4 dX6_next_18 rfl ?_
    refine V_bipush C 8 dX6_next_20 (by decide) ?_
    refine V_imul C dX6_next_22 ?_
    refine V_callV (As := [.int (v6 * 8)]) (st := []) C (c_X6_reckonAround hb h) Y_X6_reckonAround Z_X6_reckonAround (T := TX6) (N := 12) rfl (o6 hb) (ltN hH (by decide)) u_179 rfl rfl (Nat.le_of_ble_eq_true rfl) dX6_next_23 ?_
    rintro v9 M3 ⟨r4, rfl, h⟩
    show V X 26 _ [.int r4] M3
    refine V_if_eq (tgt := 102) C dX6_next_26 (by decide) (fun hc => ?_) (fun hc => ?_)
    · have h := h.1 hc
      refine V_iinc (v := (v6 + 1)) (lv' := [(6, .int (v6 + 1)), (0, vR X b), (1, .int v1), (2, .long v2), (4, .long v4)]) C 4 (ltN hN (by decide)) dX6_next_102 rfl rfl rfl ?_
      refine V_goto (tgt := 10) C dX6_next_105 (by decide) ?_
      exact V_sub [1, 2, 3, 4, 0] rfl (hag10 (v1, v2, v4, (v6 + 1), M3) h)
    · have h := h.2 hc
      refine V_aload_n C 0 dX6_next_29 rfl ?_
      refine V_getR C FL_RX6_44 (f6_6 hb) dX6_next_30 ?_
      refine V_aload_n C 0 dX6_next_33 rfl ?_
      refine V_getR C FL_RX6_37 (f6_5 hb) dX6_next_34 ?_
      refine V_callV (As := [vR X (b + 54)]) (st := []) C (c_X1_seekHalf (j6_70 hb) (j6_54 hb) h) Y_X1_seekHalf Z_X1_seekHalf (T := TX1) (N := 17) rfl (o1 (j6_70 hb)) (ltN hH (by decide)) u_204 rfl rfl (Nat.le_of_ble_eq_true rfl) dX6_next_37 ?_
      rintro v9 M5 ⟨rfl, h⟩
      show V X 40 _ [] M5
      refine V_iload_n C 1 dX6_next_40 rfl ?_
      refine V_iconst C (-1) dX6_next_41 (by decide) ?_
      refine V_icmp_eq (tgt := 68) C dX6_next_42 (by decide) (fun hc => ?_) (fun hc => ?_)
      · have h := h.1 hc
        exact V_sub [0, 4] rfl (s_X6_next_J68 C hH hN hQ hb hag10  h)
      · have h := h.2 hc
        refine V_aload_n C 0 dX6_next_45 rfl ?_
        refine V_getR C FL_RX6_44 (f6_6 hb) dX6_next_46 ?_
        refine V_getL C FL_RX6_214 (f1_13 (j6_70 hb)) dX6_next_49 ?_
        refine V_lload C 3 dX6_next_52 rfl ?_
        refine V_lload_n C 2 dX6_next_54 rfl ?_
        refine V_aload_n C 0 dX6_next_55 rfl ?_
        refine V_getR C FL_RX6_44 (f6_6 hb) dX6_next_56 ?_
        refine V_getL C FL_RX6_158 (f1_12 (j6_70 hb)) dX6_next_59 ?_
        refine V_callS (As := [.long (M5.2 (b + 70) 13), .long v4, .long v2, .long (M5.2 (b + 70) 12)]) (st := []) C (c_X6_isLess_  h) Y_X6_isLess_ Z_X6_isLess_ (ltN hH (by decide)) u_203 rfl rfl (Nat.le_of_ble_eq_true rfl) dX6_next_62 ?_
        rintro v9 M9 ⟨rfl, r7, rfl, h⟩
        show V X 65 _ [.int r7] M5
        refine V_if_eq (tgt := 102) C dX6_next_65 (by decide) (fun hc => ?_) (fun hc => ?_)
        · have h := h.1 hc
          refine V_iinc (v := (v6 + 1)) (lv' := [(6, .int (v6 + 1)), (0, vR X b), (1, .int v1), (2, .long v2), (4, .long v4)]) C 4 (ltN hN (by decide)) dX6_next_102 rfl rfl rfl ?_
          refine V_goto (tgt := 10) C dX6_next_105 (by decide) ?_
          exact V_sub [1, 2, 3, 4, 0] rfl (hag10 (v1, v2, v4, (v6 + 1), M5) h)
        · have h := h.2 hc
          exact V_sub [0, 4] rfl (s_X6_next_J68 C hH hN hQ hb hag10  h)
set_option maxRecDepth 20000 in
set_option maxHeartbeats 1000000 in
theorem s_X6_next {X : wX} (C : CX X cX6_next RX6 (some .int)) (hH : xH X = 6) (hN : xN X = 7) {b : Nat} {M : mM} {Q : Int32 → mM → Prop} (hQ : ∀ r M, Q r M → xPo X (some (.int r)) M) (hb : isC (xW X) 6 b)   (h : p_X6_next b M Q) : V X 0 [(0, vR X b)] [] M := by
  refine V_iconst C (-1) dX6_next_0 (by decide) ?_
  refine V_istore_n (lv' := [(1, .int (-1)), (0, vR X b)]) C (ltN hN (by decide)) dX6_next_1 rfl ?_
  refine V_lconst C 0 dX6_next_2 (by decide) ?_
  refine V_lstore_n (lv' := [(2, .long 0), (1, .int (-1)), (0, vR X b)]) C (ltN hN (by decide)) dX6_next_3 rfl ?_
  refine V_lconst C 0 dX6_next_4 (by decide) ?_
  refine V_lstore (lv' := [(4, .long 0), (2, .long 0), (1, .int (-1)), (0, vR X b)]) C (ltN hN (by decide)) dX6_next_5 rfl ?_
  refine V_iconst C 0 dX6_next_7 (by decide) ?_
  refine V_istore (lv' := [(6, .int 0), (4, .long 0), (2, .long 0), (1, .int (-1)), (0, vR X b)]) C (ltN hN (by decide)) dX6_next_8 rfl ?_
  refine V_sub [4, 3, 2, 1, 0] rfl ?_
  exact Loop.sound (s0 := ((-1 : Int32), (0 : Int64), (0 : Int64), (0 : Int32), M)) (P := fun s => V X 10 [(0, vR X b), (1, .int (s.1)), (2, .long (s.2.1)), (4, .long (s.2.2.1)), (6, .int (s.2.2.2.1))] [] (s.2.2.2.2)) h (fun ag hag s hs => s_X6_next_F10 C hH hN hQ hb  hag hs)
set_option maxRecDepth 20000 in
set_option maxHeartbeats 1000000 in
theorem c_X6_next {w : wU} {l : Launch} {b : Nat} {M : mM} {Q : Int32 → mM → Prop} (hb : isC w 6 b) (h : p_X6_next b M Q) : CT w l 6 yX6_next cX6_next 7 (some .int) [.ref (uA w b)] M (piI Q) := by
  refine CT.of (by decide +kernel) (Nat.le_of_ble_eq_true rfl) (fun X hw hH hl hP hN C => ?_)
  subst hw
  exact s_X6_next C hH hN (fun r M1 q => by rw [hP]; exact ⟨r, rfl, q⟩) hb h
set_option maxRecDepth 20000 in
set_option maxHeartbeats 1000000 in
theorem s_X6_restsOn_F5 {X : wX} (C : CX X cX6_restsOn RX6 (some .int)) (hH : xH X = 2) (hN : xN X = 5) {b : Nat} {p1 : Int32} {M : mM} {Q : Int32 → Prop} (hQ : ∀ r, Q r → xPo X (some (.int r)) M) (hb : isC (xW X) 6 b) {v2 : Int64} {v4 : Int32} {ag5 : (Int64 × Int32) → Prop} (hag5 : ∀ s, ag5 s → V X 5 [(0, vR X b), (1, .int p1), (2, .long (s.1)), (4, .int (s.2))] [] M) (h : p_X6_restsOn_F5 b p1  M Q  ag5 v2 v4) : V X 5 [(0, vR X b), (1, .int p1), (2, .long v2), (4, .int v4)] [] M := by
  refine V_iload C 3 dX6_restsOn_5 rfl ?_
  refine V_bipush C 21 dX6_restsOn_7 (by decide) ?_
  refine V_icmp_ge (tgt := 51) C dX6_restsOn_9 (by decide) (fun hc => ?_) (fun hc => ?_)
  · have h := h.1 hc
    refine V_lload_n C 2 dX6_restsOn_51 rfl ?_
    refine V_aload_n C 0 dX6_restsOn_52 rfl ?_
    refine V_getR C FL_RX6_44 (f6_6 hb) dX6_restsOn_53 ?_
    refine V_getL C FL_RX6_158 (f1_12 (j6_70 hb)) dX6_restsOn_56 ?_
    refine V_lcmp C dX6_restsOn_59 ?_
    refine V_if_ne (tgt := 65) C dX6_restsOn_60 (by decide) (fun hc => ?_) (fun hc => ?_)
    · have h := h.1 (lgc_ne.mp hc)
      refine V_aload_n C 0 dX6_restsOn_65 rfl ?_
      refine V_getR C FL_RX6_44 (f6_6 hb) dX6_restsOn_66 ?_
      refine V_getL C FL_RX6_158 (f1_12 (j6_70 hb)) dX6_restsOn_69 ?_
      refine V_lload_n C 2 dX6_restsOn_72 rfl ?_
      refine V_lsub C dX6_restsOn_73 ?_
      refine V_lload_n C 2 dX6_restsOn_74 rfl ?_
      refine V_callS (As := [.long ((M.2 (b + 70) 12) - v2), .long v2]) (st := []) C (c_X6_isLess  h) Y_X6_isLess Z_X6_isLess (ltN hH (by decide)) u_199 rfl rfl (Nat.le_of_ble_eq_true rfl) dX6_restsOn_75 ?_
      rintro v9 M9 ⟨rfl, r1, rfl, h⟩
      show V X 78 _ [.int r1] M
      refine V_if_eq (tgt := 83) C dX6_restsOn_78 (by decide) (fun hc => ?_) (fun hc => ?_)
      · have h := h.1 hc
        refine V_lload_n C 2 dX6_restsOn_83 rfl ?_
        refine V_lconst C 0 dX6_restsOn_84 (by decide) ?_
        refine V_lcmp C dX6_restsOn_85 ?_
        refine V_if_eq (tgt := 93) C dX6_restsOn_86 (by decide) (fun hc => ?_) (fun hc => ?_)
        · have h := h.1 (lgc_eq.mp hc)
          refine V_iconst C 3 dX6_restsOn_93 (by decide) ?_
          exact V_iret C dX6_restsOn_94 (hQ _ h)
        · have h := h.2 (lgc_ne.mp hc)
          refine V_iconst C 2 dX6_restsOn_89 (by decide) ?_
          refine V_goto (tgt := 94) C dX6_restsOn_90 (by decide) ?_
          exact V_iret C dX6_restsOn_94 (hQ _ h)
      · have h := h.2 hc
        refine V_iconst C 1 dX6_restsOn_81 (by decide) ?_
        exact V_iret C dX6_restsOn_82 (hQ _ h)
    · have h := h.2 (lgc_eq.mp hc)
      refine V_iconst C 0 dX6_restsOn_63 (by decide) ?_
      exact V_iret C dX6_restsOn_64 (hQ _ h)
  · have h := h.2 hc
    refine V_iload C 3 dX6_restsOn_12 rfl ?_
    refine V_callS (As := [.int v4]) (st := []) C (c_X6_topOf  h) Y_X6_topOf Z_X6_topOf (ltN hH (by decide)) u_206 rfl rfl (Nat.le_of_ble_eq_true rfl) dX6_restsOn_14 ?_
    rintro v9 M9 ⟨rfl, r2, rfl, h⟩
    show V X 17 _ [.int r2] M
    refine V_aload_n C 0 dX6_restsOn_17 rfl ?_
    refine V_getR C FL_RX6_10 (f6_0 hb) dX6_restsOn_18 ?_
    refine V_getR C FL_RX6_284 (f2_10 (j6_1 hb)) dX6_restsOn_21 ?_
    refine V_iload_n C 1 dX6_restsOn_24 rfl ?_
    obtain ⟨b3, h⟩ := h
    refine V_iald C (k2_11 (j6_1 hb)) b3 dX6_restsOn_25 ?_
    refine V_icmp_ne (tgt := 45) C dX6_restsOn_26 (by decide) (fun hc => ?_) (fun hc => ?_)
    · have h := h.1 hc
      refine V_iinc (v := (v4 + 1)) (lv' := [(4, .int (v4 + 1)), (0, vR X b), (1, .int p1), (2, .long v2)]) C 3 (ltN hN (by decide)) dX6_restsOn_45 rfl rfl rfl ?_
      refine V_goto (tgt := 5) C dX6_restsOn_48 (by decide) ?_
      exact V_sub [1, 2, 3, 0] rfl (hag5 (v2, (v4 + 1)) h)
    · have h := h.2 hc
      refine V_lload_n C 2 dX6_restsOn_29 rfl ?_
      refine V_aload_n C 0 dX6_restsOn_30 rfl ?_
      refine V_getR C FL_RX6_44 (f6_6 hb) dX6_restsOn_31 ?_
      refine V_iload_n C 1 dX6_restsOn_34 rfl ?_
      refine V_bipush C 8 dX6_restsOn_35 (by decide) ?_
      refine V_irem C dX6_restsOn_37 (by decide) ?_
      refine V_iload C 3 dX6_restsOn_38 rfl ?_
      refine V_callV (As := [.int (p1 - p1 / 8 * 8), .int v4]) (st := [.long v2]) C (c_X1_weightOf (j6_70 hb) h) Y_X1_weightOf Z_X1_weightOf (T := TX1) (N := 17) rfl (o1 (j6_70 hb)) (ltN hH (by decide)) u_178 rfl rfl (Nat.le_of_ble_eq_true rfl) dX6_restsOn_40 ?_
      rintro v9 M9 ⟨rfl, r4, rfl, h⟩
      show V X 43 _ [.long r4, .long v2] M
      refine V_ladd C dX6_restsOn_43 ?_
      refine V_lstore_n (lv' := [(2, .long (v2 + r4)), (0, vR X b), (1, .int p1), (4, .int v4)]) C (ltN hN (by decide)) dX6_restsOn_44 rfl ?_
      refine V_iinc (v := (v4 + 1)) (lv' := [(4, .int (v4 + 1)), (2, .long (v2 + r4)), (0, vR X b), (1, .int p1)]) C 3 (ltN hN (by decide)) dX6_restsOn_45 rfl rfl rfl ?_
      refine V_goto (tgt := 5) C dX6_restsOn_48 (by decide) ?_
      exact V_sub [2, 3, 1, 0] rfl (hag5 ((v2 + r4), (v4 + 1)) h)
set_option maxRecDepth 20000 in
set_option maxHeartbeats 1000000 in
theorem s_X6_restsOn {X : wX} (C : CX X cX6_restsOn RX6 (some .int)) (hH : xH X = 2) (hN : xN X = 5) {b : Nat} {p1 : Int32} {M : mM} {Q : Int32 → Prop} (hQ : ∀ r, Q r → xPo X (some (.int r)) M) (hb : isC (xW X) 6 b)   (h : p_X6_restsOn b p1 M Q) : V X 0 [(0, vR X b), (1, .int p1)] [] M := by
  refine V_lconst C 0 dX6_restsOn_0 (by decide) ?_
  refine V_lstore_n (lv' := [(2, .long 0), (0, vR X b), (1, .int p1)]) C (ltN hN (by decide)) dX6_restsOn_1 rfl ?_
  refine V_iconst C 0 dX6_restsOn_2 (by decide) ?_
  refine V_istore (lv' := [(4, .int 0), (2, .long 0), (0, vR X b), (1, .int p1)]) C (ltN hN (by decide)) dX6_restsOn_3 rfl ?_
  refine V_sub [2, 3, 1, 0] rfl ?_
  exact Loop.sound (s0 := ((0 : Int64), (0 : Int32))) (P := fun s => V X 5 [(0, vR X b), (1, .int p1), (2, .long (s.1)), (4, .int (s.2))] [] M) h (fun ag hag s hs => s_X6_restsOn_F5 C hH hN hQ hb  hag hs)
set_option maxRecDepth 20000 in
set_option maxHeartbeats 1000000 in
theorem c_X6_restsOn {w : wU} {l : Launch} {b : Nat} {p1 : Int32} {M : mM} {Q : Int32 → Prop} (hb : isC w 6 b) (h : p_X6_restsOn b p1 M Q) : CT w l 2 yX6_restsOn cX6_restsOn 5 (some .int) [.ref (uA w b), .int p1] M (poI M Q) := by
  refine CT.of (by decide +kernel) (Nat.le_of_ble_eq_true rfl) (fun X hw hH hl hP hN C => ?_)
  subst hw
  exact s_X6_restsOn C hH hN (fun r q => by rw [hP]; exact ⟨rfl, r, rfl, q⟩) hb h
set_option maxRecDepth 20000 in
set_option maxHeartbeats 1000000 in
theorem s_X6_rests {X : wX} (C : CX X cX6_rests RX6 (some .int)) (hH : xH X = 6) (hN : xN X = 2) {b : Nat} {p1 : Int32} {M : mM} {Q : Int32 → mM → Prop} (hQ : ∀ r M, Q r M → xPo X (some (.int r)) M) (hb : isC (xW X) 6 b)   (h : p_X6_rests b p1 M Q) : V X 0 [(0, vR X b), (1, .int p1)] [] M := by
  refine V_iload_n C 1 dX6_rests_0 rfl ?_
  refine V_callS (As := [.int p1]) (st := []) C (c_X6_isCell  h) Y_X6_isCell Z_X6_isCell (ltN hH (by decide)) u_166 rfl rfl (Nat.le_of_ble_eq_true rfl) dX6_rests_1 ?_
  rintro v9 M9 ⟨rfl, r1, rfl, h⟩
  show V X 4 _ [.int r1] M
  refine V_if_ne (tgt := 14) C dX6_rests_4 (by decide) (fun hc => ?_) (fun hc => ?_)
  · have h := h.1 hc
    refine V_aload_n C 0 dX6_rests_14 rfl ?_
    refine V_iload_n C 1 dX6_rests_15 rfl ?_
    refine V_callV (As := [.int p1]) (st := []) C (c_X6_reckonAround hb h) Y_X6_reckonAround Z_X6_reckonAround (T := TX6) (N := 12) rfl (o6 hb) (ltN hH (by decide)) u_179 rfl rfl (Nat.le_of_ble_eq_true rfl) dX6_rests_16 ?_
    rintro v9 M2 ⟨r3, rfl, h⟩
    show V X 19 _ [.int r3] M2
    refine V_if_eq (tgt := 30) C dX6_rests_19 (by decide) (fun hc => ?_) (fun hc => ?_)
    · have h := h.1 hc
      refine V_aload_n C 0 dX6_rests_30 rfl ?_
      refine V_bipush C (-3) dX6_rests_31 (by decide) ?_
      refine V_callV (As := [.int (-3)]) (st := []) C (c_X6_told hb h) Y_X6_told Z_X6_told (T := TX6) (N := 12) rfl (o6 hb) (ltN hH (by decide)) u_147 rfl rfl (Nat.le_of_ble_eq_true rfl) dX6_rests_33 ?_
      rintro v9 M4 ⟨r5, rfl, h⟩
      show V X 36 _ [.int r5] M4
      exact V_iret C dX6_rests_36 (hQ _ _ h)
    · have h := h.2 hc
      refine V_aload_n C 0 dX6_rests_22 rfl ?_
      refine V_iload_n C 1 dX6_rests_23 rfl ?_
      refine V_callV (As := [.int p1]) (st := []) C (c_X6_restsOn hb h) Y_X6_restsOn Z_X6_restsOn (T := TX6) (N := 12) rfl (o6 hb) (ltN hH (by decide)) u_207 rfl rfl (Nat.le_of_ble_eq_true rfl) dX6_rests_24 ?_
      rintro v9 M9 ⟨rfl, r6, rfl, h⟩
      show V X 27 _ [.int r6] M2
      refine V_goto (tgt := 36) C dX6_rests_27 (by decide) ?_
      exact V_iret C dX6_rests_36 (hQ _ _ h)
  · have h := h.2 hc
    refine V_aload_n C 0 dX6_rests_7 rfl ?_
    refine V_bipush C (-2) dX6_rests_8 (by decide) ?_
    refine V_callV (As := [.int (-2)]) (st := []) C (c_X6_told hb h) Y_X6_told Z_X6_told (T := TX6) (N := 12) rfl (o6 hb) (ltN hH (by decide)) u_147 rfl rfl (Nat.le_of_ble_eq_true rfl) dX6_rests_10 ?_
    rintro v9 M7 ⟨r8, rfl, h⟩
    show V X 13 _ [.int r8] M7
    exact V_iret C dX6_rests_13 (hQ _ _ h)
set_option maxRecDepth 20000 in
set_option maxHeartbeats 1000000 in
theorem c_X6_rests {w : wU} {l : Launch} {b : Nat} {p1 : Int32} {M : mM} {Q : Int32 → mM → Prop} (hb : isC w 6 b) (h : p_X6_rests b p1 M Q) : CT w l 6 yX6_rests cX6_rests 2 (some .int) [.ref (uA w b), .int p1] M (piI Q) := by
  refine CT.of (by decide +kernel) (Nat.le_of_ble_eq_true rfl) (fun X hw hH hl hP hN C => ?_)
  subst hw
  exact s_X6_rests C hH hN (fun r M1 q => by rw [hP]; exact ⟨r, rfl, q⟩) hb h
set_option maxRecDepth 20000 in
set_option maxHeartbeats 1000000 in
theorem s_X6_resting_F46 {X : wX} (C : CX X cX6_resting RX6 (some .int)) (hH : xH X = 6) (hN : xN X = 5) {b : Nat} {p1 : Int32} {p2 : Int32} {M : mM} {Q : Int32 → mM → Prop} (hQ : ∀ r M, Q r M → xPo X (some (.int r)) M) (hb : isC (xW X) 6 b) {v3 : Int32} {v4 : Int32} {ag46 : (Int32 × Int32) → Prop} (hag46 : ∀ s, ag46 s → V X 46 [(0, vR X b), (1, .int p1), (2, .int p2), (3, .int (s.1)), (4, .int (s.2))] [] M) (h : p_X6_resting_F46 b p1 p2  M Q  ag46 v3 v4) : V X 46 [(0, vR X b), (1, .int p1), (2, .int p2), (3, .int v3), (4, .int v4)] [] M := by
  refine V_iload C 4 dX6_resting_46 rfl ?_
  refine V_bipush C 8 dX6_resting_48 (by decide) ?_
  refine V_icmp_ge (tgt := 77) C dX6_resting_50 (by decide) (fun hc => ?_) (fun hc => ?_)
  · have h := h.1 hc
    refine V_iload_n C 3 dX6_resting_77 rfl ?_
    exact V_iret C dX6_resting_78 (hQ _ _ h)
  · have h := h.2 hc
    refine V_aload_n C 0 dX6_resting_53 rfl ?_
    refine V_iload_n C 1 dX6_resting_54 rfl ?_
    refine V_bipush C 8 dX6_resting_55 (by decide) ?_
    refine V_imul C dX6_resting_57 ?_
    refine V_iload C 4 dX6_resting_58 rfl ?_
    refine V_iadd C dX6_resting_60 ?_
    refine V_callV (As := [.int ((p1 * 8) + v4)]) (st := []) C (c_X6_restsOn hb h) Y_X6_restsOn Z_X6_restsOn (T := TX6) (N := 12) rfl (o6 hb) (ltN hH (by decide)) u_207 rfl rfl (Nat.le_of_ble_eq_true rfl) dX6_resting_61 ?_
    rintro v9 M9 ⟨rfl, r7, rfl, h⟩
    show V X 64 _ [.int r7] M
    refine V_iload_n C 2 dX6_resting_64 rfl ?_
    refine V_icmp_ne (tgt := 71) C dX6_resting_65 (by decide) (fun hc => ?_) (fun hc => ?_)
    · have h := h.1 hc
      refine V_iinc (v := (v4 + 1)) (lv' := [(4, .int (v4 + 1)), (0, vR X b), (1, .int p1), (2, .int p2), (3, .int v3)]) C 4 (ltN hN (by decide)) dX6_resting_71 rfl rfl rfl ?_
      refine V_goto (tgt := 46) C dX6_resting_74 (by decide) ?_
      exact V_sub [1, 2, 3, 4, 0] rfl (hag46 (v3, (v4 + 1)) h)
    · have h := h.2 hc
      refine V_iinc (v := (v3 + 1)) (lv' := [(3, .int (v3 + 1)), (0, vR X b), (1, .int p1), (2, .int p2), (4, .int v4)]) C 3 (ltN hN (by decide)) dX6_resting_68 rfl rfl rfl ?_
      refine V_iinc (v := (v4 + 1)) (lv' := [(4, .int (v4 + 1)), (3, .int (v3 + 1)), (0, vR X b), (1, .int p1), (2, .int p2)]) C 4 (ltN hN (by decide)) dX6_resting_71 rfl rfl rfl ?_
      refine V_goto (tgt := 46) C dX6_resting_74 (by decide) ?_
      exact V_sub [2, 3, 4, 1, 0] rfl (hag46 ((v3 + 1), (v4 + 1)) h)
set_option maxRecDepth 20000 in
set_option maxHeartbeats 1000000 in
theorem s_X6_resting {X : wX} (C : CX X cX6_resting RX6 (some .int)) (hH : xH X = 6) (hN : xN X = 5) {b : Nat} {p1 : Int32} {p2 : Int32} {M : mM} {Q : Int32 → mM → Prop} (hQ : ∀ r M, Q r M → xPo X (some (.int r)) M) (hb : isC (xW X) 6 b)   (h : p_X6_resting b p1 p2 M Q) : V X 0 [(0, vR X b), (1, .int p1), (2, .int p2)] [] M := by
  refine V_iload_n C 1 dX6_resting_0 rfl ?_
  refine V_callS (As := [.int p1]) (st := []) C (c_X6_isHem  h) Y_X6_isHem Z_X6_isHem (ltN hH (by decide)) u_182 rfl rfl (Nat.le_of_ble_eq_true rfl) dX6_resting_1 ?_
  rintro v9 M9 ⟨rfl, r1, rfl, h⟩
  show V X 4 _ [.int r1] M
  refine V_if_eq (tgt := 16) C dX6_resting_4 (by decide) (fun hc => ?_) (fun hc => ?_)
  · have h := h.1 hc
    refine V_aload_n C 0 dX6_resting_16 rfl ?_
    refine V_bipush C (-2) dX6_resting_17 (by decide) ?_
    refine V_callV (As := [.int (-2)]) (st := []) C (c_X6_told hb h) Y_X6_told Z_X6_told (T := TX6) (N := 12) rfl (o6 hb) (ltN hH (by decide)) u_147 rfl rfl (Nat.le_of_ble_eq_true rfl) dX6_resting_19 ?_
    rintro v9 M2 ⟨r3, rfl, h⟩
    show V X 22 _ [.int r3] M2
    exact V_iret C dX6_resting_22 (hQ _ _ h)
  · have h := h.2 hc
    refine V_iload_n C 2 dX6_resting_7 rfl ?_
    refine V_iconst C 0 dX6_resting_8 (by decide) ?_
    refine V_iconst C 3 dX6_resting_9 (by decide) ?_
    refine V_callS (As := [.int p2, .int 0, .int 3]) (st := []) C (c_X6_within  h) Y_X6_within Z_X6_within (ltN hH (by decide)) u_101 rfl rfl (Nat.le_of_ble_eq_true rfl) dX6_resting_10 ?_
    rintro v9 M9 ⟨rfl, r4, rfl, h⟩
    show V X 13 _ [.int r4] M
    refine V_if_ne (tgt := 23) C dX6_resting_13 (by decide) (fun hc => ?_) (fun hc => ?_)
    · have h := h.1 hc
      refine V_aload_n C 0 dX6_resting_23 rfl ?_
      refine V_iload_n C 1 dX6_resting_24 rfl ?_
      refine V_bipush C 8 dX6_resting_25 (by decide) ?_
      refine V_imul C dX6_resting_27 ?_
      refine V_callV (As := [.int (p1 * 8)]) (st := []) C (c_X6_reckonAround hb h) Y_X6_reckonAround Z_X6_reckonAround (T := TX6) (N := 12) rfl (o6 hb) (ltN hH (by decide)) u_179 rfl rfl (Nat.le_of_ble_eq_true rfl) dX6_resting_28 ?_
      rintro v9 M5 ⟨r6, rfl, h⟩
      show V X 31 _ [.int r6] M5
      refine V_if_ne (tgt := 41) C dX6_resting_31 (by decide) (fun hc => ?_) (fun hc => ?_)
      · have h := h.1 hc
        refine V_iconst C 0 dX6_resting_41 (by decide) ?_
        refine V_istore_n (lv' := [(3, .int 0), (0, vR X b), (1, .int p1), (2, .int p2)]) C (ltN hN (by decide)) dX6_resting_42 rfl ?_
        refine V_iconst C 0 dX6_resting_43 (by decide) ?_
        refine V_istore (lv' := [(4, .int 0), (3, .int 0), (0, vR X b), (1, .int p1), (2, .int p2)]) C (ltN hN (by decide)) dX6_resting_44 rfl ?_
        refine V_sub [2, 3, 4, 1, 0] rfl ?_
        exact Loop.sound (s0 := ((0 : Int32), (0 : Int32))) (P := fun s => V X 46 [(0, vR X b), (1, .int p1), (2, .int p2), (3, .int (s.1)), (4, .int (s.2))] [] M5) h (fun ag hag s hs => s_X6_resting_F46 C hH hN hQ hb  hag hs)
      · have h := h.2 hc
        refine V_aload_n C 0 dX6_resting_34 rfl ?_
        refine V_bipush C (-3) dX6_resting_35 (by decide) ?_
        refine V_callV (As := [.int (-3)]) (st := []) C (c_X6_told hb h) Y_X6_told Z_X6_told (T := TX6) (N := 12) rfl (o6 hb) (ltN hH (by decide)) u_147 rfl rfl (Nat.le_of_ble_eq_true rfl) dX6_resting_37 ?_
        rintro v9 M8 ⟨r9, rfl, h⟩
        show V X 40 _ [.int r9] M8
        exact V_iret C dX6_resting_40 (hQ _ _ h)
    · have h := h.2 hc
      refine V_aload_n C 0 dX6_resting_16 rfl ?_
      refine V_bipush C (-2) dX6_resting_17 (by decide) ?_
      refine V_callV (As := [.int (-2)]) (st := []) C (c_X6_told hb h) Y_X6_told Z_X6_told (T := TX6) (N := 12) rfl (o6 hb) (ltN hH (by decide)) u_147 rfl rfl (Nat.le_of_ble_eq_true rfl) dX6_resting_19 ?_
      rintro v9 M10 ⟨r11, rfl, h⟩
      show V X 22 _ [.int r11] M10
      exact V_iret C dX6_resting_22 (hQ _ _ h)
set_option maxRecDepth 20000 in
set_option maxHeartbeats 1000000 in
theorem c_X6_resting {w : wU} {l : Launch} {b : Nat} {p1 : Int32} {p2 : Int32} {M : mM} {Q : Int32 → mM → Prop} (hb : isC w 6 b) (h : p_X6_resting b p1 p2 M Q) : CT w l 6 yX6_resting cX6_resting 5 (some .int) [.ref (uA w b), .int p1, .int p2] M (piI Q) := by
  refine CT.of (by decide +kernel) (Nat.le_of_ble_eq_true rfl) (fun X hw hH hl hP hN C => ?_)
  subst hw
  exact s_X6_resting C hH hN (fun r M1 q => by rw [hP]; exact ⟨r, rfl, q⟩) hb h
set_option maxRecDepth 20000 in
set_option maxHeartbeats 1000000 in
theorem s_X6_meanBright_F10 {X : wX} (C : CX X cX6_meanBright RX6 (some .int)) (hH : xH X = 5) (hN : xN X = 3) {b : Nat} {p1 : Int32} {M : mM} {Q : Int32 → mM → Prop} (hQ : ∀ r M, Q r M → xPo X (some (.int r)) M) (hb : isC (xW X) 6 b) {v2 : Int32} {ag10 : (Int32 × mM) → Prop} (hag10 : ∀ s, ag10 s → V X 10 [(0, vR X b), (1, .int p1), (2, .int (s.1))] [] (s.2)) (h : p_X6_meanBright_F10 b p1  Q  ag10 v2 M) : V X 10 [(0, vR X b), (1, .int p1), (2, .int v2)] [] M := by
  refine V_iload_n C 2 dX6_meanBright_10 rfl ?_
  refine V_bipush C 21 dX6_meanBright_11 (by decide) ?_
  refine V_icmp_ge (tgt := 46) C dX6_meanBright_13 (by decide) (fun hc => ?_) (fun hc => ?_)
  · have h := h.1 hc
    refine V_aload_n C 0 dX6_meanBright_46 rfl ?_
    refine V_getR C FL_RX6_62 (f6_9 hb) dX6_meanBright_47 ?_
    refine V_aload_n C 0 dX6_meanBright_50 rfl ?_
    refine V_getR C FL_RX6_44 (f6_6 hb) dX6_meanBright_51 ?_
    refine V_getL C FL_RX6_158 (f1_12 (j6_70 hb)) dX6_meanBright_54 ?_
    refine V_callV (As := [.long (M.2 (b + 70) 12)]) (st := []) C (c_X5_set (j6_138 hb) h) Y_X5_set Z_X5_set (T := TX5) (N := 3) rfl (o5 (j6_138 hb)) (ltN hH (by decide)) u_187 rfl rfl (Nat.le_of_ble_eq_true rfl) dX6_meanBright_57 ?_
    rintro v9 M2 ⟨rfl, h⟩
    show V X 60 _ [] M2
    refine V_aload_n C 0 dX6_meanBright_60 rfl ?_
    refine V_getR C FL_RX6_51 (f6_7 hb) dX6_meanBright_61 ?_
    refine V_aload_n C 0 dX6_meanBright_64 rfl ?_
    refine V_getR C FL_RX6_65 (f6_10 hb) dX6_meanBright_65 ?_
    refine V_aload_n C 0 dX6_meanBright_68 rfl ?_
    refine V_getR C FL_RX6_62 (f6_9 hb) dX6_meanBright_69 ?_
    refine V_callV (As := [vR X (b + 141), vR X (b + 138)]) (st := []) C (c_X0_setTo_ (j6_122 hb) (j6_141 hb) (j6_138 hb) h) Y_X0_setTo_ Z_X0_setTo_ (T := TX0) (N := 4) rfl (o0 (j6_122 hb)) (ltN hH (by decide)) u_190 rfl rfl (Nat.le_of_ble_eq_true rfl) dX6_meanBright_72 ?_
    rintro v9 M3 ⟨rfl, h⟩
    show V X 75 _ [] M3
    refine V_iconst C 1 dX6_meanBright_75 (by decide) ?_
    exact V_iret C dX6_meanBright_76 (hQ _ _ h)
  · have h := h.2 hc
    refine V_aload_n C 0 dX6_meanBright_16 rfl ?_
    refine V_getR C FL_RX6_65 (f6_10 hb) dX6_meanBright_17 ?_
    refine V_aload_n C 0 dX6_meanBright_20 rfl ?_
    refine V_getR C FL_RX6_44 (f6_6 hb) dX6_meanBright_21 ?_
    refine V_iload_n C 1 dX6_meanBright_24 rfl ?_
    refine V_iload_n C 2 dX6_meanBright_25 rfl ?_
    refine V_callV (As := [.int p1, .int v2]) (st := [vR X (b + 141)]) C (c_X1_weightOf (j6_70 hb) h) Y_X1_weightOf Z_X1_weightOf (T := TX1) (N := 17) rfl (o1 (j6_70 hb)) (ltN hH (by decide)) u_178 rfl rfl (Nat.le_of_ble_eq_true rfl) dX6_meanBright_26 ?_
    rintro v9 M9 ⟨rfl, r4, rfl, h⟩
    show V X 29 _ [.long r4, vR X (b + 141)] M
    refine V_aload_n C 0 dX6_meanBright_29 rfl ?_
    refine V_getR C FL_RX6_10 (f6_0 hb) dX6_meanBright_30 ?_
    refine V_iload_n C 2 dX6_meanBright_33 rfl ?_
    refine V_callV (As := [.int v2]) (st := [.long r4, vR X (b + 141)]) C (c_X2_brightOf (j6_1 hb) h) Y_X2_brightOf Z_X2_brightOf (T := TX2) (N := 13) rfl (o2 (j6_1 hb)) (ltN hH (by decide)) u_209 rfl rfl (Nat.le_of_ble_eq_true rfl) dX6_meanBright_34 ?_
    rintro v9 M9 ⟨rfl, r5, rfl, h⟩
    show V X 37 _ [.int r5, .long r4, vR X (b + 141)] M
    refine V_callV (As := [.long r4, .int r5]) (st := []) C (c_X5_addTimes (j6_141 hb) h) Y_X5_addTimes Z_X5_addTimes (T := TX5) (N := 3) rfl (o5 (j6_141 hb)) (ltN hH (by decide)) u_208 rfl rfl (Nat.le_of_ble_eq_true rfl) dX6_meanBright_37 ?_
    rintro v9 M6 ⟨rfl, h⟩
    show V X 40 _ [] M6
    refine V_iinc (v := (v2 + 1)) (lv' := [(2, .int (v2 + 1)), (0, vR X b), (1, .int p1)]) C 2 (ltN hN (by decide)) dX6_meanBright_40 rfl rfl rfl ?_
    refine V_goto (tgt := 10) C dX6_meanBright_43 (by decide) ?_
    exact V_sub [1, 2, 0] rfl (hag10 ((v2 + 1), M6) h)
set_option maxRecDepth 20000 in
set_option maxHeartbeats 1000000 in
theorem s_X6_meanBright {X : wX} (C : CX X cX6_meanBright RX6 (some .int)) (hH : xH X = 5) (hN : xN X = 3) {b : Nat} {p1 : Int32} {M : mM} {Q : Int32 → mM → Prop} (hQ : ∀ r M, Q r M → xPo X (some (.int r)) M) (hb : isC (xW X) 6 b)   (h : p_X6_meanBright b p1 M Q) : V X 0 [(0, vR X b), (1, .int p1)] [] M := by
  refine V_aload_n C 0 dX6_meanBright_0 rfl ?_
  refine V_getR C FL_RX6_65 (f6_10 hb) dX6_meanBright_1 ?_
  refine V_lconst C 0 dX6_meanBright_4 (by decide) ?_
  refine V_callV (As := [.long 0]) (st := []) C (c_X5_set (j6_141 hb) h) Y_X5_set Z_X5_set (T := TX5) (N := 3) rfl (o5 (j6_141 hb)) (ltN hH (by decide)) u_187 rfl rfl (Nat.le_of_ble_eq_true rfl) dX6_meanBright_5 ?_
  rintro v9 M1 ⟨rfl, h⟩
  show V X 8 _ [] M1
  refine V_iconst C 0 dX6_meanBright_8 (by decide) ?_
  refine V_istore_n (lv' := [(2, .int 0), (0, vR X b), (1, .int p1)]) C (ltN hN (by decide)) dX6_meanBright_9 rfl ?_
  refine V_sub [1, 2, 0] rfl ?_
  exact Loop.sound (s0 := ((0 : Int32), M1)) (P := fun s => V X 10 [(0, vR X b), (1, .int p1), (2, .int (s.1))] [] (s.2)) h (fun ag hag s hs => s_X6_meanBright_F10 C hH hN hQ hb  hag hs)
set_option maxRecDepth 20000 in
set_option maxHeartbeats 1000000 in
theorem c_X6_meanBright {w : wU} {l : Launch} {b : Nat} {p1 : Int32} {M : mM} {Q : Int32 → mM → Prop} (hb : isC w 6 b) (h : p_X6_meanBright b p1 M Q) : CT w l 5 yX6_meanBright cX6_meanBright 3 (some .int) [.ref (uA w b), .int p1] M (piI Q) := by
  refine CT.of (by decide +kernel) (Nat.le_of_ble_eq_true rfl) (fun X hw hH hl hP hN C => ?_)
  subst hw
  exact s_X6_meanBright C hH hN (fun r M1 q => by rw [hP]; exact ⟨r, rfl, q⟩) hb h
set_option maxRecDepth 20000 in
set_option maxHeartbeats 1000000 in
theorem s_X6_farthestBright_F5 {X : wX} (C : CX X cX6_farthestBright RX6 (some .int)) (hH : xH X = 3) (hN : xN X = 6) {b : Nat} {p1 : Int32} {p2 : Int32} {M : mM} {Q : Int32 → Prop} (hQ : ∀ r, Q r → xPo X (some (.int r)) M) (hb : isC (xW X) 6 b) {v3 : Int32} {v4 : Int32} {ag5 : (Int32 × Int32) → Prop} (hag5 : ∀ s, ag5 s → V X 5 [(0, vR X b), (1, .int p1), (2, .int p2), (3, .int (s.1)), (4, .int (s.2))] [] M) (h : p_X6_farthestBright_F5 b p1 p2  M Q  ag5 v3 v4) : V X 5 [(0, vR X b), (1, .int p1), (2, .int p2), (3, .int v3), (4, .int v4)] [] M := by
  refine V_iload C 4 dX6_farthestBright_5 rfl ?_
  refine V_bipush C 21 dX6_farthestBright_7 (by decide) ?_
  refine V_icmp_ge (tgt := 71) C dX6_farthestBright_9 (by decide) (fun hc => ?_) (fun hc => ?_)
  · have h := h.1 hc
    refine V_iload_n C 3 dX6_farthestBright_71 rfl ?_
    exact V_iret C dX6_farthestBright_72 (hQ _ h)
  · have h := h.2 hc
    refine V_aload_n C 0 dX6_farthestBright_12 rfl ?_
    refine V_getR C FL_RX6_44 (f6_6 hb) dX6_farthestBright_13 ?_
    refine V_iload_n C 1 dX6_farthestBright_16 rfl ?_
    refine V_iload C 4 dX6_farthestBright_17 rfl ?_
    refine V_callV (As := [.int p1, .int v4]) (st := []) C (c_X1_weightOf (j6_70 hb) h) Y_X1_weightOf Z_X1_weightOf (T := TX1) (N := 17) rfl (o1 (j6_70 hb)) (ltN hH (by decide)) u_178 rfl rfl (Nat.le_of_ble_eq_true rfl) dX6_farthestBright_19 ?_
    rintro v9 M9 ⟨rfl, r1, rfl, h⟩
    show V X 22 _ [.long r1] M
    refine V_lconst C 0 dX6_farthestBright_22 (by decide) ?_
    refine V_lcmp C dX6_farthestBright_23 ?_
    refine V_if_eq (tgt := 65) C dX6_farthestBright_24 (by decide) (fun hc => ?_) (fun hc => ?_)
    · have h := h.1 (lgc_eq.mp hc)
      refine V_iinc (v := (v4 + 1)) (lv' := [(4, .int (v4 + 1)), (0, vR X b), (1, .int p1), (2, .int p2), (3, .int v3)]) C 4 (ltN hN (by decide)) dX6_farthestBright_65 rfl rfl rfl ?_
      refine V_goto (tgt := 5) C dX6_farthestBright_68 (by decide) ?_
      exact V_sub [1, 2, 3, 4, 0] rfl (hag5 (v3, (v4 + 1)) h)
    · have h := h.2 (lgc_ne.mp hc)
      refine V_aload_n C 0 dX6_farthestBright_27 rfl ?_
      refine V_getR C FL_RX6_10 (f6_0 hb) dX6_farthestBright_28 ?_
      refine V_iload C 4 dX6_farthestBright_31 rfl ?_
      refine V_callV (As := [.int v4]) (st := []) C (c_X2_brightOf (j6_1 hb) h) Y_X2_brightOf Z_X2_brightOf (T := TX2) (N := 13) rfl (o2 (j6_1 hb)) (ltN hH (by decide)) u_209 rfl rfl (Nat.le_of_ble_eq_true rfl) dX6_farthestBright_33 ?_
      rintro v9 M9 ⟨rfl, r2, rfl, h⟩
      show V X 36 _ [.int r2] M
      refine V_istore (lv' := [(5, .int r2), (0, vR X b), (1, .int p1), (2, .int p2), (3, .int v3), (4, .int v4)]) C (ltN hN (by decide)) dX6_farthestBright_36 rfl ?_
      refine V_iload_n C 4 dX6_farthestBright_38 rfl ?_
      refine V_iconst C (-1) dX6_farthestBright_39 (by decide) ?_
      refine V_icmp_eq (tgt := 62) C dX6_farthestBright_40 (by decide) (fun hc => ?_) (fun hc => ?_)
      · have h := h.1 hc
        refine V_iload C 0 dX6_farthestBright_62 rfl ?_
        refine V_istore_n (lv' := [(3, .int r2), (5, .int r2), (0, vR X b), (1, .int p1), (2, .int p2), (4, .int v4)]) C (ltN hN (by decide)) dX6_farthestBright_64 rfl ?_
        refine V_iinc (v := (v4 + 1)) (lv' := [(4, .int (v4 + 1)), (3, .int r2), (5, .int r2), (0, vR X b), (1, .int p1), (2, .int p2)]) C 5 (ltN hN (by decide)) dX6_farthestBright_65 rfl rfl rfl ?_
        refine V_goto (tgt := 5) C dX6_farthestBright_68 (by decide) ?_
        exact V_sub [3, 4, 5, 1, 0] rfl (hag5 (r2, (v4 + 1)) h)
      · have h := h.2 hc
        refine V_iload_n C 3 dX6_farthestBright_43 rfl ?_
        refine V_if_eq (tgt := 56) C dX6_farthestBright_44 (by decide) (fun hc => ?_) (fun hc => ?_)
        · have h := h.1 hc
          refine V_iload C 0 dX6_farthestBright_56 rfl ?_
          refine V_iload_n C 4 dX6_farthestBright_58 rfl ?_
          refine V_icmp_ge (tgt := 65) C dX6_farthestBright_59 (by decide) (fun hc => ?_) (fun hc => ?_)
          · have h := h.1 hc
            refine V_iinc (v := (v4 + 1)) (lv' := [(4, .int (v4 + 1)), (5, .int r2), (0, vR X b), (1, .int p1), (2, .int p2), (3, .int v3)]) C 5 (ltN hN (by decide)) dX6_farthestBright_65 rfl rfl rfl ?_
            refine V_goto (tgt := 5) C dX6_farthestBright_68 (by decide) ?_
            exact V_sub [2, 3, 4, 5, 0] rfl (hag5 (v3, (v4 + 1)) h)
          · have h := h.2 hc
            refine V_iload C 0 dX6_farthestBright_62 rfl ?_
            refine V_istore_n (lv' := [(3, .int r2), (5, .int r2), (0, vR X b), (1, .int p1), (2, .int p2), (4, .int v4)]) C (ltN hN (by decide)) dX6_farthestBright_64 rfl ?_
            refine V_iinc (v := (v4 + 1)) (lv' := [(4, .int (v4 + 1)), (3, .int r2), (5, .int r2), (0, vR X b), (1, .int p1), (2, .int p2)]) C 5 (ltN hN (by decide)) dX6_farthestBright_65 rfl rfl rfl ?_
            refine V_goto (tgt := 5) C dX6_farthestBright_68 (by decide) ?_
            exact V_sub [3, 4, 5, 1, 0] rfl (hag5 (r2, (v4 + 1)) h)
        · have h := h.2 hc
          refine V_iload C 0 dX6_farthestBright_47 rfl ?_
          refine V_iload_n C 4 dX6_farthestBright_49 rfl ?_
          refine V_icmp_le (tgt := 65) C dX6_farthestBright_50 (by decide) (fun hc => ?_) (fun hc => ?_)
          · have h := h.1 hc
            refine V_iinc (v := (v4 + 1)) (lv' := [(4, .int (v4 + 1)), (5, .int r2), (0, vR X b), (1, .int p1), (2, .int p2), (3, .int v3)]) C 5 (ltN hN (by decide)) dX6_farthestBright_65 rfl rfl rfl ?_
            refine V_goto (tgt := 5) C dX6_farthestBright_68 (by decide) ?_
            exact V_sub [2, 3, 4, 5, 0] rfl (hag5 (v3, (v4 + 1)) h)
          · have h := h.2 hc
            refine V_goto (tgt := 62) C dX6_farthestBright_53 (by decide) ?_
            refine V_iload C 0 dX6_farthestBright_62 rfl ?_
            refine V_istore_n (lv' := [(3, .int r2), (5, .int r2), (0, vR X b), (1, .int p1), (2, .int p2), (4, .int v4)]) C (ltN hN (by decide)) dX6_farthestBright_64 rfl ?_
            refine V_iinc (v := (v4 + 1)) (lv' := [(4, .int (v4 + 1)), (3, .int r2), (5, .int r2), (0, vR X b), (1, .int p1), (2, .int p2)]) C 5 (ltN hN (by decide)) dX6_farthestBright_65 rfl rfl rfl ?_
            refine V_goto (tgt := 5) C dX6_farthestBright_68 (by decide) ?_
            exact V_sub [3, 4, 5, 1, 0] rfl (hag5 (r2, (v4 + 1)) h)
set_option maxRecDepth 20000 in
set_option maxHeartbeats 1000000 in
theorem s_X6_farthestBright {X : wX} (C : CX X cX6_farthestBright RX6 (some .int)) (hH : xH X = 3) (hN : xN X = 6) {b : Nat} {p1 : Int32} {p2 : Int32} {M : mM} {Q : Int32 → Prop} (hQ : ∀ r, Q r → xPo X (some (.int r)) M) (hb : isC (xW X) 6 b)   (h : p_X6_farthestBright b p1 p2 M Q) : V X 0 [(0, vR X b), (1, .int p1), (2, .int p2)] [] M := by
  refine V_iconst C (-1) dX6_farthestBright_0 (by decide) ?_
  refine V_istore_n (lv' := [(3, .int (-1)), (0, vR X b), (1, .int p1), (2, .int p2)]) C (ltN hN (by decide)) dX6_farthestBright_1 rfl ?_
  refine V_iconst C 0 dX6_farthestBright_2 (by decide) ?_
  refine V_istore (lv' := [(4, .int 0), (3, .int (-1)), (0, vR X b), (1, .int p1), (2, .int p2)]) C (ltN hN (by decide)) dX6_farthestBright_3 rfl ?_
  refine V_sub [2, 3, 4, 1, 0] rfl ?_
  exact Loop.sound (s0 := ((-1 : Int32), (0 : Int32))) (P := fun s => V X 5 [(0, vR X b), (1, .int p1), (2, .int p2), (3, .int (s.1)), (4, .int (s.2))] [] M) h (fun ag hag s hs => s_X6_farthestBright_F5 C hH hN hQ hb  hag hs)
set_option maxRecDepth 20000 in
set_option maxHeartbeats 1000000 in
theorem c_X6_farthestBright {w : wU} {l : Launch} {b : Nat} {p1 : Int32} {p2 : Int32} {M : mM} {Q : Int32 → Prop} (hb : isC w 6 b) (h : p_X6_farthestBright b p1 p2 M Q) : CT w l 3 yX6_farthestBright cX6_farthestBright 6 (some .int) [.ref (uA w b), .int p1, .int p2] M (poI M Q) := by
  refine CT.of (by decide +kernel) (Nat.le_of_ble_eq_true rfl) (fun X hw hH hl hP hN C => ?_)
  subst hw
  exact s_X6_farthestBright C hH hN (fun r q => by rw [hP]; exact ⟨rfl, r, rfl, q⟩) hb h
set_option maxRecDepth 20000 in
set_option maxHeartbeats 1000000 in
theorem s_X6_bright {X : wX} (C : CX X cX6_bright RX6 (some .int)) (hH : xH X = 6) (hN : xN X = 3) {b : Nat} {p1 : Int32} {p2 : Int32} {M : mM} {Q : Int32 → mM → Prop} (hQ : ∀ r M, Q r M → xPo X (some (.int r)) M) (hb : isC (xW X) 6 b)   (h : p_X6_bright b p1 p2 M Q) : V X 0 [(0, vR X b), (1, .int p1), (2, .int p2)] [] M := by
  refine V_iload_n C 1 dX6_bright_0 rfl ?_
  refine V_callS (As := [.int p1]) (st := []) C (c_X6_isCell  h) Y_X6_isCell Z_X6_isCell (ltN hH (by decide)) u_166 rfl rfl (Nat.le_of_ble_eq_true rfl) dX6_bright_1 ?_
  rintro v9 M9 ⟨rfl, r1, rfl, h⟩
  show V X 4 _ [.int r1] M
  refine V_if_eq (tgt := 16) C dX6_bright_4 (by decide) (fun hc => ?_) (fun hc => ?_)
  · have h := h.1 hc
    refine V_aload_n C 0 dX6_bright_16 rfl ?_
    refine V_bipush C (-2) dX6_bright_17 (by decide) ?_
    refine V_callV (As := [.int (-2)]) (st := []) C (c_X6_told hb h) Y_X6_told Z_X6_told (T := TX6) (N := 12) rfl (o6 hb) (ltN hH (by decide)) u_147 rfl rfl (Nat.le_of_ble_eq_true rfl) dX6_bright_19 ?_
    rintro v9 M2 ⟨r3, rfl, h⟩
    show V X 22 _ [.int r3] M2
    exact V_iret C dX6_bright_22 (hQ _ _ h)
  · have h := h.2 hc
    refine V_iload_n C 2 dX6_bright_7 rfl ?_
    refine V_iconst C 0 dX6_bright_8 (by decide) ?_
    refine V_iconst C 2 dX6_bright_9 (by decide) ?_
    refine V_callS (As := [.int p2, .int 0, .int 2]) (st := []) C (c_X6_within  h) Y_X6_within Z_X6_within (ltN hH (by decide)) u_101 rfl rfl (Nat.le_of_ble_eq_true rfl) dX6_bright_10 ?_
    rintro v9 M9 ⟨rfl, r4, rfl, h⟩
    show V X 13 _ [.int r4] M
    refine V_if_ne (tgt := 23) C dX6_bright_13 (by decide) (fun hc => ?_) (fun hc => ?_)
    · have h := h.1 hc
      refine V_aload_n C 0 dX6_bright_23 rfl ?_
      refine V_iload_n C 1 dX6_bright_24 rfl ?_
      refine V_callV (As := [.int p1]) (st := []) C (c_X6_reckonAround hb h) Y_X6_reckonAround Z_X6_reckonAround (T := TX6) (N := 12) rfl (o6 hb) (ltN hH (by decide)) u_179 rfl rfl (Nat.le_of_ble_eq_true rfl) dX6_bright_25 ?_
      rintro v9 M5 ⟨r6, rfl, h⟩
      show V X 28 _ [.int r6] M5
      refine V_if_ne (tgt := 38) C dX6_bright_28 (by decide) (fun hc => ?_) (fun hc => ?_)
      · have h := h.1 hc
        refine V_iload_n C 2 dX6_bright_38 rfl ?_
        refine V_iconst C 2 dX6_bright_39 (by decide) ?_
        refine V_icmp_ne (tgt := 54) C dX6_bright_40 (by decide) (fun hc => ?_) (fun hc => ?_)
        · have h := h.1 hc
          refine V_aload_n C 0 dX6_bright_54 rfl ?_
          refine V_iload_n C 1 dX6_bright_55 rfl ?_
          refine V_bipush C 8 dX6_bright_56 (by decide) ?_
          refine V_irem C dX6_bright_58 (by decide) ?_
          refine V_iload_n C 2 dX6_bright_59 rfl ?_
          refine V_iconst C 1 dX6_bright_60 (by decide) ?_
          refine V_icmp_ne (tgt := 68) C dX6_bright_61 (by decide) (fun hc => ?_) (fun hc => ?_)
          · have h := h.1 hc
            refine V_iconst C 0 dX6_bright_68 (by decide) ?_
            refine V_callV (As := [.int (p1 - p1 / 8 * 8), .int 0]) (st := []) C (c_X6_farthestBright hb h) Y_X6_farthestBright Z_X6_farthestBright (T := TX6) (N := 12) rfl (o6 hb) (ltN hH (by decide)) u_210 rfl rfl (Nat.le_of_ble_eq_true rfl) dX6_bright_69 ?_
            rintro v9 M9 ⟨rfl, r7, rfl, h⟩
            show V X 72 _ [.int r7] M5
            exact V_iret C dX6_bright_72 (hQ _ _ h)
          · have h := h.2 hc
            refine V_iconst C 1 dX6_bright_64 (by decide) ?_
            refine V_goto (tgt := 69) C dX6_bright_65 (by decide) ?_
            refine V_callV (As := [.int (p1 - p1 / 8 * 8), .int 1]) (st := []) C (c_X6_farthestBright hb h) Y_X6_farthestBright Z_X6_farthestBright (T := TX6) (N := 12) rfl (o6 hb) (ltN hH (by decide)) u_210 rfl rfl (Nat.le_of_ble_eq_true rfl) dX6_bright_69 ?_
            rintro v9 M9 ⟨rfl, r8, rfl, h⟩
            show V X 72 _ [.int r8] M5
            exact V_iret C dX6_bright_72 (hQ _ _ h)
        · have h := h.2 hc
          refine V_aload_n C 0 dX6_bright_43 rfl ?_
          refine V_iload_n C 1 dX6_bright_44 rfl ?_
          refine V_bipush C 8 dX6_bright_45 (by decide) ?_
          refine V_irem C dX6_bright_47 (by decide) ?_
          refine V_callV (As := [.int (p1 - p1 / 8 * 8)]) (st := []) C (c_X6_meanBright hb h) Y_X6_meanBright Z_X6_meanBright (T := TX6) (N := 12) rfl (o6 hb) (ltN hH (by decide)) u_211 rfl rfl (Nat.le_of_ble_eq_true rfl) dX6_bright_48 ?_
          rintro v9 M9 ⟨r10, rfl, h⟩
          show V X 51 _ [.int r10] M9
          refine V_goto (tgt := 72) C dX6_bright_51 (by decide) ?_
          exact V_iret C dX6_bright_72 (hQ _ _ h)
      · have h := h.2 hc
        refine V_aload_n C 0 dX6_bright_31 rfl ?_
        refine V_bipush C (-3) dX6_bright_32 (by decide) ?_
        refine V_callV (As := [.int (-3)]) (st := []) C (c_X6_told hb h) Y_X6_told Z_X6_told (T := TX6) (N := 12) rfl (o6 hb) (ltN hH (by decide)) u_147 rfl rfl (Nat.le_of_ble_eq_true rfl) dX6_bright_34 ?_
        rintro v9 M11 ⟨r12, rfl, h⟩
        show V X 37 _ [.int r12] M11
        exact V_iret C dX6_bright_37 (hQ _ _ h)
    · have h := h.2 hc
      refine V_aload_n C 0 dX6_bright_16 rfl ?_
      refine V_bipush C (-2) dX6_bright_17 (by decide) ?_
      refine V_callV (As := [.int (-2)]) (st := []) C (c_X6_told hb h) Y_X6_told Z_X6_told (T := TX6) (N := 12) rfl (o6 hb) (ltN hH (by decide)) u_147 rfl rfl (Nat.le_of_ble_eq_true rfl) dX6_bright_19 ?_
      rintro v9 M13 ⟨r14, rfl, h⟩
      show V X 22 _ [.int r14] M13
      exact V_iret C dX6_bright_22 (hQ _ _ h)
set_option maxRecDepth 20000 in
set_option maxHeartbeats 1000000 in
theorem c_X6_bright {w : wU} {l : Launch} {b : Nat} {p1 : Int32} {p2 : Int32} {M : mM} {Q : Int32 → mM → Prop} (hb : isC w 6 b) (h : p_X6_bright b p1 p2 M Q) : CT w l 6 yX6_bright cX6_bright 3 (some .int) [.ref (uA w b), .int p1, .int p2] M (piI Q) := by
  refine CT.of (by decide +kernel) (Nat.le_of_ble_eq_true rfl) (fun X hw hH hl hP hN C => ?_)
  subst hw
  exact s_X6_bright C hH hN (fun r M1 q => by rw [hP]; exact ⟨r, rfl, q⟩) hb h
set_option maxRecDepth 20000 in
set_option maxHeartbeats 1000000 in
theorem s_X6_sign {X : wX} (C : CX X cX6_sign RX6 (some .int)) (hH : xH X = 1) (hN : xN X = 2) {b : Nat} {p1 : Int32} {M : mM} {Q : Int32 → mM → Prop} (hQ : ∀ r M, Q r M → xPo X (some (.int r)) M) (hb : isC (xW X) 6 b)   (h : p_X6_sign b p1 M Q) : V X 0 [(0, vR X b), (1, .int p1)] [] M := by
  refine V_iload_n C 1 dX6_sign_0 rfl ?_
  refine V_iconst C 0 dX6_sign_1 (by decide) ?_
  refine V_iconst C 2 dX6_sign_2 (by decide) ?_
  refine V_callS (As := [.int p1, .int 0, .int 2]) (st := []) C (c_X6_within  h) Y_X6_within Z_X6_within (ltN hH (by decide)) u_101 rfl rfl (Nat.le_of_ble_eq_true rfl) dX6_sign_3 ?_
  rintro v9 M9 ⟨rfl, r1, rfl, h⟩
  show V X 6 _ [.int r1] M
  refine V_if_ne (tgt := 16) C dX6_sign_6 (by decide) (fun hc => ?_) (fun hc => ?_)
  · have h := h.1 hc
    refine V_iload_n C 1 dX6_sign_16 rfl ?_
    refine V_if_ne (tgt := 39) C dX6_sign_17 (by decide) (fun hc => ?_) (fun hc => ?_)
    · have h := h.1 hc
      refine V_iload_n C 1 dX6_sign_39 rfl ?_
      refine V_iconst C 1 dX6_sign_40 (by decide) ?_
      refine V_icmp_ne (tgt := 57) C dX6_sign_41 (by decide) (fun hc => ?_) (fun hc => ?_)
      · have h := h.1 hc
        refine V_aload_n C 0 dX6_sign_57 rfl ?_
        refine V_getR C FL_RX6_51 (f6_7 hb) dX6_sign_58 ?_
        refine V_getR C FL_RX6_240 (f0_1 (j6_122 hb)) dX6_sign_61 ?_
        refine V_getI C FL_RX6_237 (f5_2 (j0_4 (j6_122 hb))) dX6_sign_64 ?_
        exact V_iret C dX6_sign_67 (hQ _ _ h)
      · have h := h.2 hc
        refine V_aload_n C 0 dX6_sign_44 rfl ?_
        refine V_getR C FL_RX6_51 (f6_7 hb) dX6_sign_45 ?_
        refine V_getR C FL_RX6_234 (f0_0 (j6_122 hb)) dX6_sign_48 ?_
        refine V_getI C FL_RX6_237 (f5_2 (j0_1 (j6_122 hb))) dX6_sign_51 ?_
        refine V_goto (tgt := 67) C dX6_sign_54 (by decide) ?_
        exact V_iret C dX6_sign_67 (hQ _ _ h)
    · have h := h.2 hc
      refine V_aload_n C 0 dX6_sign_20 rfl ?_
      refine V_getR C FL_RX6_51 (f6_7 hb) dX6_sign_21 ?_
      refine V_getR C FL_RX6_234 (f0_0 (j6_122 hb)) dX6_sign_24 ?_
      refine V_callV (As := []) (st := []) C (c_X5_isZero (j0_1 (j6_122 hb)) h) Y_X5_isZero Z_X5_isZero (T := TX5) (N := 3) rfl (o5 (j0_1 (j6_122 hb))) (ltN hH (by decide)) u_186 rfl rfl (Nat.le_of_ble_eq_true rfl) dX6_sign_27 ?_
      rintro v9 M9 ⟨rfl, r2, rfl, h⟩
      show V X 30 _ [.int r2] M
      refine V_if_eq (tgt := 37) C dX6_sign_30 (by decide) (fun hc => ?_) (fun hc => ?_)
      · have h := h.1 hc
        refine V_iconst C 1 dX6_sign_37 (by decide) ?_
        exact V_iret C dX6_sign_38 (hQ _ _ h)
      · have h := h.2 hc
        refine V_iconst C 0 dX6_sign_33 (by decide) ?_
        refine V_goto (tgt := 38) C dX6_sign_34 (by decide) ?_
        exact V_iret C dX6_sign_38 (hQ _ _ h)
  · have h := h.2 hc
    refine V_aload_n C 0 dX6_sign_9 rfl ?_
    refine V_bipush C (-2) dX6_sign_10 (by decide) ?_
    refine V_callV (As := [.int (-2)]) (st := []) C (c_X6_told hb h) Y_X6_told Z_X6_told (T := TX6) (N := 12) rfl (o6 hb) (ltN hH (by decide)) u_147 rfl rfl (Nat.le_of_ble_eq_true rfl) dX6_sign_12 ?_
    rintro v9 M3 ⟨r4, rfl, h⟩
    show V X 15 _ [.int r4] M3
    exact V_iret C dX6_sign_15 (hQ _ _ h)
set_option maxRecDepth 20000 in
set_option maxHeartbeats 1000000 in
theorem c_X6_sign {w : wU} {l : Launch} {b : Nat} {p1 : Int32} {M : mM} {Q : Int32 → mM → Prop} (hb : isC w 6 b) (h : p_X6_sign b p1 M Q) : CT w l 1 yX6_sign cX6_sign 2 (some .int) [.ref (uA w b), .int p1] M (piI Q) := by
  refine CT.of (by decide +kernel) (Nat.le_of_ble_eq_true rfl) (fun X hw hH hl hP hN C => ?_)
  subst hw
  exact s_X6_sign C hH hN (fun r M1 q => by rw [hP]; exact ⟨r, rfl, q⟩) hb h
set_option maxRecDepth 20000 in
set_option maxHeartbeats 1000000 in
theorem s_X6_limb {X : wX} (C : CX X cX6_limb RX6 (some .int)) (hH : xH X = 2) (hN : xN X = 3) {b : Nat} {p1 : Int32} {p2 : Int32} {M : mM} {Q : Int32 → mM → Prop} (hQ : ∀ r M, Q r M → xPo X (some (.int r)) M) (hb : isC (xW X) 6 b)   (h : p_X6_limb b p1 p2 M Q) : V X 0 [(0, vR X b), (1, .int p1), (2, .int p2)] [] M := by
  refine V_iload_n C 1 dX6_limb_0 rfl ?_
  refine V_iconst C 0 dX6_limb_1 (by decide) ?_
  refine V_iconst C 1 dX6_limb_2 (by decide) ?_
  refine V_callS (As := [.int p1, .int 0, .int 1]) (st := []) C (c_X6_within  h) Y_X6_within Z_X6_within (ltN hH (by decide)) u_101 rfl rfl (Nat.le_of_ble_eq_true rfl) dX6_limb_3 ?_
  rintro v9 M9 ⟨rfl, r1, rfl, h⟩
  show V X 6 _ [.int r1] M
  refine V_if_eq (tgt := 13) C dX6_limb_6 (by decide) (fun hc => ?_) (fun hc => ?_)
  · have h := h.1 hc
    refine V_aload_n C 0 dX6_limb_13 rfl ?_
    refine V_bipush C (-2) dX6_limb_14 (by decide) ?_
    refine V_callV (As := [.int (-2)]) (st := []) C (c_X6_told hb h) Y_X6_told Z_X6_told (T := TX6) (N := 12) rfl (o6 hb) (ltN hH (by decide)) u_147 rfl rfl (Nat.le_of_ble_eq_true rfl) dX6_limb_16 ?_
    rintro v9 M2 ⟨r3, rfl, h⟩
    show V X 19 _ [.int r3] M2
    exact V_iret C dX6_limb_19 (hQ _ _ h)
  · have h := h.2 hc
    refine V_iload_n C 2 dX6_limb_9 rfl ?_
    refine V_if_ge (tgt := 20) C dX6_limb_10 (by decide) (fun hc => ?_) (fun hc => ?_)
    · have h := h.1 hc
      refine V_iload_n C 1 dX6_limb_20 rfl ?_
      refine V_if_ne (tgt := 38) C dX6_limb_21 (by decide) (fun hc => ?_) (fun hc => ?_)
      · have h := h.1 hc
        refine V_aload_n C 0 dX6_limb_38 rfl ?_
        refine V_getR C FL_RX6_51 (f6_7 hb) dX6_limb_39 ?_
        refine V_getR C FL_RX6_240 (f0_1 (j6_122 hb)) dX6_limb_42 ?_
        refine V_iload_n C 2 dX6_limb_45 rfl ?_
        refine V_callV (As := [.int p2]) (st := []) C (c_X5_digit (j0_4 (j6_122 hb)) h) Y_X5_digit Z_X5_digit (T := TX5) (N := 3) rfl (o5 (j0_4 (j6_122 hb))) (ltN hH (by decide)) u_215 rfl rfl (Nat.le_of_ble_eq_true rfl) dX6_limb_46 ?_
        rintro v9 M9 ⟨rfl, r4, rfl, h⟩
        show V X 49 _ [.int r4] M
        exact V_iret C dX6_limb_49 (hQ _ _ h)
      · have h := h.2 hc
        refine V_aload_n C 0 dX6_limb_24 rfl ?_
        refine V_getR C FL_RX6_51 (f6_7 hb) dX6_limb_25 ?_
        refine V_getR C FL_RX6_234 (f0_0 (j6_122 hb)) dX6_limb_28 ?_
        refine V_iload_n C 2 dX6_limb_31 rfl ?_
        refine V_callV (As := [.int p2]) (st := []) C (c_X5_digit (j0_1 (j6_122 hb)) h) Y_X5_digit Z_X5_digit (T := TX5) (N := 3) rfl (o5 (j0_1 (j6_122 hb))) (ltN hH (by decide)) u_215 rfl rfl (Nat.le_of_ble_eq_true rfl) dX6_limb_32 ?_
        rintro v9 M9 ⟨rfl, r5, rfl, h⟩
        show V X 35 _ [.int r5] M
        refine V_goto (tgt := 49) C dX6_limb_35 (by decide) ?_
        exact V_iret C dX6_limb_49 (hQ _ _ h)
    · have h := h.2 hc
      refine V_aload_n C 0 dX6_limb_13 rfl ?_
      refine V_bipush C (-2) dX6_limb_14 (by decide) ?_
      refine V_callV (As := [.int (-2)]) (st := []) C (c_X6_told hb h) Y_X6_told Z_X6_told (T := TX6) (N := 12) rfl (o6 hb) (ltN hH (by decide)) u_147 rfl rfl (Nat.le_of_ble_eq_true rfl) dX6_limb_16 ?_
      rintro v9 M6 ⟨r7, rfl, h⟩
      show V X 19 _ [.int r7] M6
      exact V_iret C dX6_limb_19 (hQ _ _ h)
set_option maxRecDepth 20000 in
set_option maxHeartbeats 1000000 in
theorem c_X6_limb {w : wU} {l : Launch} {b : Nat} {p1 : Int32} {p2 : Int32} {M : mM} {Q : Int32 → mM → Prop} (hb : isC w 6 b) (h : p_X6_limb b p1 p2 M Q) : CT w l 2 yX6_limb cX6_limb 3 (some .int) [.ref (uA w b), .int p1, .int p2] M (piI Q) := by
  refine CT.of (by decide +kernel) (Nat.le_of_ble_eq_true rfl) (fun X hw hH hl hP hN C => ?_)
  subst hw
  exact s_X6_limb C hH hN (fun r M1 q => by rw [hP]; exact ⟨r, rfl, q⟩) hb h
set_option maxRecDepth 20000 in
set_option maxHeartbeats 1000000 in
theorem s_X6_image {X : wX} (C : CX X cX6_image RX6 (some .int)) (hH : xH X = 2) (hN : xN X = 2) {b : Nat} {p1 : Int32} {M : mM} {Q : Int32 → mM → Prop} (hQ : ∀ r M, Q r M → xPo X (some (.int r)) M) (hb : isC (xW X) 6 b)   (h : p_X6_image b p1 M Q) : V X 0 [(0, vR X b), (1, .int p1)] [] M := by
  refine V_iload_n C 1 dX6_image_0 rfl ?_
  refine V_iconst C 0 dX6_image_1 (by decide) ?_
  refine V_iconst C 1 dX6_image_2 (by decide) ?_
  refine V_callS (As := [.int p1, .int 0, .int 1]) (st := []) C (c_X6_within  h) Y_X6_within Z_X6_within (ltN hH (by decide)) u_101 rfl rfl (Nat.le_of_ble_eq_true rfl) dX6_image_3 ?_
  rintro v9 M9 ⟨rfl, r1, rfl, h⟩
  show V X 6 _ [.int r1] M
  refine V_if_ne (tgt := 16) C dX6_image_6 (by decide) (fun hc => ?_) (fun hc => ?_)
  · have h := h.1 hc
    refine V_aload_n C 0 dX6_image_16 rfl ?_
    refine V_getR C FL_RX6_19 (f6_2 hb) dX6_image_17 ?_
    refine V_iload_n C 1 dX6_image_20 rfl ?_
    obtain ⟨b2, h⟩ := h
    refine V_aald4 C (k6_25 hb) b2 dX6_image_21 ?_
    refine V_aload_n C 0 dX6_image_22 rfl ?_
    refine V_getR C FL_RX6_10 (f6_0 hb) dX6_image_23 ?_
    refine V_callV (As := [vR X (b + 1)]) (st := []) C (c_X2_become (r6_25 hb b2) (j6_1 hb) h) Y_X2_become Z_X2_become (T := TX2) (N := 13) rfl (o2 (r6_25 hb b2)) (ltN hH (by decide)) u_158 rfl rfl (Nat.le_of_ble_eq_true rfl) dX6_image_26 ?_
    rintro v9 M3 ⟨rfl, h⟩
    show V X 29 _ [] M3
    refine V_aload_n C 0 dX6_image_29 rfl ?_
    refine V_getR C FL_RX6_23 (f6_3 hb) dX6_image_30 ?_
    refine V_iload_n C 1 dX6_image_33 rfl ?_
    refine V_iconst C 1 dX6_image_34 (by decide) ?_
    obtain ⟨b5, h⟩ := h
    refine V_zast C (k6_50 hb) b5 dX6_image_35 ?_
    refine V_nmM (fun M4 e_M4 => ?_)
    have h := h M4 e_M4
    refine V_iconst C 1 dX6_image_36 (by decide) ?_
    exact V_iret C dX6_image_37 (hQ _ _ h)
  · have h := h.2 hc
    refine V_aload_n C 0 dX6_image_9 rfl ?_
    refine V_bipush C (-2) dX6_image_10 (by decide) ?_
    refine V_callV (As := [.int (-2)]) (st := []) C (c_X6_told hb h) Y_X6_told Z_X6_told (T := TX6) (N := 12) rfl (o6 hb) (ltN hH (by decide)) u_147 rfl rfl (Nat.le_of_ble_eq_true rfl) dX6_image_12 ?_
    rintro v9 M6 ⟨r7, rfl, h⟩
    show V X 15 _ [.int r7] M6
    exact V_iret C dX6_image_15 (hQ _ _ h)
set_option maxRecDepth 20000 in
set_option maxHeartbeats 1000000 in
theorem c_X6_image {w : wU} {l : Launch} {b : Nat} {p1 : Int32} {M : mM} {Q : Int32 → mM → Prop} (hb : isC w 6 b) (h : p_X6_image b p1 M Q) : CT w l 2 yX6_image cX6_image 2 (some .int) [.ref (uA w b), .int p1] M (piI Q) := by
  refine CT.of (by decide +kernel) (Nat.le_of_ble_eq_true rfl) (fun X hw hH hl hP hN C => ?_)
  subst hw
  exact s_X6_image C hH hN (fun r M1 q => by rw [hP]; exact ⟨r, rfl, q⟩) hb h
set_option maxRecDepth 20000 in
set_option maxHeartbeats 1000000 in
theorem s_X6_from {X : wX} (C : CX X cX6_from RX6 (some .int)) (hH : xH X = 2) (hN : xN X = 2) {b : Nat} {p1 : Int32} {M : mM} {Q : Int32 → mM → Prop} (hQ : ∀ r M, Q r M → xPo X (some (.int r)) M) (hb : isC (xW X) 6 b)   (h : p_X6_from b p1 M Q) : V X 0 [(0, vR X b), (1, .int p1)] [] M := by
  refine V_iload_n C 1 dX6_from_0 rfl ?_
  refine V_iconst C 0 dX6_from_1 (by decide) ?_
  refine V_iconst C 1 dX6_from_2 (by decide) ?_
  refine V_callS (As := [.int p1, .int 0, .int 1]) (st := []) C (c_X6_within  h) Y_X6_within Z_X6_within (ltN hH (by decide)) u_101 rfl rfl (Nat.le_of_ble_eq_true rfl) dX6_from_3 ?_
  rintro v9 M9 ⟨rfl, r1, rfl, h⟩
  show V X 6 _ [.int r1] M
  refine V_if_ne (tgt := 16) C dX6_from_6 (by decide) (fun hc => ?_) (fun hc => ?_)
  · have h := h.1 hc
    refine V_aload_n C 0 dX6_from_16 rfl ?_
    refine V_getR C FL_RX6_23 (f6_3 hb) dX6_from_17 ?_
    refine V_iload_n C 1 dX6_from_20 rfl ?_
    obtain ⟨b2, h⟩ := h
    refine V_zald C (k6_50 hb) b2 dX6_from_21 ?_
    refine V_if_ne (tgt := 32) C dX6_from_22 (by decide) (fun hc => ?_) (fun hc => ?_)
    · have h := h.1 hc
      refine V_aload_n C 0 dX6_from_32 rfl ?_
      refine V_getR C FL_RX6_10 (f6_0 hb) dX6_from_33 ?_
      refine V_aload_n C 0 dX6_from_36 rfl ?_
      refine V_getR C FL_RX6_19 (f6_2 hb) dX6_from_37 ?_
      refine V_iload_n C 1 dX6_from_40 rfl ?_
      obtain ⟨b3, h⟩ := h
      refine V_aald4 C (k6_25 hb) b3 dX6_from_41 ?_
      refine V_callV (As := [vR X (b + 26 + 12 * p1.toNatClampNeg)]) (st := []) C (c_X2_become (j6_1 hb) (r6_25 hb b3) h) Y_X2_become Z_X2_become (T := TX2) (N := 13) rfl (o2 (j6_1 hb)) (ltN hH (by decide)) u_158 rfl rfl (Nat.le_of_ble_eq_true rfl) dX6_from_42 ?_
      rintro v9 M4 ⟨rfl, h⟩
      show V X 45 _ [] M4
      refine V_iconst C 1 dX6_from_45 (by decide) ?_
      exact V_iret C dX6_from_46 (hQ _ _ h)
    · have h := h.2 hc
      refine V_aload_n C 0 dX6_from_25 rfl ?_
      refine V_bipush C (-3) dX6_from_26 (by decide) ?_
      refine V_callV (As := [.int (-3)]) (st := []) C (c_X6_told hb h) Y_X6_told Z_X6_told (T := TX6) (N := 12) rfl (o6 hb) (ltN hH (by decide)) u_147 rfl rfl (Nat.le_of_ble_eq_true rfl) dX6_from_28 ?_
      rintro v9 M5 ⟨r6, rfl, h⟩
      show V X 31 _ [.int r6] M5
      exact V_iret C dX6_from_31 (hQ _ _ h)
  · have h := h.2 hc
    refine V_aload_n C 0 dX6_from_9 rfl ?_
    refine V_bipush C (-2) dX6_from_10 (by decide) ?_
    refine V_callV (As := [.int (-2)]) (st := []) C (c_X6_told hb h) Y_X6_told Z_X6_told (T := TX6) (N := 12) rfl (o6 hb) (ltN hH (by decide)) u_147 rfl rfl (Nat.le_of_ble_eq_true rfl) dX6_from_12 ?_
    rintro v9 M7 ⟨r8, rfl, h⟩
    show V X 15 _ [.int r8] M7
    exact V_iret C dX6_from_15 (hQ _ _ h)
set_option maxRecDepth 20000 in
set_option maxHeartbeats 1000000 in
theorem c_X6_from {w : wU} {l : Launch} {b : Nat} {p1 : Int32} {M : mM} {Q : Int32 → mM → Prop} (hb : isC w 6 b) (h : p_X6_from b p1 M Q) : CT w l 2 yX6_from cX6_from 2 (some .int) [.ref (uA w b), .int p1] M (piI Q) := by
  refine CT.of (by decide +kernel) (Nat.le_of_ble_eq_true rfl) (fun X hw hH hl hP hN C => ?_)
  subst hw
  exact s_X6_from C hH hN (fun r M1 q => by rw [hP]; exact ⟨r, rfl, q⟩) hb h
set_option maxRecDepth 20000 in
set_option maxHeartbeats 1000000 in
theorem s_X6_status {X : wX} (C : CX X cX6_status RX6 (some .int)) (hH : xH X = 1) (hN : xN X = 2) {b : Nat} {p1 : Int32} {M : mM} {Q : Int32 → mM → Prop} (hQ : ∀ r M, Q r M → xPo X (some (.int r)) M) (hb : isC (xW X) 6 b)   (h : p_X6_status b p1 M Q) : V X 0 [(0, vR X b), (1, .int p1)] [] M := by
  refine V_iload_n C 1 dX6_status_0 rfl ?_
  refine V_iconst C 0 dX6_status_1 (by decide) ?_
  refine V_iconst C 2 dX6_status_2 (by decide) ?_
  refine V_callS (As := [.int p1, .int 0, .int 2]) (st := []) C (c_X6_within  h) Y_X6_within Z_X6_within (ltN hH (by decide)) u_101 rfl rfl (Nat.le_of_ble_eq_true rfl) dX6_status_3 ?_
  rintro v9 M9 ⟨rfl, r1, rfl, h⟩
  show V X 6 _ [.int r1] M
  refine V_if_ne (tgt := 18) C dX6_status_6 (by decide) (fun hc => ?_) (fun hc => ?_)
  · have h := h.1 hc
    refine V_aload_n C 0 dX6_status_18 rfl ?_
    refine V_getR C FL_RX6_68 (f6_11 hb) dX6_status_19 ?_
    refine V_iload_n C 1 dX6_status_22 rfl ?_
    obtain ⟨b2, h⟩ := h
    refine V_iald C (k6_144 hb) b2 dX6_status_23 ?_
    exact V_iret C dX6_status_24 (hQ _ _ h)
  · have h := h.2 hc
    refine V_aload_n C 0 dX6_status_9 rfl ?_
    refine V_bipush C (-2) dX6_status_10 (by decide) ?_
    refine V_callV (As := [.int (-2)]) (st := []) C (c_X6_told hb h) Y_X6_told Z_X6_told (T := TX6) (N := 12) rfl (o6 hb) (ltN hH (by decide)) u_147 rfl rfl (Nat.le_of_ble_eq_true rfl) dX6_status_12 ?_
    rintro v9 M3 ⟨r4, rfl, h⟩
    show V X 15 _ [.int r4] M3
    refine V_pop C dX6_status_15 rfl ?_
    refine V_iconst C (-1) dX6_status_16 (by decide) ?_
    exact V_iret C dX6_status_17 (hQ _ _ h)
set_option maxRecDepth 20000 in
set_option maxHeartbeats 1000000 in
theorem c_X6_status {w : wU} {l : Launch} {b : Nat} {p1 : Int32} {M : mM} {Q : Int32 → mM → Prop} (hb : isC w 6 b) (h : p_X6_status b p1 M Q) : CT w l 1 yX6_status cX6_status 2 (some .int) [.ref (uA w b), .int p1] M (piI Q) := by
  refine CT.of (by decide +kernel) (Nat.le_of_ble_eq_true rfl) (fun X hw hH hl hP hN C => ?_)
  subst hw
  exact s_X6_status C hH hN (fun r M1 q => by rw [hP]; exact ⟨r, rfl, q⟩) hb h
set_option maxRecDepth 20000 in
set_option maxHeartbeats 1000000 in
theorem s_X6_count {X : wX} (C : CX X cX6_count RX6 (some .int)) (hH : xH X = 1) (hN : xN X = 2) {b : Nat} {p1 : Int32} {M : mM} {Q : Int32 → mM → Prop} (hQ : ∀ r M, Q r M → xPo X (some (.int r)) M) (hb : isC (xW X) 6 b)   (h : p_X6_count b p1 M Q) : V X 0 [(0, vR X b), (1, .int p1)] [] M := by
  refine V_iload_n C 1 dX6_count_0 rfl ?_
  by_cases n0 : p1 = 0
  · have h := h.1 n0
    refine V_tsw (tgt := 32) C dX6_count_1 (31) (by rw [n0]; decide) (by rw [n0]; decide) (by rw [n0]; decide) (by decide) ?_
    refine V_aload_n C 0 dX6_count_32 rfl ?_
    refine V_getR C FL_RX6_10 (f6_0 hb) dX6_count_33 ?_
    refine V_getI C FL_RX6_246 (f2_11 (j6_1 hb)) dX6_count_36 ?_
    exact V_iret C dX6_count_39 (hQ _ _ h)
  by_cases n1 : p1 = 1
  · have h := h.2.1 n1
    refine V_tsw (tgt := 40) C dX6_count_1 (39) (by rw [n1]; decide) (by rw [n1]; decide) (by rw [n1]; decide) (by decide) ?_
    refine V_aload_n C 0 dX6_count_40 rfl ?_
    refine V_getR C FL_RX6_10 (f6_0 hb) dX6_count_41 ?_
    refine V_getI C FL_RX6_249 (f2_12 (j6_1 hb)) dX6_count_44 ?_
    exact V_iret C dX6_count_47 (hQ _ _ h)
  by_cases n2 : p1 = 2
  · have h := h.2.2.1 n2
    refine V_tsw (tgt := 48) C dX6_count_1 (47) (by rw [n2]; decide) (by rw [n2]; decide) (by rw [n2]; decide) (by decide) ?_
    refine V_aload_n C 0 dX6_count_48 rfl ?_
    refine V_getR C FL_RX6_10 (f6_0 hb) dX6_count_49 ?_
    refine V_callV (As := []) (st := []) C (c_X2_countAside (j6_1 hb) h) Y_X2_countAside Z_X2_countAside (T := TX2) (N := 13) rfl (o2 (j6_1 hb)) (ltN hH (by decide)) u_220 rfl rfl (Nat.le_of_ble_eq_true rfl) dX6_count_52 ?_
    rintro v9 M9 ⟨rfl, r1, rfl, h⟩
    show V X 55 _ [.int r1] M
    exact V_iret C dX6_count_55 (hQ _ _ h)
  by_cases n3 : p1 = 3
  · have h := h.2.2.2.1 n3
    refine V_tsw (tgt := 56) C dX6_count_1 (55) (by rw [n3]; decide) (by rw [n3]; decide) (by rw [n3]; decide) (by decide) ?_
    refine V_aload_n C 0 dX6_count_56 rfl ?_
    refine V_getR C FL_RX6_30 (f6_4 hb) dX6_count_57 ?_
    refine V_getI C FL_RX6_255 (f3_2 (j6_51 hb)) dX6_count_60 ?_
    exact V_iret C dX6_count_63 (hQ _ _ h)
  have h := h.2.2.2.2 n0 n1 n2 n3
  refine V_tswOut (tgt := 64) C dX6_count_1 (by have q0 : p1.toInt ≠ 0 := fun e => n0 (Int32.toInt_inj.mp (e.trans (by decide))); have q1 : p1.toInt ≠ 1 := fun e => n1 (Int32.toInt_inj.mp (e.trans (by decide))); have q2 : p1.toInt ≠ 2 := fun e => n2 (Int32.toInt_inj.mp (e.trans (by decide))); have q3 : p1.toInt ≠ 3 := fun e => n3 (Int32.toInt_inj.mp (e.trans (by decide))); omega) (by decide) ?_
  refine V_aload_n C 0 dX6_count_64 rfl ?_
  refine V_bipush C (-2) dX6_count_65 (by decide) ?_
  refine V_callV (As := [.int (-2)]) (st := []) C (c_X6_told hb h) Y_X6_told Z_X6_told (T := TX6) (N := 12) rfl (o6 hb) (ltN hH (by decide)) u_147 rfl rfl (Nat.le_of_ble_eq_true rfl) dX6_count_67 ?_
  rintro v9 M2 ⟨r3, rfl, h⟩
  show V X 70 _ [.int r3] M2
  exact V_iret C dX6_count_70 (hQ _ _ h)
set_option maxRecDepth 20000 in
set_option maxHeartbeats 1000000 in
theorem c_X6_count {w : wU} {l : Launch} {b : Nat} {p1 : Int32} {M : mM} {Q : Int32 → mM → Prop} (hb : isC w 6 b) (h : p_X6_count b p1 M Q) : CT w l 1 yX6_count cX6_count 2 (some .int) [.ref (uA w b), .int p1] M (piI Q) := by
  refine CT.of (by decide +kernel) (Nat.le_of_ble_eq_true rfl) (fun X hw hH hl hP hN C => ?_)
  subst hw
  exact s_X6_count C hH hN (fun r M1 q => by rw [hP]; exact ⟨r, rfl, q⟩) hb h
set_option maxRecDepth 20000 in
set_option maxHeartbeats 1000000 in
theorem s_X6_digest_J96 {X : wX} (C : CX X cX6_digest RX6 (some .long)) (hH : xH X = 1) (hN : xN X = 3) {b : Nat} {M : mM} {Q : Int64 → Prop} (hQ : ∀ r, Q r → xPo X (some (.long r)) M) (hb : isC (xW X) 6 b) {s0 : Int32} {s1 : Int64}  (h : p_X6_digest_J96 b Q  s0 s1 M) : V X 96 [(0, vR X b)] [.int s0, .long s1] M := by
  refine V_i2l C dX6_digest_96 ?_
  refine V_ladd C dX6_digest_97 ?_
  refine V_lstore_n (lv' := [(1, .long (s1 + (s0.toInt64))), (0, vR X b)]) C (ltN hN (by decide)) dX6_digest_98 rfl ?_
  refine V_ldc2 C u_223 dX6_digest_99 ?_
  refine V_lload_n C 0 dX6_digest_102 rfl ?_
  refine V_lmul C dX6_digest_103 ?_
  refine V_aload_n C 1 dX6_digest_104 rfl ?_
  refine V_getR C FL_RX6_51 (f6_7 hb) dX6_digest_105 ?_
  refine V_getR C FL_RX6_234 (f0_0 (j6_122 hb)) dX6_digest_108 ?_
  refine V_getI C FL_RX6_237 (f5_2 (j0_1 (j6_122 hb))) dX6_digest_111 ?_
  refine V_i2l C dX6_digest_114 ?_
  refine V_ladd C dX6_digest_115 ?_
  refine V_nmL (fun x8 e_x8 => ?_)
  have h := h x8 e_x8
  refine V_lstore_n (lv' := [(1, .long x8), (0, vR X b)]) C (ltN hN (by decide)) dX6_digest_116 rfl ?_
  refine V_ldc2 C u_223 dX6_digest_117 ?_
  refine V_lload_n C 0 dX6_digest_120 rfl ?_
  refine V_lmul C dX6_digest_121 ?_
  refine V_aload_n C 1 dX6_digest_122 rfl ?_
  refine V_getR C FL_RX6_51 (f6_7 hb) dX6_digest_123 ?_
  refine V_getR C FL_RX6_240 (f0_1 (j6_122 hb)) dX6_digest_126 ?_
  refine V_getI C FL_RX6_237 (f5_2 (j0_4 (j6_122 hb))) dX6_digest_129 ?_
  refine V_i2l C dX6_digest_132 ?_
  refine V_ladd C dX6_digest_133 ?_
  refine V_nmL (fun x9 e_x9 => ?_)
  have h := h x9 e_x9
  refine V_lstore_n (lv' := [(1, .long x9), (0, vR X b)]) C (ltN hN (by decide)) dX6_digest_134 rfl ?_
  refine V_aload_n C 1 dX6_digest_135 rfl ?_
  refine V_getR C FL_RX6_51 (f6_7 hb) dX6_digest_136 ?_
  refine V_getR C FL_RX6_234 (f0_0 (j6_122 hb)) dX6_digest_139 ?_
  refine V_lload_n C 0 dX6_digest_142 rfl ?_
  refine V_callV (As := [.long x9]) (st := []) C (c_X5_mix (j0_1 (j6_122 hb)) h) Y_X5_mix Z_X5_mix (T := TX5) (N := 3) rfl (o5 (j0_1 (j6_122 hb))) (ltN hH (by decide)) u_224 rfl rfl (Nat.le_of_ble_eq_true rfl) dX6_digest_143 ?_
  rintro v9 M9 ⟨rfl, r10, rfl, h⟩
  show V X 146 _ [.long r10] M
  refine V_lstore_n (lv' := [(1, .long r10), (0, vR X b)]) C (ltN hN (by decide)) dX6_digest_146 rfl ?_
  refine V_aload_n C 1 dX6_digest_147 rfl ?_
  refine V_getR C FL_RX6_51 (f6_7 hb) dX6_digest_148 ?_
  refine V_getR C FL_RX6_240 (f0_1 (j6_122 hb)) dX6_digest_151 ?_
  refine V_lload_n C 0 dX6_digest_154 rfl ?_
  refine V_callV (As := [.long r10]) (st := []) C (c_X5_mix (j0_4 (j6_122 hb)) h) Y_X5_mix Z_X5_mix (T := TX5) (N := 3) rfl (o5 (j0_4 (j6_122 hb))) (ltN hH (by decide)) u_224 rfl rfl (Nat.le_of_ble_eq_true rfl) dX6_digest_155 ?_
  rintro v9 M9 ⟨rfl, r11, rfl, h⟩
  show V X 158 _ [.long r11] M
  exact V_lret C dX6_digest_158 (hQ _ h)
set_option maxRecDepth 20000 in
set_option maxHeartbeats 1000000 in
theorem s_X6_digest {X : wX} (C : CX X cX6_digest RX6 (some .long)) (hH : xH X = 1) (hN : xN X = 3) {b : Nat} {M : mM} {Q : Int64 → Prop} (hQ : ∀ r, Q r → xPo X (some (.long r)) M) (hb : isC (xW X) 6 b)   (h : p_X6_digest b M Q) : V X 0 [(0, vR X b)] [] M := by
  refine V_ldc2 C u_222 dX6_digest_0 ?_
  refine V_lstore_n (lv' := [(1, .long 557), (0, vR X b)]) C (ltN hN (by decide)) dX6_digest_3 rfl ?_
  refine V_ldc2 C u_223 dX6_digest_4 ?_
  refine V_lload_n C 0 dX6_digest_7 rfl ?_
  refine V_lmul C dX6_digest_8 ?_
  refine V_aload_n C 1 dX6_digest_9 rfl ?_
  refine V_getR C FL_RX6_10 (f6_0 hb) dX6_digest_10 ?_
  refine V_getI C FL_RX6_246 (f2_11 (j6_1 hb)) dX6_digest_13 ?_
  refine V_i2l C dX6_digest_16 ?_
  refine V_ladd C dX6_digest_17 ?_
  refine V_nmL (fun x1 e_x1 => ?_)
  have h := h x1 e_x1
  refine V_lstore_n (lv' := [(1, .long x1), (0, vR X b)]) C (ltN hN (by decide)) dX6_digest_18 rfl ?_
  refine V_ldc2 C u_223 dX6_digest_19 ?_
  refine V_lload_n C 0 dX6_digest_22 rfl ?_
  refine V_lmul C dX6_digest_23 ?_
  refine V_aload_n C 1 dX6_digest_24 rfl ?_
  refine V_getR C FL_RX6_10 (f6_0 hb) dX6_digest_25 ?_
  refine V_getI C FL_RX6_249 (f2_12 (j6_1 hb)) dX6_digest_28 ?_
  refine V_i2l C dX6_digest_31 ?_
  refine V_ladd C dX6_digest_32 ?_
  refine V_nmL (fun x2 e_x2 => ?_)
  have h := h x2 e_x2
  refine V_lstore_n (lv' := [(1, .long x2), (0, vR X b)]) C (ltN hN (by decide)) dX6_digest_33 rfl ?_
  refine V_ldc2 C u_223 dX6_digest_34 ?_
  refine V_lload_n C 0 dX6_digest_37 rfl ?_
  refine V_lmul C dX6_digest_38 ?_
  refine V_aload_n C 1 dX6_digest_39 rfl ?_
  refine V_getR C FL_RX6_10 (f6_0 hb) dX6_digest_40 ?_
  refine V_callV (As := []) (st := [.long (31 * x2)]) C (c_X2_countAside (j6_1 hb) h) Y_X2_countAside Z_X2_countAside (T := TX2) (N := 13) rfl (o2 (j6_1 hb)) (ltN hH (by decide)) u_220 rfl rfl (Nat.le_of_ble_eq_true rfl) dX6_digest_43 ?_
  rintro v9 M9 ⟨rfl, r3, rfl, h⟩
  show V X 46 _ [.int r3, .long (31 * x2)] M
  refine V_i2l C dX6_digest_46 ?_
  refine V_ladd C dX6_digest_47 ?_
  refine V_nmL (fun x4 e_x4 => ?_)
  have h := h x4 e_x4
  refine V_lstore_n (lv' := [(1, .long x4), (0, vR X b)]) C (ltN hN (by decide)) dX6_digest_48 rfl ?_
  refine V_ldc2 C u_223 dX6_digest_49 ?_
  refine V_lload_n C 0 dX6_digest_52 rfl ?_
  refine V_lmul C dX6_digest_53 ?_
  refine V_aload_n C 1 dX6_digest_54 rfl ?_
  refine V_getR C FL_RX6_30 (f6_4 hb) dX6_digest_55 ?_
  refine V_getI C FL_RX6_255 (f3_2 (j6_51 hb)) dX6_digest_58 ?_
  refine V_i2l C dX6_digest_61 ?_
  refine V_ladd C dX6_digest_62 ?_
  refine V_nmL (fun x5 e_x5 => ?_)
  have h := h x5 e_x5
  refine V_lstore_n (lv' := [(1, .long x5), (0, vR X b)]) C (ltN hN (by decide)) dX6_digest_63 rfl ?_
  refine V_aload_n C 1 dX6_digest_64 rfl ?_
  refine V_getR C FL_RX6_10 (f6_0 hb) dX6_digest_65 ?_
  refine V_lload_n C 0 dX6_digest_68 rfl ?_
  refine V_callV (As := [.long x5]) (st := []) C (c_X2_mix (j6_1 hb) h) Y_X2_mix Z_X2_mix (T := TX2) (N := 13) rfl (o2 (j6_1 hb)) (ltN hH (by decide)) u_225 rfl rfl (Nat.le_of_ble_eq_true rfl) dX6_digest_69 ?_
  rintro v9 M9 ⟨rfl, r6, rfl, h⟩
  show V X 72 _ [.long r6] M
  refine V_lstore_n (lv' := [(1, .long r6), (0, vR X b)]) C (ltN hN (by decide)) dX6_digest_72 rfl ?_
  refine V_ldc2 C u_223 dX6_digest_73 ?_
  refine V_lload_n C 0 dX6_digest_76 rfl ?_
  refine V_lmul C dX6_digest_77 ?_
  refine V_aload_n C 1 dX6_digest_78 rfl ?_
  refine V_getR C FL_RX6_51 (f6_7 hb) dX6_digest_79 ?_
  refine V_getR C FL_RX6_234 (f0_0 (j6_122 hb)) dX6_digest_82 ?_
  refine V_callV (As := []) (st := [.long (31 * r6)]) C (c_X5_isZero (j0_1 (j6_122 hb)) h) Y_X5_isZero Z_X5_isZero (T := TX5) (N := 3) rfl (o5 (j0_1 (j6_122 hb))) (ltN hH (by decide)) u_186 rfl rfl (Nat.le_of_ble_eq_true rfl) dX6_digest_85 ?_
  rintro v9 M9 ⟨rfl, r7, rfl, h⟩
  show V X 88 _ [.int r7, .long (31 * r6)] M
  refine V_if_eq (tgt := 95) C dX6_digest_88 (by decide) (fun hc => ?_) (fun hc => ?_)
  · have h := h.1 hc
    refine V_iconst C 1 dX6_digest_95 (by decide) ?_
    exact V_sub [1] rfl (s_X6_digest_J96 C hH hN hQ hb   h)
  · have h := h.2 hc
    refine V_iconst C 0 dX6_digest_91 (by decide) ?_
    refine V_goto (tgt := 96) C dX6_digest_92 (by decide) ?_
    exact V_sub [1] rfl (s_X6_digest_J96 C hH hN hQ hb   h)
set_option maxRecDepth 20000 in
set_option maxHeartbeats 1000000 in
theorem c_X6_digest {w : wU} {l : Launch} {b : Nat} {M : mM} {Q : Int64 → Prop} (hb : isC w 6 b) (h : p_X6_digest b M Q) : CT w l 1 yX6_digest cX6_digest 3 (some .long) [.ref (uA w b)] M (poL M Q) := by
  refine CT.of (by decide +kernel) (Nat.le_of_ble_eq_true rfl) (fun X hw hH hl hP hN C => ?_)
  subst hw
  exact s_X6_digest C hH hN (fun r q => by rw [hP]; exact ⟨rfl, r, rfl, q⟩) hb h
set_option maxRecDepth 20000 in
set_option maxHeartbeats 1000000 in
theorem s_X7_in {X : wX} (C : CX X cX7_in RX7 (some .boolean)) (hH : xH X = 0) (hN : xN X = 6) {p1 : Int64} {p2 : Int64} {p3 : Int64} {M : mM} {Q : Int32 → Prop} (hQ : ∀ r, Q r → xPo X (some (.int r)) M)    (h : p_X7_in p1 p2 p3 M Q) : V X 0 [(0, .long p1), (2, .long p2), (4, .long p3)] [] M := by
  refine V_lload_n C 0 dX7_in_0 rfl ?_
  refine V_lload_n C 1 dX7_in_1 rfl ?_
  refine V_lcmp C dX7_in_2 ?_
  refine V_if_lt (tgt := 17) C dX7_in_3 (by decide) (fun hc => ?_) (fun hc => ?_)
  · have h := h.1 (lgc_lt.mp hc)
    refine V_iconst C 0 dX7_in_17 (by decide) ?_
    exact V_zret C rfl (by decide) dX7_in_18 (hQ _ h)
  · have h := h.2 (lgc_nlt.mp hc)
    refine V_lload_n C 0 dX7_in_6 rfl ?_
    refine V_lload C 2 dX7_in_7 rfl ?_
    refine V_lcmp C dX7_in_9 ?_
    refine V_if_gt (tgt := 17) C dX7_in_10 (by decide) (fun hc => ?_) (fun hc => ?_)
    · have h := h.1 (lgc_gt.mp hc)
      refine V_iconst C 0 dX7_in_17 (by decide) ?_
      exact V_zret C rfl (by decide) dX7_in_18 (hQ _ h)
    · have h := h.2 (lgc_ngt.mp hc)
      refine V_iconst C 1 dX7_in_13 (by decide) ?_
      refine V_goto (tgt := 18) C dX7_in_14 (by decide) ?_
      exact V_zret C rfl (by decide) dX7_in_18 (hQ _ h)
set_option maxRecDepth 20000 in
set_option maxHeartbeats 1000000 in
theorem c_X7_in {w : wU} {l : Launch} {p1 : Int64} {p2 : Int64} {p3 : Int64} {M : mM} {Q : Int32 → Prop}  (h : p_X7_in p1 p2 p3 M Q) : CT w l 0 yX7_in cX7_in 6 (some .boolean) [.long p1, .long p2, .long p3] M (poI M Q) := by
  refine CT.of (by decide +kernel) (Nat.le_of_ble_eq_true rfl) (fun X hw hH hl hP hN C => ?_)
  subst hw
  exact s_X7_in C hH hN (fun r q => by rw [hP]; exact ⟨rfl, r, rfl, q⟩)  h
set_option maxRecDepth 20000 in
set_option maxHeartbeats 1000000 in
theorem s_X7_begins_F87 {X : wX} (C : CX X cX7_begins RX7 (none)) (hH : xH X = 0) (hN : xN X = 2) {b : Nat} {M : mM} {Q : mM → Prop} (hQ : ∀ M, Q M → xPo X none M) (hb : isC (xW X) 7 b) {v1 : Int32} {ag87 : (Int32 × mM) → Prop} (hag87 : ∀ s, ag87 s → V X 87 [(0, vR X b), (1, .int (s.1))] [] (s.2)) (h : p_X7_begins_F87 b  Q  ag87 v1 M) : V X 87 [(0, vR X b), (1, .int v1)] [] M := by
  refine V_iload_n C 1 dX7_begins_87 rfl ?_
  refine V_bipush C 48 dX7_begins_88 (by decide) ?_
  refine V_icmp_ge (tgt := 110) C dX7_begins_90 (by decide) (fun hc => ?_) (fun hc => ?_)
  · have h := h.1 hc
    exact V_vret C dX7_begins_110 (hQ _ h)
  · have h := h.2 hc
    refine V_aload_n C 0 dX7_begins_93 rfl ?_
    refine V_getR C FL_RX7_7 (f7_0 hb) dX7_begins_94 ?_
    refine V_sipush C 150 dX7_begins_97 (by decide) ?_
    refine V_iload_n C 1 dX7_begins_100 rfl ?_
    refine V_iadd C dX7_begins_101 ?_
    refine V_iconst C (-1) dX7_begins_102 (by decide) ?_
    obtain ⟨b7, h⟩ := h
    refine V_iast C (k7_1 hb) b7 dX7_begins_103 ?_
    refine V_nmM (fun M6 e_M6 => ?_)
    have h := h M6 e_M6
    refine V_iinc (v := (v1 + 1)) (lv' := [(1, .int (v1 + 1)), (0, vR X b)]) C 1 (ltN hN (by decide)) dX7_begins_104 rfl rfl rfl ?_
    refine V_goto (tgt := 87) C dX7_begins_107 (by decide) ?_
    exact V_sub [1, 0] rfl (hag87 ((v1 + 1), M6) h)
set_option maxRecDepth 20000 in
set_option maxHeartbeats 1000000 in
theorem s_X7_begins_F63 {X : wX} (C : CX X cX7_begins RX7 (none)) (hH : xH X = 0) (hN : xN X = 2) {b : Nat} {M : mM} {Q : mM → Prop} (hQ : ∀ M, Q M → xPo X none M) (hb : isC (xW X) 7 b) {v1 : Int32} {ag63 : (Int32 × mM) → Prop} (hag63 : ∀ s, ag63 s → V X 63 [(0, vR X b), (1, .int (s.1))] [] (s.2)) (h : p_X7_begins_F63 b  Q  ag63 v1 M) : V X 63 [(0, vR X b), (1, .int v1)] [] M := by
  refine V_iload_n C 1 dX7_begins_63 rfl ?_
  refine V_bipush C 21 dX7_begins_64 (by decide) ?_
  refine V_icmp_ge (tgt := 85) C dX7_begins_66 (by decide) (fun hc => ?_) (fun hc => ?_)
  · have h := h.1 hc
    refine V_iconst C 0 dX7_begins_85 (by decide) ?_
    refine V_istore_n (lv' := [(1, .int 0), (0, vR X b)]) C (ltN hN (by decide)) dX7_begins_86 rfl ?_
    refine V_sub [1, 0] rfl ?_
    exact Loop.sound (s0 := ((0 : Int32), M)) (P := fun s => V X 87 [(0, vR X b), (1, .int (s.1))] [] (s.2)) h (fun ag hag s hs => s_X7_begins_F87 C hH hN hQ hb  hag hs)
  · have h := h.2 hc
    refine V_aload_n C 0 dX7_begins_69 rfl ?_
    refine V_getR C FL_RX7_7 (f7_0 hb) dX7_begins_70 ?_
    refine V_bipush C 10 dX7_begins_73 (by decide) ?_
    refine V_iload_n C 1 dX7_begins_75 rfl ?_
    refine V_iadd C dX7_begins_76 ?_
    refine V_iconst C 1 dX7_begins_77 (by decide) ?_
    obtain ⟨b9, h⟩ := h
    refine V_iast C (k7_1 hb) b9 dX7_begins_78 ?_
    refine V_nmM (fun M8 e_M8 => ?_)
    have h := h M8 e_M8
    refine V_iinc (v := (v1 + 1)) (lv' := [(1, .int (v1 + 1)), (0, vR X b)]) C 1 (ltN hN (by decide)) dX7_begins_79 rfl rfl rfl ?_
    refine V_goto (tgt := 63) C dX7_begins_82 (by decide) ?_
    exact V_sub [1, 0] rfl (hag63 ((v1 + 1), M8) h)
set_option maxRecDepth 20000 in
set_option maxHeartbeats 1000000 in
theorem s_X7_begins_F16 {X : wX} (C : CX X cX7_begins RX7 (none)) (hH : xH X = 0) (hN : xN X = 2) {b : Nat} {M : mM} {Q : mM → Prop} (hQ : ∀ M, Q M → xPo X none M) (hb : isC (xW X) 7 b) {v1 : Int32} {ag16 : (Int32 × mM) → Prop} (hag16 : ∀ s, ag16 s → V X 16 [(0, vR X b), (1, .int (s.1))] [] (s.2)) (h : p_X7_begins_F16 b  Q  ag16 v1 M) : V X 16 [(0, vR X b), (1, .int v1)] [] M := by
  refine V_iload_n C 1 dX7_begins_16 rfl ?_
  refine V_iconst C 4 dX7_begins_17 (by decide) ?_
  refine V_icmp_ge (tgt := 36) C dX7_begins_18 (by decide) (fun hc => ?_) (fun hc => ?_)
  · have h := h.1 hc
    refine V_aload_n C 0 dX7_begins_36 rfl ?_
    refine V_getR C FL_RX7_7 (f7_0 hb) dX7_begins_37 ?_
    refine V_bipush C 6 dX7_begins_40 (by decide) ?_
    refine V_bipush C 10 dX7_begins_42 (by decide) ?_
    refine V_iast C (k7_1 hb) (vp_lit (by decide)) dX7_begins_44 ?_
    refine V_nmM (fun M3 e_M3 => ?_)
    have h := h M3 e_M3
    refine V_aload_n C 0 dX7_begins_45 rfl ?_
    refine V_getR C FL_RX7_7 (f7_0 hb) dX7_begins_46 ?_
    refine V_bipush C 7 dX7_begins_49 (by decide) ?_
    refine V_iconst C 0 dX7_begins_51 (by decide) ?_
    refine V_iast C (k7_1 hb) (vp_lit (by decide)) dX7_begins_52 ?_
    refine V_nmM (fun M4 e_M4 => ?_)
    have h := h M4 e_M4
    refine V_aload_n C 0 dX7_begins_53 rfl ?_
    refine V_getR C FL_RX7_7 (f7_0 hb) dX7_begins_54 ?_
    refine V_bipush C 8 dX7_begins_57 (by decide) ?_
    refine V_iconst C 3 dX7_begins_59 (by decide) ?_
    refine V_iast C (k7_1 hb) (vp_lit (by decide)) dX7_begins_60 ?_
    refine V_nmM (fun M5 e_M5 => ?_)
    have h := h M5 e_M5
    refine V_iconst C 0 dX7_begins_61 (by decide) ?_
    refine V_istore_n (lv' := [(1, .int 0), (0, vR X b)]) C (ltN hN (by decide)) dX7_begins_62 rfl ?_
    refine V_sub [1, 0] rfl ?_
    exact Loop.sound (s0 := ((0 : Int32), M5)) (P := fun s => V X 63 [(0, vR X b), (1, .int (s.1))] [] (s.2)) h (fun ag hag s hs => s_X7_begins_F63 C hH hN hQ hb  hag hs)
  · have h := h.2 hc
    refine V_aload_n C 0 dX7_begins_21 rfl ?_
    refine V_getR C FL_RX7_7 (f7_0 hb) dX7_begins_22 ?_
    refine V_iconst C 2 dX7_begins_25 (by decide) ?_
    refine V_iload_n C 1 dX7_begins_26 rfl ?_
    refine V_iadd C dX7_begins_27 ?_
    refine V_iconst C 1 dX7_begins_28 (by decide) ?_
    obtain ⟨b11, h⟩ := h
    refine V_iast C (k7_1 hb) b11 dX7_begins_29 ?_
    refine V_nmM (fun M10 e_M10 => ?_)
    have h := h M10 e_M10
    refine V_iinc (v := (v1 + 1)) (lv' := [(1, .int (v1 + 1)), (0, vR X b)]) C 1 (ltN hN (by decide)) dX7_begins_30 rfl rfl rfl ?_
    refine V_goto (tgt := 16) C dX7_begins_33 (by decide) ?_
    exact V_sub [1, 0] rfl (hag16 ((v1 + 1), M10) h)
set_option maxRecDepth 20000 in
set_option maxHeartbeats 1000000 in
theorem s_X7_begins {X : wX} (C : CX X cX7_begins RX7 (none)) (hH : xH X = 0) (hN : xN X = 2) {b : Nat} {M : mM} {Q : mM → Prop} (hQ : ∀ M, Q M → xPo X none M) (hb : isC (xW X) 7 b)   (h : p_X7_begins b M Q) : V X 0 [(0, vR X b)] [] M := by
  refine V_aload_n C 0 dX7_begins_0 rfl ?_
  refine V_getR C FL_RX7_7 (f7_0 hb) dX7_begins_1 ?_
  refine V_iconst C 0 dX7_begins_4 (by decide) ?_
  refine V_iconst C 0 dX7_begins_5 (by decide) ?_
  refine V_iast C (k7_1 hb) (vp_lit (by decide)) dX7_begins_6 ?_
  refine V_nmM (fun M1 e_M1 => ?_)
  have h := h M1 e_M1
  refine V_aload_n C 0 dX7_begins_7 rfl ?_
  refine V_getR C FL_RX7_7 (f7_0 hb) dX7_begins_8 ?_
  refine V_iconst C 1 dX7_begins_11 (by decide) ?_
  refine V_iconst C 0 dX7_begins_12 (by decide) ?_
  refine V_iast C (k7_1 hb) (vp_lit (by decide)) dX7_begins_13 ?_
  refine V_nmM (fun M2 e_M2 => ?_)
  have h := h M2 e_M2
  refine V_iconst C 0 dX7_begins_14 (by decide) ?_
  refine V_istore_n (lv' := [(1, .int 0), (0, vR X b)]) C (ltN hN (by decide)) dX7_begins_15 rfl ?_
  refine V_sub [1, 0] rfl ?_
  exact Loop.sound (s0 := ((0 : Int32), M2)) (P := fun s => V X 16 [(0, vR X b), (1, .int (s.1))] [] (s.2)) h (fun ag hag s hs => s_X7_begins_F16 C hH hN hQ hb  hag hs)
set_option maxRecDepth 20000 in
set_option maxHeartbeats 1000000 in
theorem c_X7_begins {w : wU} {l : Launch} {b : Nat} {M : mM} {Q : mM → Prop} (hb : isC w 7 b) (h : p_X7_begins b M Q) : CT w l 0 yX7_begins cX7_begins 2 (none) [.ref (uA w b)] M (piV Q) := by
  refine CT.of (by decide +kernel) (Nat.le_of_ble_eq_true rfl) (fun X hw hH hl hP hN C => ?_)
  subst hw
  exact s_X7_begins C hH hN (fun M1 q => by rw [hP]; exact ⟨rfl, q⟩) hb h
set_option maxRecDepth 20000 in
set_option maxHeartbeats 1000000 in
theorem s_X7_refuses {X : wX} (C : CX X cX7_refuses RX7 (some .int)) (hH : xH X = 0) (hN : xN X = 3) {b : Nat} {p1 : Int32} {p2 : Int32} {M : mM} {Q : Int32 → mM → Prop} (hQ : ∀ r M, Q r M → xPo X (some (.int r)) M) (hb : isC (xW X) 7 b)   (h : p_X7_refuses b p1 p2 M Q) : V X 0 [(0, vR X b), (1, .int p1), (2, .int p2)] [] M := by
  refine V_aload_n C 0 dX7_refuses_0 rfl ?_
  refine V_getR C FL_RX7_23 (f7_4 hb) dX7_refuses_1 ?_
  refine V_iload_n C 1 dX7_refuses_4 rfl ?_
  refine V_dup2_1 C dX7_refuses_5 rfl rfl ?_
  obtain ⟨b1, h⟩ := h
  refine V_iald C (k7_5 hb) b1 dX7_refuses_6 ?_
  refine V_aload_n C 0 dX7_refuses_7 rfl ?_
  refine V_getI C FL_RX7_60 (f7_5 hb) dX7_refuses_8 ?_
  refine V_if_eq (tgt := 18) C dX7_refuses_11 (by decide) (fun hc => ?_) (fun hc => ?_)
  · have h := h.1 hc
    refine V_iconst C 1 dX7_refuses_18 (by decide) ?_
    refine V_iadd C dX7_refuses_19 ?_
    obtain ⟨b3, h⟩ := h
    refine V_iast C (k7_5 hb) b3 dX7_refuses_20 ?_
    refine V_nmM (fun M2 e_M2 => ?_)
    have h := h M2 e_M2
    refine V_iload_n C 2 dX7_refuses_21 rfl ?_
    exact V_iret C dX7_refuses_22 (hQ _ _ h)
  · have h := h.2 hc
    refine V_iconst C 0 dX7_refuses_14 (by decide) ?_
    refine V_goto (tgt := 19) C dX7_refuses_15 (by decide) ?_
    refine V_iadd C dX7_refuses_19 ?_
    obtain ⟨b5, h⟩ := h
    refine V_iast C (k7_5 hb) b5 dX7_refuses_20 ?_
    refine V_nmM (fun M4 e_M4 => ?_)
    have h := h M4 e_M4
    refine V_iload_n C 2 dX7_refuses_21 rfl ?_
    exact V_iret C dX7_refuses_22 (hQ _ _ h)
set_option maxRecDepth 20000 in
set_option maxHeartbeats 1000000 in
theorem c_X7_refuses {w : wU} {l : Launch} {b : Nat} {p1 : Int32} {p2 : Int32} {M : mM} {Q : Int32 → mM → Prop} (hb : isC w 7 b) (h : p_X7_refuses b p1 p2 M Q) : CT w l 0 yX7_refuses cX7_refuses 3 (some .int) [.ref (uA w b), .int p1, .int p2] M (piI Q) := by
  refine CT.of (by decide +kernel) (Nat.le_of_ble_eq_true rfl) (fun X hw hH hl hP hN C => ?_)
  subst hw
  exact s_X7_refuses C hH hN (fun r M1 q => by rw [hP]; exact ⟨r, rfl, q⟩) hb h
set_option maxRecDepth 20000 in
set_option maxHeartbeats 1000000 in
theorem s_X7_bad {X : wX} (C : CX X cX7_bad RX7 (some .int)) (hH : xH X = 1) (hN : xN X = 1) {b : Nat} {M : mM} {Q : Int32 → mM → Prop} (hQ : ∀ r M, Q r M → xPo X (some (.int r)) M) (hb : isC (xW X) 7 b)   (h : p_X7_bad b M Q) : V X 0 [(0, vR X b)] [] M := by
  refine V_aload_n C 0 dX7_bad_0 rfl ?_
  refine V_iconst C 0 dX7_bad_1 (by decide) ?_
  refine V_bipush C (-2) dX7_bad_2 (by decide) ?_
  refine V_callV (As := [.int 0, .int (-2)]) (st := []) C (c_X7_refuses hb h) Y_X7_refuses Z_X7_refuses (T := TX7) (N := 21) rfl (o7 hb) (ltN hH (by decide)) u_229 rfl rfl (Nat.le_of_ble_eq_true rfl) dX7_bad_4 ?_
  rintro v9 M1 ⟨r2, rfl, h⟩
  show V X 7 _ [.int r2] M1
  exact V_iret C dX7_bad_7 (hQ _ _ h)
set_option maxRecDepth 20000 in
set_option maxHeartbeats 1000000 in
theorem c_X7_bad {w : wU} {l : Launch} {b : Nat} {M : mM} {Q : Int32 → mM → Prop} (hb : isC w 7 b) (h : p_X7_bad b M Q) : CT w l 1 yX7_bad cX7_bad 1 (some .int) [.ref (uA w b)] M (piI Q) := by
  refine CT.of (by decide +kernel) (Nat.le_of_ble_eq_true rfl) (fun X hw hH hl hP hN C => ?_)
  subst hw
  exact s_X7_bad C hH hN (fun r M1 q => by rw [hP]; exact ⟨r, rfl, q⟩) hb h
set_option maxRecDepth 20000 in
set_option maxHeartbeats 1000000 in
theorem s_X7_no {X : wX} (C : CX X cX7_no RX7 (some .int)) (hH : xH X = 1) (hN : xN X = 1) {b : Nat} {M : mM} {Q : Int32 → mM → Prop} (hQ : ∀ r M, Q r M → xPo X (some (.int r)) M) (hb : isC (xW X) 7 b)   (h : p_X7_no b M Q) : V X 0 [(0, vR X b)] [] M := by
  refine V_aload_n C 0 dX7_no_0 rfl ?_
  refine V_iconst C 1 dX7_no_1 (by decide) ?_
  refine V_bipush C (-3) dX7_no_2 (by decide) ?_
  refine V_callV (As := [.int 1, .int (-3)]) (st := []) C (c_X7_refuses hb h) Y_X7_refuses Z_X7_refuses (T := TX7) (N := 21) rfl (o7 hb) (ltN hH (by decide)) u_229 rfl rfl (Nat.le_of_ble_eq_true rfl) dX7_no_4 ?_
  rintro v9 M1 ⟨r2, rfl, h⟩
  show V X 7 _ [.int r2] M1
  exact V_iret C dX7_no_7 (hQ _ _ h)
set_option maxRecDepth 20000 in
set_option maxHeartbeats 1000000 in
theorem c_X7_no {w : wU} {l : Launch} {b : Nat} {M : mM} {Q : Int32 → mM → Prop} (hb : isC w 7 b) (h : p_X7_no b M Q) : CT w l 1 yX7_no cX7_no 1 (some .int) [.ref (uA w b)] M (piI Q) := by
  refine CT.of (by decide +kernel) (Nat.le_of_ble_eq_true rfl) (fun X hw hH hl hP hN C => ?_)
  subst hw
  exact s_X7_no C hH hN (fun r M1 q => by rw [hP]; exact ⟨r, rfl, q⟩) hb h
set_option maxRecDepth 20000 in
set_option maxHeartbeats 1000000 in
theorem s_X7_full {X : wX} (C : CX X cX7_full RX7 (some .int)) (hH : xH X = 1) (hN : xN X = 1) {b : Nat} {M : mM} {Q : Int32 → mM → Prop} (hQ : ∀ r M, Q r M → xPo X (some (.int r)) M) (hb : isC (xW X) 7 b)   (h : p_X7_full b M Q) : V X 0 [(0, vR X b)] [] M := by
  refine V_aload_n C 0 dX7_full_0 rfl ?_
  refine V_iconst C 2 dX7_full_1 (by decide) ?_
  refine V_bipush C (-4) dX7_full_2 (by decide) ?_
  refine V_callV (As := [.int 2, .int (-4)]) (st := []) C (c_X7_refuses hb h) Y_X7_refuses Z_X7_refuses (T := TX7) (N := 21) rfl (o7 hb) (ltN hH (by decide)) u_229 rfl rfl (Nat.le_of_ble_eq_true rfl) dX7_full_4 ?_
  rintro v9 M1 ⟨r2, rfl, h⟩
  show V X 7 _ [.int r2] M1
  exact V_iret C dX7_full_7 (hQ _ _ h)
set_option maxRecDepth 20000 in
set_option maxHeartbeats 1000000 in
theorem c_X7_full {w : wU} {l : Launch} {b : Nat} {M : mM} {Q : Int32 → mM → Prop} (hb : isC w 7 b) (h : p_X7_full b M Q) : CT w l 1 yX7_full cX7_full 1 (some .int) [.ref (uA w b)] M (piI Q) := by
  refine CT.of (by decide +kernel) (Nat.le_of_ble_eq_true rfl) (fun X hw hH hl hP hN C => ?_)
  subst hw
  exact s_X7_full C hH hN (fun r M1 q => by rw [hP]; exact ⟨r, rfl, q⟩) hb h
set_option maxRecDepth 20000 in
set_option maxHeartbeats 1000000 in
theorem s_X7_trims_F0 {X : wX} (C : CX X cX7_trims RX7 (none)) (hH : xH X = 0) (hN : xN X = 2) {b : Nat} {p1 : Int32} {M : mM} {Q : mM → Prop} (hQ : ∀ M, Q M → xPo X none M) (hb : isC (xW X) 7 b) {ag0 : mM → Prop} (hag0 : ∀ s, ag0 s → V X 0 [(0, vR X b), (1, .int p1)] [] s) (h : p_X7_trims_F0 b p1  Q  ag0  M) : V X 0 [(0, vR X b), (1, .int p1)] [] M := by
  refine V_aload_n C 0 dX7_trims_0 rfl ?_
  refine V_getR C FL_RX7_29 (f7_7 hb) dX7_trims_1 ?_
  refine V_iload_n C 1 dX7_trims_4 rfl ?_
  obtain ⟨b1, h⟩ := h
  refine V_iald C (k7_7 hb) b1 dX7_trims_5 ?_
  refine V_if_le (tgt := 43) C dX7_trims_6 (by decide) (fun hc => ?_) (fun hc => ?_)
  · have h := h.1 hc
    exact V_vret C dX7_trims_43 (hQ _ h)
  · have h := h.2 hc
    refine V_aload_n C 0 dX7_trims_9 rfl ?_
    refine V_getR C FL_RX7_26 (f7_6 hb) dX7_trims_10 ?_
    refine V_bipush C 40 dX7_trims_13 (by decide) ?_
    refine V_iload_n C 1 dX7_trims_15 rfl ?_
    refine V_imul C dX7_trims_16 ?_
    refine V_aload_n C 0 dX7_trims_17 rfl ?_
    refine V_getR C FL_RX7_29 (f7_7 hb) dX7_trims_18 ?_
    refine V_iload_n C 1 dX7_trims_21 rfl ?_
    obtain ⟨b2, h⟩ := h
    refine V_iald C (k7_7 hb) b2 dX7_trims_22 ?_
    refine V_iadd C dX7_trims_23 ?_
    refine V_iconst C 1 dX7_trims_24 (by decide) ?_
    refine V_isub C dX7_trims_25 ?_
    obtain ⟨b3, h⟩ := h
    refine V_iald C (k7_6 hb) b3 dX7_trims_26 ?_
    refine V_if_ne (tgt := 43) C dX7_trims_27 (by decide) (fun hc => ?_) (fun hc => ?_)
    · have h := h.1 hc
      exact V_vret C dX7_trims_43 (hQ _ h)
    · have h := h.2 hc
      refine V_aload_n C 0 dX7_trims_30 rfl ?_
      refine V_getR C FL_RX7_29 (f7_7 hb) dX7_trims_31 ?_
      refine V_iload_n C 1 dX7_trims_34 rfl ?_
      refine V_dup2_1 C dX7_trims_35 rfl rfl ?_
      obtain ⟨b4, h⟩ := h
      refine V_iald C (k7_7 hb) b4 dX7_trims_36 ?_
      refine V_iconst C 1 dX7_trims_37 (by decide) ?_
      refine V_isub C dX7_trims_38 ?_
      obtain ⟨b6, h⟩ := h
      refine V_iast C (k7_7 hb) b6 dX7_trims_39 ?_
      refine V_nmM (fun M5 e_M5 => ?_)
      have h := h M5 e_M5
      refine V_goto (tgt := 0) C dX7_trims_40 (by decide) ?_
      exact V_sub [0, 1] rfl (hag0 M5 h)
set_option maxRecDepth 20000 in
set_option maxHeartbeats 1000000 in
theorem s_X7_trims {X : wX} (C : CX X cX7_trims RX7 (none)) (hH : xH X = 0) (hN : xN X = 2) {b : Nat} {p1 : Int32} {M : mM} {Q : mM → Prop} (hQ : ∀ M, Q M → xPo X none M) (hb : isC (xW X) 7 b)   (h : p_X7_trims b p1 M Q) : V X 0 [(0, vR X b), (1, .int p1)] [] M := by
  refine V_sub [0, 1] rfl ?_
  exact Loop.sound (s0 := M) (P := fun s => V X 0 [(0, vR X b), (1, .int p1)] [] s) h (fun ag hag s hs => s_X7_trims_F0 C hH hN hQ hb  hag hs)
set_option maxRecDepth 20000 in
set_option maxHeartbeats 1000000 in
theorem c_X7_trims {w : wU} {l : Launch} {b : Nat} {p1 : Int32} {M : mM} {Q : mM → Prop} (hb : isC w 7 b) (h : p_X7_trims b p1 M Q) : CT w l 0 yX7_trims cX7_trims 2 (none) [.ref (uA w b), .int p1] M (piV Q) := by
  refine CT.of (by decide +kernel) (Nat.le_of_ble_eq_true rfl) (fun X hw hH hl hP hN C => ?_)
  subst hw
  exact s_X7_trims C hH hN (fun M1 q => by rw [hP]; exact ⟨rfl, q⟩) hb h
set_option maxRecDepth 20000 in
set_option maxHeartbeats 1000000 in
theorem s_X7_sets_F3 {X : wX} (C : CX X cX7_sets RX7 (none)) (hH : xH X = 1) (hN : xN X = 5) {b : Nat} {p1 : Int32} {p2 : Int64} {M : mM} {Q : mM → Prop} (hQ : ∀ M, Q M → xPo X none M) (hb : isC (xW X) 7 b) {v4 : Int32} {ag3 : (Int32 × mM) → Prop} (hag3 : ∀ s, ag3 s → V X 3 [(0, vR X b), (1, .int p1), (2, .long p2), (4, .int (s.1))] [] (s.2)) (h : p_X7_sets_F3 b p1 p2  Q  ag3 v4 M) : V X 3 [(0, vR X b), (1, .int p1), (2, .long p2), (4, .int v4)] [] M := by
  refine V_iload C 3 dX7_sets_3 rfl ?_
  refine V_bipush C 40 dX7_sets_5 (by decide) ?_
  refine V_icmp_ge (tgt := 50) C dX7_sets_7 (by decide) (fun hc => ?_) (fun hc => ?_)
  · have h := h.1 hc
    refine V_aload_n C 0 dX7_sets_50 rfl ?_
    refine V_getR C FL_RX7_29 (f7_7 hb) dX7_sets_51 ?_
    refine V_iload_n C 1 dX7_sets_54 rfl ?_
    refine V_iconst C 3 dX7_sets_55 (by decide) ?_
    obtain ⟨b2, h⟩ := h
    refine V_iast C (k7_7 hb) b2 dX7_sets_56 ?_
    refine V_nmM (fun M1 e_M1 => ?_)
    have h := h M1 e_M1
    refine V_aload_n C 0 dX7_sets_57 rfl ?_
    refine V_iload_n C 1 dX7_sets_58 rfl ?_
    refine V_callV (As := [.int p1]) (st := []) C (c_X7_trims hb h) Y_X7_trims Z_X7_trims (T := TX7) (N := 21) rfl (o7 hb) (ltN hH (by decide)) u_232 rfl rfl (Nat.le_of_ble_eq_true rfl) dX7_sets_59 ?_
    rintro v9 M3 ⟨rfl, h⟩
    show V X 62 _ [] M3
    exact V_vret C dX7_sets_62 (hQ _ h)
  · have h := h.2 hc
    refine V_aload_n C 0 dX7_sets_10 rfl ?_
    refine V_getR C FL_RX7_26 (f7_6 hb) dX7_sets_11 ?_
    refine V_bipush C 40 dX7_sets_14 (by decide) ?_
    refine V_iload_n C 1 dX7_sets_16 rfl ?_
    refine V_imul C dX7_sets_17 ?_
    refine V_iload C 3 dX7_sets_18 rfl ?_
    refine V_iadd C dX7_sets_20 ?_
    refine V_iload C 3 dX7_sets_21 rfl ?_
    refine V_iconst C 3 dX7_sets_23 (by decide) ?_
    refine V_icmp_ge (tgt := 42) C dX7_sets_24 (by decide) (fun hc => ?_) (fun hc => ?_)
    · have h := h.1 hc
      refine V_iconst C 0 dX7_sets_42 (by decide) ?_
      obtain ⟨b5, h⟩ := h
      refine V_iast C (k7_6 hb) b5 dX7_sets_43 ?_
      refine V_nmM (fun M4 e_M4 => ?_)
      have h := h M4 e_M4
      refine V_iinc (v := (v4 + 1)) (lv' := [(4, .int (v4 + 1)), (0, vR X b), (1, .int p1), (2, .long p2)]) C 3 (ltN hN (by decide)) dX7_sets_44 rfl rfl rfl ?_
      refine V_goto (tgt := 3) C dX7_sets_47 (by decide) ?_
      exact V_sub [1, 2, 3, 0] rfl (hag3 ((v4 + 1), M4) h)
    · have h := h.2 hc
      refine V_lload_n C 2 dX7_sets_27 rfl ?_
      refine V_bipush C 30 dX7_sets_28 (by decide) ?_
      refine V_iload C 3 dX7_sets_30 rfl ?_
      refine V_imul C dX7_sets_32 ?_
      refine V_lshr C dX7_sets_33 ?_
      refine V_ldc2 C u_233 dX7_sets_34 ?_
      refine V_land C dX7_sets_37 ?_
      refine V_l2i C dX7_sets_38 ?_
      refine V_goto (tgt := 43) C dX7_sets_39 (by decide) ?_
      obtain ⟨b7, h⟩ := h
      refine V_iast C (k7_6 hb) b7 dX7_sets_43 ?_
      refine V_nmM (fun M6 e_M6 => ?_)
      have h := h M6 e_M6
      refine V_iinc (v := (v4 + 1)) (lv' := [(4, .int (v4 + 1)), (0, vR X b), (1, .int p1), (2, .long p2)]) C 3 (ltN hN (by decide)) dX7_sets_44 rfl rfl rfl ?_
      refine V_goto (tgt := 3) C dX7_sets_47 (by decide) ?_
      exact V_sub [1, 2, 3, 0] rfl (hag3 ((v4 + 1), M6) h)
set_option maxRecDepth 20000 in
set_option maxHeartbeats 1000000 in
theorem s_X7_sets {X : wX} (C : CX X cX7_sets RX7 (none)) (hH : xH X = 1) (hN : xN X = 5) {b : Nat} {p1 : Int32} {p2 : Int64} {M : mM} {Q : mM → Prop} (hQ : ∀ M, Q M → xPo X none M) (hb : isC (xW X) 7 b)   (h : p_X7_sets b p1 p2 M Q) : V X 0 [(0, vR X b), (1, .int p1), (2, .long p2)] [] M := by
  refine V_iconst C 0 dX7_sets_0 (by decide) ?_
  refine V_istore (lv' := [(4, .int 0), (0, vR X b), (1, .int p1), (2, .long p2)]) C (ltN hN (by decide)) dX7_sets_1 rfl ?_
  refine V_sub [1, 2, 3, 0] rfl ?_
  exact Loop.sound (s0 := ((0 : Int32), M)) (P := fun s => V X 3 [(0, vR X b), (1, .int p1), (2, .long p2), (4, .int (s.1))] [] (s.2)) h (fun ag hag s hs => s_X7_sets_F3 C hH hN hQ hb  hag hs)
set_option maxRecDepth 20000 in
set_option maxHeartbeats 1000000 in
theorem c_X7_sets {w : wU} {l : Launch} {b : Nat} {p1 : Int32} {p2 : Int64} {M : mM} {Q : mM → Prop} (hb : isC w 7 b) (h : p_X7_sets b p1 p2 M Q) : CT w l 1 yX7_sets cX7_sets 5 (none) [.ref (uA w b), .int p1, .long p2] M (piV Q) := by
  refine CT.of (by decide +kernel) (Nat.le_of_ble_eq_true rfl) (fun X hw hH hl hP hN C => ?_)
  subst hw
  exact s_X7_sets C hH hN (fun M1 q => by rw [hP]; exact ⟨rfl, q⟩) hb h
set_option maxRecDepth 20000 in
set_option maxHeartbeats 1000000 in
theorem s_X7_copies_F2 {X : wX} (C : CX X cX7_copies RX7 (none)) (hH : xH X = 0) (hN : xN X = 4) {b : Nat} {p1 : Int32} {p2 : Int32} {M : mM} {Q : mM → Prop} (hQ : ∀ M, Q M → xPo X none M) (hb : isC (xW X) 7 b) {v3 : Int32} {ag2 : (Int32 × mM) → Prop} (hag2 : ∀ s, ag2 s → V X 2 [(0, vR X b), (1, .int p1), (2, .int p2), (3, .int (s.1))] [] (s.2)) (h : p_X7_copies_F2 b p1 p2  Q  ag2 v3 M) : V X 2 [(0, vR X b), (1, .int p1), (2, .int p2), (3, .int v3)] [] M := by
  refine V_iload_n C 3 dX7_copies_2 rfl ?_
  refine V_bipush C 40 dX7_copies_3 (by decide) ?_
  refine V_icmp_ge (tgt := 36) C dX7_copies_5 (by decide) (fun hc => ?_) (fun hc => ?_)
  · have h := h.1 hc
    refine V_aload_n C 0 dX7_copies_36 rfl ?_
    refine V_getR C FL_RX7_29 (f7_7 hb) dX7_copies_37 ?_
    refine V_iload_n C 1 dX7_copies_40 rfl ?_
    refine V_aload_n C 0 dX7_copies_41 rfl ?_
    refine V_getR C FL_RX7_29 (f7_7 hb) dX7_copies_42 ?_
    refine V_iload_n C 2 dX7_copies_45 rfl ?_
    obtain ⟨b1, h⟩ := h
    refine V_iald C (k7_7 hb) b1 dX7_copies_46 ?_
    obtain ⟨b3, h⟩ := h
    refine V_iast C (k7_7 hb) b3 dX7_copies_47 ?_
    refine V_nmM (fun M2 e_M2 => ?_)
    have h := h M2 e_M2
    exact V_vret C dX7_copies_48 (hQ _ h)
  · have h := h.2 hc
    refine V_aload_n C 0 dX7_copies_8 rfl ?_
    refine V_getR C FL_RX7_26 (f7_6 hb) dX7_copies_9 ?_
    refine V_bipush C 40 dX7_copies_12 (by decide) ?_
    refine V_iload_n C 1 dX7_copies_14 rfl ?_
    refine V_imul C dX7_copies_15 ?_
    refine V_iload_n C 3 dX7_copies_16 rfl ?_
    refine V_iadd C dX7_copies_17 ?_
    refine V_aload_n C 0 dX7_copies_18 rfl ?_
    refine V_getR C FL_RX7_26 (f7_6 hb) dX7_copies_19 ?_
    refine V_bipush C 40 dX7_copies_22 (by decide) ?_
    refine V_iload_n C 2 dX7_copies_24 rfl ?_
    refine V_imul C dX7_copies_25 ?_
    refine V_iload_n C 3 dX7_copies_26 rfl ?_
    refine V_iadd C dX7_copies_27 ?_
    obtain ⟨b4, h⟩ := h
    refine V_iald C (k7_6 hb) b4 dX7_copies_28 ?_
    obtain ⟨b6, h⟩ := h
    refine V_iast C (k7_6 hb) b6 dX7_copies_29 ?_
    refine V_nmM (fun M5 e_M5 => ?_)
    have h := h M5 e_M5
    refine V_iinc (v := (v3 + 1)) (lv' := [(3, .int (v3 + 1)), (0, vR X b), (1, .int p1), (2, .int p2)]) C 3 (ltN hN (by decide)) dX7_copies_30 rfl rfl rfl ?_
    refine V_goto (tgt := 2) C dX7_copies_33 (by decide) ?_
    exact V_sub [1, 2, 3, 0] rfl (hag2 ((v3 + 1), M5) h)
set_option maxRecDepth 20000 in
set_option maxHeartbeats 1000000 in
theorem s_X7_copies {X : wX} (C : CX X cX7_copies RX7 (none)) (hH : xH X = 0) (hN : xN X = 4) {b : Nat} {p1 : Int32} {p2 : Int32} {M : mM} {Q : mM → Prop} (hQ : ∀ M, Q M → xPo X none M) (hb : isC (xW X) 7 b)   (h : p_X7_copies b p1 p2 M Q) : V X 0 [(0, vR X b), (1, .int p1), (2, .int p2)] [] M := by
  refine V_iconst C 0 dX7_copies_0 (by decide) ?_
  refine V_istore_n (lv' := [(3, .int 0), (0, vR X b), (1, .int p1), (2, .int p2)]) C (ltN hN (by decide)) dX7_copies_1 rfl ?_
  refine V_sub [1, 2, 3, 0] rfl ?_
  exact Loop.sound (s0 := ((0 : Int32), M)) (P := fun s => V X 2 [(0, vR X b), (1, .int p1), (2, .int p2), (3, .int (s.1))] [] (s.2)) h (fun ag hag s hs => s_X7_copies_F2 C hH hN hQ hb  hag hs)
set_option maxRecDepth 20000 in
set_option maxHeartbeats 1000000 in
theorem c_X7_copies {w : wU} {l : Launch} {b : Nat} {p1 : Int32} {p2 : Int32} {M : mM} {Q : mM → Prop} (hb : isC w 7 b) (h : p_X7_copies b p1 p2 M Q) : CT w l 0 yX7_copies cX7_copies 4 (none) [.ref (uA w b), .int p1, .int p2] M (piV Q) := by
  refine CT.of (by decide +kernel) (Nat.le_of_ble_eq_true rfl) (fun X hw hH hl hP hN C => ?_)
  subst hw
  exact s_X7_copies C hH hN (fun M1 q => by rw [hP]; exact ⟨rfl, q⟩) hb h
set_option maxRecDepth 20000 in
set_option maxHeartbeats 1000000 in
theorem s_X7_times_F5 {X : wX} (C : CX X cX7_times RX7 (none)) (hH : xH X = 1) (hN : xN X = 8) {b : Nat} {p1 : Int32} {p2 : Int32} {M : mM} {Q : mM → Prop} (hQ : ∀ M, Q M → xPo X none M) (hb : isC (xW X) 7 b) {v3 : Int64} {v5 : Int32} {ag5 : (Int64 × Int32 × mM) → Prop} (hag5 : ∀ s, ag5 s → V X 5 [(0, vR X b), (1, .int p1), (2, .int p2), (3, .long (s.1)), (5, .int (s.2.1))] [] (s.2.2)) (h : p_X7_times_F5 b p1 p2  Q  ag5 v3 v5 M) : V X 5 [(0, vR X b), (1, .int p1), (2, .int p2), (3, .long v3), (5, .int v5)] [] M := by
  refine V_iload C 4 dX7_times_5 rfl ?_
  refine V_aload_n C 0 dX7_times_7 rfl ?_
  refine V_getR C FL_RX7_29 (f7_7 hb) dX7_times_8 ?_
  refine V_iload_n C 1 dX7_times_11 rfl ?_
  obtain ⟨b1, h⟩ := h
  refine V_iald C (k7_7 hb) b1 dX7_times_12 ?_
  refine V_icmp_ge (tgt := 67) C dX7_times_13 (by decide) (fun hc => ?_) (fun hc => ?_)
  · have h := h.1 hc
    refine V_lload_n C 3 dX7_times_67 rfl ?_
    refine V_lconst C 0 dX7_times_68 (by decide) ?_
    refine V_lcmp C dX7_times_69 ?_
    refine V_if_le (tgt := 101) C dX7_times_70 (by decide) (fun hc => ?_) (fun hc => ?_)
    · have h := h.1 (lgc_le.mp hc)
      refine V_aload_n C 0 dX7_times_101 rfl ?_
      refine V_iload_n C 1 dX7_times_102 rfl ?_
      refine V_callV (As := [.int p1]) (st := []) C (c_X7_trims hb h) Y_X7_trims Z_X7_trims (T := TX7) (N := 21) rfl (o7 hb) (ltN hH (by decide)) u_232 rfl rfl (Nat.le_of_ble_eq_true rfl) dX7_times_103 ?_
      rintro v9 M2 ⟨rfl, h⟩
      show V X 106 _ [] M2
      exact V_vret C dX7_times_106 (hQ _ h)
    · have h := h.2 (lgc_nle.mp hc)
      refine V_aload_n C 0 dX7_times_73 rfl ?_
      refine V_getR C FL_RX7_26 (f7_6 hb) dX7_times_74 ?_
      refine V_bipush C 40 dX7_times_77 (by decide) ?_
      refine V_iload_n C 1 dX7_times_79 rfl ?_
      refine V_imul C dX7_times_80 ?_
      refine V_aload_n C 0 dX7_times_81 rfl ?_
      refine V_getR C FL_RX7_29 (f7_7 hb) dX7_times_82 ?_
      refine V_iload_n C 1 dX7_times_85 rfl ?_
      obtain ⟨b3, h⟩ := h
      refine V_iald C (k7_7 hb) b3 dX7_times_86 ?_
      refine V_iadd C dX7_times_87 ?_
      refine V_lload_n C 3 dX7_times_88 rfl ?_
      refine V_l2i C dX7_times_89 ?_
      obtain ⟨b5, h⟩ := h
      refine V_iast C (k7_6 hb) b5 dX7_times_90 ?_
      refine V_nmM (fun M4 e_M4 => ?_)
      have h := h M4 e_M4
      refine V_aload_n C 0 dX7_times_91 rfl ?_
      refine V_getR C FL_RX7_29 (f7_7 hb) dX7_times_92 ?_
      refine V_iload_n C 1 dX7_times_95 rfl ?_
      refine V_dup2_1 C dX7_times_96 rfl rfl ?_
      obtain ⟨b6, h⟩ := h
      refine V_iald C (k7_7 hb) b6 dX7_times_97 ?_
      refine V_iconst C 1 dX7_times_98 (by decide) ?_
      refine V_iadd C dX7_times_99 ?_
      obtain ⟨b8, h⟩ := h
      refine V_iast C (k7_7 hb) b8 dX7_times_100 ?_
      refine V_nmM (fun M7 e_M7 => ?_)
      have h := h M7 e_M7
      refine V_aload_n C 0 dX7_times_101 rfl ?_
      refine V_iload_n C 1 dX7_times_102 rfl ?_
      refine V_callV (As := [.int p1]) (st := []) C (c_X7_trims hb h) Y_X7_trims Z_X7_trims (T := TX7) (N := 21) rfl (o7 hb) (ltN hH (by decide)) u_232 rfl rfl (Nat.le_of_ble_eq_true rfl) dX7_times_103 ?_
      rintro v9 M9 ⟨rfl, h⟩
      show V X 106 _ [] M9
      exact V_vret C dX7_times_106 (hQ _ h)
  · have h := h.2 hc
    refine V_aload_n C 0 dX7_times_16 rfl ?_
    refine V_getR C FL_RX7_26 (f7_6 hb) dX7_times_17 ?_
    refine V_bipush C 40 dX7_times_20 (by decide) ?_
    refine V_iload_n C 1 dX7_times_22 rfl ?_
    refine V_imul C dX7_times_23 ?_
    refine V_iload C 4 dX7_times_24 rfl ?_
    refine V_iadd C dX7_times_26 ?_
    obtain ⟨b10, h⟩ := h
    refine V_iald C (k7_6 hb) b10 dX7_times_27 ?_
    refine V_i2l C dX7_times_28 ?_
    refine V_iload_n C 2 dX7_times_29 rfl ?_
    refine V_i2l C dX7_times_30 ?_
    refine V_lmul C dX7_times_31 ?_
    refine V_lload_n C 3 dX7_times_32 rfl ?_
    refine V_ladd C dX7_times_33 ?_
    refine V_nmL (fun x11 e_x11 => ?_)
    have h := h x11 e_x11
    refine V_lstore (lv' := [(6, .long x11), (0, vR X b), (1, .int p1), (2, .int p2), (3, .long v3), (5, .int v5)]) C (ltN hN (by decide)) dX7_times_34 rfl ?_
    refine V_aload_n C 1 dX7_times_36 rfl ?_
    refine V_getR C FL_RX7_26 (f7_6 hb) dX7_times_37 ?_
    refine V_bipush C 40 dX7_times_40 (by decide) ?_
    refine V_iload_n C 2 dX7_times_42 rfl ?_
    refine V_imul C dX7_times_43 ?_
    refine V_iload C 5 dX7_times_44 rfl ?_
    refine V_iadd C dX7_times_46 ?_
    refine V_lload C 0 dX7_times_47 rfl ?_
    refine V_ldc2 C u_233 dX7_times_49 ?_
    refine V_land C dX7_times_52 ?_
    refine V_l2i C dX7_times_53 ?_
    obtain ⟨b13, h⟩ := h
    refine V_iast C (k7_6 hb) b13 dX7_times_54 ?_
    refine V_nmM (fun M12 e_M12 => ?_)
    have h := h M12 e_M12
    refine V_lload C 0 dX7_times_55 rfl ?_
    refine V_bipush C 30 dX7_times_57 (by decide) ?_
    refine V_lshr C dX7_times_59 ?_
    refine V_nmL (fun x14 e_x14 => ?_)
    have h := h x14 e_x14
    refine V_lstore_n (lv' := [(3, .long x14), (6, .long x11), (0, vR X b), (1, .int p1), (2, .int p2), (5, .int v5)]) C (ltN hN (by decide)) dX7_times_60 rfl ?_
    refine V_iinc (v := (v5 + 1)) (lv' := [(5, .int (v5 + 1)), (3, .long x14), (6, .long x11), (0, vR X b), (1, .int p1), (2, .int p2)]) C 5 (ltN hN (by decide)) dX7_times_61 rfl rfl rfl ?_
    refine V_goto (tgt := 5) C dX7_times_64 (by decide) ?_
    exact V_sub [3, 4, 5, 1, 0] rfl (hag5 (x14, (v5 + 1), M12) h)
set_option maxRecDepth 20000 in
set_option maxHeartbeats 1000000 in
theorem s_X7_times {X : wX} (C : CX X cX7_times RX7 (none)) (hH : xH X = 1) (hN : xN X = 8) {b : Nat} {p1 : Int32} {p2 : Int32} {M : mM} {Q : mM → Prop} (hQ : ∀ M, Q M → xPo X none M) (hb : isC (xW X) 7 b)   (h : p_X7_times b p1 p2 M Q) : V X 0 [(0, vR X b), (1, .int p1), (2, .int p2)] [] M := by
  refine V_lconst C 0 dX7_times_0 (by decide) ?_
  refine V_lstore_n (lv' := [(3, .long 0), (0, vR X b), (1, .int p1), (2, .int p2)]) C (ltN hN (by decide)) dX7_times_1 rfl ?_
  refine V_iconst C 0 dX7_times_2 (by decide) ?_
  refine V_istore (lv' := [(5, .int 0), (3, .long 0), (0, vR X b), (1, .int p1), (2, .int p2)]) C (ltN hN (by decide)) dX7_times_3 rfl ?_
  refine V_sub [2, 3, 4, 1, 0] rfl ?_
  exact Loop.sound (s0 := ((0 : Int64), (0 : Int32), M)) (P := fun s => V X 5 [(0, vR X b), (1, .int p1), (2, .int p2), (3, .long (s.1)), (5, .int (s.2.1))] [] (s.2.2)) h (fun ag hag s hs => s_X7_times_F5 C hH hN hQ hb  hag hs)
set_option maxRecDepth 20000 in
set_option maxHeartbeats 1000000 in
theorem c_X7_times {w : wU} {l : Launch} {b : Nat} {p1 : Int32} {p2 : Int32} {M : mM} {Q : mM → Prop} (hb : isC w 7 b) (h : p_X7_times b p1 p2 M Q) : CT w l 1 yX7_times cX7_times 8 (none) [.ref (uA w b), .int p1, .int p2] M (piV Q) := by
  refine CT.of (by decide +kernel) (Nat.le_of_ble_eq_true rfl) (fun X hw hH hl hP hN C => ?_)
  subst hw
  exact s_X7_times C hH hN (fun M1 q => by rw [hP]; exact ⟨rfl, q⟩) hb h
set_option maxRecDepth 20000 in
set_option maxHeartbeats 1000000 in
theorem s_X7_multiplies_J83 {X : wX} (C : CX X cX7_multiplies RX7 (none)) (hH : xH X = 2) (hN : xN X = 11) {b : Nat} {p1 : Int32} {p2 : Int32} {M : mM} {Q : mM → Prop} (hQ : ∀ M, Q M → xPo X none M) (hb : isC (xW X) 7 b) {v3 : Int32} {v4 : Int64} {v6 : Int32} {s0 : Int64} {ag8 : (Int32 × mM) → Prop} {ag24 : (Int64 × Int32 × mM) → Prop} (hag8 : ∀ s, ag8 s → V X 8 [(0, vR X b), (1, .int p1), (2, .int p2), (3, .int (s.1))] [] (s.2)) (hag24 : ∀ s, ag24 s → V X 24 [(0, vR X b), (1, .int p1), (2, .int p2), (3, .int v3), (4, .long (s.1)), (6, .int (s.2.1))] [] (s.2.2)) (h : p_X7_multiplies_J83 b p1 p2 Q ag8 ag24 v3 v4 v6 s0 M) : V X 83 [(0, vR X b), (1, .int p1), (2, .int p2), (3, .int v3), (4, .long v4), (6, .int v6)] [.long s0] M := by
  refine V_lstore (lv' := [(7, .long s0), (0, vR X b), (1, .int p1), (2, .int p2), (3, .int v3), (4, .long v4), (6, .int v6)]) C (ltN hN (by decide)) dX7_multiplies_83 rfl ?_
  refine V_aload_n C 1 dX7_multiplies_85 rfl ?_
  refine V_getR C FL_RX7_26 (f7_6 hb) dX7_multiplies_86 ?_
  refine V_sipush C 160 dX7_multiplies_89 (by decide) ?_
  refine V_iload_n C 4 dX7_multiplies_92 rfl ?_
  refine V_iadd C dX7_multiplies_93 ?_
  refine V_iload C 6 dX7_multiplies_94 rfl ?_
  refine V_iadd C dX7_multiplies_96 ?_
  obtain ⟨b10, h⟩ := h
  refine V_iald C (k7_6 hb) b10 dX7_multiplies_97 ?_
  refine V_i2l C dX7_multiplies_98 ?_
  refine V_lload C 0 dX7_multiplies_99 rfl ?_
  refine V_ladd C dX7_multiplies_101 ?_
  refine V_lload C 5 dX7_multiplies_102 rfl ?_
  refine V_ladd C dX7_multiplies_104 ?_
  refine V_nmL (fun x11 e_x11 => ?_)
  have h := h x11 e_x11
  refine V_lstore (lv' := [(9, .long x11), (7, .long s0), (0, vR X b), (1, .int p1), (2, .int p2), (3, .int v3), (4, .long v4), (6, .int v6)]) C (ltN hN (by decide)) dX7_multiplies_105 rfl ?_
  refine V_aload_n C 2 dX7_multiplies_107 rfl ?_
  refine V_getR C FL_RX7_26 (f7_6 hb) dX7_multiplies_108 ?_
  refine V_sipush C 160 dX7_multiplies_111 (by decide) ?_
  refine V_iload_n C 5 dX7_multiplies_114 rfl ?_
  refine V_iadd C dX7_multiplies_115 ?_
  refine V_iload C 7 dX7_multiplies_116 rfl ?_
  refine V_iadd C dX7_multiplies_118 ?_
  refine V_lload C 0 dX7_multiplies_119 rfl ?_
  refine V_ldc2 C u_233 dX7_multiplies_121 ?_
  refine V_land C dX7_multiplies_124 ?_
  refine V_l2i C dX7_multiplies_125 ?_
  obtain ⟨b13, h⟩ := h
  refine V_iast C (k7_6 hb) b13 dX7_multiplies_126 ?_
  refine V_nmM (fun M12 e_M12 => ?_)
  have h := h M12 e_M12
  refine V_lload C 0 dX7_multiplies_127 rfl ?_
  refine V_bipush C 30 dX7_multiplies_129 (by decide) ?_
  refine V_lshr C dX7_multiplies_131 ?_
  refine V_nmL (fun x14 e_x14 => ?_)
  have h := h x14 e_x14
  refine V_lstore (lv' := [(4, .long x14), (9, .long x11), (7, .long s0), (0, vR X b), (1, .int p1), (2, .int p2), (3, .int v3), (6, .int v6)]) C (ltN hN (by decide)) dX7_multiplies_132 rfl ?_
  refine V_iinc (v := (v6 + 1)) (lv' := [(6, .int (v6 + 1)), (4, .long x14), (9, .long x11), (7, .long s0), (0, vR X b), (1, .int p1), (2, .int p2), (3, .int v3)]) C 7 (ltN hN (by decide)) dX7_multiplies_134 rfl rfl rfl ?_
  refine V_goto (tgt := 24) C dX7_multiplies_137 (by decide) ?_
  exact V_sub [4, 5, 6, 7, 1, 0] rfl (hag24 (x14, (v6 + 1), M12) h)
set_option maxRecDepth 20000 in
set_option maxHeartbeats 1000000 in
theorem s_X7_multiplies_J42 {X : wX} (C : CX X cX7_multiplies RX7 (none)) (hH : xH X = 2) (hN : xN X = 11) {b : Nat} {p1 : Int32} {p2 : Int32} {M : mM} {Q : mM → Prop} (hQ : ∀ M, Q M → xPo X none M) (hb : isC (xW X) 7 b) {v3 : Int32} {v4 : Int64} {v6 : Int32} {ag8 : (Int32 × mM) → Prop} {ag24 : (Int64 × Int32 × mM) → Prop} (hag8 : ∀ s, ag8 s → V X 8 [(0, vR X b), (1, .int p1), (2, .int p2), (3, .int (s.1))] [] (s.2)) (hag24 : ∀ s, ag24 s → V X 24 [(0, vR X b), (1, .int p1), (2, .int p2), (3, .int v3), (4, .long (s.1)), (6, .int (s.2.1))] [] (s.2.2)) (h : p_X7_multiplies_J42 b p1 p2 Q ag8 ag24 v3 v4 v6 M) : V X 42 [(0, vR X b), (1, .int p1), (2, .int p2), (3, .int v3), (4, .long v4), (6, .int v6)] [] M := by
  refine V_iload C 5 dX7_multiplies_42 rfl ?_
  refine V_aload_n C 0 dX7_multiplies_44 rfl ?_
  refine V_getR C FL_RX7_29 (f7_7 hb) dX7_multiplies_45 ?_
  refine V_iload_n C 2 dX7_multiplies_48 rfl ?_
  obtain ⟨b9, h⟩ := h
  refine V_iald C (k7_7 hb) b9 dX7_multiplies_49 ?_
  refine V_icmp_ge (tgt := 82) C dX7_multiplies_50 (by decide) (fun hc => ?_) (fun hc => ?_)
  · have h := h.1 hc
    refine V_lconst C 0 dX7_multiplies_82 (by decide) ?_
    exact V_sub [0, 1, 2, 3, 4, 5] rfl (s_X7_multiplies_J83 C hH hN hQ hb hag8 hag24  h)
  · have h := h.2 hc
    refine V_aload_n C 0 dX7_multiplies_53 rfl ?_
    refine V_getR C FL_RX7_26 (f7_6 hb) dX7_multiplies_54 ?_
    refine V_bipush C 40 dX7_multiplies_57 (by decide) ?_
    refine V_iload_n C 1 dX7_multiplies_59 rfl ?_
    refine V_imul C dX7_multiplies_60 ?_
    refine V_iload_n C 3 dX7_multiplies_61 rfl ?_
    refine V_iadd C dX7_multiplies_62 ?_
    obtain ⟨b15, h⟩ := h
    refine V_iald C (k7_6 hb) b15 dX7_multiplies_63 ?_
    refine V_i2l C dX7_multiplies_64 ?_
    refine V_aload_n C 0 dX7_multiplies_65 rfl ?_
    refine V_getR C FL_RX7_26 (f7_6 hb) dX7_multiplies_66 ?_
    refine V_bipush C 40 dX7_multiplies_69 (by decide) ?_
    refine V_iload_n C 2 dX7_multiplies_71 rfl ?_
    refine V_imul C dX7_multiplies_72 ?_
    refine V_iload C 5 dX7_multiplies_73 rfl ?_
    refine V_iadd C dX7_multiplies_75 ?_
    obtain ⟨b16, h⟩ := h
    refine V_iald C (k7_6 hb) b16 dX7_multiplies_76 ?_
    refine V_i2l C dX7_multiplies_77 ?_
    refine V_lmul C dX7_multiplies_78 ?_
    refine V_goto (tgt := 83) C dX7_multiplies_79 (by decide) ?_
    exact V_sub [0, 1, 2, 3, 4, 5] rfl (s_X7_multiplies_J83 C hH hN hQ hb hag8 hag24  h)
set_option maxRecDepth 20000 in
set_option maxHeartbeats 1000000 in
theorem s_X7_multiplies_F24 {X : wX} (C : CX X cX7_multiplies RX7 (none)) (hH : xH X = 2) (hN : xN X = 11) {b : Nat} {p1 : Int32} {p2 : Int32} {M : mM} {Q : mM → Prop} (hQ : ∀ M, Q M → xPo X none M) (hb : isC (xW X) 7 b) {v3 : Int32} {v4 : Int64} {v6 : Int32} {ag8 : (Int32 × mM) → Prop} {ag24 : (Int64 × Int32 × mM) → Prop} (hag8 : ∀ s, ag8 s → V X 8 [(0, vR X b), (1, .int p1), (2, .int p2), (3, .int (s.1))] [] (s.2)) (hag24 : ∀ s, ag24 s → V X 24 [(0, vR X b), (1, .int p1), (2, .int p2), (3, .int v3), (4, .long (s.1)), (6, .int (s.2.1))] [] (s.2.2)) (h : p_X7_multiplies_F24 b p1 p2 v3 Q ag8 ag24 v4 v6 M) : V X 24 [(0, vR X b), (1, .int p1), (2, .int p2), (3, .int v3), (4, .long v4), (6, .int v6)] [] M := by
  refine V_iload C 5 dX7_multiplies_24 rfl ?_
  refine V_aload_n C 0 dX7_multiplies_26 rfl ?_
  refine V_getR C FL_RX7_29 (f7_7 hb) dX7_multiplies_27 ?_
  refine V_iload_n C 2 dX7_multiplies_30 rfl ?_
  obtain ⟨b8, h⟩ := h
  refine V_iald C (k7_7 hb) b8 dX7_multiplies_31 ?_
  refine V_icmp_lt (tgt := 42) C dX7_multiplies_32 (by decide) (fun hc => ?_) (fun hc => ?_)
  · have h := h.1 hc
    exact V_sub [0, 1, 2, 3, 4, 5] rfl (s_X7_multiplies_J42 C hH hN hQ hb hag8 hag24  h)
  · have h := h.2 hc
    refine V_lload C 4 dX7_multiplies_35 rfl ?_
    refine V_lconst C 0 dX7_multiplies_37 (by decide) ?_
    refine V_lcmp C dX7_multiplies_38 ?_
    refine V_if_le (tgt := 140) C dX7_multiplies_39 (by decide) (fun hc => ?_) (fun hc => ?_)
    · have h := h.1 (lgc_le.mp hc)
      refine V_iinc (v := (v3 + 1)) (lv' := [(3, .int (v3 + 1)), (0, vR X b), (1, .int p1), (2, .int p2), (4, .long v4), (6, .int v6)]) C 3 (ltN hN (by decide)) dX7_multiplies_140 rfl rfl rfl ?_
      refine V_goto (tgt := 8) C dX7_multiplies_143 (by decide) ?_
      exact V_sub [1, 2, 3, 0] rfl (hag8 ((v3 + 1), M) h)
    · have h := h.2 (lgc_nle.mp hc)
      exact V_sub [0, 1, 2, 3, 4, 5] rfl (s_X7_multiplies_J42 C hH hN hQ hb hag8 hag24  h)
set_option maxRecDepth 20000 in
set_option maxHeartbeats 1000000 in
theorem s_X7_multiplies_F8 {X : wX} (C : CX X cX7_multiplies RX7 (none)) (hH : xH X = 2) (hN : xN X = 11) {b : Nat} {p1 : Int32} {p2 : Int32} {M : mM} {Q : mM → Prop} (hQ : ∀ M, Q M → xPo X none M) (hb : isC (xW X) 7 b) {v3 : Int32} {ag8 : (Int32 × mM) → Prop} (hag8 : ∀ s, ag8 s → V X 8 [(0, vR X b), (1, .int p1), (2, .int p2), (3, .int (s.1))] [] (s.2)) (h : p_X7_multiplies_F8 b p1 p2  Q  ag8 v3 M) : V X 8 [(0, vR X b), (1, .int p1), (2, .int p2), (3, .int v3)] [] M := by
  refine V_iload_n C 3 dX7_multiplies_8 rfl ?_
  refine V_aload_n C 0 dX7_multiplies_9 rfl ?_
  refine V_getR C FL_RX7_29 (f7_7 hb) dX7_multiplies_10 ?_
  refine V_iload_n C 1 dX7_multiplies_13 rfl ?_
  obtain ⟨b2, h⟩ := h
  refine V_iald C (k7_7 hb) b2 dX7_multiplies_14 ?_
  refine V_icmp_ge (tgt := 146) C dX7_multiplies_15 (by decide) (fun hc => ?_) (fun hc => ?_)
  · have h := h.1 hc
    refine V_aload_n C 0 dX7_multiplies_146 rfl ?_
    refine V_getR C FL_RX7_29 (f7_7 hb) dX7_multiplies_147 ?_
    refine V_iconst C 4 dX7_multiplies_150 (by decide) ?_
    refine V_aload_n C 0 dX7_multiplies_151 rfl ?_
    refine V_getR C FL_RX7_29 (f7_7 hb) dX7_multiplies_152 ?_
    refine V_iload_n C 1 dX7_multiplies_155 rfl ?_
    obtain ⟨b3, h⟩ := h
    refine V_iald C (k7_7 hb) b3 dX7_multiplies_156 ?_
    refine V_aload_n C 0 dX7_multiplies_157 rfl ?_
    refine V_getR C FL_RX7_29 (f7_7 hb) dX7_multiplies_158 ?_
    refine V_iload_n C 2 dX7_multiplies_161 rfl ?_
    obtain ⟨b4, h⟩ := h
    refine V_iald C (k7_7 hb) b4 dX7_multiplies_162 ?_
    refine V_iadd C dX7_multiplies_163 ?_
    refine V_iast C (k7_7 hb) (vp_lit (by decide)) dX7_multiplies_164 ?_
    refine V_nmM (fun M5 e_M5 => ?_)
    have h := h M5 e_M5
    refine V_aload_n C 0 dX7_multiplies_165 rfl ?_
    refine V_iconst C 4 dX7_multiplies_166 (by decide) ?_
    refine V_callV (As := [.int 4]) (st := []) C (c_X7_trims hb h) Y_X7_trims Z_X7_trims (T := TX7) (N := 21) rfl (o7 hb) (ltN hH (by decide)) u_232 rfl rfl (Nat.le_of_ble_eq_true rfl) dX7_multiplies_167 ?_
    rintro v9 M6 ⟨rfl, h⟩
    show V X 170 _ [] M6
    refine V_aload_n C 0 dX7_multiplies_170 rfl ?_
    refine V_iload_n C 1 dX7_multiplies_171 rfl ?_
    refine V_iconst C 4 dX7_multiplies_172 (by decide) ?_
    refine V_callV (As := [.int p1, .int 4]) (st := []) C (c_X7_copies hb h) Y_X7_copies Z_X7_copies (T := TX7) (N := 21) rfl (o7 hb) (ltN hH (by decide)) u_234 rfl rfl (Nat.le_of_ble_eq_true rfl) dX7_multiplies_173 ?_
    rintro v9 M7 ⟨rfl, h⟩
    show V X 176 _ [] M7
    exact V_vret C dX7_multiplies_176 (hQ _ h)
  · have h := h.2 hc
    refine V_lconst C 0 dX7_multiplies_18 (by decide) ?_
    refine V_lstore (lv' := [(4, .long 0), (0, vR X b), (1, .int p1), (2, .int p2), (3, .int v3)]) C (ltN hN (by decide)) dX7_multiplies_19 rfl ?_
    refine V_iconst C 0 dX7_multiplies_21 (by decide) ?_
    refine V_istore (lv' := [(6, .int 0), (4, .long 0), (0, vR X b), (1, .int p1), (2, .int p2), (3, .int v3)]) C (ltN hN (by decide)) dX7_multiplies_22 rfl ?_
    refine V_sub [2, 3, 4, 5, 1, 0] rfl ?_
    exact Loop.sound (s0 := ((0 : Int64), (0 : Int32), M)) (P := fun s => V X 24 [(0, vR X b), (1, .int p1), (2, .int p2), (3, .int v3), (4, .long (s.1)), (6, .int (s.2.1))] [] (s.2.2)) h (fun ag hag s hs => s_X7_multiplies_F24 C hH hN hQ hb hag8 hag hs)
set_option maxRecDepth 20000 in
set_option maxHeartbeats 1000000 in
theorem s_X7_multiplies {X : wX} (C : CX X cX7_multiplies RX7 (none)) (hH : xH X = 2) (hN : xN X = 11) {b : Nat} {p1 : Int32} {p2 : Int32} {M : mM} {Q : mM → Prop} (hQ : ∀ M, Q M → xPo X none M) (hb : isC (xW X) 7 b)   (h : p_X7_multiplies b p1 p2 M Q) : V X 0 [(0, vR X b), (1, .int p1), (2, .int p2)] [] M := by
  refine V_aload_n C 0 dX7_multiplies_0 rfl ?_
  refine V_iconst C 4 dX7_multiplies_1 (by decide) ?_
  refine V_lconst C 0 dX7_multiplies_2 (by decide) ?_
  refine V_callV (As := [.int 4, .long 0]) (st := []) C (c_X7_sets hb h) Y_X7_sets Z_X7_sets (T := TX7) (N := 21) rfl (o7 hb) (ltN hH (by decide)) u_235 rfl rfl (Nat.le_of_ble_eq_true rfl) dX7_multiplies_3 ?_
  rintro v9 M1 ⟨rfl, h⟩
  show V X 6 _ [] M1
  refine V_iconst C 0 dX7_multiplies_6 (by decide) ?_
  refine V_istore_n (lv' := [(3, .int 0), (0, vR X b), (1, .int p1), (2, .int p2)]) C (ltN hN (by decide)) dX7_multiplies_7 rfl ?_
  refine V_sub [1, 2, 3, 0] rfl ?_
  exact Loop.sound (s0 := ((0 : Int32), M1)) (P := fun s => V X 8 [(0, vR X b), (1, .int p1), (2, .int p2), (3, .int (s.1))] [] (s.2)) h (fun ag hag s hs => s_X7_multiplies_F8 C hH hN hQ hb  hag hs)
set_option maxRecDepth 20000 in
set_option maxHeartbeats 1000000 in
theorem c_X7_multiplies {w : wU} {l : Launch} {b : Nat} {p1 : Int32} {p2 : Int32} {M : mM} {Q : mM → Prop} (hb : isC w 7 b) (h : p_X7_multiplies b p1 p2 M Q) : CT w l 2 yX7_multiplies cX7_multiplies 11 (none) [.ref (uA w b), .int p1, .int p2] M (piV Q) := by
  refine CT.of (by decide +kernel) (Nat.le_of_ble_eq_true rfl) (fun X hw hH hl hP hN C => ?_)
  subst hw
  exact s_X7_multiplies C hH hN (fun M1 q => by rw [hP]; exact ⟨rfl, q⟩) hb h
