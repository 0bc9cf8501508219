set_option maxRecDepth 20000 in
set_option maxHeartbeats 1000000 in
theorem s_X7_adds_F37 {X : wX} (C : CX X cX7_adds RX7 (none)) (hH : xH X = 1) (hN : xN X = 7) {b : Nat} {p1 : Int32} {p2 : Int32} {M : mM} {Q : mM → Prop} (hQ : ∀ M, Q M → xPo X none M) (hb : isC (xW X) 7 b) {v4 : Int32} {v3 : Int32} {v5 : Int32} {ag37 : (Int32 × Int32 × mM) → Prop} (hag37 : ∀ s, ag37 s → V X 37 [(0, vR X b), (1, .int p1), (2, .int p2), (3, .int (s.1)), (4, .int v4), (5, .int (s.2.1))] [] (s.2.2)) (h : p_X7_adds_F37 b p1 p2 v4 Q  ag37 v3 v5 M) : V X 37 [(0, vR X b), (1, .int p1), (2, .int p2), (3, .int v3), (4, .int v4), (5, .int v5)] [] M := by
  refine V_iload C 5 dX7_adds_37 rfl ?_
  refine V_iload C 4 dX7_adds_39 rfl ?_
  refine V_icmp_ge (tgt := 102) C dX7_adds_41 (by decide) (fun hc => ?_) (fun hc => ?_)
  · have h := h.1 hc
    refine V_aload_n C 0 dX7_adds_102 rfl ?_
    refine V_getR C FL_RX7_26 (f7_6 hb) dX7_adds_103 ?_
    refine V_bipush C 40 dX7_adds_106 (by decide) ?_
    refine V_iload_n C 1 dX7_adds_108 rfl ?_
    refine V_imul C dX7_adds_109 ?_
    refine V_iload C 4 dX7_adds_110 rfl ?_
    refine V_iadd C dX7_adds_112 ?_
    refine V_iload_n C 3 dX7_adds_113 rfl ?_
    obtain ⟨b6, h⟩ := h
    refine V_iast C (k7_6 hb) b6 dX7_adds_114 ?_
    refine V_nmM (fun M5 e_M5 => ?_)
    have h := h M5 e_M5
    refine V_aload_n C 0 dX7_adds_115 rfl ?_
    refine V_getR C FL_RX7_29 (f7_7 hb) dX7_adds_116 ?_
    refine V_iload_n C 1 dX7_adds_119 rfl ?_
    refine V_iload C 4 dX7_adds_120 rfl ?_
    refine V_iload_n C 3 dX7_adds_122 rfl ?_
    refine V_iadd C dX7_adds_123 ?_
    obtain ⟨b8, h⟩ := h
    refine V_iast C (k7_7 hb) b8 dX7_adds_124 ?_
    refine V_nmM (fun M7 e_M7 => ?_)
    have h := h M7 e_M7
    refine V_aload_n C 0 dX7_adds_125 rfl ?_
    refine V_iload_n C 1 dX7_adds_126 rfl ?_
    refine V_callV (As := [.int p1]) (st := []) C (c_X7_trims hb h) Y_X7_trims Z_X7_trims (T := TX7) (N := 21) rfl (o7 hb) (ltN hH (by decide)) u_232 rfl rfl (Nat.le_of_ble_eq_true rfl) dX7_adds_127 ?_
    rintro v9 M9 ⟨rfl, h⟩
    show V X 130 _ [] M9
    exact V_vret C dX7_adds_130 (hQ _ h)
  · have h := h.2 hc
    refine V_aload_n C 0 dX7_adds_44 rfl ?_
    refine V_getR C FL_RX7_26 (f7_6 hb) dX7_adds_45 ?_
    refine V_bipush C 40 dX7_adds_48 (by decide) ?_
    refine V_iload_n C 1 dX7_adds_50 rfl ?_
    refine V_imul C dX7_adds_51 ?_
    refine V_iload C 5 dX7_adds_52 rfl ?_
    refine V_iadd C dX7_adds_54 ?_
    obtain ⟨b10, h⟩ := h
    refine V_iald C (k7_6 hb) b10 dX7_adds_55 ?_
    refine V_aload_n C 0 dX7_adds_56 rfl ?_
    refine V_getR C FL_RX7_26 (f7_6 hb) dX7_adds_57 ?_
    refine V_bipush C 40 dX7_adds_60 (by decide) ?_
    refine V_iload_n C 2 dX7_adds_62 rfl ?_
    refine V_imul C dX7_adds_63 ?_
    refine V_iload C 5 dX7_adds_64 rfl ?_
    refine V_iadd C dX7_adds_66 ?_
    obtain ⟨b11, h⟩ := h
    refine V_iald C (k7_6 hb) b11 dX7_adds_67 ?_
    refine V_iadd C dX7_adds_68 ?_
    refine V_iload_n C 3 dX7_adds_69 rfl ?_
    refine V_iadd C dX7_adds_70 ?_
    refine V_nmI (fun x12 e_x12 => ?_)
    have h := h x12 e_x12
    refine V_istore (lv' := [(6, .int x12), (0, vR X b), (1, .int p1), (2, .int p2), (3, .int v3), (4, .int v4), (5, .int v5)]) C (ltN hN (by decide)) dX7_adds_71 rfl ?_
    refine V_aload_n C 1 dX7_adds_73 rfl ?_
    refine V_getR C FL_RX7_26 (f7_6 hb) dX7_adds_74 ?_
    refine V_bipush C 40 dX7_adds_77 (by decide) ?_
    refine V_iload_n C 2 dX7_adds_79 rfl ?_
    refine V_imul C dX7_adds_80 ?_
    refine V_iload C 6 dX7_adds_81 rfl ?_
    refine V_iadd C dX7_adds_83 ?_
    refine V_iload C 0 dX7_adds_84 rfl ?_
    refine V_ldc C u_236 dX7_adds_86 ?_
    refine V_iand C dX7_adds_88 ?_
    obtain ⟨b14, h⟩ := h
    refine V_iast C (k7_6 hb) b14 dX7_adds_89 ?_
    refine V_nmM (fun M13 e_M13 => ?_)
    have h := h M13 e_M13
    refine V_iload C 0 dX7_adds_90 rfl ?_
    refine V_bipush C 30 dX7_adds_92 (by decide) ?_
    refine V_iushr C dX7_adds_94 ?_
    refine V_nmI (fun x15 e_x15 => ?_)
    have h := h x15 e_x15
    refine V_istore_n (lv' := [(3, .int x15), (6, .int x12), (0, vR X b), (1, .int p1), (2, .int p2), (4, .int v4), (5, .int v5)]) C (ltN hN (by decide)) dX7_adds_95 rfl ?_
    refine V_iinc (v := (v5 + 1)) (lv' := [(5, .int (v5 + 1)), (3, .int x15), (6, .int x12), (0, vR X b), (1, .int p1), (2, .int p2), (4, .int v4)]) C 6 (ltN hN (by decide)) dX7_adds_96 rfl rfl rfl ?_
    refine V_goto (tgt := 37) C dX7_adds_99 (by decide) ?_
    exact V_sub [3, 4, 5, 1, 6, 0] rfl (hag37 (x15, (v5 + 1), M13) h)
set_option maxRecDepth 20000 in
set_option maxHeartbeats 1000000 in
theorem s_X7_adds {X : wX} (C : CX X cX7_adds RX7 (none)) (hH : xH X = 1) (hN : xN X = 7) {b : Nat} {p1 : Int32} {p2 : Int32} {M : mM} {Q : mM → Prop} (hQ : ∀ M, Q M → xPo X none M) (hb : isC (xW X) 7 b)   (h : p_X7_adds b p1 p2 M Q) : V X 0 [(0, vR X b), (1, .int p1), (2, .int p2)] [] M := by
  refine V_iconst C 0 dX7_adds_0 (by decide) ?_
  refine V_istore_n (lv' := [(3, .int 0), (0, vR X b), (1, .int p1), (2, .int p2)]) C (ltN hN (by decide)) dX7_adds_1 rfl ?_
  refine V_aload_n C 1 dX7_adds_2 rfl ?_
  refine V_getR C FL_RX7_29 (f7_7 hb) dX7_adds_3 ?_
  refine V_iload_n C 2 dX7_adds_6 rfl ?_
  obtain ⟨b1, h⟩ := h
  refine V_iald C (k7_7 hb) b1 dX7_adds_7 ?_
  refine V_aload_n C 1 dX7_adds_8 rfl ?_
  refine V_getR C FL_RX7_29 (f7_7 hb) dX7_adds_9 ?_
  refine V_iload_n C 3 dX7_adds_12 rfl ?_
  obtain ⟨b2, h⟩ := h
  refine V_iald C (k7_7 hb) b2 dX7_adds_13 ?_
  refine V_icmp_le (tgt := 26) C dX7_adds_14 (by decide) (fun hc => ?_) (fun hc => ?_)
  · have h := h.1 hc
    refine V_aload_n C 1 dX7_adds_26 rfl ?_
    refine V_getR C FL_RX7_29 (f7_7 hb) dX7_adds_27 ?_
    refine V_iload_n C 3 dX7_adds_30 rfl ?_
    obtain ⟨b3, h⟩ := h
    refine V_iald C (k7_7 hb) b3 dX7_adds_31 ?_
    refine V_nmI (fun x4 e_x4 => ?_)
    have h := h x4 e_x4
    refine V_istore (lv' := [(4, .int x4), (3, .int 0), (0, vR X b), (1, .int p1), (2, .int p2)]) C (ltN hN (by decide)) dX7_adds_32 rfl ?_
    refine V_iconst C 0 dX7_adds_34 (by decide) ?_
    refine V_istore (lv' := [(5, .int 0), (4, .int x4), (3, .int 0), (0, vR X b), (1, .int p1), (2, .int p2)]) C (ltN hN (by decide)) dX7_adds_35 rfl ?_
    refine V_sub [3, 4, 5, 2, 1, 0] rfl ?_
    exact Loop.sound (s0 := ((0 : Int32), (0 : Int32), M)) (P := fun s => V X 37 [(0, vR X b), (1, .int p1), (2, .int p2), (3, .int (s.1)), (4, .int x4), (5, .int (s.2.1))] [] (s.2.2)) h (fun ag hag s hs => s_X7_adds_F37 C hH hN hQ hb  hag hs)
  · have h := h.2 hc
    refine V_aload_n C 1 dX7_adds_17 rfl ?_
    refine V_getR C FL_RX7_29 (f7_7 hb) dX7_adds_18 ?_
    refine V_iload_n C 2 dX7_adds_21 rfl ?_
    obtain ⟨b16, h⟩ := h
    refine V_iald C (k7_7 hb) b16 dX7_adds_22 ?_
    refine V_goto (tgt := 32) C dX7_adds_23 (by decide) ?_
    refine V_nmI (fun x17 e_x17 => ?_)
    have h := h x17 e_x17
    refine V_istore (lv' := [(4, .int x17), (3, .int 0), (0, vR X b), (1, .int p1), (2, .int p2)]) C (ltN hN (by decide)) dX7_adds_32 rfl ?_
    refine V_iconst C 0 dX7_adds_34 (by decide) ?_
    refine V_istore (lv' := [(5, .int 0), (4, .int x17), (3, .int 0), (0, vR X b), (1, .int p1), (2, .int p2)]) C (ltN hN (by decide)) dX7_adds_35 rfl ?_
    refine V_sub [3, 4, 5, 2, 1, 0] rfl ?_
    exact Loop.sound (s0 := ((0 : Int32), (0 : Int32), M)) (P := fun s => V X 37 [(0, vR X b), (1, .int p1), (2, .int p2), (3, .int (s.1)), (4, .int x17), (5, .int (s.2.1))] [] (s.2.2)) h (fun ag hag s hs => s_X7_adds_F37 C hH hN hQ hb  hag hs)
set_option maxRecDepth 20000 in
set_option maxHeartbeats 1000000 in
theorem c_X7_adds {w : wU} {l : Launch} {b : Nat} {p1 : Int32} {p2 : Int32} {M : mM} {Q : mM → Prop} (hb : isC w 7 b) (h : p_X7_adds b p1 p2 M Q) : CT w l 1 yX7_adds cX7_adds 7 (none) [.ref (uA w b), .int p1, .int p2] M (piV Q) := by
  refine CT.of (by decide +kernel) (Nat.le_of_ble_eq_true rfl) (fun X hw hH hl hP hN C => ?_)
  subst hw
  exact s_X7_adds C hH hN (fun M1 q => by rw [hP]; exact ⟨rfl, q⟩) hb h
set_option maxRecDepth 20000 in
set_option maxHeartbeats 1000000 in
theorem s_X7_lessens_F5 {X : wX} (C : CX X cX7_lessens RX7 (none)) (hH : xH X = 1) (hN : xN X = 6) {b : Nat} {p1 : Int32} {p2 : Int32} {M : mM} {Q : mM → Prop} (hQ : ∀ M, Q M → xPo X none M) (hb : isC (xW X) 7 b) {v3 : Int32} {v4 : Int32} {ag5 : (Int32 × Int32 × mM) → Prop} (hag5 : ∀ s, ag5 s → V X 5 [(0, vR X b), (1, .int p1), (2, .int p2), (3, .int (s.1)), (4, .int (s.2.1))] [] (s.2.2)) (h : p_X7_lessens_F5 b p1 p2  Q  ag5 v3 v4 M) : V X 5 [(0, vR X b), (1, .int p1), (2, .int p2), (3, .int v3), (4, .int v4)] [] M := by
  refine V_iload C 4 dX7_lessens_5 rfl ?_
  refine V_aload_n C 0 dX7_lessens_7 rfl ?_
  refine V_getR C FL_RX7_29 (f7_7 hb) dX7_lessens_8 ?_
  refine V_iload_n C 1 dX7_lessens_11 rfl ?_
  obtain ⟨b1, h⟩ := h
  refine V_iald C (k7_7 hb) b1 dX7_lessens_12 ?_
  refine V_icmp_ge (tgt := 79) C dX7_lessens_13 (by decide) (fun hc => ?_) (fun hc => ?_)
  · have h := h.1 hc
    refine V_aload_n C 0 dX7_lessens_79 rfl ?_
    refine V_iload_n C 1 dX7_lessens_80 rfl ?_
    refine V_callV (As := [.int p1]) (st := []) C (c_X7_trims hb h) Y_X7_trims Z_X7_trims (T := TX7) (N := 21) rfl (o7 hb) (ltN hH (by decide)) u_232 rfl rfl (Nat.le_of_ble_eq_true rfl) dX7_lessens_81 ?_
    rintro v9 M2 ⟨rfl, h⟩
    show V X 84 _ [] M2
    exact V_vret C dX7_lessens_84 (hQ _ h)
  · have h := h.2 hc
    refine V_aload_n C 0 dX7_lessens_16 rfl ?_
    refine V_getR C FL_RX7_26 (f7_6 hb) dX7_lessens_17 ?_
    refine V_bipush C 40 dX7_lessens_20 (by decide) ?_
    refine V_iload_n C 1 dX7_lessens_22 rfl ?_
    refine V_imul C dX7_lessens_23 ?_
    refine V_iload C 4 dX7_lessens_24 rfl ?_
    refine V_iadd C dX7_lessens_26 ?_
    obtain ⟨b3, h⟩ := h
    refine V_iald C (k7_6 hb) b3 dX7_lessens_27 ?_
    refine V_aload_n C 0 dX7_lessens_28 rfl ?_
    refine V_getR C FL_RX7_26 (f7_6 hb) dX7_lessens_29 ?_
    refine V_bipush C 40 dX7_lessens_32 (by decide) ?_
    refine V_iload_n C 2 dX7_lessens_34 rfl ?_
    refine V_imul C dX7_lessens_35 ?_
    refine V_iload C 4 dX7_lessens_36 rfl ?_
    refine V_iadd C dX7_lessens_38 ?_
    obtain ⟨b4, h⟩ := h
    refine V_iald C (k7_6 hb) b4 dX7_lessens_39 ?_
    refine V_isub C dX7_lessens_40 ?_
    refine V_iload_n C 3 dX7_lessens_41 rfl ?_
    refine V_isub C dX7_lessens_42 ?_
    refine V_nmI (fun x5 e_x5 => ?_)
    have h := h x5 e_x5
    refine V_istore (lv' := [(5, .int x5), (0, vR X b), (1, .int p1), (2, .int p2), (3, .int v3), (4, .int v4)]) C (ltN hN (by decide)) dX7_lessens_43 rfl ?_
    refine V_aload_n C 1 dX7_lessens_45 rfl ?_
    refine V_getR C FL_RX7_26 (f7_6 hb) dX7_lessens_46 ?_
    refine V_bipush C 40 dX7_lessens_49 (by decide) ?_
    refine V_iload_n C 2 dX7_lessens_51 rfl ?_
    refine V_imul C dX7_lessens_52 ?_
    refine V_iload C 5 dX7_lessens_53 rfl ?_
    refine V_iadd C dX7_lessens_55 ?_
    refine V_iload C 0 dX7_lessens_56 rfl ?_
    refine V_ldc C u_236 dX7_lessens_58 ?_
    refine V_iand C dX7_lessens_60 ?_
    obtain ⟨b7, h⟩ := h
    refine V_iast C (k7_6 hb) b7 dX7_lessens_61 ?_
    refine V_nmM (fun M6 e_M6 => ?_)
    have h := h M6 e_M6
    refine V_iload C 0 dX7_lessens_62 rfl ?_
    refine V_if_ge (tgt := 71) C dX7_lessens_64 (by decide) (fun hc => ?_) (fun hc => ?_)
    · have h := h.1 hc
      refine V_iconst C 0 dX7_lessens_71 (by decide) ?_
      refine V_istore_n (lv' := [(3, .int 0), (5, .int x5), (0, vR X b), (1, .int p1), (2, .int p2), (4, .int v4)]) C (ltN hN (by decide)) dX7_lessens_72 rfl ?_
      refine V_iinc (v := (v4 + 1)) (lv' := [(4, .int (v4 + 1)), (3, .int 0), (5, .int x5), (0, vR X b), (1, .int p1), (2, .int p2)]) C 5 (ltN hN (by decide)) dX7_lessens_73 rfl rfl rfl ?_
      refine V_goto (tgt := 5) C dX7_lessens_76 (by decide) ?_
      exact V_sub [3, 4, 5, 1, 0] rfl (hag5 ((0 : Int32), (v4 + 1), M6) h)
    · have h := h.2 hc
      refine V_iconst C 1 dX7_lessens_67 (by decide) ?_
      refine V_goto (tgt := 72) C dX7_lessens_68 (by decide) ?_
      refine V_istore_n (lv' := [(3, .int 1), (5, .int x5), (0, vR X b), (1, .int p1), (2, .int p2), (4, .int v4)]) C (ltN hN (by decide)) dX7_lessens_72 rfl ?_
      refine V_iinc (v := (v4 + 1)) (lv' := [(4, .int (v4 + 1)), (3, .int 1), (5, .int x5), (0, vR X b), (1, .int p1), (2, .int p2)]) C 5 (ltN hN (by decide)) dX7_lessens_73 rfl rfl rfl ?_
      refine V_goto (tgt := 5) C dX7_lessens_76 (by decide) ?_
      exact V_sub [3, 4, 5, 1, 0] rfl (hag5 ((1 : Int32), (v4 + 1), M6) h)
set_option maxRecDepth 20000 in
set_option maxHeartbeats 1000000 in
theorem s_X7_lessens {X : wX} (C : CX X cX7_lessens RX7 (none)) (hH : xH X = 1) (hN : xN X = 6) {b : Nat} {p1 : Int32} {p2 : Int32} {M : mM} {Q : mM → Prop} (hQ : ∀ M, Q M → xPo X none M) (hb : isC (xW X) 7 b)   (h : p_X7_lessens b p1 p2 M Q) : V X 0 [(0, vR X b), (1, .int p1), (2, .int p2)] [] M := by
  refine V_iconst C 0 dX7_lessens_0 (by decide) ?_
  refine V_istore_n (lv' := [(3, .int 0), (0, vR X b), (1, .int p1), (2, .int p2)]) C (ltN hN (by decide)) dX7_lessens_1 rfl ?_
  refine V_iconst C 0 dX7_lessens_2 (by decide) ?_
  refine V_istore (lv' := [(4, .int 0), (3, .int 0), (0, vR X b), (1, .int p1), (2, .int p2)]) C (ltN hN (by decide)) dX7_lessens_3 rfl ?_
  refine V_sub [2, 3, 4, 1, 0] rfl ?_
  exact Loop.sound (s0 := ((0 : Int32), (0 : Int32), M)) (P := fun s => V X 5 [(0, vR X b), (1, .int p1), (2, .int p2), (3, .int (s.1)), (4, .int (s.2.1))] [] (s.2.2)) h (fun ag hag s hs => s_X7_lessens_F5 C hH hN hQ hb  hag hs)
set_option maxRecDepth 20000 in
set_option maxHeartbeats 1000000 in
theorem c_X7_lessens {w : wU} {l : Launch} {b : Nat} {p1 : Int32} {p2 : Int32} {M : mM} {Q : mM → Prop} (hb : isC w 7 b) (h : p_X7_lessens b p1 p2 M Q) : CT w l 1 yX7_lessens cX7_lessens 6 (none) [.ref (uA w b), .int p1, .int p2] M (piV Q) := by
  refine CT.of (by decide +kernel) (Nat.le_of_ble_eq_true rfl) (fun X hw hH hl hP hN C => ?_)
  subst hw
  exact s_X7_lessens C hH hN (fun M1 q => by rw [hP]; exact ⟨rfl, q⟩) hb h
set_option maxRecDepth 20000 in
set_option maxHeartbeats 1000000 in
theorem s_X7_against_F45 {X : wX} (C : CX X cX7_against RX7 (some .int)) (hH : xH X = 0) (hN : xN X = 4) {b : Nat} {p1 : Int32} {p2 : Int32} {M : mM} {Q : Int32 → Prop} (hQ : ∀ r, Q r → xPo X (some (.int r)) M) (hb : isC (xW X) 7 b) {v3 : Int32} {ag45 : Int32 → Prop} (hag45 : ∀ s, ag45 s → V X 45 [(0, vR X b), (1, .int p1), (2, .int p2), (3, .int s)] [] M) (h : p_X7_against_F45 b p1 p2  M Q  ag45 v3) : V X 45 [(0, vR X b), (1, .int p1), (2, .int p2), (3, .int v3)] [] M := by
  refine V_iload_n C 3 dX7_against_45 rfl ?_
  refine V_if_lt (tgt := 111) C dX7_against_46 (by decide) (fun hc => ?_) (fun hc => ?_)
  · have h := h.1 hc
    refine V_iconst C 0 dX7_against_111 (by decide) ?_
    exact V_iret C dX7_against_112 (hQ _ h)
  · have h := h.2 hc
    refine V_aload_n C 0 dX7_against_49 rfl ?_
    refine V_getR C FL_RX7_26 (f7_6 hb) dX7_against_50 ?_
    refine V_bipush C 40 dX7_against_53 (by decide) ?_
    refine V_iload_n C 1 dX7_against_55 rfl ?_
    refine V_imul C dX7_against_56 ?_
    refine V_iload_n C 3 dX7_against_57 rfl ?_
    refine V_iadd C dX7_against_58 ?_
    obtain ⟨b5, h⟩ := h
    refine V_iald C (k7_6 hb) b5 dX7_against_59 ?_
    refine V_aload_n C 0 dX7_against_60 rfl ?_
    refine V_getR C FL_RX7_26 (f7_6 hb) dX7_against_61 ?_
    refine V_bipush C 40 dX7_against_64 (by decide) ?_
    refine V_iload_n C 2 dX7_against_66 rfl ?_
    refine V_imul C dX7_against_67 ?_
    refine V_iload_n C 3 dX7_against_68 rfl ?_
    refine V_iadd C dX7_against_69 ?_
    obtain ⟨b6, h⟩ := h
    refine V_iald C (k7_6 hb) b6 dX7_against_70 ?_
    refine V_icmp_eq (tgt := 105) C dX7_against_71 (by decide) (fun hc => ?_) (fun hc => ?_)
    · have h := h.1 hc
      refine V_iinc (v := (v3 + (-1))) (lv' := [(3, .int (v3 + (-1))), (0, vR X b), (1, .int p1), (2, .int p2)]) C 3 (ltN hN (by decide)) dX7_against_105 rfl rfl rfl ?_
      refine V_goto (tgt := 45) C dX7_against_108 (by decide) ?_
      exact V_sub [1, 2, 3, 0] rfl (hag45 (v3 + (-1)) h)
    · have h := h.2 hc
      refine V_aload_n C 0 dX7_against_74 rfl ?_
      refine V_getR C FL_RX7_26 (f7_6 hb) dX7_against_75 ?_
      refine V_bipush C 40 dX7_against_78 (by decide) ?_
      refine V_iload_n C 1 dX7_against_80 rfl ?_
      refine V_imul C dX7_against_81 ?_
      refine V_iload_n C 3 dX7_against_82 rfl ?_
      refine V_iadd C dX7_against_83 ?_
      obtain ⟨b7, h⟩ := h
      refine V_iald C (k7_6 hb) b7 dX7_against_84 ?_
      refine V_aload_n C 0 dX7_against_85 rfl ?_
      refine V_getR C FL_RX7_26 (f7_6 hb) dX7_against_86 ?_
      refine V_bipush C 40 dX7_against_89 (by decide) ?_
      refine V_iload_n C 2 dX7_against_91 rfl ?_
      refine V_imul C dX7_against_92 ?_
      refine V_iload_n C 3 dX7_against_93 rfl ?_
      refine V_iadd C dX7_against_94 ?_
      obtain ⟨b8, h⟩ := h
      refine V_iald C (k7_6 hb) b8 dX7_against_95 ?_
      refine V_icmp_ge (tgt := 103) C dX7_against_96 (by decide) (fun hc => ?_) (fun hc => ?_)
      · have h := h.1 hc
        refine V_iconst C 1 dX7_against_103 (by decide) ?_
        exact V_iret C dX7_against_104 (hQ _ h)
      · have h := h.2 hc
        refine V_iconst C (-1) dX7_against_99 (by decide) ?_
        refine V_goto (tgt := 104) C dX7_against_100 (by decide) ?_
        exact V_iret C dX7_against_104 (hQ _ h)
set_option maxRecDepth 20000 in
set_option maxHeartbeats 1000000 in
theorem s_X7_against {X : wX} (C : CX X cX7_against RX7 (some .int)) (hH : xH X = 0) (hN : xN X = 4) {b : Nat} {p1 : Int32} {p2 : Int32} {M : mM} {Q : Int32 → Prop} (hQ : ∀ r, Q r → xPo X (some (.int r)) M) (hb : isC (xW X) 7 b)   (h : p_X7_against b p1 p2 M Q) : V X 0 [(0, vR X b), (1, .int p1), (2, .int p2)] [] M := by
  refine V_aload_n C 0 dX7_against_0 rfl ?_
  refine V_getR C FL_RX7_29 (f7_7 hb) dX7_against_1 ?_
  refine V_iload_n C 1 dX7_against_4 rfl ?_
  obtain ⟨b1, h⟩ := h
  refine V_iald C (k7_7 hb) b1 dX7_against_5 ?_
  refine V_aload_n C 0 dX7_against_6 rfl ?_
  refine V_getR C FL_RX7_29 (f7_7 hb) dX7_against_7 ?_
  refine V_iload_n C 2 dX7_against_10 rfl ?_
  obtain ⟨b2, h⟩ := h
  refine V_iald C (k7_7 hb) b2 dX7_against_11 ?_
  refine V_icmp_eq (tgt := 36) C dX7_against_12 (by decide) (fun hc => ?_) (fun hc => ?_)
  · have h := h.1 hc
    refine V_aload_n C 0 dX7_against_36 rfl ?_
    refine V_getR C FL_RX7_29 (f7_7 hb) dX7_against_37 ?_
    refine V_iload_n C 1 dX7_against_40 rfl ?_
    obtain ⟨b3, h⟩ := h
    refine V_iald C (k7_7 hb) b3 dX7_against_41 ?_
    refine V_iconst C 1 dX7_against_42 (by decide) ?_
    refine V_isub C dX7_against_43 ?_
    refine V_nmI (fun x4 e_x4 => ?_)
    have h := h x4 e_x4
    refine V_istore_n (lv' := [(3, .int x4), (0, vR X b), (1, .int p1), (2, .int p2)]) C (ltN hN (by decide)) dX7_against_44 rfl ?_
    refine V_sub [1, 2, 3, 0] rfl ?_
    exact Loop.sound (s0 := x4) (P := fun s => V X 45 [(0, vR X b), (1, .int p1), (2, .int p2), (3, .int s)] [] M) h (fun ag hag s hs => s_X7_against_F45 C hH hN hQ hb  hag hs)
  · have h := h.2 hc
    refine V_aload_n C 0 dX7_against_15 rfl ?_
    refine V_getR C FL_RX7_29 (f7_7 hb) dX7_against_16 ?_
    refine V_iload_n C 1 dX7_against_19 rfl ?_
    obtain ⟨b9, h⟩ := h
    refine V_iald C (k7_7 hb) b9 dX7_against_20 ?_
    refine V_aload_n C 0 dX7_against_21 rfl ?_
    refine V_getR C FL_RX7_29 (f7_7 hb) dX7_against_22 ?_
    refine V_iload_n C 2 dX7_against_25 rfl ?_
    obtain ⟨b10, h⟩ := h
    refine V_iald C (k7_7 hb) b10 dX7_against_26 ?_
    refine V_icmp_ge (tgt := 34) C dX7_against_27 (by decide) (fun hc => ?_) (fun hc => ?_)
    · have h := h.1 hc
      refine V_iconst C 1 dX7_against_34 (by decide) ?_
      exact V_iret C dX7_against_35 (hQ _ h)
    · have h := h.2 hc
      refine V_iconst C (-1) dX7_against_30 (by decide) ?_
      refine V_goto (tgt := 35) C dX7_against_31 (by decide) ?_
      exact V_iret C dX7_against_35 (hQ _ h)
set_option maxRecDepth 20000 in
set_option maxHeartbeats 1000000 in
theorem c_X7_against {w : wU} {l : Launch} {b : Nat} {p1 : Int32} {p2 : Int32} {M : mM} {Q : Int32 → Prop} (hb : isC w 7 b) (h : p_X7_against b p1 p2 M Q) : CT w l 0 yX7_against cX7_against 4 (some .int) [.ref (uA w b), .int p1, .int p2] M (poI M Q) := by
  refine CT.of (by decide +kernel) (Nat.le_of_ble_eq_true rfl) (fun X hw hH hl hP hN C => ?_)
  subst hw
  exact s_X7_against C hH hN (fun r q => by rw [hP]; exact ⟨rfl, r, rfl, q⟩) hb h
set_option maxRecDepth 20000 in
set_option maxHeartbeats 1000000 in
theorem s_X7_isEven {X : wX} (C : CX X cX7_isEven RX7 (some .boolean)) (hH : xH X = 0) (hN : xN X = 2) {b : Nat} {p1 : Int32} {M : mM} {Q : Int32 → Prop} (hQ : ∀ r, Q r → xPo X (some (.int r)) M) (hb : isC (xW X) 7 b)   (h : p_X7_isEven b p1 M Q) : V X 0 [(0, vR X b), (1, .int p1)] [] M := by
  refine V_aload_n C 0 dX7_isEven_0 rfl ?_
  refine V_getR C FL_RX7_26 (f7_6 hb) dX7_isEven_1 ?_
  refine V_bipush C 40 dX7_isEven_4 (by decide) ?_
  refine V_iload_n C 1 dX7_isEven_6 rfl ?_
  refine V_imul C dX7_isEven_7 ?_
  obtain ⟨b1, h⟩ := h
  refine V_iald C (k7_6 hb) b1 dX7_isEven_8 ?_
  refine V_iconst C 1 dX7_isEven_9 (by decide) ?_
  refine V_iand C dX7_isEven_10 ?_
  refine V_if_ne (tgt := 18) C dX7_isEven_11 (by decide) (fun hc => ?_) (fun hc => ?_)
  · have h := h.1 hc
    refine V_iconst C 0 dX7_isEven_18 (by decide) ?_
    exact V_zret C rfl (by decide) dX7_isEven_19 (hQ _ h)
  · have h := h.2 hc
    refine V_iconst C 1 dX7_isEven_14 (by decide) ?_
    refine V_goto (tgt := 19) C dX7_isEven_15 (by decide) ?_
    exact V_zret C rfl (by decide) dX7_isEven_19 (hQ _ h)
set_option maxRecDepth 20000 in
set_option maxHeartbeats 1000000 in
theorem c_X7_isEven {w : wU} {l : Launch} {b : Nat} {p1 : Int32} {M : mM} {Q : Int32 → Prop} (hb : isC w 7 b) (h : p_X7_isEven b p1 M Q) : CT w l 0 yX7_isEven cX7_isEven 2 (some .boolean) [.ref (uA w b), .int p1] M (poI M Q) := by
  refine CT.of (by decide +kernel) (Nat.le_of_ble_eq_true rfl) (fun X hw hH hl hP hN C => ?_)
  subst hw
  exact s_X7_isEven C hH hN (fun r q => by rw [hP]; exact ⟨rfl, r, rfl, q⟩) hb h
set_option maxRecDepth 20000 in
set_option maxHeartbeats 1000000 in
theorem s_X7_halves_J43 {X : wX} (C : CX X cX7_halves RX7 (none)) (hH : xH X = 1) (hN : xN X = 4) {b : Nat} {p1 : Int32} {M : mM} {Q : mM → Prop} (hQ : ∀ M, Q M → xPo X none M) (hb : isC (xW X) 7 b) {v2 : Int32} {s0 : Int32} {ag2 : (Int32 × mM) → Prop} (hag2 : ∀ s, ag2 s → V X 2 [(0, vR X b), (1, .int p1), (2, .int (s.1))] [] (s.2)) (h : p_X7_halves_J43 b p1 Q ag2 v2 s0 M) : V X 43 [(0, vR X b), (1, .int p1), (2, .int v2)] [.int s0] M := by
  refine V_istore_n (lv' := [(3, .int s0), (0, vR X b), (1, .int p1), (2, .int v2)]) C (ltN hN (by decide)) dX7_halves_43 rfl ?_
  refine V_aload_n C 1 dX7_halves_44 rfl ?_
  refine V_getR C FL_RX7_26 (f7_6 hb) dX7_halves_45 ?_
  refine V_bipush C 40 dX7_halves_48 (by decide) ?_
  refine V_iload_n C 2 dX7_halves_50 rfl ?_
  refine V_imul C dX7_halves_51 ?_
  refine V_iload_n C 3 dX7_halves_52 rfl ?_
  refine V_iadd C dX7_halves_53 ?_
  refine V_aload_n C 1 dX7_halves_54 rfl ?_
  refine V_getR C FL_RX7_26 (f7_6 hb) dX7_halves_55 ?_
  refine V_bipush C 40 dX7_halves_58 (by decide) ?_
  refine V_iload_n C 2 dX7_halves_60 rfl ?_
  refine V_imul C dX7_halves_61 ?_
  refine V_iload_n C 3 dX7_halves_62 rfl ?_
  refine V_iadd C dX7_halves_63 ?_
  obtain ⟨b4, h⟩ := h
  refine V_iald C (k7_6 hb) b4 dX7_halves_64 ?_
  refine V_iconst C 1 dX7_halves_65 (by decide) ?_
  refine V_ishr C dX7_halves_66 ?_
  refine V_iload_n C 0 dX7_halves_67 rfl ?_
  refine V_bipush C 29 dX7_halves_68 (by decide) ?_
  refine V_ishl C dX7_halves_70 ?_
  refine V_ior C dX7_halves_71 ?_
  obtain ⟨b6, h⟩ := h
  refine V_iast C (k7_6 hb) b6 dX7_halves_72 ?_
  refine V_nmM (fun M5 e_M5 => ?_)
  have h := h M5 e_M5
  refine V_iinc (v := (v2 + 1)) (lv' := [(2, .int (v2 + 1)), (3, .int s0), (0, vR X b), (1, .int p1)]) C 3 (ltN hN (by decide)) dX7_halves_73 rfl rfl rfl ?_
  refine V_goto (tgt := 2) C dX7_halves_76 (by decide) ?_
  exact V_sub [2, 3, 0] rfl (hag2 ((v2 + 1), M5) h)
set_option maxRecDepth 20000 in
set_option maxHeartbeats 1000000 in
theorem s_X7_halves_F2 {X : wX} (C : CX X cX7_halves RX7 (none)) (hH : xH X = 1) (hN : xN X = 4) {b : Nat} {p1 : Int32} {M : mM} {Q : mM → Prop} (hQ : ∀ M, Q M → xPo X none M) (hb : isC (xW X) 7 b) {v2 : Int32} {ag2 : (Int32 × mM) → Prop} (hag2 : ∀ s, ag2 s → V X 2 [(0, vR X b), (1, .int p1), (2, .int (s.1))] [] (s.2)) (h : p_X7_halves_F2 b p1  Q  ag2 v2 M) : V X 2 [(0, vR X b), (1, .int p1), (2, .int v2)] [] M := by
  refine V_iload_n C 2 dX7_halves_2 rfl ?_
  refine V_aload_n C 0 dX7_halves_3 rfl ?_
  refine V_getR C FL_RX7_29 (f7_7 hb) dX7_halves_4 ?_
  refine V_iload_n C 1 dX7_halves_7 rfl ?_
  obtain ⟨b1, h⟩ := h
  refine V_iald C (k7_7 hb) b1 dX7_halves_8 ?_
  refine V_icmp_ge (tgt := 79) C dX7_halves_9 (by decide) (fun hc => ?_) (fun hc => ?_)
  · have h := h.1 hc
    refine V_aload_n C 0 dX7_halves_79 rfl ?_
    refine V_iload_n C 1 dX7_halves_80 rfl ?_
    refine V_callV (As := [.int p1]) (st := []) C (c_X7_trims hb h) Y_X7_trims Z_X7_trims (T := TX7) (N := 21) rfl (o7 hb) (ltN hH (by decide)) u_232 rfl rfl (Nat.le_of_ble_eq_true rfl) dX7_halves_81 ?_
    rintro v9 M2 ⟨rfl, h⟩
    show V X 84 _ [] M2
    exact V_vret C dX7_halves_84 (hQ _ h)
  · have h := h.2 hc
    refine V_iload_n C 2 dX7_halves_12 rfl ?_
    refine V_iconst C 1 dX7_halves_13 (by decide) ?_
    refine V_iadd C dX7_halves_14 ?_
    refine V_aload_n C 0 dX7_halves_15 rfl ?_
    refine V_getR C FL_RX7_29 (f7_7 hb) dX7_halves_16 ?_
    refine V_iload_n C 1 dX7_halves_19 rfl ?_
    obtain ⟨b3, h⟩ := h
    refine V_iald C (k7_7 hb) b3 dX7_halves_20 ?_
    refine V_icmp_ge (tgt := 42) C dX7_halves_21 (by decide) (fun hc => ?_) (fun hc => ?_)
    · have h := h.1 hc
      refine V_iconst C 0 dX7_halves_42 (by decide) ?_
      exact V_sub [0, 1, 2] rfl (s_X7_halves_J43 C hH hN hQ hb hag2  h)
    · have h := h.2 hc
      refine V_aload_n C 0 dX7_halves_24 rfl ?_
      refine V_getR C FL_RX7_26 (f7_6 hb) dX7_halves_25 ?_
      refine V_bipush C 40 dX7_halves_28 (by decide) ?_
      refine V_iload_n C 1 dX7_halves_30 rfl ?_
      refine V_imul C dX7_halves_31 ?_
      refine V_iload_n C 2 dX7_halves_32 rfl ?_
      refine V_iadd C dX7_halves_33 ?_
      refine V_iconst C 1 dX7_halves_34 (by decide) ?_
      refine V_iadd C dX7_halves_35 ?_
      obtain ⟨b7, h⟩ := h
      refine V_iald C (k7_6 hb) b7 dX7_halves_36 ?_
      refine V_iconst C 1 dX7_halves_37 (by decide) ?_
      refine V_iand C dX7_halves_38 ?_
      refine V_goto (tgt := 43) C dX7_halves_39 (by decide) ?_
      exact V_sub [0, 1, 2] rfl (s_X7_halves_J43 C hH hN hQ hb hag2  h)
set_option maxRecDepth 20000 in
set_option maxHeartbeats 1000000 in
theorem s_X7_halves {X : wX} (C : CX X cX7_halves RX7 (none)) (hH : xH X = 1) (hN : xN X = 4) {b : Nat} {p1 : Int32} {M : mM} {Q : mM → Prop} (hQ : ∀ M, Q M → xPo X none M) (hb : isC (xW X) 7 b)   (h : p_X7_halves b p1 M Q) : V X 0 [(0, vR X b), (1, .int p1)] [] M := by
  refine V_iconst C 0 dX7_halves_0 (by decide) ?_
  refine V_istore_n (lv' := [(2, .int 0), (0, vR X b), (1, .int p1)]) C (ltN hN (by decide)) dX7_halves_1 rfl ?_
  refine V_sub [1, 2, 0] rfl ?_
  exact Loop.sound (s0 := ((0 : Int32), M)) (P := fun s => V X 2 [(0, vR X b), (1, .int p1), (2, .int (s.1))] [] (s.2)) h (fun ag hag s hs => s_X7_halves_F2 C hH hN hQ hb  hag hs)
set_option maxRecDepth 20000 in
set_option maxHeartbeats 1000000 in
theorem c_X7_halves {w : wU} {l : Launch} {b : Nat} {p1 : Int32} {M : mM} {Q : mM → Prop} (hb : isC w 7 b) (h : p_X7_halves b p1 M Q) : CT w l 1 yX7_halves cX7_halves 4 (none) [.ref (uA w b), .int p1] M (piV Q) := by
  refine CT.of (by decide +kernel) (Nat.le_of_ble_eq_true rfl) (fun X hw hH hl hP hN C => ?_)
  subst hw
  exact s_X7_halves C hH hN (fun M1 q => by rw [hP]; exact ⟨rfl, q⟩) hb h
set_option maxRecDepth 20000 in
set_option maxHeartbeats 1000000 in
theorem s_X7_parts_F193 {X : wX} (C : CX X cX7_parts RX7 (none)) (hH : xH X = 1) (hN : xN X = 13) {b : Nat} {p1 : Int32} {M : mM} {Q : mM → Prop} (hQ : ∀ M, Q M → xPo X none M) (hb : isC (xW X) 7 b) {v3 : Int32} {v4 : Int32} {ag193 : (Int32 × mM) → Prop} (hag193 : ∀ s, ag193 s → V X 193 [(0, vR X b), (1, .int p1), (3, .int v3), (4, .int (s.1))] [] (s.2)) (h : p_X7_parts_F193 b p1 v3 Q  ag193 v4 M) : V X 193 [(0, vR X b), (1, .int p1), (3, .int v3), (4, .int v4)] [] M := by
  refine V_iload C 3 dX7_parts_193 rfl ?_
  refine V_iload_n C 2 dX7_parts_195 rfl ?_
  refine V_icmp_ge (tgt := 228) C dX7_parts_196 (by decide) (fun hc => ?_) (fun hc => ?_)
  · have h := h.1 hc
    refine V_aload_n C 0 dX7_parts_228 rfl ?_
    refine V_iload_n C 1 dX7_parts_229 rfl ?_
    refine V_callV (As := [.int p1]) (st := []) C (c_X7_trims hb h) Y_X7_trims Z_X7_trims (T := TX7) (N := 21) rfl (o7 hb) (ltN hH (by decide)) u_232 rfl rfl (Nat.le_of_ble_eq_true rfl) dX7_parts_230 ?_
    rintro v9 M3 ⟨rfl, h⟩
    show V X 233 _ [] M3
    exact V_vret C dX7_parts_233 (hQ _ h)
  · have h := h.2 hc
    refine V_aload_n C 0 dX7_parts_199 rfl ?_
    refine V_getR C FL_RX7_26 (f7_6 hb) dX7_parts_200 ?_
    refine V_bipush C 40 dX7_parts_203 (by decide) ?_
    refine V_iload_n C 1 dX7_parts_205 rfl ?_
    refine V_imul C dX7_parts_206 ?_
    refine V_iload C 3 dX7_parts_207 rfl ?_
    refine V_iadd C dX7_parts_209 ?_
    refine V_aload_n C 0 dX7_parts_210 rfl ?_
    refine V_getR C FL_RX7_26 (f7_6 hb) dX7_parts_211 ?_
    refine V_sipush C 160 dX7_parts_214 (by decide) ?_
    refine V_iload C 3 dX7_parts_217 rfl ?_
    refine V_iadd C dX7_parts_219 ?_
    obtain ⟨b4, h⟩ := h
    refine V_iald C (k7_6 hb) b4 dX7_parts_220 ?_
    obtain ⟨b6, h⟩ := h
    refine V_iast C (k7_6 hb) b6 dX7_parts_221 ?_
    refine V_nmM (fun M5 e_M5 => ?_)
    have h := h M5 e_M5
    refine V_iinc (v := (v4 + 1)) (lv' := [(4, .int (v4 + 1)), (0, vR X b), (1, .int p1), (3, .int v3)]) C 3 (ltN hN (by decide)) dX7_parts_222 rfl rfl rfl ?_
    refine V_goto (tgt := 193) C dX7_parts_225 (by decide) ?_
    exact V_sub [1, 2, 3, 0] rfl (hag193 ((v4 + 1), M5) h)
set_option maxRecDepth 20000 in
set_option maxHeartbeats 1000000 in
theorem s_X7_parts_J109 {X : wX} (C : CX X cX7_parts RX7 (none)) (hH : xH X = 1) (hN : xN X = 13) {b : Nat} {p1 : Int32} {M : mM} {Q : mM → Prop} (hQ : ∀ M, Q M → xPo X none M) (hb : isC (xW X) 7 b) {v2 : Int32} {v3 : Int32} {v4 : Int32} {v5 : Int32} {v6 : Int64} {v8 : Int32} {s0 : Int64} {ag39 : (Int32 × mM) → Prop} {ag70 : (Int64 × Int32 × mM) → Prop} (hag39 : ∀ s, ag39 s → V X 39 [(0, vR X b), (1, .int p1), (2, .int v2), (3, .int v3), (4, .int (s.1))] [] (s.2)) (hag70 : ∀ s, ag70 s → V X 70 [(0, vR X b), (1, .int p1), (2, .int v2), (3, .int v3), (4, .int v4), (5, .int v5), (6, .long (s.1)), (8, .int (s.2.1))] [] (s.2.2)) (h : p_X7_parts_J109 b p1 Q ag39 ag70 v2 v3 v4 v5 v6 v8 s0 M) : V X 109 [(0, vR X b), (1, .int p1), (2, .int v2), (3, .int v3), (4, .int v4), (5, .int v5), (6, .long v6), (8, .int v8)] [.long s0] M := by
  refine V_lstore (lv' := [(9, .long s0), (0, vR X b), (1, .int p1), (2, .int v2), (3, .int v3), (4, .int v4), (5, .int v5), (6, .long v6), (8, .int v8)]) C (ltN hN (by decide)) dX7_parts_109 rfl ?_
  refine V_aload_n C 1 dX7_parts_111 rfl ?_
  refine V_getR C FL_RX7_26 (f7_6 hb) dX7_parts_112 ?_
  refine V_bipush C 40 dX7_parts_115 (by decide) ?_
  refine V_iload_n C 2 dX7_parts_117 rfl ?_
  refine V_imul C dX7_parts_118 ?_
  refine V_iload C 5 dX7_parts_119 rfl ?_
  refine V_iadd C dX7_parts_121 ?_
  refine V_iload C 8 dX7_parts_122 rfl ?_
  refine V_iadd C dX7_parts_124 ?_
  obtain ⟨b11, h⟩ := h
  refine V_iald C (k7_6 hb) b11 dX7_parts_125 ?_
  refine V_i2l C dX7_parts_126 ?_
  refine V_lload C 0 dX7_parts_127 rfl ?_
  refine V_lsub C dX7_parts_129 ?_
  refine V_lload C 7 dX7_parts_130 rfl ?_
  refine V_lsub C dX7_parts_132 ?_
  refine V_nmL (fun x12 e_x12 => ?_)
  have h := h x12 e_x12
  refine V_lstore (lv' := [(11, .long x12), (9, .long s0), (0, vR X b), (1, .int p1), (2, .int v2), (3, .int v3), (4, .int v4), (5, .int v5), (6, .long v6), (8, .int v8)]) C (ltN hN (by decide)) dX7_parts_133 rfl ?_
  refine V_aload_n C 2 dX7_parts_135 rfl ?_
  refine V_getR C FL_RX7_26 (f7_6 hb) dX7_parts_136 ?_
  refine V_bipush C 40 dX7_parts_139 (by decide) ?_
  refine V_iload_n C 3 dX7_parts_141 rfl ?_
  refine V_imul C dX7_parts_142 ?_
  refine V_iload C 6 dX7_parts_143 rfl ?_
  refine V_iadd C dX7_parts_145 ?_
  refine V_iload C 9 dX7_parts_146 rfl ?_
  refine V_iadd C dX7_parts_148 ?_
  refine V_lload C 0 dX7_parts_149 rfl ?_
  refine V_ldc2 C u_233 dX7_parts_151 ?_
  refine V_land C dX7_parts_154 ?_
  refine V_l2i C dX7_parts_155 ?_
  obtain ⟨b14, h⟩ := h
  refine V_iast C (k7_6 hb) b14 dX7_parts_156 ?_
  refine V_nmM (fun M13 e_M13 => ?_)
  have h := h M13 e_M13
  refine V_lload C 0 dX7_parts_157 rfl ?_
  refine V_bipush C 30 dX7_parts_159 (by decide) ?_
  refine V_lshr C dX7_parts_161 ?_
  refine V_lneg C dX7_parts_162 ?_
  refine V_nmL (fun x15 e_x15 => ?_)
  have h := h x15 e_x15
  refine V_lstore (lv' := [(6, .long x15), (11, .long x12), (9, .long s0), (0, vR X b), (1, .int p1), (2, .int v2), (3, .int v3), (4, .int v4), (5, .int v5), (8, .int v8)]) C (ltN hN (by decide)) dX7_parts_163 rfl ?_
  refine V_iinc (v := (v8 + 1)) (lv' := [(8, .int (v8 + 1)), (6, .long x15), (11, .long x12), (9, .long s0), (0, vR X b), (1, .int p1), (2, .int v2), (3, .int v3), (4, .int v4), (5, .int v5)]) C 9 (ltN hN (by decide)) dX7_parts_165 rfl rfl rfl ?_
  refine V_goto (tgt := 70) C dX7_parts_168 (by decide) ?_
  exact V_sub [4, 5, 6, 7, 8, 9, 1, 0] rfl (hag70 (x15, (v8 + 1), M13) h)
set_option maxRecDepth 20000 in
set_option maxHeartbeats 1000000 in
theorem s_X7_parts_F70 {X : wX} (C : CX X cX7_parts RX7 (none)) (hH : xH X = 1) (hN : xN X = 13) {b : Nat} {p1 : Int32} {M : mM} {Q : mM → Prop} (hQ : ∀ M, Q M → xPo X none M) (hb : isC (xW X) 7 b) {v2 : Int32} {v3 : Int32} {v4 : Int32} {v5 : Int32} {v6 : Int64} {v8 : Int32} {ag39 : (Int32 × mM) → Prop} {ag70 : (Int64 × Int32 × mM) → Prop} (hag39 : ∀ s, ag39 s → V X 39 [(0, vR X b), (1, .int p1), (2, .int v2), (3, .int v3), (4, .int (s.1))] [] (s.2)) (hag70 : ∀ s, ag70 s → V X 70 [(0, vR X b), (1, .int p1), (2, .int v2), (3, .int v3), (4, .int v4), (5, .int v5), (6, .long (s.1)), (8, .int (s.2.1))] [] (s.2.2)) (h : p_X7_parts_F70 b p1 v2 v3 v4 v5 Q ag39 ag70 v6 v8 M) : V X 70 [(0, vR X b), (1, .int p1), (2, .int v2), (3, .int v3), (4, .int v4), (5, .int v5), (6, .long v6), (8, .int v8)] [] M := by
  refine V_iload C 4 dX7_parts_70 rfl ?_
  refine V_iload C 7 dX7_parts_72 rfl ?_
  refine V_iadd C dX7_parts_74 ?_
  refine V_iload_n C 3 dX7_parts_75 rfl ?_
  refine V_icmp_ge (tgt := 171) C dX7_parts_76 (by decide) (fun hc => ?_) (fun hc => ?_)
  · have h := h.1 hc
    refine V_aload_n C 0 dX7_parts_171 rfl ?_
    refine V_getR C FL_RX7_26 (f7_6 hb) dX7_parts_172 ?_
    refine V_sipush C 160 dX7_parts_175 (by decide) ?_
    refine V_iload C 4 dX7_parts_178 rfl ?_
    refine V_iadd C dX7_parts_180 ?_
    refine V_iload C 5 dX7_parts_181 rfl ?_
    obtain ⟨b10, h⟩ := h
    refine V_iast C (k7_6 hb) b10 dX7_parts_183 ?_
    refine V_nmM (fun M9 e_M9 => ?_)
    have h := h M9 e_M9
    refine V_iinc (v := (v4 + 1)) (lv' := [(4, .int (v4 + 1)), (0, vR X b), (1, .int p1), (2, .int v2), (3, .int v3), (5, .int v5), (6, .long v6), (8, .int v8)]) C 4 (ltN hN (by decide)) dX7_parts_184 rfl rfl rfl ?_
    refine V_goto (tgt := 39) C dX7_parts_187 (by decide) ?_
    exact V_sub [1, 2, 3, 4, 0] rfl (hag39 ((v4 + 1), M9) h)
  · have h := h.2 hc
    refine V_iload C 7 dX7_parts_79 rfl ?_
    refine V_aload_n C 0 dX7_parts_81 rfl ?_
    refine V_getR C FL_RX7_29 (f7_7 hb) dX7_parts_82 ?_
    refine V_iconst C 3 dX7_parts_85 (by decide) ?_
    refine V_iald C (k7_7 hb) (vp_lit (by decide)) dX7_parts_86 ?_
    refine V_icmp_ge (tgt := 108) C dX7_parts_87 (by decide) (fun hc => ?_) (fun hc => ?_)
    · have h := h.1 hc
      refine V_lconst C 0 dX7_parts_108 (by decide) ?_
      exact V_sub [0, 1, 2, 3, 4, 5, 6, 7] rfl (s_X7_parts_J109 C hH hN hQ hb hag39 hag70  h)
    · have h := h.2 hc
      refine V_iload C 5 dX7_parts_90 rfl ?_
      refine V_i2l C dX7_parts_92 ?_
      refine V_aload_n C 0 dX7_parts_93 rfl ?_
      refine V_getR C FL_RX7_26 (f7_6 hb) dX7_parts_94 ?_
      refine V_bipush C 120 dX7_parts_97 (by decide) ?_
      refine V_iload C 7 dX7_parts_99 rfl ?_
      refine V_iadd C dX7_parts_101 ?_
      obtain ⟨b16, h⟩ := h
      refine V_iald C (k7_6 hb) b16 dX7_parts_102 ?_
      refine V_i2l C dX7_parts_103 ?_
      refine V_lmul C dX7_parts_104 ?_
      refine V_goto (tgt := 109) C dX7_parts_105 (by decide) ?_
      exact V_sub [0, 1, 2, 3, 4, 5, 6, 7] rfl (s_X7_parts_J109 C hH hN hQ hb hag39 hag70  h)
set_option maxRecDepth 20000 in
set_option maxHeartbeats 1000000 in
theorem s_X7_parts_F39 {X : wX} (C : CX X cX7_parts RX7 (none)) (hH : xH X = 1) (hN : xN X = 13) {b : Nat} {p1 : Int32} {M : mM} {Q : mM → Prop} (hQ : ∀ M, Q M → xPo X none M) (hb : isC (xW X) 7 b) {v2 : Int32} {v3 : Int32} {v4 : Int32} {ag39 : (Int32 × mM) → Prop} (hag39 : ∀ s, ag39 s → V X 39 [(0, vR X b), (1, .int p1), (2, .int v2), (3, .int v3), (4, .int (s.1))] [] (s.2)) (h : p_X7_parts_F39 b p1 v2 v3 Q  ag39 v4 M) : V X 39 [(0, vR X b), (1, .int p1), (2, .int v2), (3, .int v3), (4, .int v4)] [] M := by
  refine V_iload C 4 dX7_parts_39 rfl ?_
  refine V_iload_n C 3 dX7_parts_41 rfl ?_
  refine V_icmp_ge (tgt := 190) C dX7_parts_42 (by decide) (fun hc => ?_) (fun hc => ?_)
  · have h := h.1 hc
    refine V_iconst C 0 dX7_parts_190 (by decide) ?_
    refine V_istore (lv' := [(4, .int 0), (0, vR X b), (1, .int p1), (2, .int v2), (3, .int v3)]) C (ltN hN (by decide)) dX7_parts_191 rfl ?_
    refine V_sub [1, 2, 4, 0] rfl ?_
    exact Loop.sound (s0 := ((0 : Int32), M)) (P := fun s => V X 193 [(0, vR X b), (1, .int p1), (3, .int v3), (4, .int (s.1))] [] (s.2)) h (fun ag hag s hs => s_X7_parts_F193 C hH hN hQ hb  hag hs)
  · have h := h.2 hc
    refine V_aload_n C 0 dX7_parts_45 rfl ?_
    refine V_getR C FL_RX7_26 (f7_6 hb) dX7_parts_46 ?_
    refine V_bipush C 40 dX7_parts_49 (by decide) ?_
    refine V_iload_n C 1 dX7_parts_51 rfl ?_
    refine V_imul C dX7_parts_52 ?_
    refine V_iload C 4 dX7_parts_53 rfl ?_
    refine V_iadd C dX7_parts_55 ?_
    obtain ⟨b7, h⟩ := h
    refine V_iald C (k7_6 hb) b7 dX7_parts_56 ?_
    refine V_iload_n C 2 dX7_parts_57 rfl ?_
    refine V_imul C dX7_parts_58 ?_
    refine V_ldc C u_236 dX7_parts_59 ?_
    refine V_iand C dX7_parts_61 ?_
    refine V_nmI (fun x8 e_x8 => ?_)
    have h := h x8 e_x8
    refine V_istore (lv' := [(5, .int x8), (0, vR X b), (1, .int p1), (2, .int v2), (3, .int v3), (4, .int v4)]) C (ltN hN (by decide)) dX7_parts_62 rfl ?_
    refine V_lconst C 0 dX7_parts_64 (by decide) ?_
    refine V_lstore (lv' := [(6, .long 0), (5, .int x8), (0, vR X b), (1, .int p1), (2, .int v2), (3, .int v3), (4, .int v4)]) C (ltN hN (by decide)) dX7_parts_65 rfl ?_
    refine V_iconst C 0 dX7_parts_67 (by decide) ?_
    refine V_istore (lv' := [(8, .int 0), (6, .long 0), (5, .int x8), (0, vR X b), (1, .int p1), (2, .int v2), (3, .int v3), (4, .int v4)]) C (ltN hN (by decide)) dX7_parts_68 rfl ?_
    refine V_sub [3, 4, 5, 6, 7, 2, 1, 0] rfl ?_
    exact Loop.sound (s0 := ((0 : Int64), (0 : Int32), M)) (P := fun s => V X 70 [(0, vR X b), (1, .int p1), (2, .int v2), (3, .int v3), (4, .int v4), (5, .int x8), (6, .long (s.1)), (8, .int (s.2.1))] [] (s.2.2)) h (fun ag hag s hs => s_X7_parts_F70 C hH hN hQ hb hag39 hag hs)
set_option maxRecDepth 20000 in
set_option maxHeartbeats 1000000 in
theorem s_X7_parts_F4 {X : wX} (C : CX X cX7_parts RX7 (none)) (hH : xH X = 1) (hN : xN X = 13) {b : Nat} {p1 : Int32} {M : mM} {Q : mM → Prop} (hQ : ∀ M, Q M → xPo X none M) (hb : isC (xW X) 7 b) {v2 : Int32} {v3 : Int32} {ag4 : (Int32 × Int32) → Prop} (hag4 : ∀ s, ag4 s → V X 4 [(0, vR X b), (1, .int p1), (2, .int (s.1)), (3, .int (s.2))] [] M) (h : p_X7_parts_F4 b p1  M Q  ag4 v2 v3) : V X 4 [(0, vR X b), (1, .int p1), (2, .int v2), (3, .int v3)] [] M := by
  refine V_iload_n C 3 dX7_parts_4 rfl ?_
  refine V_iconst C 5 dX7_parts_5 (by decide) ?_
  refine V_icmp_ge (tgt := 29) C dX7_parts_6 (by decide) (fun hc => ?_) (fun hc => ?_)
  · have h := h.1 hc
    refine V_aload_n C 0 dX7_parts_29 rfl ?_
    refine V_getR C FL_RX7_29 (f7_7 hb) dX7_parts_30 ?_
    refine V_iload_n C 1 dX7_parts_33 rfl ?_
    obtain ⟨b1, h⟩ := h
    refine V_iald C (k7_7 hb) b1 dX7_parts_34 ?_
    refine V_nmI (fun x2 e_x2 => ?_)
    have h := h x2 e_x2
    refine V_istore_n (lv' := [(3, .int x2), (0, vR X b), (1, .int p1), (2, .int v2)]) C (ltN hN (by decide)) dX7_parts_35 rfl ?_
    refine V_iconst C 0 dX7_parts_36 (by decide) ?_
    refine V_istore (lv' := [(4, .int 0), (3, .int x2), (0, vR X b), (1, .int p1), (2, .int v2)]) C (ltN hN (by decide)) dX7_parts_37 rfl ?_
    refine V_sub [2, 3, 4, 1, 0] rfl ?_
    exact Loop.sound (s0 := ((0 : Int32), M)) (P := fun s => V X 39 [(0, vR X b), (1, .int p1), (2, .int v2), (3, .int x2), (4, .int (s.1))] [] (s.2)) h (fun ag hag s hs => s_X7_parts_F39 C hH hN hQ hb  hag hs)
  · have h := h.2 hc
    refine V_iload_n C 2 dX7_parts_9 rfl ?_
    refine V_iconst C 2 dX7_parts_10 (by decide) ?_
    refine V_aload_n C 0 dX7_parts_11 rfl ?_
    refine V_getR C FL_RX7_26 (f7_6 hb) dX7_parts_12 ?_
    refine V_bipush C 120 dX7_parts_15 (by decide) ?_
    refine V_iald C (k7_6 hb) (vp_lit (by decide)) dX7_parts_17 ?_
    refine V_iload_n C 2 dX7_parts_18 rfl ?_
    refine V_imul C dX7_parts_19 ?_
    refine V_isub C dX7_parts_20 ?_
    refine V_imul C dX7_parts_21 ?_
    refine V_nmI (fun x17 e_x17 => ?_)
    have h := h x17 e_x17
    refine V_istore_n (lv' := [(2, .int x17), (0, vR X b), (1, .int p1), (3, .int v3)]) C (ltN hN (by decide)) dX7_parts_22 rfl ?_
    refine V_iinc (v := (v3 + 1)) (lv' := [(3, .int (v3 + 1)), (2, .int x17), (0, vR X b), (1, .int p1)]) C 3 (ltN hN (by decide)) dX7_parts_23 rfl rfl rfl ?_
    refine V_goto (tgt := 4) C dX7_parts_26 (by decide) ?_
    exact V_sub [2, 3, 1, 0] rfl (hag4 (x17, (v3 + 1)) h)
set_option maxRecDepth 20000 in
set_option maxHeartbeats 1000000 in
theorem s_X7_parts {X : wX} (C : CX X cX7_parts RX7 (none)) (hH : xH X = 1) (hN : xN X = 13) {b : Nat} {p1 : Int32} {M : mM} {Q : mM → Prop} (hQ : ∀ M, Q M → xPo X none M) (hb : isC (xW X) 7 b)   (h : p_X7_parts b p1 M Q) : V X 0 [(0, vR X b), (1, .int p1)] [] M := by
  refine V_iconst C 1 dX7_parts_0 (by decide) ?_
  refine V_istore_n (lv' := [(2, .int 1), (0, vR X b), (1, .int p1)]) C (ltN hN (by decide)) dX7_parts_1 rfl ?_
  refine V_iconst C 0 dX7_parts_2 (by decide) ?_
  refine V_istore_n (lv' := [(3, .int 0), (2, .int 1), (0, vR X b), (1, .int p1)]) C (ltN hN (by decide)) dX7_parts_3 rfl ?_
  refine V_sub [2, 3, 1, 0] rfl ?_
  exact Loop.sound (s0 := ((1 : Int32), (0 : Int32))) (P := fun s => V X 4 [(0, vR X b), (1, .int p1), (2, .int (s.1)), (3, .int (s.2))] [] M) h (fun ag hag s hs => s_X7_parts_F4 C hH hN hQ hb  hag hs)
set_option maxRecDepth 20000 in
set_option maxHeartbeats 1000000 in
theorem c_X7_parts {w : wU} {l : Launch} {b : Nat} {p1 : Int32} {M : mM} {Q : mM → Prop} (hb : isC w 7 b) (h : p_X7_parts b p1 M Q) : CT w l 1 yX7_parts cX7_parts 13 (none) [.ref (uA w b), .int p1] M (piV Q) := by
  refine CT.of (by decide +kernel) (Nat.le_of_ble_eq_true rfl) (fun X hw hH hl hP hN C => ?_)
  subst hw
  exact s_X7_parts C hH hN (fun M1 q => by rw [hP]; exact ⟨rfl, q⟩) hb h
set_option maxRecDepth 20000 in
set_option maxHeartbeats 1000000 in
theorem s_X7_lowers_J112 {X : wX} (C : CX X cX7_lowers RX7 (none)) (hH : xH X = 2) (hN : xN X = 2) {b : Nat} {M : mM} {Q : mM → Prop} (hQ : ∀ M, Q M → xPo X none M) (hb : isC (xW X) 7 b) {s0 : Int32} {ag57 : mM → Prop} (hag57 : ∀ s, ag57 s → V X 57 [(0, vR X b)] [] s) (h : p_X7_lowers_J112 b Q ag57 s0 M) : V X 112 [(0, vR X b)] [.int s0] M := by
  refine V_istore_n (lv' := [(1, .int s0), (0, vR X b)]) C (ltN hN (by decide)) dX7_lowers_112 rfl ?_
  refine V_aload_n C 1 dX7_lowers_113 rfl ?_
  refine V_iload_n C 0 dX7_lowers_114 rfl ?_
  refine V_iconst C 5 dX7_lowers_115 (by decide) ?_
  refine V_iload_n C 0 dX7_lowers_116 rfl ?_
  refine V_isub C dX7_lowers_117 ?_
  refine V_callV (As := [.int s0, .int (5 - s0)]) (st := []) C (c_X7_lessens hb h) Y_X7_lessens Z_X7_lessens (T := TX7) (N := 21) rfl (o7 hb) (ltN hH (by decide)) u_238 rfl rfl (Nat.le_of_ble_eq_true rfl) dX7_lowers_118 ?_
  rintro v9 M9 ⟨rfl, h⟩
  show V X 121 _ [] M9
  refine V_aload_n C 1 dX7_lowers_121 rfl ?_
  refine V_getR C FL_RX7_29 (f7_7 hb) dX7_lowers_122 ?_
  refine V_iconst C 3 dX7_lowers_125 (by decide) ?_
  refine V_iald C (k7_7 hb) (vp_lit (by decide)) dX7_lowers_126 ?_
  refine V_if_ne (tgt := 142) C dX7_lowers_127 (by decide) (fun hc => ?_) (fun hc => ?_)
  · have h := h.1 hc
    refine V_goto (tgt := 57) C dX7_lowers_142 (by decide) ?_
    exact V_sub [1] rfl (hag57 M9 h)
  · have h := h.2 hc
    refine V_aload_n C 1 dX7_lowers_130 rfl ?_
    refine V_iconst C 3 dX7_lowers_131 (by decide) ?_
    refine V_iconst C 2 dX7_lowers_132 (by decide) ?_
    refine V_callV (As := [.int 3, .int 2]) (st := []) C (c_X7_copies hb h) Y_X7_copies Z_X7_copies (T := TX7) (N := 21) rfl (o7 hb) (ltN hH (by decide)) u_234 rfl rfl (Nat.le_of_ble_eq_true rfl) dX7_lowers_133 ?_
    rintro v9 M10 ⟨rfl, h⟩
    show V X 136 _ [] M10
    refine V_aload_n C 1 dX7_lowers_136 rfl ?_
    refine V_iconst C 2 dX7_lowers_137 (by decide) ?_
    refine V_lconst C 0 dX7_lowers_138 (by decide) ?_
    refine V_callV (As := [.int 2, .long 0]) (st := []) C (c_X7_sets hb h) Y_X7_sets Z_X7_sets (T := TX7) (N := 21) rfl (o7 hb) (ltN hH (by decide)) u_235 rfl rfl (Nat.le_of_ble_eq_true rfl) dX7_lowers_139 ?_
    rintro v9 M11 ⟨rfl, h⟩
    show V X 142 _ [] M11
    refine V_goto (tgt := 57) C dX7_lowers_142 (by decide) ?_
    exact V_sub [1] rfl (hag57 M11 h)
set_option maxRecDepth 20000 in
set_option maxHeartbeats 1000000 in
theorem s_X7_lowers_F82 {X : wX} (C : CX X cX7_lowers RX7 (none)) (hH : xH X = 2) (hN : xN X = 2) {b : Nat} {M : mM} {Q : mM → Prop} (hQ : ∀ M, Q M → xPo X none M) (hb : isC (xW X) 7 b) {ag57 : mM → Prop} {ag82 : mM → Prop} (hag57 : ∀ s, ag57 s → V X 57 [(0, vR X b)] [] s) (hag82 : ∀ s, ag82 s → V X 82 [(0, vR X b)] [] s) (h : p_X7_lowers_F82 b  Q ag57 ag82  M) : V X 82 [(0, vR X b)] [] M := by
  refine V_aload_n C 0 dX7_lowers_82 rfl ?_
  refine V_iconst C 3 dX7_lowers_83 (by decide) ?_
  refine V_callV (As := [.int 3]) (st := []) C (c_X7_isEven hb h) Y_X7_isEven Z_X7_isEven (T := TX7) (N := 21) rfl (o7 hb) (ltN hH (by decide)) u_241 rfl rfl (Nat.le_of_ble_eq_true rfl) dX7_lowers_84 ?_
  rintro v9 M9 ⟨rfl, r7, rfl, h⟩
  show V X 87 _ [.int r7] M
  refine V_if_eq (tgt := 98) C dX7_lowers_87 (by decide) (fun hc => ?_) (fun hc => ?_)
  · have h := h.1 hc
    refine V_aload_n C 0 dX7_lowers_98 rfl ?_
    refine V_iconst C 2 dX7_lowers_99 (by decide) ?_
    refine V_iconst C 3 dX7_lowers_100 (by decide) ?_
    refine V_callV (As := [.int 2, .int 3]) (st := []) C (c_X7_against hb h) Y_X7_against Z_X7_against (T := TX7) (N := 21) rfl (o7 hb) (ltN hH (by decide)) u_239 rfl rfl (Nat.le_of_ble_eq_true rfl) dX7_lowers_101 ?_
    rintro v9 M9 ⟨rfl, r8, rfl, h⟩
    show V X 104 _ [.int r8] M
    refine V_if_lt (tgt := 111) C dX7_lowers_104 (by decide) (fun hc => ?_) (fun hc => ?_)
    · have h := h.1 hc
      refine V_iconst C 3 dX7_lowers_111 (by decide) ?_
      exact V_sub [0] rfl (s_X7_lowers_J112 C hH hN hQ hb hag57  h)
    · have h := h.2 hc
      refine V_iconst C 2 dX7_lowers_107 (by decide) ?_
      refine V_goto (tgt := 112) C dX7_lowers_108 (by decide) ?_
      exact V_sub [0] rfl (s_X7_lowers_J112 C hH hN hQ hb hag57  h)
  · have h := h.2 hc
    refine V_aload_n C 0 dX7_lowers_90 rfl ?_
    refine V_iconst C 3 dX7_lowers_91 (by decide) ?_
    refine V_callV (As := [.int 3]) (st := []) C (c_X7_halves hb h) Y_X7_halves Z_X7_halves (T := TX7) (N := 21) rfl (o7 hb) (ltN hH (by decide)) u_240 rfl rfl (Nat.le_of_ble_eq_true rfl) dX7_lowers_92 ?_
    rintro v9 M12 ⟨rfl, h⟩
    show V X 95 _ [] M12
    refine V_goto (tgt := 82) C dX7_lowers_95 (by decide) ?_
    exact V_sub [0] rfl (hag82 M12 h)
set_option maxRecDepth 20000 in
set_option maxHeartbeats 1000000 in
theorem s_X7_lowers_F66 {X : wX} (C : CX X cX7_lowers RX7 (none)) (hH : xH X = 2) (hN : xN X = 2) {b : Nat} {M : mM} {Q : mM → Prop} (hQ : ∀ M, Q M → xPo X none M) (hb : isC (xW X) 7 b) {ag57 : mM → Prop} {ag66 : mM → Prop} (hag57 : ∀ s, ag57 s → V X 57 [(0, vR X b)] [] s) (hag66 : ∀ s, ag66 s → V X 66 [(0, vR X b)] [] s) (h : p_X7_lowers_F66 b  Q ag57 ag66  M) : V X 66 [(0, vR X b)] [] M := by
  refine V_aload_n C 0 dX7_lowers_66 rfl ?_
  refine V_iconst C 2 dX7_lowers_67 (by decide) ?_
  refine V_callV (As := [.int 2]) (st := []) C (c_X7_isEven hb h) Y_X7_isEven Z_X7_isEven (T := TX7) (N := 21) rfl (o7 hb) (ltN hH (by decide)) u_241 rfl rfl (Nat.le_of_ble_eq_true rfl) dX7_lowers_68 ?_
  rintro v9 M9 ⟨rfl, r6, rfl, h⟩
  show V X 71 _ [.int r6] M
  refine V_if_eq (tgt := 82) C dX7_lowers_71 (by decide) (fun hc => ?_) (fun hc => ?_)
  · have h := h.1 hc
    refine V_sub [0] rfl ?_
    exact Loop.sound (s0 := M) (P := fun s => V X 82 [(0, vR X b)] [] s) h (fun ag hag s hs => s_X7_lowers_F82 C hH hN hQ hb hag57 hag hs)
  · have h := h.2 hc
    refine V_aload_n C 0 dX7_lowers_74 rfl ?_
    refine V_iconst C 2 dX7_lowers_75 (by decide) ?_
    refine V_callV (As := [.int 2]) (st := []) C (c_X7_halves hb h) Y_X7_halves Z_X7_halves (T := TX7) (N := 21) rfl (o7 hb) (ltN hH (by decide)) u_240 rfl rfl (Nat.le_of_ble_eq_true rfl) dX7_lowers_76 ?_
    rintro v9 M13 ⟨rfl, h⟩
    show V X 79 _ [] M13
    refine V_goto (tgt := 66) C dX7_lowers_79 (by decide) ?_
    exact V_sub [0] rfl (hag66 M13 h)
set_option maxRecDepth 20000 in
set_option maxHeartbeats 1000000 in
theorem s_X7_lowers_F57 {X : wX} (C : CX X cX7_lowers RX7 (none)) (hH : xH X = 2) (hN : xN X = 2) {b : Nat} {M : mM} {Q : mM → Prop} (hQ : ∀ M, Q M → xPo X none M) (hb : isC (xW X) 7 b) {ag57 : mM → Prop} (hag57 : ∀ s, ag57 s → V X 57 [(0, vR X b)] [] s) (h : p_X7_lowers_F57 b  Q  ag57  M) : V X 57 [(0, vR X b)] [] M := by
  refine V_aload_n C 0 dX7_lowers_57 rfl ?_
  refine V_getR C FL_RX7_29 (f7_7 hb) dX7_lowers_58 ?_
  refine V_iconst C 2 dX7_lowers_61 (by decide) ?_
  refine V_iald C (k7_7 hb) (vp_lit (by decide)) dX7_lowers_62 ?_
  refine V_if_le (tgt := 145) C dX7_lowers_63 (by decide) (fun hc => ?_) (fun hc => ?_)
  · have h := h.1 hc
    refine V_aload_n C 0 dX7_lowers_145 rfl ?_
    refine V_iconst C 0 dX7_lowers_146 (by decide) ?_
    refine V_callV (As := [.int 0]) (st := []) C (c_X7_parts hb h) Y_X7_parts Z_X7_parts (T := TX7) (N := 21) rfl (o7 hb) (ltN hH (by decide)) u_237 rfl rfl (Nat.le_of_ble_eq_true rfl) dX7_lowers_147 ?_
    rintro v9 M4 ⟨rfl, h⟩
    show V X 150 _ [] M4
    refine V_aload_n C 0 dX7_lowers_150 rfl ?_
    refine V_iconst C 1 dX7_lowers_151 (by decide) ?_
    refine V_callV (As := [.int 1]) (st := []) C (c_X7_parts hb h) Y_X7_parts Z_X7_parts (T := TX7) (N := 21) rfl (o7 hb) (ltN hH (by decide)) u_237 rfl rfl (Nat.le_of_ble_eq_true rfl) dX7_lowers_152 ?_
    rintro v9 M5 ⟨rfl, h⟩
    show V X 155 _ [] M5
    exact V_vret C dX7_lowers_155 (hQ _ h)
  · have h := h.2 hc
    refine V_sub [0] rfl ?_
    exact Loop.sound (s0 := M) (P := fun s => V X 66 [(0, vR X b)] [] s) h (fun ag hag s hs => s_X7_lowers_F66 C hH hN hQ hb hag57 hag hs)
set_option maxRecDepth 20000 in
set_option maxHeartbeats 1000000 in
theorem s_X7_lowers_J45 {X : wX} (C : CX X cX7_lowers RX7 (none)) (hH : xH X = 2) (hN : xN X = 2) {b : Nat} {M : mM} {Q : mM → Prop} (hQ : ∀ M, Q M → xPo X none M) (hb : isC (xW X) 7 b)   (h : p_X7_lowers_J45 b Q   M) : V X 45 [(0, vR X b)] [] M := by
  refine V_aload_n C 0 dX7_lowers_45 rfl ?_
  refine V_iconst C 2 dX7_lowers_46 (by decide) ?_
  refine V_iconst C 0 dX7_lowers_47 (by decide) ?_
  refine V_callV (As := [.int 2, .int 0]) (st := []) C (c_X7_copies hb h) Y_X7_copies Z_X7_copies (T := TX7) (N := 21) rfl (o7 hb) (ltN hH (by decide)) u_234 rfl rfl (Nat.le_of_ble_eq_true rfl) dX7_lowers_48 ?_
  rintro v9 M2 ⟨rfl, h⟩
  show V X 51 _ [] M2
  refine V_aload_n C 0 dX7_lowers_51 rfl ?_
  refine V_iconst C 3 dX7_lowers_52 (by decide) ?_
  refine V_iconst C 1 dX7_lowers_53 (by decide) ?_
  refine V_callV (As := [.int 3, .int 1]) (st := []) C (c_X7_copies hb h) Y_X7_copies Z_X7_copies (T := TX7) (N := 21) rfl (o7 hb) (ltN hH (by decide)) u_234 rfl rfl (Nat.le_of_ble_eq_true rfl) dX7_lowers_54 ?_
  rintro v9 M3 ⟨rfl, h⟩
  show V X 57 _ [] M3
  refine V_sub [0] rfl ?_
  exact Loop.sound (s0 := M3) (P := fun s => V X 57 [(0, vR X b)] [] s) h (fun ag hag s hs => s_X7_lowers_F57 C hH hN hQ hb  hag hs)
set_option maxRecDepth 20000 in
set_option maxHeartbeats 1000000 in
theorem s_X7_lowers_F16 {X : wX} (C : CX X cX7_lowers RX7 (none)) (hH : xH X = 2) (hN : xN X = 2) {b : Nat} {M : mM} {Q : mM → Prop} (hQ : ∀ M, Q M → xPo X none M) (hb : isC (xW X) 7 b) {ag16 : mM → Prop} (hag16 : ∀ s, ag16 s → V X 16 [(0, vR X b)] [] s) (h : p_X7_lowers_F16 b  Q  ag16  M) : V X 16 [(0, vR X b)] [] M := by
  refine V_aload_n C 0 dX7_lowers_16 rfl ?_
  refine V_iconst C 0 dX7_lowers_17 (by decide) ?_
  refine V_callV (As := [.int 0]) (st := []) C (c_X7_isEven hb h) Y_X7_isEven Z_X7_isEven (T := TX7) (N := 21) rfl (o7 hb) (ltN hH (by decide)) u_241 rfl rfl (Nat.le_of_ble_eq_true rfl) dX7_lowers_18 ?_
  rintro v9 M9 ⟨rfl, r1, rfl, h⟩
  show V X 21 _ [.int r1] M
  refine V_if_eq (tgt := 45) C dX7_lowers_21 (by decide) (fun hc => ?_) (fun hc => ?_)
  · have h := h.1 hc
    exact V_sub [0] rfl (s_X7_lowers_J45 C hH hN hQ hb   h)
  · have h := h.2 hc
    refine V_aload_n C 0 dX7_lowers_24 rfl ?_
    refine V_iconst C 1 dX7_lowers_25 (by decide) ?_
    refine V_callV (As := [.int 1]) (st := []) C (c_X7_isEven hb h) Y_X7_isEven Z_X7_isEven (T := TX7) (N := 21) rfl (o7 hb) (ltN hH (by decide)) u_241 rfl rfl (Nat.le_of_ble_eq_true rfl) dX7_lowers_26 ?_
    rintro v9 M9 ⟨rfl, r14, rfl, h⟩
    show V X 29 _ [.int r14] M
    refine V_if_eq (tgt := 45) C dX7_lowers_29 (by decide) (fun hc => ?_) (fun hc => ?_)
    · have h := h.1 hc
      exact V_sub [0] rfl (s_X7_lowers_J45 C hH hN hQ hb   h)
    · have h := h.2 hc
      refine V_aload_n C 0 dX7_lowers_32 rfl ?_
      refine V_iconst C 0 dX7_lowers_33 (by decide) ?_
      refine V_callV (As := [.int 0]) (st := []) C (c_X7_halves hb h) Y_X7_halves Z_X7_halves (T := TX7) (N := 21) rfl (o7 hb) (ltN hH (by decide)) u_240 rfl rfl (Nat.le_of_ble_eq_true rfl) dX7_lowers_34 ?_
      rintro v9 M15 ⟨rfl, h⟩
      show V X 37 _ [] M15
      refine V_aload_n C 0 dX7_lowers_37 rfl ?_
      refine V_iconst C 1 dX7_lowers_38 (by decide) ?_
      refine V_callV (As := [.int 1]) (st := []) C (c_X7_halves hb h) Y_X7_halves Z_X7_halves (T := TX7) (N := 21) rfl (o7 hb) (ltN hH (by decide)) u_240 rfl rfl (Nat.le_of_ble_eq_true rfl) dX7_lowers_39 ?_
      rintro v9 M16 ⟨rfl, h⟩
      show V X 42 _ [] M16
      refine V_goto (tgt := 16) C dX7_lowers_42 (by decide) ?_
      exact V_sub [0] rfl (hag16 M16 h)
set_option maxRecDepth 20000 in
set_option maxHeartbeats 1000000 in
theorem s_X7_lowers {X : wX} (C : CX X cX7_lowers RX7 (none)) (hH : xH X = 2) (hN : xN X = 2) {b : Nat} {M : mM} {Q : mM → Prop} (hQ : ∀ M, Q M → xPo X none M) (hb : isC (xW X) 7 b)   (h : p_X7_lowers b M Q) : V X 0 [(0, vR X b)] [] M := by
  refine V_aload_n C 0 dX7_lowers_0 rfl ?_
  refine V_getR C FL_RX7_29 (f7_7 hb) dX7_lowers_1 ?_
  refine V_iconst C 0 dX7_lowers_4 (by decide) ?_
  refine V_iald C (k7_7 hb) (vp_lit (by decide)) dX7_lowers_5 ?_
  refine V_if_ne (tgt := 16) C dX7_lowers_6 (by decide) (fun hc => ?_) (fun hc => ?_)
  · have h := h.1 hc
    refine V_sub [0] rfl ?_
    exact Loop.sound (s0 := M) (P := fun s => V X 16 [(0, vR X b)] [] s) h (fun ag hag s hs => s_X7_lowers_F16 C hH hN hQ hb  hag hs)
  · have h := h.2 hc
    refine V_aload_n C 0 dX7_lowers_9 rfl ?_
    refine V_iconst C 1 dX7_lowers_10 (by decide) ?_
    refine V_lconst C 1 dX7_lowers_11 (by decide) ?_
    refine V_callV (As := [.int 1, .long 1]) (st := []) C (c_X7_sets hb h) Y_X7_sets Z_X7_sets (T := TX7) (N := 21) rfl (o7 hb) (ltN hH (by decide)) u_235 rfl rfl (Nat.le_of_ble_eq_true rfl) dX7_lowers_12 ?_
    rintro v9 M17 ⟨rfl, h⟩
    show V X 15 _ [] M17
    exact V_vret C dX7_lowers_15 (hQ _ h)
set_option maxRecDepth 20000 in
set_option maxHeartbeats 1000000 in
theorem c_X7_lowers {w : wU} {l : Launch} {b : Nat} {M : mM} {Q : mM → Prop} (hb : isC w 7 b) (h : p_X7_lowers b M Q) : CT w l 2 yX7_lowers cX7_lowers 2 (none) [.ref (uA w b)] M (piV Q) := by
  refine CT.of (by decide +kernel) (Nat.le_of_ble_eq_true rfl) (fun X hw hH hl hP hN C => ?_)
  subst hw
  exact s_X7_lowers C hH hN (fun M1 q => by rw [hP]; exact ⟨rfl, q⟩) hb h
set_option maxRecDepth 20000 in
set_option maxHeartbeats 1000000 in
theorem s_X7_sign {X : wX} (C : CX X cX7_sign RX7 (some .int)) (hH : xH X = 2) (hN : xN X = 2) {b : Nat} {p1 : Int32} {M : mM} {Q : Int32 → mM → Prop} (hQ : ∀ r M, Q r M → xPo X (some (.int r)) M) (hb : isC (xW X) 7 b)   (h : p_X7_sign b p1 M Q) : V X 0 [(0, vR X b), (1, .int p1)] [] M := by
  refine V_iload_n C 1 dX7_sign_0 rfl ?_
  refine V_if_ne (tgt := 21) C dX7_sign_1 (by decide) (fun hc => ?_) (fun hc => ?_)
  · have h := h.1 hc
    refine V_iload_n C 1 dX7_sign_21 rfl ?_
    refine V_iconst C 1 dX7_sign_22 (by decide) ?_
    refine V_icmp_ne (tgt := 35) C dX7_sign_23 (by decide) (fun hc => ?_) (fun hc => ?_)
    · have h := h.1 hc
      refine V_iload_n C 1 dX7_sign_35 rfl ?_
      refine V_iconst C 2 dX7_sign_36 (by decide) ?_
      refine V_icmp_ne (tgt := 49) C dX7_sign_37 (by decide) (fun hc => ?_) (fun hc => ?_)
      · have h := h.1 hc
        refine V_aload_n C 0 dX7_sign_49 rfl ?_
        refine V_callV (As := []) (st := []) C (c_X7_bad hb h) Y_X7_bad Z_X7_bad (T := TX7) (N := 21) rfl (o7 hb) (ltN hH (by decide)) u_242 rfl rfl (Nat.le_of_ble_eq_true rfl) dX7_sign_50 ?_
        rintro v9 M1 ⟨r2, rfl, h⟩
        show V X 53 _ [.int r2] M1
        exact V_iret C dX7_sign_53 (hQ _ _ h)
      · have h := h.2 hc
        refine V_aload_n C 0 dX7_sign_40 rfl ?_
        refine V_getR C FL_RX7_29 (f7_7 hb) dX7_sign_41 ?_
        refine V_iconst C 1 dX7_sign_44 (by decide) ?_
        refine V_iald C (k7_7 hb) (vp_lit (by decide)) dX7_sign_45 ?_
        refine V_goto (tgt := 53) C dX7_sign_46 (by decide) ?_
        exact V_iret C dX7_sign_53 (hQ _ _ h)
    · have h := h.2 hc
      refine V_aload_n C 0 dX7_sign_26 rfl ?_
      refine V_getR C FL_RX7_29 (f7_7 hb) dX7_sign_27 ?_
      refine V_iconst C 0 dX7_sign_30 (by decide) ?_
      refine V_iald C (k7_7 hb) (vp_lit (by decide)) dX7_sign_31 ?_
      refine V_goto (tgt := 53) C dX7_sign_32 (by decide) ?_
      exact V_iret C dX7_sign_53 (hQ _ _ h)
  · have h := h.2 hc
    refine V_aload_n C 0 dX7_sign_4 rfl ?_
    refine V_getR C FL_RX7_29 (f7_7 hb) dX7_sign_5 ?_
    refine V_iconst C 0 dX7_sign_8 (by decide) ?_
    refine V_iald C (k7_7 hb) (vp_lit (by decide)) dX7_sign_9 ?_
    refine V_if_le (tgt := 17) C dX7_sign_10 (by decide) (fun hc => ?_) (fun hc => ?_)
    · have h := h.1 hc
      refine V_iconst C 0 dX7_sign_17 (by decide) ?_
      refine V_goto (tgt := 53) C dX7_sign_18 (by decide) ?_
      exact V_iret C dX7_sign_53 (hQ _ _ h)
    · have h := h.2 hc
      refine V_iconst C 1 dX7_sign_13 (by decide) ?_
      refine V_goto (tgt := 53) C dX7_sign_14 (by decide) ?_
      exact V_iret C dX7_sign_53 (hQ _ _ h)
set_option maxRecDepth 20000 in
set_option maxHeartbeats 1000000 in
theorem c_X7_sign {w : wU} {l : Launch} {b : Nat} {p1 : Int32} {M : mM} {Q : Int32 → mM → Prop} (hb : isC w 7 b) (h : p_X7_sign b p1 M Q) : CT w l 2 yX7_sign cX7_sign 2 (some .int) [.ref (uA w b), .int p1] M (piI Q) := by
  refine CT.of (by decide +kernel) (Nat.le_of_ble_eq_true rfl) (fun X hw hH hl hP hN C => ?_)
  subst hw
  exact s_X7_sign C hH hN (fun r M1 q => by rw [hP]; exact ⟨r, rfl, q⟩) hb h
set_option maxRecDepth 20000 in
set_option maxHeartbeats 1000000 in
theorem s_X7_limb {X : wX} (C : CX X cX7_limb RX7 (some .int)) (hH : xH X = 2) (hN : xN X = 3) {b : Nat} {p1 : Int32} {p2 : Int32} {M : mM} {Q : Int32 → mM → Prop} (hQ : ∀ r M, Q r M → xPo X (some (.int r)) M) (hb : isC (xW X) 7 b)   (h : p_X7_limb b p1 p2 M Q) : V X 0 [(0, vR X b), (1, .int p1), (2, .int p2)] [] M := by
  refine V_iload_n C 1 dX7_limb_0 rfl ?_
  refine V_i2l C dX7_limb_1 ?_
  refine V_lconst C 0 dX7_limb_2 (by decide) ?_
  refine V_lconst C 1 dX7_limb_3 (by decide) ?_
  refine V_callS (As := [.long (p1.toInt64), .long 0, .long 1]) (st := []) C (c_X7_in  h) Y_X7_in Z_X7_in (ltN hH (by decide)) u_243 rfl rfl (Nat.le_of_ble_eq_true rfl) dX7_limb_4 ?_
  rintro v9 M9 ⟨rfl, r1, rfl, h⟩
  show V X 7 _ [.int r1] M
  refine V_if_eq (tgt := 14) C dX7_limb_7 (by decide) (fun hc => ?_) (fun hc => ?_)
  · have h := h.1 hc
    refine V_aload_n C 0 dX7_limb_14 rfl ?_
    refine V_callV (As := []) (st := []) C (c_X7_bad hb h) Y_X7_bad Z_X7_bad (T := TX7) (N := 21) rfl (o7 hb) (ltN hH (by decide)) u_242 rfl rfl (Nat.le_of_ble_eq_true rfl) dX7_limb_15 ?_
    rintro v9 M2 ⟨r3, rfl, h⟩
    show V X 18 _ [.int r3] M2
    exact V_iret C dX7_limb_18 (hQ _ _ h)
  · have h := h.2 hc
    refine V_iload_n C 2 dX7_limb_10 rfl ?_
    refine V_if_ge (tgt := 19) C dX7_limb_11 (by decide) (fun hc => ?_) (fun hc => ?_)
    · have h := h.1 hc
      refine V_iload_n C 2 dX7_limb_19 rfl ?_
      refine V_aload_n C 0 dX7_limb_20 rfl ?_
      refine V_getR C FL_RX7_29 (f7_7 hb) dX7_limb_21 ?_
      refine V_iload_n C 1 dX7_limb_24 rfl ?_
      obtain ⟨b4, h⟩ := h
      refine V_iald C (k7_7 hb) b4 dX7_limb_25 ?_
      refine V_icmp_ge (tgt := 43) C dX7_limb_26 (by decide) (fun hc => ?_) (fun hc => ?_)
      · have h := h.1 hc
        refine V_iconst C (-1) dX7_limb_43 (by decide) ?_
        exact V_iret C dX7_limb_44 (hQ _ _ h)
      · have h := h.2 hc
        refine V_aload_n C 0 dX7_limb_29 rfl ?_
        refine V_getR C FL_RX7_26 (f7_6 hb) dX7_limb_30 ?_
        refine V_bipush C 40 dX7_limb_33 (by decide) ?_
        refine V_iload_n C 1 dX7_limb_35 rfl ?_
        refine V_imul C dX7_limb_36 ?_
        refine V_iload_n C 2 dX7_limb_37 rfl ?_
        refine V_iadd C dX7_limb_38 ?_
        obtain ⟨b5, h⟩ := h
        refine V_iald C (k7_6 hb) b5 dX7_limb_39 ?_
        refine V_goto (tgt := 44) C dX7_limb_40 (by decide) ?_
        exact V_iret C dX7_limb_44 (hQ _ _ h)
    · have h := h.2 hc
      refine V_aload_n C 0 dX7_limb_14 rfl ?_
      refine V_callV (As := []) (st := []) C (c_X7_bad hb h) Y_X7_bad Z_X7_bad (T := TX7) (N := 21) rfl (o7 hb) (ltN hH (by decide)) u_242 rfl rfl (Nat.le_of_ble_eq_true rfl) dX7_limb_15 ?_
      rintro v9 M6 ⟨r7, rfl, h⟩
      show V X 18 _ [.int r7] M6
      exact V_iret C dX7_limb_18 (hQ _ _ h)
set_option maxRecDepth 20000 in
set_option maxHeartbeats 1000000 in
theorem c_X7_limb {w : wU} {l : Launch} {b : Nat} {p1 : Int32} {p2 : Int32} {M : mM} {Q : Int32 → mM → Prop} (hb : isC w 7 b) (h : p_X7_limb b p1 p2 M Q) : CT w l 2 yX7_limb cX7_limb 3 (some .int) [.ref (uA w b), .int p1, .int p2] M (piI Q) := by
  refine CT.of (by decide +kernel) (Nat.le_of_ble_eq_true rfl) (fun X hw hH hl hP hN C => ?_)
  subst hw
  exact s_X7_limb C hH hN (fun r M1 q => by rw [hP]; exact ⟨r, rfl, q⟩) hb h
set_option maxRecDepth 20000 in
set_option maxHeartbeats 1000000 in
theorem s_X7_puts {X : wX} (C : CX X cX7_puts RX7 (some .int)) (hH : xH X = 0) (hN : xN X = 4) {b : Nat} {p1 : Int32} {p2 : Int32} {M : mM} {Q : Int32 → mM → Prop} (hQ : ∀ r M, Q r M → xPo X (some (.int r)) M) (hb : isC (xW X) 7 b)   (h : p_X7_puts b p1 p2 M Q) : V X 0 [(0, vR X b), (1, .int p1), (2, .int p2)] [] M := by
  refine V_aload_n C 0 dX7_puts_0 rfl ?_
  refine V_getR C FL_RX7_7 (f7_0 hb) dX7_puts_1 ?_
  refine V_iload_n C 1 dX7_puts_4 rfl ?_
  obtain ⟨b1, h⟩ := h
  refine V_iald C (k7_1 hb) b1 dX7_puts_5 ?_
  refine V_nmI (fun x2 e_x2 => ?_)
  have h := h x2 e_x2
  refine V_istore_n (lv' := [(3, .int x2), (0, vR X b), (1, .int p1), (2, .int p2)]) C (ltN hN (by decide)) dX7_puts_6 rfl ?_
  refine V_aload_n C 1 dX7_puts_7 rfl ?_
  refine V_getR C FL_RX7_7 (f7_0 hb) dX7_puts_8 ?_
  refine V_iload_n C 2 dX7_puts_11 rfl ?_
  refine V_iload_n C 3 dX7_puts_12 rfl ?_
  obtain ⟨b4, h⟩ := h
  refine V_iast C (k7_1 hb) b4 dX7_puts_13 ?_
  refine V_nmM (fun M3 e_M3 => ?_)
  have h := h M3 e_M3
  refine V_iload_n C 0 dX7_puts_14 rfl ?_
  exact V_iret C dX7_puts_15 (hQ _ _ h)
set_option maxRecDepth 20000 in
set_option maxHeartbeats 1000000 in
theorem c_X7_puts {w : wU} {l : Launch} {b : Nat} {p1 : Int32} {p2 : Int32} {M : mM} {Q : Int32 → mM → Prop} (hb : isC w 7 b) (h : p_X7_puts b p1 p2 M Q) : CT w l 0 yX7_puts cX7_puts 4 (some .int) [.ref (uA w b), .int p1, .int p2] M (piI Q) := by
  refine CT.of (by decide +kernel) (Nat.le_of_ble_eq_true rfl) (fun X hw hH hl hP hN C => ?_)
  subst hw
  exact s_X7_puts C hH hN (fun r M1 q => by rw [hP]; exact ⟨r, rfl, q⟩) hb h
set_option maxRecDepth 20000 in
set_option maxHeartbeats 1000000 in
theorem s_X7_isCell {X : wX} (C : CX X cX7_isCell RX7 (some .boolean)) (hH : xH X = 1) (hN : xN X = 1) {p1 : Int32} {M : mM} {Q : Int32 → Prop} (hQ : ∀ r, Q r → xPo X (some (.int r)) M)    (h : p_X7_isCell p1 M Q) : V X 0 [(0, .int p1)] [] M := by
  refine V_iload_n C 0 dX7_isCell_0 rfl ?_
  refine V_i2l C dX7_isCell_1 ?_
  refine V_lconst C 0 dX7_isCell_2 (by decide) ?_
  refine V_ldc2 C u_244 dX7_isCell_3 ?_
  refine V_callS (As := [.long (p1.toInt64), .long 0, .long 47]) (st := []) C (c_X7_in  h) Y_X7_in Z_X7_in (ltN hH (by decide)) u_243 rfl rfl (Nat.le_of_ble_eq_true rfl) dX7_isCell_6 ?_
  rintro v9 M9 ⟨rfl, r1, rfl, h⟩
  show V X 9 _ [.int r1] M
  exact V_zret C rfl h.1 dX7_isCell_9 (hQ _ h.2)
set_option maxRecDepth 20000 in
set_option maxHeartbeats 1000000 in
theorem c_X7_isCell {w : wU} {l : Launch} {p1 : Int32} {M : mM} {Q : Int32 → Prop}  (h : p_X7_isCell p1 M Q) : CT w l 1 yX7_isCell cX7_isCell 1 (some .boolean) [.int p1] M (poI M Q) := by
  refine CT.of (by decide +kernel) (Nat.le_of_ble_eq_true rfl) (fun X hw hH hl hP hN C => ?_)
  subst hw
  exact s_X7_isCell C hH hN (fun r q => by rw [hP]; exact ⟨rfl, r, rfl, q⟩)  h
set_option maxRecDepth 20000 in
set_option maxHeartbeats 1000000 in
theorem s_X7_isStuff {X : wX} (C : CX X cX7_isStuff RX7 (some .boolean)) (hH : xH X = 1) (hN : xN X = 2) {b : Nat} {p1 : Int32} {M : mM} {Q : Int32 → Prop} (hQ : ∀ r, Q r → xPo X (some (.int r)) M) (hb : isC (xW X) 7 b)   (h : p_X7_isStuff b p1 M Q) : V X 0 [(0, vR X b), (1, .int p1)] [] M := by
  refine V_iload_n C 1 dX7_isStuff_0 rfl ?_
  refine V_i2l C dX7_isStuff_1 ?_
  refine V_lconst C 0 dX7_isStuff_2 (by decide) ?_
  refine V_aload_n C 0 dX7_isStuff_3 rfl ?_
  refine V_getR C FL_RX7_7 (f7_0 hb) dX7_isStuff_4 ?_
  refine V_iconst C 0 dX7_isStuff_7 (by decide) ?_
  refine V_iald C (k7_1 hb) (vp_lit (by decide)) dX7_isStuff_8 ?_
  refine V_iconst C 1 dX7_isStuff_9 (by decide) ?_
  refine V_isub C dX7_isStuff_10 ?_
  refine V_i2l C dX7_isStuff_11 ?_
  refine V_callS (As := [.long (p1.toInt64), .long 0, .long (((M.1 (b + 1) (0 : Int32).toNatClampNeg) - 1).toInt64)]) (st := []) C (c_X7_in  h) Y_X7_in Z_X7_in (ltN hH (by decide)) u_243 rfl rfl (Nat.le_of_ble_eq_true rfl) dX7_isStuff_12 ?_
  rintro v9 M9 ⟨rfl, r1, rfl, h⟩
  show V X 15 _ [.int r1] M
  exact V_zret C rfl h.1 dX7_isStuff_15 (hQ _ h.2)
set_option maxRecDepth 20000 in
set_option maxHeartbeats 1000000 in
theorem c_X7_isStuff {w : wU} {l : Launch} {b : Nat} {p1 : Int32} {M : mM} {Q : Int32 → Prop} (hb : isC w 7 b) (h : p_X7_isStuff b p1 M Q) : CT w l 1 yX7_isStuff cX7_isStuff 2 (some .boolean) [.ref (uA w b), .int p1] M (poI M Q) := by
  refine CT.of (by decide +kernel) (Nat.le_of_ble_eq_true rfl) (fun X hw hH hl hP hN C => ?_)
  subst hw
  exact s_X7_isStuff C hH hN (fun r q => by rw [hP]; exact ⟨rfl, r, rfl, q⟩) hb h
set_option maxRecDepth 20000 in
set_option maxHeartbeats 1000000 in
theorem s_X7_ofStuff {X : wX} (C : CX X cX7_ofStuff RX7 (some .int)) (hH : xH X = 0) (hN : xN X = 3) {b : Nat} {p1 : Int32} {p2 : Int32} {M : mM} {Q : Int32 → Prop} (hQ : ∀ r, Q r → xPo X (some (.int r)) M) (hb : isC (xW X) 7 b)   (h : p_X7_ofStuff b p1 p2 M Q) : V X 0 [(0, vR X b), (1, .int p1), (2, .int p2)] [] M := by
  refine V_aload_n C 0 dX7_ofStuff_0 rfl ?_
  refine V_getR C FL_RX7_7 (f7_0 hb) dX7_ofStuff_1 ?_
  refine V_bipush C 40 dX7_ofStuff_4 (by decide) ?_
  refine V_iconst C 4 dX7_ofStuff_6 (by decide) ?_
  refine V_iload_n C 1 dX7_ofStuff_7 rfl ?_
  refine V_imul C dX7_ofStuff_8 ?_
  refine V_iadd C dX7_ofStuff_9 ?_
  refine V_iload_n C 2 dX7_ofStuff_10 rfl ?_
  refine V_iadd C dX7_ofStuff_11 ?_
  obtain ⟨b1, h⟩ := h
  refine V_iald C (k7_1 hb) b1 dX7_ofStuff_12 ?_
  exact V_iret C dX7_ofStuff_13 (hQ _ h)
set_option maxRecDepth 20000 in
set_option maxHeartbeats 1000000 in
theorem c_X7_ofStuff {w : wU} {l : Launch} {b : Nat} {p1 : Int32} {p2 : Int32} {M : mM} {Q : Int32 → Prop} (hb : isC w 7 b) (h : p_X7_ofStuff b p1 p2 M Q) : CT w l 0 yX7_ofStuff cX7_ofStuff 3 (some .int) [.ref (uA w b), .int p1, .int p2] M (poI M Q) := by
  refine CT.of (by decide +kernel) (Nat.le_of_ble_eq_true rfl) (fun X hw hH hl hP hN C => ?_)
  subst hw
  exact s_X7_ofStuff C hH hN (fun r q => by rw [hP]; exact ⟨rfl, r, rfl, q⟩) hb h
set_option maxRecDepth 20000 in
set_option maxHeartbeats 1000000 in
theorem s_X7_stuff {X : wX} (C : CX X cX7_stuff RX7 (some .int)) (hH : xH X = 2) (hN : xN X = 6) {b : Nat} {p1 : Int32} {p2 : Int32} {p3 : Int32} {p4 : Int32} {M : mM} {Q : Int32 → mM → Prop} (hQ : ∀ r M, Q r M → xPo X (some (.int r)) M) (hb : isC (xW X) 7 b)   (h : p_X7_stuff b p1 p2 p3 p4 M Q) : V X 0 [(0, vR X b), (1, .int p1), (2, .int p2), (3, .int p3), (4, .int p4)] [] M := by
  refine V_iload_n C 1 dX7_stuff_0 rfl ?_
  refine V_i2l C dX7_stuff_1 ?_
  refine V_lconst C 1 dX7_stuff_2 (by decide) ?_
  refine V_ldc2 C u_245 dX7_stuff_3 ?_
  refine V_callS (As := [.long (p1.toInt64), .long 1, .long 60]) (st := []) C (c_X7_in  h) Y_X7_in Z_X7_in (ltN hH (by decide)) u_243 rfl rfl (Nat.le_of_ble_eq_true rfl) dX7_stuff_6 ?_
  rintro v9 M9 ⟨rfl, r1, rfl, h⟩
  show V X 9 _ [.int r1] M
  refine V_if_eq (tgt := 49) C dX7_stuff_9 (by decide) (fun hc => ?_) (fun hc => ?_)
  · have h := h.1 hc
    refine V_aload_n C 0 dX7_stuff_49 rfl ?_
    refine V_callV (As := []) (st := []) C (c_X7_bad hb h) Y_X7_bad Z_X7_bad (T := TX7) (N := 21) rfl (o7 hb) (ltN hH (by decide)) u_242 rfl rfl (Nat.le_of_ble_eq_true rfl) dX7_stuff_50 ?_
    rintro v9 M2 ⟨r3, rfl, h⟩
    show V X 53 _ [.int r3] M2
    exact V_iret C dX7_stuff_53 (hQ _ _ h)
  · have h := h.2 hc
    refine V_iload_n C 2 dX7_stuff_12 rfl ?_
    refine V_i2l C dX7_stuff_13 ?_
    refine V_lconst C 0 dX7_stuff_14 (by decide) ?_
    refine V_ldc2 C u_246 dX7_stuff_15 ?_
    refine V_callS (As := [.long (p2.toInt64), .long 0, .long 9]) (st := []) C (c_X7_in  h) Y_X7_in Z_X7_in (ltN hH (by decide)) u_243 rfl rfl (Nat.le_of_ble_eq_true rfl) dX7_stuff_18 ?_
    rintro v9 M9 ⟨rfl, r4, rfl, h⟩
    show V X 21 _ [.int r4] M
    refine V_if_eq (tgt := 49) C dX7_stuff_21 (by decide) (fun hc => ?_) (fun hc => ?_)
    · have h := h.1 hc
      refine V_aload_n C 0 dX7_stuff_49 rfl ?_
      refine V_callV (As := []) (st := []) C (c_X7_bad hb h) Y_X7_bad Z_X7_bad (T := TX7) (N := 21) rfl (o7 hb) (ltN hH (by decide)) u_242 rfl rfl (Nat.le_of_ble_eq_true rfl) dX7_stuff_50 ?_
      rintro v9 M5 ⟨r6, rfl, h⟩
      show V X 53 _ [.int r6] M5
      exact V_iret C dX7_stuff_53 (hQ _ _ h)
    · have h := h.2 hc
      refine V_iload_n C 3 dX7_stuff_24 rfl ?_
      refine V_i2l C dX7_stuff_25 ?_
      refine V_lconst C 0 dX7_stuff_26 (by decide) ?_
      refine V_ldc2 C u_247 dX7_stuff_27 ?_
      refine V_callS (As := [.long (p3.toInt64), .long 0, .long 15]) (st := []) C (c_X7_in  h) Y_X7_in Z_X7_in (ltN hH (by decide)) u_243 rfl rfl (Nat.le_of_ble_eq_true rfl) dX7_stuff_30 ?_
      rintro v9 M9 ⟨rfl, r7, rfl, h⟩
      show V X 33 _ [.int r7] M
      refine V_if_eq (tgt := 49) C dX7_stuff_33 (by decide) (fun hc => ?_) (fun hc => ?_)
      · have h := h.1 hc
        refine V_aload_n C 0 dX7_stuff_49 rfl ?_
        refine V_callV (As := []) (st := []) C (c_X7_bad hb h) Y_X7_bad Z_X7_bad (T := TX7) (N := 21) rfl (o7 hb) (ltN hH (by decide)) u_242 rfl rfl (Nat.le_of_ble_eq_true rfl) dX7_stuff_50 ?_
        rintro v9 M8 ⟨r9, rfl, h⟩
        show V X 53 _ [.int r9] M8
        exact V_iret C dX7_stuff_53 (hQ _ _ h)
      · have h := h.2 hc
        refine V_iload C 4 dX7_stuff_36 rfl ?_
        refine V_i2l C dX7_stuff_38 ?_
        refine V_lconst C 1 dX7_stuff_39 (by decide) ?_
        refine V_ldc2 C u_246 dX7_stuff_40 ?_
        refine V_callS (As := [.long (p4.toInt64), .long 1, .long 9]) (st := []) C (c_X7_in  h) Y_X7_in Z_X7_in (ltN hH (by decide)) u_243 rfl rfl (Nat.le_of_ble_eq_true rfl) dX7_stuff_43 ?_
        rintro v9 M9 ⟨rfl, r10, rfl, h⟩
        show V X 46 _ [.int r10] M
        refine V_if_ne (tgt := 54) C dX7_stuff_46 (by decide) (fun hc => ?_) (fun hc => ?_)
        · have h := h.1 hc
          refine V_aload_n C 0 dX7_stuff_54 rfl ?_
          refine V_getR C FL_RX7_7 (f7_0 hb) dX7_stuff_55 ?_
          refine V_iconst C 0 dX7_stuff_58 (by decide) ?_
          refine V_iald C (k7_1 hb) (vp_lit (by decide)) dX7_stuff_59 ?_
          refine V_iconst C 4 dX7_stuff_60 (by decide) ?_
          refine V_icmp_ne (tgt := 69) C dX7_stuff_61 (by decide) (fun hc => ?_) (fun hc => ?_)
          · have h := h.1 hc
            refine V_bipush C 40 dX7_stuff_69 (by decide) ?_
            refine V_iconst C 4 dX7_stuff_71 (by decide) ?_
            refine V_aload_n C 0 dX7_stuff_72 rfl ?_
            refine V_getR C FL_RX7_7 (f7_0 hb) dX7_stuff_73 ?_
            refine V_iconst C 0 dX7_stuff_76 (by decide) ?_
            refine V_iald C (k7_1 hb) (vp_lit (by decide)) dX7_stuff_77 ?_
            refine V_imul C dX7_stuff_78 ?_
            refine V_iadd C dX7_stuff_79 ?_
            refine V_nmI (fun x11 e_x11 => ?_)
            have h := h x11 e_x11
            refine V_istore (lv' := [(5, .int x11), (0, vR X b), (1, .int p1), (2, .int p2), (3, .int p3), (4, .int p4)]) C (ltN hN (by decide)) dX7_stuff_80 rfl ?_
            refine V_aload_n C 1 dX7_stuff_82 rfl ?_
            refine V_getR C FL_RX7_7 (f7_0 hb) dX7_stuff_83 ?_
            refine V_iload C 0 dX7_stuff_86 rfl ?_
            refine V_iload_n C 2 dX7_stuff_88 rfl ?_
            obtain ⟨b13, h⟩ := h
            refine V_iast C (k7_1 hb) b13 dX7_stuff_89 ?_
            refine V_nmM (fun M12 e_M12 => ?_)
            have h := h M12 e_M12
            refine V_aload_n C 1 dX7_stuff_90 rfl ?_
            refine V_getR C FL_RX7_7 (f7_0 hb) dX7_stuff_91 ?_
            refine V_iload C 0 dX7_stuff_94 rfl ?_
            refine V_iconst C 1 dX7_stuff_96 (by decide) ?_
            refine V_iadd C dX7_stuff_97 ?_
            refine V_iload_n C 3 dX7_stuff_98 rfl ?_
            obtain ⟨b15, h⟩ := h
            refine V_iast C (k7_1 hb) b15 dX7_stuff_99 ?_
            refine V_nmM (fun M14 e_M14 => ?_)
            have h := h M14 e_M14
            refine V_aload_n C 1 dX7_stuff_100 rfl ?_
            refine V_getR C FL_RX7_7 (f7_0 hb) dX7_stuff_101 ?_
            refine V_iload C 0 dX7_stuff_104 rfl ?_
            refine V_iconst C 2 dX7_stuff_106 (by decide) ?_
            refine V_iadd C dX7_stuff_107 ?_
            refine V_iload_n C 4 dX7_stuff_108 rfl ?_
            obtain ⟨b17, h⟩ := h
            refine V_iast C (k7_1 hb) b17 dX7_stuff_109 ?_
            refine V_nmM (fun M16 e_M16 => ?_)
            have h := h M16 e_M16
            refine V_aload_n C 1 dX7_stuff_110 rfl ?_
            refine V_getR C FL_RX7_7 (f7_0 hb) dX7_stuff_111 ?_
            refine V_iload C 0 dX7_stuff_114 rfl ?_
            refine V_iconst C 3 dX7_stuff_116 (by decide) ?_
            refine V_iadd C dX7_stuff_117 ?_
            refine V_iload C 5 dX7_stuff_118 rfl ?_
            obtain ⟨b19, h⟩ := h
            refine V_iast C (k7_1 hb) b19 dX7_stuff_120 ?_
            refine V_nmM (fun M18 e_M18 => ?_)
            have h := h M18 e_M18
            refine V_aload_n C 1 dX7_stuff_121 rfl ?_
            refine V_getR C FL_RX7_7 (f7_0 hb) dX7_stuff_122 ?_
            refine V_iconst C 0 dX7_stuff_125 (by decide) ?_
            refine V_dup2_1 C dX7_stuff_126 rfl rfl ?_
            refine V_iald C (k7_1 hb) (vp_lit (by decide)) dX7_stuff_127 ?_
            refine V_iconst C 1 dX7_stuff_128 (by decide) ?_
            refine V_iadd C dX7_stuff_129 ?_
            refine V_iast C (k7_1 hb) (vp_lit (by decide)) dX7_stuff_130 ?_
            refine V_nmM (fun M20 e_M20 => ?_)
            have h := h M20 e_M20
            refine V_aload_n C 1 dX7_stuff_131 rfl ?_
            refine V_getR C FL_RX7_7 (f7_0 hb) dX7_stuff_132 ?_
            refine V_iconst C 0 dX7_stuff_135 (by decide) ?_
            refine V_iald C (k7_1 hb) (vp_lit (by decide)) dX7_stuff_136 ?_
            refine V_iconst C 1 dX7_stuff_137 (by decide) ?_
            refine V_isub C dX7_stuff_138 ?_
            exact V_iret C dX7_stuff_139 (hQ _ _ h)
          · have h := h.2 hc
            refine V_aload_n C 0 dX7_stuff_64 rfl ?_
            refine V_callV (As := []) (st := []) C (c_X7_full hb h) Y_X7_full Z_X7_full (T := TX7) (N := 21) rfl (o7 hb) (ltN hH (by decide)) u_248 rfl rfl (Nat.le_of_ble_eq_true rfl) dX7_stuff_65 ?_
            rintro v9 M21 ⟨r22, rfl, h⟩
            show V X 68 _ [.int r22] M21
            exact V_iret C dX7_stuff_68 (hQ _ _ h)
        · have h := h.2 hc
          refine V_aload_n C 0 dX7_stuff_49 rfl ?_
          refine V_callV (As := []) (st := []) C (c_X7_bad hb h) Y_X7_bad Z_X7_bad (T := TX7) (N := 21) rfl (o7 hb) (ltN hH (by decide)) u_242 rfl rfl (Nat.le_of_ble_eq_true rfl) dX7_stuff_50 ?_
          rintro v9 M23 ⟨r24, rfl, h⟩
          show V X 53 _ [.int r24] M23
          exact V_iret C dX7_stuff_53 (hQ _ _ h)
set_option maxRecDepth 20000 in
set_option maxHeartbeats 1000000 in
theorem c_X7_stuff {w : wU} {l : Launch} {b : Nat} {p1 : Int32} {p2 : Int32} {p3 : Int32} {p4 : Int32} {M : mM} {Q : Int32 → mM → Prop} (hb : isC w 7 b) (h : p_X7_stuff b p1 p2 p3 p4 M Q) : CT w l 2 yX7_stuff cX7_stuff 6 (some .int) [.ref (uA w b), .int p1, .int p2, .int p3, .int p4] M (piI Q) := by
  refine CT.of (by decide +kernel) (Nat.le_of_ble_eq_true rfl) (fun X hw hH hl hP hN C => ?_)
  subst hw
  exact s_X7_stuff C hH hN (fun r M1 q => by rw [hP]; exact ⟨r, rfl, q⟩) hb h
set_option maxRecDepth 20000 in
set_option maxHeartbeats 1000000 in
theorem s_X7_put_J81 {X : wX} (C : CX X cX7_put RX7 (some .int)) (hH : xH X = 2) (hN : xN X = 4) {b : Nat} {p1 : Int32} {p2 : Int32} {M : mM} {Q : Int32 → mM → Prop} (hQ : ∀ r M, Q r M → xPo X (some (.int r)) M) (hb : isC (xW X) 7 b) {s0 : Int32}  (h : p_X7_put_J81 b p1 p2 Q  s0 M) : V X 81 [(0, vR X b), (1, .int p1), (2, .int p2)] [.int s0] M := by
  refine V_istore_n (lv' := [(3, .int s0), (0, vR X b), (1, .int p1), (2, .int p2)]) C (ltN hN (by decide)) dX7_put_81 rfl ?_
  refine V_iload_n C 0 dX7_put_82 rfl ?_
  refine V_if_eq (tgt := 97) C dX7_put_83 (by decide) (fun hc => ?_) (fun hc => ?_)
  · have h := h.1 hc
    refine V_aload_n C 1 dX7_put_97 rfl ?_
    refine V_callV (As := []) (st := []) C (c_X7_bad hb h) Y_X7_bad Z_X7_bad (T := TX7) (N := 21) rfl (o7 hb) (ltN hH (by decide)) u_242 rfl rfl (Nat.le_of_ble_eq_true rfl) dX7_put_98 ?_
    rintro v9 M2 ⟨r3, rfl, h⟩
    show V X 101 _ [.int r3] M2
    exact V_iret C dX7_put_101 (hQ _ _ h)
  · have h := h.2 hc
    refine V_aload_n C 1 dX7_put_86 rfl ?_
    refine V_iconst C 2 dX7_put_87 (by decide) ?_
    refine V_iload_n C 2 dX7_put_88 rfl ?_
    refine V_iadd C dX7_put_89 ?_
    refine V_iload_n C 3 dX7_put_90 rfl ?_
    refine V_callV (As := [.int (2 + p1), .int p2]) (st := []) C (c_X7_puts hb h) Y_X7_puts Z_X7_puts (T := TX7) (N := 21) rfl (o7 hb) (ltN hH (by decide)) u_250 rfl rfl (Nat.le_of_ble_eq_true rfl) dX7_put_91 ?_
    rintro v9 M4 ⟨r5, rfl, h⟩
    show V X 94 _ [.int r5] M4
    refine V_goto (tgt := 101) C dX7_put_94 (by decide) ?_
    exact V_iret C dX7_put_101 (hQ _ _ h)
set_option maxRecDepth 20000 in
set_option maxHeartbeats 1000000 in
theorem s_X7_put_J80 {X : wX} (C : CX X cX7_put RX7 (some .int)) (hH : xH X = 2) (hN : xN X = 4) {b : Nat} {p1 : Int32} {p2 : Int32} {M : mM} {Q : Int32 → mM → Prop} (hQ : ∀ r M, Q r M → xPo X (some (.int r)) M) (hb : isC (xW X) 7 b)   (h : p_X7_put_J80 b p1 p2 Q   M) : V X 80 [(0, vR X b), (1, .int p1), (2, .int p2)] [] M := by
  refine V_iconst C 0 dX7_put_80 (by decide) ?_
  exact V_sub [0, 1, 2] rfl (s_X7_put_J81 C hH hN hQ hb   h)
set_option maxRecDepth 20000 in
set_option maxHeartbeats 1000000 in
theorem s_X7_put {X : wX} (C : CX X cX7_put RX7 (some .int)) (hH : xH X = 2) (hN : xN X = 4) {b : Nat} {p1 : Int32} {p2 : Int32} {M : mM} {Q : Int32 → mM → Prop} (hQ : ∀ r M, Q r M → xPo X (some (.int r)) M) (hb : isC (xW X) 7 b)   (h : p_X7_put b p1 p2 M Q) : V X 0 [(0, vR X b), (1, .int p1), (2, .int p2)] [] M := by
  refine V_iload_n C 1 dX7_put_0 rfl ?_
  refine V_i2l C dX7_put_1 ?_
  refine V_lconst C 0 dX7_put_2 (by decide) ?_
  refine V_ldc2 C u_249 dX7_put_3 ?_
  refine V_callS (As := [.long (p1.toInt64), .long 0, .long 3]) (st := []) C (c_X7_in  h) Y_X7_in Z_X7_in (ltN hH (by decide)) u_243 rfl rfl (Nat.le_of_ble_eq_true rfl) dX7_put_6 ?_
  rintro v9 M9 ⟨rfl, r1, rfl, h⟩
  show V X 9 _ [.int r1] M
  refine V_if_eq (tgt := 24) C dX7_put_9 (by decide) (fun hc => ?_) (fun hc => ?_)
  · have h := h.1 hc
    refine V_iload_n C 1 dX7_put_24 rfl ?_
    refine V_iconst C 4 dX7_put_25 (by decide) ?_
    refine V_icmp_ne (tgt := 41) C dX7_put_26 (by decide) (fun hc => ?_) (fun hc => ?_)
    · have h := h.1 hc
      refine V_iload_n C 1 dX7_put_41 rfl ?_
      refine V_iconst C 5 dX7_put_42 (by decide) ?_
      refine V_icmp_ne (tgt := 58) C dX7_put_43 (by decide) (fun hc => ?_) (fun hc => ?_)
      · have h := h.1 hc
        refine V_iload_n C 1 dX7_put_58 rfl ?_
        refine V_bipush C 6 dX7_put_59 (by decide) ?_
        refine V_icmp_ne (tgt := 80) C dX7_put_61 (by decide) (fun hc => ?_) (fun hc => ?_)
        · have h := h.1 hc
          exact V_sub [0, 1, 2] rfl (s_X7_put_J80 C hH hN hQ hb   h)
        · have h := h.2 hc
          refine V_iload_n C 2 dX7_put_64 rfl ?_
          refine V_i2l C dX7_put_65 ?_
          refine V_lconst C 1 dX7_put_66 (by decide) ?_
          refine V_ldc2 C u_246 dX7_put_67 ?_
          refine V_callS (As := [.long (p2.toInt64), .long 1, .long 9]) (st := []) C (c_X7_in  h) Y_X7_in Z_X7_in (ltN hH (by decide)) u_243 rfl rfl (Nat.le_of_ble_eq_true rfl) dX7_put_70 ?_
          rintro v9 M9 ⟨rfl, r6, rfl, h⟩
          show V X 73 _ [.int r6] M
          refine V_if_eq (tgt := 80) C dX7_put_73 (by decide) (fun hc => ?_) (fun hc => ?_)
          · have h := h.1 hc
            exact V_sub [0, 1, 2] rfl (s_X7_put_J80 C hH hN hQ hb   h)
          · have h := h.2 hc
            refine V_iconst C 1 dX7_put_76 (by decide) ?_
            refine V_goto (tgt := 81) C dX7_put_77 (by decide) ?_
            exact V_sub [0, 1, 2] rfl (s_X7_put_J81 C hH hN hQ hb   h)
      · have h := h.2 hc
        refine V_iload_n C 2 dX7_put_46 rfl ?_
        refine V_i2l C dX7_put_47 ?_
        refine V_lconst C 0 dX7_put_48 (by decide) ?_
        refine V_ldc2 C u_249 dX7_put_49 ?_
        refine V_callS (As := [.long (p2.toInt64), .long 0, .long 3]) (st := []) C (c_X7_in  h) Y_X7_in Z_X7_in (ltN hH (by decide)) u_243 rfl rfl (Nat.le_of_ble_eq_true rfl) dX7_put_52 ?_
        rintro v9 M9 ⟨rfl, r7, rfl, h⟩
        show V X 55 _ [.int r7] M
        refine V_goto (tgt := 81) C dX7_put_55 (by decide) ?_
        exact V_sub [0, 1, 2] rfl (s_X7_put_J81 C hH hN hQ hb   h)
    · have h := h.2 hc
      refine V_iload_n C 2 dX7_put_29 rfl ?_
      refine V_i2l C dX7_put_30 ?_
      refine V_lconst C 0 dX7_put_31 (by decide) ?_
      refine V_ldc2 C u_245 dX7_put_32 ?_
      refine V_callS (As := [.long (p2.toInt64), .long 0, .long 60]) (st := []) C (c_X7_in  h) Y_X7_in Z_X7_in (ltN hH (by decide)) u_243 rfl rfl (Nat.le_of_ble_eq_true rfl) dX7_put_35 ?_
      rintro v9 M9 ⟨rfl, r8, rfl, h⟩
      show V X 38 _ [.int r8] M
      refine V_goto (tgt := 81) C dX7_put_38 (by decide) ?_
      exact V_sub [0, 1, 2] rfl (s_X7_put_J81 C hH hN hQ hb   h)
  · have h := h.2 hc
    refine V_iload_n C 2 dX7_put_12 rfl ?_
    refine V_i2l C dX7_put_13 ?_
    refine V_lconst C 0 dX7_put_14 (by decide) ?_
    refine V_ldc2 C u_251 dX7_put_15 ?_
    refine V_callS (As := [.long (p2.toInt64), .long 0, .long 5]) (st := []) C (c_X7_in  h) Y_X7_in Z_X7_in (ltN hH (by decide)) u_243 rfl rfl (Nat.le_of_ble_eq_true rfl) dX7_put_18 ?_
    rintro v9 M9 ⟨rfl, r9, rfl, h⟩
    show V X 21 _ [.int r9] M
    refine V_goto (tgt := 81) C dX7_put_21 (by decide) ?_
    exact V_sub [0, 1, 2] rfl (s_X7_put_J81 C hH hN hQ hb   h)
set_option maxRecDepth 20000 in
set_option maxHeartbeats 1000000 in
theorem c_X7_put {w : wU} {l : Launch} {b : Nat} {p1 : Int32} {p2 : Int32} {M : mM} {Q : Int32 → mM → Prop} (hb : isC w 7 b) (h : p_X7_put b p1 p2 M Q) : CT w l 2 yX7_put cX7_put 4 (some .int) [.ref (uA w b), .int p1, .int p2] M (piI Q) := by
  refine CT.of (by decide +kernel) (Nat.le_of_ble_eq_true rfl) (fun X hw hH hl hP hN C => ?_)
  subst hw
  exact s_X7_put C hH hN (fun r M1 q => by rw [hP]; exact ⟨r, rfl, q⟩) hb h
set_option maxRecDepth 20000 in
set_option maxHeartbeats 1000000 in
theorem s_X7_habit {X : wX} (C : CX X cX7_habit RX7 (some .int)) (hH : xH X = 2) (hN : xN X = 3) {b : Nat} {p1 : Int32} {p2 : Int32} {M : mM} {Q : Int32 → mM → Prop} (hQ : ∀ r M, Q r M → xPo X (some (.int r)) M) (hb : isC (xW X) 7 b)   (h : p_X7_habit b p1 p2 M Q) : V X 0 [(0, vR X b), (1, .int p1), (2, .int p2)] [] M := by
  refine V_iload_n C 1 dX7_habit_0 rfl ?_
  refine V_i2l C dX7_habit_1 ?_
  refine V_lconst C 0 dX7_habit_2 (by decide) ?_
  refine V_ldc2 C u_252 dX7_habit_3 ?_
  refine V_callS (As := [.long (p1.toInt64), .long 0, .long 20]) (st := []) C (c_X7_in  h) Y_X7_in Z_X7_in (ltN hH (by decide)) u_243 rfl rfl (Nat.le_of_ble_eq_true rfl) dX7_habit_6 ?_
  rintro v9 M9 ⟨rfl, r1, rfl, h⟩
  show V X 9 _ [.int r1] M
  refine V_if_eq (tgt := 36) C dX7_habit_9 (by decide) (fun hc => ?_) (fun hc => ?_)
  · have h := h.1 hc
    refine V_aload_n C 0 dX7_habit_36 rfl ?_
    refine V_callV (As := []) (st := []) C (c_X7_bad hb h) Y_X7_bad Z_X7_bad (T := TX7) (N := 21) rfl (o7 hb) (ltN hH (by decide)) u_242 rfl rfl (Nat.le_of_ble_eq_true rfl) dX7_habit_37 ?_
    rintro v9 M2 ⟨r3, rfl, h⟩
    show V X 40 _ [.int r3] M2
    exact V_iret C dX7_habit_40 (hQ _ _ h)
  · have h := h.2 hc
    refine V_iload_n C 2 dX7_habit_12 rfl ?_
    refine V_i2l C dX7_habit_13 ?_
    refine V_lconst C 0 dX7_habit_14 (by decide) ?_
    refine V_ldc2 C u_246 dX7_habit_15 ?_
    refine V_callS (As := [.long (p2.toInt64), .long 0, .long 9]) (st := []) C (c_X7_in  h) Y_X7_in Z_X7_in (ltN hH (by decide)) u_243 rfl rfl (Nat.le_of_ble_eq_true rfl) dX7_habit_18 ?_
    rintro v9 M9 ⟨rfl, r4, rfl, h⟩
    show V X 21 _ [.int r4] M
    refine V_if_eq (tgt := 36) C dX7_habit_21 (by decide) (fun hc => ?_) (fun hc => ?_)
    · have h := h.1 hc
      refine V_aload_n C 0 dX7_habit_36 rfl ?_
      refine V_callV (As := []) (st := []) C (c_X7_bad hb h) Y_X7_bad Z_X7_bad (T := TX7) (N := 21) rfl (o7 hb) (ltN hH (by decide)) u_242 rfl rfl (Nat.le_of_ble_eq_true rfl) dX7_habit_37 ?_
      rintro v9 M5 ⟨r6, rfl, h⟩
      show V X 40 _ [.int r6] M5
      exact V_iret C dX7_habit_40 (hQ _ _ h)
    · have h := h.2 hc
      refine V_aload_n C 0 dX7_habit_24 rfl ?_
      refine V_bipush C 10 dX7_habit_25 (by decide) ?_
      refine V_iload_n C 1 dX7_habit_27 rfl ?_
      refine V_iadd C dX7_habit_28 ?_
      refine V_iload_n C 2 dX7_habit_29 rfl ?_
      refine V_callV (As := [.int (10 + p1), .int p2]) (st := []) C (c_X7_puts hb h) Y_X7_puts Z_X7_puts (T := TX7) (N := 21) rfl (o7 hb) (ltN hH (by decide)) u_250 rfl rfl (Nat.le_of_ble_eq_true rfl) dX7_habit_30 ?_
      rintro v9 M7 ⟨r8, rfl, h⟩
      show V X 33 _ [.int r8] M7
      refine V_goto (tgt := 40) C dX7_habit_33 (by decide) ?_
      exact V_iret C dX7_habit_40 (hQ _ _ h)
set_option maxRecDepth 20000 in
set_option maxHeartbeats 1000000 in
theorem c_X7_habit {w : wU} {l : Launch} {b : Nat} {p1 : Int32} {p2 : Int32} {M : mM} {Q : Int32 → mM → Prop} (hb : isC w 7 b) (h : p_X7_habit b p1 p2 M Q) : CT w l 2 yX7_habit cX7_habit 3 (some .int) [.ref (uA w b), .int p1, .int p2] M (piI Q) := by
  refine CT.of (by decide +kernel) (Nat.le_of_ble_eq_true rfl) (fun X hw hH hl hP hN C => ?_)
  subst hw
  exact s_X7_habit C hH hN (fun r M1 q => by rw [hP]; exact ⟨r, rfl, q⟩) hb h
set_option maxRecDepth 20000 in
set_option maxHeartbeats 1000000 in
theorem s_X7_isTrace_J50 {X : wX} (C : CX X cX7_isTrace RX7 (some .boolean)) (hH : xH X = 2) (hN : xN X = 4) {b : Nat} {p1 : Int32} {p2 : Int32} {p3 : Int32} {M : mM} {Q : Int32 → Prop} (hQ : ∀ r, Q r → xPo X (some (.int r)) M) (hb : isC (xW X) 7 b)   (h : p_X7_isTrace_J50 b p1 p2 p3 Q   M) : V X 50 [(3, .int p3)] [] M := by
  refine V_iload_n C 0 dX7_isTrace_50 rfl ?_
  refine V_i2l C dX7_isTrace_51 ?_
  refine V_lconst C 0 dX7_isTrace_52 (by decide) ?_
  refine V_ldc2 C u_249 dX7_isTrace_53 ?_
  refine V_callS (As := [.long (p3.toInt64), .long 0, .long 3]) (st := []) C (c_X7_in  h) Y_X7_in Z_X7_in (ltN hH (by decide)) u_243 rfl rfl (Nat.le_of_ble_eq_true rfl) dX7_isTrace_56 ?_
  rintro v9 M9 ⟨rfl, r2, rfl, h⟩
  show V X 59 _ [.int r2] M
  exact V_zret C rfl h.1 dX7_isTrace_59 (hQ _ h.2)
set_option maxRecDepth 20000 in
set_option maxHeartbeats 1000000 in
theorem s_X7_isTrace_J60 {X : wX} (C : CX X cX7_isTrace RX7 (some .boolean)) (hH : xH X = 2) (hN : xN X = 4) {b : Nat} {p1 : Int32} {p2 : Int32} {p3 : Int32} {M : mM} {Q : Int32 → Prop} (hQ : ∀ r, Q r → xPo X (some (.int r)) M) (hb : isC (xW X) 7 b)   (h : p_X7_isTrace_J60 b p1 p2 p3 Q   M) : V X 60 [(3, .int p3)] [] M := by
  refine V_iload_n C 0 dX7_isTrace_60 rfl ?_
  refine V_i2l C dX7_isTrace_61 ?_
  refine V_lconst C 0 dX7_isTrace_62 (by decide) ?_
  refine V_ldc2 C u_254 dX7_isTrace_63 ?_
  refine V_callS (As := [.long (p3.toInt64), .long 0, .long 400]) (st := []) C (c_X7_in  h) Y_X7_in Z_X7_in (ltN hH (by decide)) u_243 rfl rfl (Nat.le_of_ble_eq_true rfl) dX7_isTrace_66 ?_
  rintro v9 M9 ⟨rfl, r3, rfl, h⟩
  show V X 69 _ [.int r3] M
  exact V_zret C rfl h.1 dX7_isTrace_69 (hQ _ h.2)
set_option maxRecDepth 20000 in
set_option maxHeartbeats 1000000 in
theorem s_X7_isTrace {X : wX} (C : CX X cX7_isTrace RX7 (some .boolean)) (hH : xH X = 2) (hN : xN X = 4) {b : Nat} {p1 : Int32} {p2 : Int32} {p3 : Int32} {M : mM} {Q : Int32 → Prop} (hQ : ∀ r, Q r → xPo X (some (.int r)) M) (hb : isC (xW X) 7 b)   (h : p_X7_isTrace b p1 p2 p3 M Q) : V X 0 [(0, vR X b), (1, .int p1), (2, .int p2), (3, .int p3)] [] M := by
  refine V_iload_n C 2 dX7_isTrace_0 rfl ?_
  by_cases n0 : p2 = 0
  · have h := h.1 n0
    refine V_tsw (tgt := 44) C dX7_isTrace_1 (43) (by rw [n0]; decide) (by rw [n0]; decide) (by rw [n0]; decide) (by decide) ?_
    refine V_aload_n C 0 dX7_isTrace_44 rfl ?_
    refine V_iload_n C 3 dX7_isTrace_45 rfl ?_
    refine V_callV (As := [.int p3]) (st := []) C (c_X7_isStuff hb h) Y_X7_isStuff Z_X7_isStuff (T := TX7) (N := 21) rfl (o7 hb) (ltN hH (by decide)) u_253 rfl rfl (Nat.le_of_ble_eq_true rfl) dX7_isTrace_46 ?_
    rintro v9 M9 ⟨rfl, r1, rfl, h⟩
    show V X 49 _ [.int r1] M
    exact V_zret C rfl h.1 dX7_isTrace_49 (hQ _ h.2)
  by_cases n1 : p2 = 1
  · have h := h.2.1 n1
    refine V_tsw (tgt := 50) C dX7_isTrace_1 (49) (by rw [n1]; decide) (by rw [n1]; decide) (by rw [n1]; decide) (by decide) ?_
    exact V_sub [3] rfl (s_X7_isTrace_J50 C hH hN hQ hb   h)
  by_cases n2 : p2 = 2
  · have h := h.2.2.1 n2
    refine V_tsw (tgt := 50) C dX7_isTrace_1 (49) (by rw [n2]; decide) (by rw [n2]; decide) (by rw [n2]; decide) (by decide) ?_
    exact V_sub [3] rfl (s_X7_isTrace_J50 C hH hN hQ hb   h)
  by_cases n3 : p2 = 3
  · have h := h.2.2.2.1 n3
    refine V_tsw (tgt := 60) C dX7_isTrace_1 (59) (by rw [n3]; decide) (by rw [n3]; decide) (by rw [n3]; decide) (by decide) ?_
    exact V_sub [3] rfl (s_X7_isTrace_J60 C hH hN hQ hb   h)
  by_cases n4 : p2 = 4
  · have h := h.2.2.2.2.1 n4
    refine V_tsw (tgt := 60) C dX7_isTrace_1 (59) (by rw [n4]; decide) (by rw [n4]; decide) (by rw [n4]; decide) (by decide) ?_
    exact V_sub [3] rfl (s_X7_isTrace_J60 C hH hN hQ hb   h)
  by_cases n5 : p2 = 5
  · have h := h.2.2.2.2.2.1 n5
    refine V_tsw (tgt := 70) C dX7_isTrace_1 (69) (by rw [n5]; decide) (by rw [n5]; decide) (by rw [n5]; decide) (by decide) ?_
    refine V_iload_n C 3 dX7_isTrace_70 rfl ?_
    refine V_i2l C dX7_isTrace_71 ?_
    refine V_lconst C 1 dX7_isTrace_72 (by decide) ?_
    refine V_ldc2 C u_254 dX7_isTrace_73 ?_
    refine V_callS (As := [.long (p3.toInt64), .long 1, .long 400]) (st := []) C (c_X7_in  h) Y_X7_in Z_X7_in (ltN hH (by decide)) u_243 rfl rfl (Nat.le_of_ble_eq_true rfl) dX7_isTrace_76 ?_
    rintro v9 M9 ⟨rfl, r4, rfl, h⟩
    show V X 79 _ [.int r4] M
    refine V_if_eq (tgt := 95) C dX7_isTrace_79 (by decide) (fun hc => ?_) (fun hc => ?_)
    · have h := h.1 hc
      refine V_iconst C 0 dX7_isTrace_95 (by decide) ?_
      exact V_zret C rfl (by decide) dX7_isTrace_96 (hQ _ h)
    · have h := h.2 hc
      refine V_iload_n C 1 dX7_isTrace_82 rfl ?_
      refine V_bipush C 8 dX7_isTrace_83 (by decide) ?_
      refine V_irem C dX7_isTrace_85 (by decide) ?_
      refine V_bipush C 7 dX7_isTrace_86 (by decide) ?_
      refine V_icmp_eq (tgt := 95) C dX7_isTrace_88 (by decide) (fun hc => ?_) (fun hc => ?_)
      · have h := h.1 hc
        refine V_iconst C 0 dX7_isTrace_95 (by decide) ?_
        exact V_zret C rfl (by decide) dX7_isTrace_96 (hQ _ h)
      · have h := h.2 hc
        refine V_iconst C 1 dX7_isTrace_91 (by decide) ?_
        refine V_goto (tgt := 96) C dX7_isTrace_92 (by decide) ?_
        exact V_zret C rfl (by decide) dX7_isTrace_96 (hQ _ h)
  by_cases n6 : p2 = 6
  · have h := h.2.2.2.2.2.2.1 n6
    refine V_tsw (tgt := 97) C dX7_isTrace_1 (96) (by rw [n6]; decide) (by rw [n6]; decide) (by rw [n6]; decide) (by decide) ?_
    refine V_iload_n C 3 dX7_isTrace_97 rfl ?_
    refine V_if_ne (tgt := 105) C dX7_isTrace_98 (by decide) (fun hc => ?_) (fun hc => ?_)
    · have h := h.1 hc
      refine V_iconst C 0 dX7_isTrace_105 (by decide) ?_
      exact V_zret C rfl (by decide) dX7_isTrace_106 (hQ _ h)
    · have h := h.2 hc
      refine V_iconst C 1 dX7_isTrace_101 (by decide) ?_
      refine V_goto (tgt := 106) C dX7_isTrace_102 (by decide) ?_
      exact V_zret C rfl (by decide) dX7_isTrace_106 (hQ _ h)
  have h := h.2.2.2.2.2.2.2 n0 n1 n2 n3 n4 n5 n6
  refine V_tswOut (tgt := 107) C dX7_isTrace_1 (by have q0 : p2.toInt ≠ 0 := fun e => n0 (Int32.toInt_inj.mp (e.trans (by decide))); have q1 : p2.toInt ≠ 1 := fun e => n1 (Int32.toInt_inj.mp (e.trans (by decide))); have q2 : p2.toInt ≠ 2 := fun e => n2 (Int32.toInt_inj.mp (e.trans (by decide))); have q3 : p2.toInt ≠ 3 := fun e => n3 (Int32.toInt_inj.mp (e.trans (by decide))); have q4 : p2.toInt ≠ 4 := fun e => n4 (Int32.toInt_inj.mp (e.trans (by decide))); have q5 : p2.toInt ≠ 5 := fun e => n5 (Int32.toInt_inj.mp (e.trans (by decide))); have q6 : p2.toInt ≠ 6 := fun e => n6 (Int32.toInt_inj.mp (e.trans (by decide))); omega) (by decide) ?_
  refine V_iconst C 0 dX7_isTrace_107 (by decide) ?_
  exact V_zret C rfl (by decide) dX7_isTrace_108 (hQ _ h)
set_option maxRecDepth 20000 in
set_option maxHeartbeats 1000000 in
theorem c_X7_isTrace {w : wU} {l : Launch} {b : Nat} {p1 : Int32} {p2 : Int32} {p3 : Int32} {M : mM} {Q : Int32 → Prop} (hb : isC w 7 b) (h : p_X7_isTrace b p1 p2 p3 M Q) : CT w l 2 yX7_isTrace cX7_isTrace 4 (some .boolean) [.ref (uA w b), .int p1, .int p2, .int p3] M (poI M Q) := by
  refine CT.of (by decide +kernel) (Nat.le_of_ble_eq_true rfl) (fun X hw hH hl hP hN C => ?_)
  subst hw
  exact s_X7_isTrace C hH hN (fun r q => by rw [hP]; exact ⟨rfl, r, rfl, q⟩) hb h
set_option maxRecDepth 20000 in
set_option maxHeartbeats 1000000 in
theorem s_X7_trace {X : wX} (C : CX X cX7_trace RX7 (some .int)) (hH : xH X = 3) (hN : xN X = 5) {b : Nat} {p1 : Int32} {p2 : Int32} {p3 : Int32} {M : mM} {Q : Int32 → mM → Prop} (hQ : ∀ r M, Q r M → xPo X (some (.int r)) M) (hb : isC (xW X) 7 b)   (h : p_X7_trace b p1 p2 p3 M Q) : V X 0 [(0, vR X b), (1, .int p1), (2, .int p2), (3, .int p3)] [] M := by
  refine V_iload_n C 1 dX7_trace_0 rfl ?_
  refine V_callS (As := [.int p1]) (st := []) C (c_X7_isCell  h) Y_X7_isCell Z_X7_isCell (ltN hH (by decide)) u_256 rfl rfl (Nat.le_of_ble_eq_true rfl) dX7_trace_1 ?_
  rintro v9 M9 ⟨rfl, r1, rfl, h⟩
  show V X 4 _ [.int r1] M
  refine V_if_eq (tgt := 17) C dX7_trace_4 (by decide) (fun hc => ?_) (fun hc => ?_)
  · have h := h.1 hc
    refine V_aload_n C 0 dX7_trace_17 rfl ?_
    refine V_callV (As := []) (st := []) C (c_X7_bad hb h) Y_X7_bad Z_X7_bad (T := TX7) (N := 21) rfl (o7 hb) (ltN hH (by decide)) u_242 rfl rfl (Nat.le_of_ble_eq_true rfl) dX7_trace_18 ?_
    rintro v9 M2 ⟨r3, rfl, h⟩
    show V X 21 _ [.int r3] M2
    exact V_iret C dX7_trace_21 (hQ _ _ h)
  · have h := h.2 hc
    refine V_aload_n C 0 dX7_trace_7 rfl ?_
    refine V_iload_n C 1 dX7_trace_8 rfl ?_
    refine V_iload_n C 2 dX7_trace_9 rfl ?_
    refine V_iload_n C 3 dX7_trace_10 rfl ?_
    refine V_callV (As := [.int p1, .int p2, .int p3]) (st := []) C (c_X7_isTrace hb h) Y_X7_isTrace Z_X7_isTrace (T := TX7) (N := 21) rfl (o7 hb) (ltN hH (by decide)) u_255 rfl rfl (Nat.le_of_ble_eq_true rfl) dX7_trace_11 ?_
    rintro v9 M9 ⟨rfl, r4, rfl, h⟩
    show V X 14 _ [.int r4] M
    refine V_if_ne (tgt := 22) C dX7_trace_14 (by decide) (fun hc => ?_) (fun hc => ?_)
    · have h := h.1 hc
      refine V_aload_n C 0 dX7_trace_22 rfl ?_
      refine V_getR C FL_RX7_7 (f7_0 hb) dX7_trace_23 ?_
      refine V_iconst C 1 dX7_trace_26 (by decide) ?_
      refine V_iald C (k7_1 hb) (vp_lit (by decide)) dX7_trace_27 ?_
      refine V_bipush C 20 dX7_trace_28 (by decide) ?_
      refine V_icmp_ne (tgt := 38) C dX7_trace_30 (by decide) (fun hc => ?_) (fun hc => ?_)
      · have h := h.1 hc
        refine V_bipush C 60 dX7_trace_38 (by decide) ?_
        refine V_iconst C 4 dX7_trace_40 (by decide) ?_
        refine V_aload_n C 0 dX7_trace_41 rfl ?_
        refine V_getR C FL_RX7_7 (f7_0 hb) dX7_trace_42 ?_
        refine V_iconst C 1 dX7_trace_45 (by decide) ?_
        refine V_iald C (k7_1 hb) (vp_lit (by decide)) dX7_trace_46 ?_
        refine V_imul C dX7_trace_47 ?_
        refine V_iadd C dX7_trace_48 ?_
        refine V_nmI (fun x5 e_x5 => ?_)
        have h := h x5 e_x5
        refine V_istore (lv' := [(4, .int x5), (0, vR X b), (1, .int p1), (2, .int p2), (3, .int p3)]) C (ltN hN (by decide)) dX7_trace_49 rfl ?_
        refine V_aload_n C 1 dX7_trace_51 rfl ?_
        refine V_getR C FL_RX7_7 (f7_0 hb) dX7_trace_52 ?_
        refine V_iload C 0 dX7_trace_55 rfl ?_
        refine V_iload_n C 2 dX7_trace_57 rfl ?_
        obtain ⟨b7, h⟩ := h
        refine V_iast C (k7_1 hb) b7 dX7_trace_58 ?_
        refine V_nmM (fun M6 e_M6 => ?_)
        have h := h M6 e_M6
        refine V_aload_n C 1 dX7_trace_59 rfl ?_
        refine V_getR C FL_RX7_7 (f7_0 hb) dX7_trace_60 ?_
        refine V_iload C 0 dX7_trace_63 rfl ?_
        refine V_iconst C 1 dX7_trace_65 (by decide) ?_
        refine V_iadd C dX7_trace_66 ?_
        refine V_iload_n C 3 dX7_trace_67 rfl ?_
        obtain ⟨b9, h⟩ := h
        refine V_iast C (k7_1 hb) b9 dX7_trace_68 ?_
        refine V_nmM (fun M8 e_M8 => ?_)
        have h := h M8 e_M8
        refine V_aload_n C 1 dX7_trace_69 rfl ?_
        refine V_getR C FL_RX7_7 (f7_0 hb) dX7_trace_70 ?_
        refine V_iload C 0 dX7_trace_73 rfl ?_
        refine V_iconst C 2 dX7_trace_75 (by decide) ?_
        refine V_iadd C dX7_trace_76 ?_
        refine V_iload_n C 4 dX7_trace_77 rfl ?_
        obtain ⟨b11, h⟩ := h
        refine V_iast C (k7_1 hb) b11 dX7_trace_78 ?_
        refine V_nmM (fun M10 e_M10 => ?_)
        have h := h M10 e_M10
        refine V_aload_n C 1 dX7_trace_79 rfl ?_
        refine V_getR C FL_RX7_7 (f7_0 hb) dX7_trace_80 ?_
        refine V_iload C 0 dX7_trace_83 rfl ?_
        refine V_iconst C 3 dX7_trace_85 (by decide) ?_
        refine V_iadd C dX7_trace_86 ?_
        refine V_iconst C 0 dX7_trace_87 (by decide) ?_
        obtain ⟨b13, h⟩ := h
        refine V_iast C (k7_1 hb) b13 dX7_trace_88 ?_
        refine V_nmM (fun M12 e_M12 => ?_)
        have h := h M12 e_M12
        refine V_aload_n C 1 dX7_trace_89 rfl ?_
        refine V_getR C FL_RX7_7 (f7_0 hb) dX7_trace_90 ?_
        refine V_iconst C 1 dX7_trace_93 (by decide) ?_
        refine V_dup2_1 C dX7_trace_94 rfl rfl ?_
        refine V_iald C (k7_1 hb) (vp_lit (by decide)) dX7_trace_95 ?_
        refine V_iconst C 1 dX7_trace_96 (by decide) ?_
        refine V_iadd C dX7_trace_97 ?_
        refine V_iast C (k7_1 hb) (vp_lit (by decide)) dX7_trace_98 ?_
        refine V_nmM (fun M14 e_M14 => ?_)
        have h := h M14 e_M14
        refine V_aload_n C 1 dX7_trace_99 rfl ?_
        refine V_getR C FL_RX7_7 (f7_0 hb) dX7_trace_100 ?_
        refine V_iconst C 1 dX7_trace_103 (by decide) ?_
        refine V_iald C (k7_1 hb) (vp_lit (by decide)) dX7_trace_104 ?_
        refine V_iconst C 1 dX7_trace_105 (by decide) ?_
        refine V_isub C dX7_trace_106 ?_
        exact V_iret C dX7_trace_107 (hQ _ _ h)
      · have h := h.2 hc
        refine V_aload_n C 0 dX7_trace_33 rfl ?_
        refine V_callV (As := []) (st := []) C (c_X7_full hb h) Y_X7_full Z_X7_full (T := TX7) (N := 21) rfl (o7 hb) (ltN hH (by decide)) u_248 rfl rfl (Nat.le_of_ble_eq_true rfl) dX7_trace_34 ?_
        rintro v9 M15 ⟨r16, rfl, h⟩
        show V X 37 _ [.int r16] M15
        exact V_iret C dX7_trace_37 (hQ _ _ h)
    · have h := h.2 hc
      refine V_aload_n C 0 dX7_trace_17 rfl ?_
      refine V_callV (As := []) (st := []) C (c_X7_bad hb h) Y_X7_bad Z_X7_bad (T := TX7) (N := 21) rfl (o7 hb) (ltN hH (by decide)) u_242 rfl rfl (Nat.le_of_ble_eq_true rfl) dX7_trace_18 ?_
      rintro v9 M17 ⟨r18, rfl, h⟩
      show V X 21 _ [.int r18] M17
      exact V_iret C dX7_trace_21 (hQ _ _ h)
set_option maxRecDepth 20000 in
set_option maxHeartbeats 1000000 in
theorem c_X7_trace {w : wU} {l : Launch} {b : Nat} {p1 : Int32} {p2 : Int32} {p3 : Int32} {M : mM} {Q : Int32 → mM → Prop} (hb : isC w 7 b) (h : p_X7_trace b p1 p2 p3 M Q) : CT w l 3 yX7_trace cX7_trace 5 (some .int) [.ref (uA w b), .int p1, .int p2, .int p3] M (piI Q) := by
  refine CT.of (by decide +kernel) (Nat.le_of_ble_eq_true rfl) (fun X hw hH hl hP hN C => ?_)
  subst hw
  exact s_X7_trace C hH hN (fun r M1 q => by rw [hP]; exact ⟨r, rfl, q⟩) hb h
set_option maxRecDepth 20000 in
set_option maxHeartbeats 1000000 in
theorem s_X7_ofTrace {X : wX} (C : CX X cX7_ofTrace RX7 (some .int)) (hH : xH X = 0) (hN : xN X = 3) {b : Nat} {p1 : Int32} {p2 : Int32} {M : mM} {Q : Int32 → Prop} (hQ : ∀ r, Q r → xPo X (some (.int r)) M) (hb : isC (xW X) 7 b)   (h : p_X7_ofTrace b p1 p2 M Q) : V X 0 [(0, vR X b), (1, .int p1), (2, .int p2)] [] M := by
  refine V_aload_n C 0 dX7_ofTrace_0 rfl ?_
  refine V_getR C FL_RX7_7 (f7_0 hb) dX7_ofTrace_1 ?_
  refine V_bipush C 60 dX7_ofTrace_4 (by decide) ?_
  refine V_iconst C 4 dX7_ofTrace_6 (by decide) ?_
  refine V_iload_n C 1 dX7_ofTrace_7 rfl ?_
  refine V_imul C dX7_ofTrace_8 ?_
  refine V_iadd C dX7_ofTrace_9 ?_
  refine V_iload_n C 2 dX7_ofTrace_10 rfl ?_
  refine V_iadd C dX7_ofTrace_11 ?_
  obtain ⟨b1, h⟩ := h
  refine V_iald C (k7_1 hb) b1 dX7_ofTrace_12 ?_
  exact V_iret C dX7_ofTrace_13 (hQ _ h)
set_option maxRecDepth 20000 in
set_option maxHeartbeats 1000000 in
theorem c_X7_ofTrace {w : wU} {l : Launch} {b : Nat} {p1 : Int32} {p2 : Int32} {M : mM} {Q : Int32 → Prop} (hb : isC w 7 b) (h : p_X7_ofTrace b p1 p2 M Q) : CT w l 0 yX7_ofTrace cX7_ofTrace 3 (some .int) [.ref (uA w b), .int p1, .int p2] M (poI M Q) := by
  refine CT.of (by decide +kernel) (Nat.le_of_ble_eq_true rfl) (fun X hw hH hl hP hN C => ?_)
  subst hw
  exact s_X7_ofTrace C hH hN (fun r q => by rw [hP]; exact ⟨rfl, r, rfl, q⟩) hb h
set_option maxRecDepth 20000 in
set_option maxHeartbeats 1000000 in
theorem s_X7_aside_J38 {X : wX} (C : CX X cX7_aside RX7 (some .int)) (hH : xH X = 2) (hN : xN X = 3) {b : Nat} {p1 : Int32} {p2 : Int32} {M : mM} {Q : Int32 → mM → Prop} (hQ : ∀ r M, Q r M → xPo X (some (.int r)) M) (hb : isC (xW X) 7 b) {s0 : Int32}  (h : p_X7_aside_J38 b p1 p2 Q  s0 M) : V X 38 [(0, vR X b), (1, .int p1), (2, .int p2)] [.int s0] M := by
  refine V_iload_n C 2 dX7_aside_38 rfl ?_
  refine V_icmp_ne (tgt := 47) C dX7_aside_39 (by decide) (fun hc => ?_) (fun hc => ?_)
  · have h := h.1 hc
    refine V_aload_n C 0 dX7_aside_47 rfl ?_
    refine V_getR C FL_RX7_7 (f7_0 hb) dX7_aside_48 ?_
    refine V_bipush C 60 dX7_aside_51 (by decide) ?_
    refine V_iconst C 4 dX7_aside_53 (by decide) ?_
    refine V_iload_n C 1 dX7_aside_54 rfl ?_
    refine V_imul C dX7_aside_55 ?_
    refine V_iadd C dX7_aside_56 ?_
    refine V_iconst C 3 dX7_aside_57 (by decide) ?_
    refine V_iadd C dX7_aside_58 ?_
    refine V_iload_n C 2 dX7_aside_59 rfl ?_
    refine V_if_eq (tgt := 67) C dX7_aside_60 (by decide) (fun hc => ?_) (fun hc => ?_)
    · have h := h.1 hc
      refine V_iconst C 0 dX7_aside_67 (by decide) ?_
      obtain ⟨b4, h⟩ := h
      refine V_iast C (k7_1 hb) b4 dX7_aside_68 ?_
      refine V_nmM (fun M3 e_M3 => ?_)
      have h := h M3 e_M3
      refine V_iconst C 1 dX7_aside_69 (by decide) ?_
      exact V_iret C dX7_aside_70 (hQ _ _ h)
    · have h := h.2 hc
      refine V_iconst C 1 dX7_aside_63 (by decide) ?_
      refine V_goto (tgt := 68) C dX7_aside_64 (by decide) ?_
      obtain ⟨b6, h⟩ := h
      refine V_iast C (k7_1 hb) b6 dX7_aside_68 ?_
      refine V_nmM (fun M5 e_M5 => ?_)
      have h := h M5 e_M5
      refine V_iconst C 1 dX7_aside_69 (by decide) ?_
      exact V_iret C dX7_aside_70 (hQ _ _ h)
  · have h := h.2 hc
    refine V_aload_n C 0 dX7_aside_42 rfl ?_
    refine V_callV (As := []) (st := []) C (c_X7_no hb h) Y_X7_no Z_X7_no (T := TX7) (N := 21) rfl (o7 hb) (ltN hH (by decide)) u_257 rfl rfl (Nat.le_of_ble_eq_true rfl) dX7_aside_43 ?_
    rintro v9 M7 ⟨r8, rfl, h⟩
    show V X 46 _ [.int r8] M7
    exact V_iret C dX7_aside_46 (hQ _ _ h)
set_option maxRecDepth 20000 in
set_option maxHeartbeats 1000000 in
theorem s_X7_aside {X : wX} (C : CX X cX7_aside RX7 (some .int)) (hH : xH X = 2) (hN : xN X = 3) {b : Nat} {p1 : Int32} {p2 : Int32} {M : mM} {Q : Int32 → mM → Prop} (hQ : ∀ r M, Q r M → xPo X (some (.int r)) M) (hb : isC (xW X) 7 b)   (h : p_X7_aside b p1 p2 M Q) : V X 0 [(0, vR X b), (1, .int p1), (2, .int p2)] [] M := by
  refine V_iload_n C 1 dX7_aside_0 rfl ?_
  refine V_i2l C dX7_aside_1 ?_
  refine V_lconst C 0 dX7_aside_2 (by decide) ?_
  refine V_aload_n C 0 dX7_aside_3 rfl ?_
  refine V_getR C FL_RX7_7 (f7_0 hb) dX7_aside_4 ?_
  refine V_iconst C 1 dX7_aside_7 (by decide) ?_
  refine V_iald C (k7_1 hb) (vp_lit (by decide)) dX7_aside_8 ?_
  refine V_iconst C 1 dX7_aside_9 (by decide) ?_
  refine V_isub C dX7_aside_10 ?_
  refine V_i2l C dX7_aside_11 ?_
  refine V_callS (As := [.long (p1.toInt64), .long 0, .long (((M.1 (b + 1) (1 : Int32).toNatClampNeg) - 1).toInt64)]) (st := []) C (c_X7_in  h) Y_X7_in Z_X7_in (ltN hH (by decide)) u_243 rfl rfl (Nat.le_of_ble_eq_true rfl) dX7_aside_12 ?_
  rintro v9 M9 ⟨rfl, r1, rfl, h⟩
  show V X 15 _ [.int r1] M
  refine V_if_ne (tgt := 23) C dX7_aside_15 (by decide) (fun hc => ?_) (fun hc => ?_)
  · have h := h.1 hc
    refine V_aload_n C 0 dX7_aside_23 rfl ?_
    refine V_iload_n C 1 dX7_aside_24 rfl ?_
    refine V_iconst C 3 dX7_aside_25 (by decide) ?_
    refine V_callV (As := [.int p1, .int 3]) (st := []) C (c_X7_ofTrace hb h) Y_X7_ofTrace Z_X7_ofTrace (T := TX7) (N := 21) rfl (o7 hb) (ltN hH (by decide)) u_258 rfl rfl (Nat.le_of_ble_eq_true rfl) dX7_aside_26 ?_
    rintro v9 M9 ⟨rfl, r2, rfl, h⟩
    show V X 29 _ [.int r2] M
    refine V_iconst C 1 dX7_aside_29 (by decide) ?_
    refine V_icmp_ne (tgt := 37) C dX7_aside_30 (by decide) (fun hc => ?_) (fun hc => ?_)
    · have h := h.1 hc
      refine V_iconst C 0 dX7_aside_37 (by decide) ?_
      exact V_sub [0, 1, 2] rfl (s_X7_aside_J38 C hH hN hQ hb   h)
    · have h := h.2 hc
      refine V_iconst C 1 dX7_aside_33 (by decide) ?_
      refine V_goto (tgt := 38) C dX7_aside_34 (by decide) ?_
      exact V_sub [0, 1, 2] rfl (s_X7_aside_J38 C hH hN hQ hb   h)
  · have h := h.2 hc
    refine V_aload_n C 0 dX7_aside_18 rfl ?_
    refine V_callV (As := []) (st := []) C (c_X7_bad hb h) Y_X7_bad Z_X7_bad (T := TX7) (N := 21) rfl (o7 hb) (ltN hH (by decide)) u_242 rfl rfl (Nat.le_of_ble_eq_true rfl) dX7_aside_19 ?_
    rintro v9 M9 ⟨r10, rfl, h⟩
    show V X 22 _ [.int r10] M9
    exact V_iret C dX7_aside_22 (hQ _ _ h)
set_option maxRecDepth 20000 in
set_option maxHeartbeats 1000000 in
theorem c_X7_aside {w : wU} {l : Launch} {b : Nat} {p1 : Int32} {p2 : Int32} {M : mM} {Q : Int32 → mM → Prop} (hb : isC w 7 b) (h : p_X7_aside b p1 p2 M Q) : CT w l 2 yX7_aside cX7_aside 3 (some .int) [.ref (uA w b), .int p1, .int p2] M (piI Q) := by
  refine CT.of (by decide +kernel) (Nat.le_of_ble_eq_true rfl) (fun X hw hH hl hP hN C => ?_)
  subst hw
  exact s_X7_aside C hH hN (fun r M1 q => by rw [hP]; exact ⟨r, rfl, q⟩) hb h
set_option maxRecDepth 20000 in
set_option maxHeartbeats 1000000 in
theorem s_X7_copy_J20 {X : wX} (C : CX X cX7_copy RX7 (some .int)) (hH : xH X = 2) (hN : xN X = 3) {b : Nat} {p1 : Int32} {p2 : Int32} {M : mM} {Q : Int32 → mM → Prop} (hQ : ∀ r M, Q r M → xPo X (some (.int r)) M) (hb : isC (xW X) 7 b)   (h : p_X7_copy_J20 b p1 p2 Q   M) : V X 20 [(0, vR X b), (1, .int p1), (2, .int p2)] [] M := by
  refine V_aload_n C 0 dX7_copy_20 rfl ?_
  refine V_sipush C 150 dX7_copy_21 (by decide) ?_
  refine V_iload_n C 1 dX7_copy_24 rfl ?_
  refine V_iadd C dX7_copy_25 ?_
  refine V_iload_n C 2 dX7_copy_26 rfl ?_
  refine V_callV (As := [.int (150 + p1), .int p2]) (st := []) C (c_X7_puts hb h) Y_X7_puts Z_X7_puts (T := TX7) (N := 21) rfl (o7 hb) (ltN hH (by decide)) u_250 rfl rfl (Nat.le_of_ble_eq_true rfl) dX7_copy_27 ?_
  rintro v9 M4 ⟨r5, rfl, h⟩
  show V X 30 _ [.int r5] M4
  refine V_goto (tgt := 40) C dX7_copy_30 (by decide) ?_
  exact V_iret C dX7_copy_40 (hQ _ _ h)
set_option maxRecDepth 20000 in
set_option maxHeartbeats 1000000 in
theorem s_X7_copy {X : wX} (C : CX X cX7_copy RX7 (some .int)) (hH : xH X = 2) (hN : xN X = 3) {b : Nat} {p1 : Int32} {p2 : Int32} {M : mM} {Q : Int32 → mM → Prop} (hQ : ∀ r M, Q r M → xPo X (some (.int r)) M) (hb : isC (xW X) 7 b)   (h : p_X7_copy b p1 p2 M Q) : V X 0 [(0, vR X b), (1, .int p1), (2, .int p2)] [] M := by
  refine V_iload_n C 1 dX7_copy_0 rfl ?_
  refine V_callS (As := [.int p1]) (st := []) C (c_X7_isCell  h) Y_X7_isCell Z_X7_isCell (ltN hH (by decide)) u_256 rfl rfl (Nat.le_of_ble_eq_true rfl) dX7_copy_1 ?_
  rintro v9 M9 ⟨rfl, r1, rfl, h⟩
  show V X 4 _ [.int r1] M
  refine V_if_eq (tgt := 33) C dX7_copy_4 (by decide) (fun hc => ?_) (fun hc => ?_)
  · have h := h.1 hc
    refine V_aload_n C 0 dX7_copy_33 rfl ?_
    refine V_iconst C 0 dX7_copy_34 (by decide) ?_
    refine V_bipush C (-10) dX7_copy_35 (by decide) ?_
    refine V_callV (As := [.int 0, .int (-10)]) (st := []) C (c_X7_refuses hb h) Y_X7_refuses Z_X7_refuses (T := TX7) (N := 21) rfl (o7 hb) (ltN hH (by decide)) u_229 rfl rfl (Nat.le_of_ble_eq_true rfl) dX7_copy_37 ?_
    rintro v9 M2 ⟨r3, rfl, h⟩
    show V X 40 _ [.int r3] M2
    exact V_iret C dX7_copy_40 (hQ _ _ h)
  · have h := h.2 hc
    refine V_iload_n C 2 dX7_copy_7 rfl ?_
    refine V_iconst C (-1) dX7_copy_8 (by decide) ?_
    refine V_icmp_eq (tgt := 20) C dX7_copy_9 (by decide) (fun hc => ?_) (fun hc => ?_)
    · have h := h.1 hc
      exact V_sub [0, 1, 2] rfl (s_X7_copy_J20 C hH hN hQ hb   h)
    · have h := h.2 hc
      refine V_aload_n C 0 dX7_copy_12 rfl ?_
      refine V_iload_n C 2 dX7_copy_13 rfl ?_
      refine V_callV (As := [.int p2]) (st := []) C (c_X7_isStuff hb h) Y_X7_isStuff Z_X7_isStuff (T := TX7) (N := 21) rfl (o7 hb) (ltN hH (by decide)) u_253 rfl rfl (Nat.le_of_ble_eq_true rfl) dX7_copy_14 ?_
      rintro v9 M9 ⟨rfl, r6, rfl, h⟩
      show V X 17 _ [.int r6] M
      refine V_if_eq (tgt := 33) C dX7_copy_17 (by decide) (fun hc => ?_) (fun hc => ?_)
      · have h := h.1 hc
        refine V_aload_n C 0 dX7_copy_33 rfl ?_
        refine V_iconst C 0 dX7_copy_34 (by decide) ?_
        refine V_bipush C (-10) dX7_copy_35 (by decide) ?_
        refine V_callV (As := [.int 0, .int (-10)]) (st := []) C (c_X7_refuses hb h) Y_X7_refuses Z_X7_refuses (T := TX7) (N := 21) rfl (o7 hb) (ltN hH (by decide)) u_229 rfl rfl (Nat.le_of_ble_eq_true rfl) dX7_copy_37 ?_
        rintro v9 M7 ⟨r8, rfl, h⟩
        show V X 40 _ [.int r8] M7
        exact V_iret C dX7_copy_40 (hQ _ _ h)
      · have h := h.2 hc
        exact V_sub [0, 1, 2] rfl (s_X7_copy_J20 C hH hN hQ hb   h)
set_option maxRecDepth 20000 in
set_option maxHeartbeats 1000000 in
theorem c_X7_copy {w : wU} {l : Launch} {b : Nat} {p1 : Int32} {p2 : Int32} {M : mM} {Q : Int32 → mM → Prop} (hb : isC w 7 b) (h : p_X7_copy b p1 p2 M Q) : CT w l 2 yX7_copy cX7_copy 3 (some .int) [.ref (uA w b), .int p1, .int p2] M (piI Q) := by
  refine CT.of (by decide +kernel) (Nat.le_of_ble_eq_true rfl) (fun X hw hH hl hP hN C => ?_)
  subst hw
  exact s_X7_copy C hH hN (fun r M1 q => by rw [hP]; exact ⟨r, rfl, q⟩) hb h
set_option maxRecDepth 20000 in
set_option maxHeartbeats 1000000 in
theorem s_X7_type_F39 {X : wX} (C : CX X cX7_type RX7 (some .int)) (hH : xH X = 2) (hN : xN X = 5) {b : Nat} {p1 : Int64} {p2 : Int32} {M : mM} {Q : Int32 → mM → Prop} (hQ : ∀ r M, Q r M → xPo X (some (.int r)) M) (hb : isC (xW X) 7 b) {v4 : Int32} {ag39 : (Int32 × mM) → Prop} (hag39 : ∀ s, ag39 s → V X 39 [(0, vR X b), (1, .long p1), (4, .int (s.1))] [] (s.2)) (h : p_X7_type_F39 b p1 p2  Q  ag39 v4 M) : V X 39 [(0, vR X b), (1, .long p1), (4, .int v4)] [] M := by
  refine V_iload C 2 dX7_type_39 rfl ?_
  refine V_if_lt (tgt := 81) C dX7_type_41 (by decide) (fun hc => ?_) (fun hc => ?_)
  · have h := h.1 hc
    refine V_aload_n C 0 dX7_type_81 rfl ?_
    refine V_getI C FL_RX7_146 (f7_9 hb) dX7_type_82 ?_
    exact V_iret C dX7_type_85 (hQ _ _ h)
  · have h := h.2 hc
    refine V_aload_n C 0 dX7_type_44 rfl ?_
    refine V_getR C FL_RX7_32 (f7_8 hb) dX7_type_45 ?_
    refine V_aload_n C 0 dX7_type_48 rfl ?_
    refine V_getI C FL_RX7_146 (f7_9 hb) dX7_type_49 ?_
    refine V_lload_n C 1 dX7_type_52 rfl ?_
    refine V_bipush C 8 dX7_type_53 (by decide) ?_
    refine V_iload C 2 dX7_type_55 rfl ?_
    refine V_imul C dX7_type_57 ?_
    refine V_lshr C dX7_type_58 ?_
    refine V_ldc2 C u_262 dX7_type_59 ?_
    refine V_land C dX7_type_62 ?_
    refine V_l2i C dX7_type_63 ?_
    obtain ⟨b3, h⟩ := h
    refine V_iast C (k7_8 hb) b3 dX7_type_64 ?_
    refine V_nmM (fun M2 e_M2 => ?_)
    have h := h M2 e_M2
    refine V_aload_n C 0 dX7_type_65 rfl ?_
    refine V_dup C dX7_type_66 rfl ?_
    refine V_getI C FL_RX7_146 (f7_9 hb) dX7_type_67 ?_
    refine V_iconst C 1 dX7_type_70 (by decide) ?_
    refine V_iadd C dX7_type_71 ?_
    refine V_putI C FW_RX7_146 (f7_9 hb) rfl rfl dX7_type_72 ?_
    refine V_nmM (fun M4 e_M4 => ?_)
    have h := h M4 e_M4
    refine V_iinc (v := (v4 + (-1))) (lv' := [(4, .int (v4 + (-1))), (0, vR X b), (1, .long p1)]) C 2 (ltN hN (by decide)) dX7_type_75 rfl rfl rfl ?_
    refine V_goto (tgt := 39) C dX7_type_78 (by decide) ?_
    exact V_sub [1, 2, 0] rfl (hag39 ((v4 + (-1)), M4) h)
set_option maxRecDepth 20000 in
set_option maxHeartbeats 1000000 in
theorem s_X7_type {X : wX} (C : CX X cX7_type RX7 (some .int)) (hH : xH X = 2) (hN : xN X = 5) {b : Nat} {p1 : Int64} {p2 : Int32} {M : mM} {Q : Int32 → mM → Prop} (hQ : ∀ r M, Q r M → xPo X (some (.int r)) M) (hb : isC (xW X) 7 b)   (h : p_X7_type b p1 p2 M Q) : V X 0 [(0, vR X b), (1, .long p1), (3, .int p2)] [] M := by
  refine V_iload_n C 2 dX7_type_0 rfl ?_
  refine V_i2l C dX7_type_1 ?_
  refine V_lconst C 1 dX7_type_2 (by decide) ?_
  refine V_ldc2 C u_259 dX7_type_3 ?_
  refine V_callS (As := [.long (p2.toInt64), .long 1, .long 8]) (st := []) C (c_X7_in  h) Y_X7_in Z_X7_in (ltN hH (by decide)) u_243 rfl rfl (Nat.le_of_ble_eq_true rfl) dX7_type_6 ?_
  rintro v9 M9 ⟨rfl, r1, rfl, h⟩
  show V X 9 _ [.int r1] M
  refine V_if_ne (tgt := 17) C dX7_type_9 (by decide) (fun hc => ?_) (fun hc => ?_)
  · have h := h.1 hc
    refine V_aload_n C 0 dX7_type_17 rfl ?_
    refine V_getI C FL_RX7_146 (f7_9 hb) dX7_type_18 ?_
    refine V_iload_n C 2 dX7_type_21 rfl ?_
    refine V_iadd C dX7_type_22 ?_
    refine V_sipush C 300 dX7_type_23 (by decide) ?_
    refine V_icmp_le (tgt := 34) C dX7_type_26 (by decide) (fun hc => ?_) (fun hc => ?_)
    · have h := h.1 hc
      refine V_iload_n C 2 dX7_type_34 rfl ?_
      refine V_iconst C 1 dX7_type_35 (by decide) ?_
      refine V_isub C dX7_type_36 ?_
      refine V_istore (lv' := [(4, .int (p2 - 1)), (0, vR X b), (1, .long p1), (3, .int p2)]) C (ltN hN (by decide)) dX7_type_37 rfl ?_
      refine V_sub [1, 2, 0] rfl ?_
      exact Loop.sound (s0 := ((p2 - 1), M)) (P := fun s => V X 39 [(0, vR X b), (1, .long p1), (4, .int (s.1))] [] (s.2)) h (fun ag hag s hs => s_X7_type_F39 C hH hN hQ hb  hag hs)
    · have h := h.2 hc
      refine V_aload_n C 0 dX7_type_29 rfl ?_
      refine V_callV (As := []) (st := []) C (c_X7_full hb h) Y_X7_full Z_X7_full (T := TX7) (N := 21) rfl (o7 hb) (ltN hH (by decide)) u_248 rfl rfl (Nat.le_of_ble_eq_true rfl) dX7_type_30 ?_
      rintro v9 M5 ⟨r6, rfl, h⟩
      show V X 33 _ [.int r6] M5
      exact V_iret C dX7_type_33 (hQ _ _ h)
  · have h := h.2 hc
    refine V_aload_n C 0 dX7_type_12 rfl ?_
    refine V_callV (As := []) (st := []) C (c_X7_bad hb h) Y_X7_bad Z_X7_bad (T := TX7) (N := 21) rfl (o7 hb) (ltN hH (by decide)) u_242 rfl rfl (Nat.le_of_ble_eq_true rfl) dX7_type_13 ?_
    rintro v9 M7 ⟨r8, rfl, h⟩
    show V X 16 _ [.int r8] M7
    exact V_iret C dX7_type_16 (hQ _ _ h)
set_option maxRecDepth 20000 in
set_option maxHeartbeats 1000000 in
theorem c_X7_type {w : wU} {l : Launch} {b : Nat} {p1 : Int64} {p2 : Int32} {M : mM} {Q : Int32 → mM → Prop} (hb : isC w 7 b) (h : p_X7_type b p1 p2 M Q) : CT w l 2 yX7_type cX7_type 5 (some .int) [.ref (uA w b), .long p1, .int p2] M (piI Q) := by
  refine CT.of (by decide +kernel) (Nat.le_of_ble_eq_true rfl) (fun X hw hH hl hP hN C => ?_)
  subst hw
  exact s_X7_type C hH hN (fun r M1 q => by rw [hP]; exact ⟨r, rfl, q⟩) hb h
set_option maxRecDepth 20000 in
set_option maxHeartbeats 1000000 in
theorem s_X7_clear {X : wX} (C : CX X cX7_clear RX7 (some .int)) (hH : xH X = 0) (hN : xN X = 2) {b : Nat} {M : mM} {Q : Int32 → mM → Prop} (hQ : ∀ r M, Q r M → xPo X (some (.int r)) M) (hb : isC (xW X) 7 b)   (h : p_X7_clear b M Q) : V X 0 [(0, vR X b)] [] M := by
  refine V_aload_n C 0 dX7_clear_0 rfl ?_
  refine V_getI C FL_RX7_146 (f7_9 hb) dX7_clear_1 ?_
  refine V_istore_n (lv' := [(1, .int (M.1 b 9)), (0, vR X b)]) C (ltN hN (by decide)) dX7_clear_4 rfl ?_
  refine V_aload_n C 1 dX7_clear_5 rfl ?_
  refine V_iconst C 0 dX7_clear_6 (by decide) ?_
  refine V_putI C FW_RX7_146 (f7_9 hb) rfl rfl dX7_clear_7 ?_
  refine V_nmM (fun M1 e_M1 => ?_)
  have h := h M1 e_M1
  refine V_iload_n C 0 dX7_clear_10 rfl ?_
  exact V_iret C dX7_clear_11 (hQ _ _ h)
set_option maxRecDepth 20000 in
set_option maxHeartbeats 1000000 in
theorem c_X7_clear {w : wU} {l : Launch} {b : Nat} {M : mM} {Q : Int32 → mM → Prop} (hb : isC w 7 b) (h : p_X7_clear b M Q) : CT w l 0 yX7_clear cX7_clear 2 (some .int) [.ref (uA w b)] M (piI Q) := by
  refine CT.of (by decide +kernel) (Nat.le_of_ble_eq_true rfl) (fun X hw hH hl hP hN C => ?_)
  subst hw
  exact s_X7_clear C hH hN (fun r M1 q => by rw [hP]; exact ⟨r, rfl, q⟩) hb h
set_option maxRecDepth 20000 in
set_option maxHeartbeats 1000000 in
theorem s_X7_isAt {X : wX} (C : CX X cX7_isAt RX7 (some .boolean)) (hH : xH X = 1) (hN : xN X = 3) {b : Nat} {p1 : Int32} {p2 : Int32} {M : mM} {Q : Int32 → Prop} (hQ : ∀ r, Q r → xPo X (some (.int r)) M) (hb : isC (xW X) 7 b)   (h : p_X7_isAt b p1 p2 M Q) : V X 0 [(0, vR X b), (1, .int p1), (2, .int p2)] [] M := by
  refine V_aload_n C 0 dX7_isAt_0 rfl ?_
  refine V_getI C FL_RX7_152 (f7_10 hb) dX7_isAt_1 ?_
  refine V_aload_n C 0 dX7_isAt_4 rfl ?_
  refine V_getI C FL_RX7_146 (f7_9 hb) dX7_isAt_5 ?_
  refine V_icmp_ge (tgt := 35) C dX7_isAt_8 (by decide) (fun hc => ?_) (fun hc => ?_)
  · have h := h.1 hc
    refine V_iconst C 0 dX7_isAt_35 (by decide) ?_
    exact V_zret C rfl (by decide) dX7_isAt_36 (hQ _ h)
  · have h := h.2 hc
    refine V_aload_n C 0 dX7_isAt_11 rfl ?_
    refine V_getR C FL_RX7_32 (f7_8 hb) dX7_isAt_12 ?_
    refine V_aload_n C 0 dX7_isAt_15 rfl ?_
    refine V_getI C FL_RX7_152 (f7_10 hb) dX7_isAt_16 ?_
    obtain ⟨b1, h⟩ := h
    refine V_iald C (k7_8 hb) b1 dX7_isAt_19 ?_
    refine V_i2l C dX7_isAt_20 ?_
    refine V_iload_n C 1 dX7_isAt_21 rfl ?_
    refine V_i2l C dX7_isAt_22 ?_
    refine V_iload_n C 2 dX7_isAt_23 rfl ?_
    refine V_i2l C dX7_isAt_24 ?_
    refine V_callS (As := [.long ((M.1 (b + 8) (M.1 b 10).toNatClampNeg).toInt64), .long (p1.toInt64), .long (p2.toInt64)]) (st := []) C (c_X7_in  h) Y_X7_in Z_X7_in (ltN hH (by decide)) u_243 rfl rfl (Nat.le_of_ble_eq_true rfl) dX7_isAt_25 ?_
    rintro v9 M9 ⟨rfl, r2, rfl, h⟩
    show V X 28 _ [.int r2] M
    refine V_if_eq (tgt := 35) C dX7_isAt_28 (by decide) (fun hc => ?_) (fun hc => ?_)
    · have h := h.1 hc
      refine V_iconst C 0 dX7_isAt_35 (by decide) ?_
      exact V_zret C rfl (by decide) dX7_isAt_36 (hQ _ h)
    · have h := h.2 hc
      refine V_iconst C 1 dX7_isAt_31 (by decide) ?_
      refine V_goto (tgt := 36) C dX7_isAt_32 (by decide) ?_
      exact V_zret C rfl (by decide) dX7_isAt_36 (hQ _ h)
set_option maxRecDepth 20000 in
set_option maxHeartbeats 1000000 in
theorem c_X7_isAt {w : wU} {l : Launch} {b : Nat} {p1 : Int32} {p2 : Int32} {M : mM} {Q : Int32 → Prop} (hb : isC w 7 b) (h : p_X7_isAt b p1 p2 M Q) : CT w l 1 yX7_isAt cX7_isAt 3 (some .boolean) [.ref (uA w b), .int p1, .int p2] M (poI M Q) := by
  refine CT.of (by decide +kernel) (Nat.le_of_ble_eq_true rfl) (fun X hw hH hl hP hN C => ?_)
  subst hw
  exact s_X7_isAt C hH hN (fun r q => by rw [hP]; exact ⟨rfl, r, rfl, q⟩) hb h
