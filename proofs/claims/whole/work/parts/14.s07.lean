set_option maxRecDepth 20000 in
set_option maxHeartbeats 1000000 in
theorem s_X7_goes_J49 {X : wX} (C : CX X cX7_goes RX7 (some .int)) (hH : xH X = 0) (hN : xN X = 5) {b : Nat} {p1 : Int32} {p2 : Int32} {p3 : Int32} {M : mM} {Q : Int32 → Prop} (hQ : ∀ r, Q r → xPo X (some (.int r)) M) (hb : isC (xW X) 7 b) {s0 : Int32}  (h : p_X7_goes_J49 b p1 p2 p3 Q  s0 M) : V X 49 [(0, vR X b), (2, .int p2), (3, .int p3)] [.int s0] M := by
  refine V_istore (lv' := [(4, .int s0), (0, vR X b), (2, .int p2), (3, .int p3)]) C (ltN hN (by decide)) dX7_goes_49 rfl ?_
  refine V_iload C 0 dX7_goes_51 rfl ?_
  refine V_if_ne (tgt := 60) C dX7_goes_53 (by decide) (fun hc => ?_) (fun hc => ?_)
  · have h := h.1 hc
    refine V_iload_n C 2 dX7_goes_60 rfl ?_
    refine V_iload_n C 3 dX7_goes_61 rfl ?_
    refine V_icmp_ne (tgt := 75) C dX7_goes_62 (by decide) (fun hc => ?_) (fun hc => ?_)
    · have h := h.1 hc
      refine V_iconst C 1 dX7_goes_75 (by decide) ?_
      exact V_iret C dX7_goes_76 (hQ _ h)
    · have h := h.2 hc
      refine V_aload_n C 1 dX7_goes_65 rfl ?_
      refine V_getR C FL_RX7_7 (f7_0 hb) dX7_goes_66 ?_
      refine V_bipush C 8 dX7_goes_69 (by decide) ?_
      refine V_iald C (k7_1 hb) (vp_lit (by decide)) dX7_goes_71 ?_
      refine V_goto (tgt := 76) C dX7_goes_72 (by decide) ?_
      exact V_iret C dX7_goes_76 (hQ _ h)
  · have h := h.2 hc
    refine V_iconst C 0 dX7_goes_56 (by decide) ?_
    refine V_goto (tgt := 76) C dX7_goes_57 (by decide) ?_
    exact V_iret C dX7_goes_76 (hQ _ h)
set_option maxRecDepth 20000 in
set_option maxHeartbeats 1000000 in
theorem s_X7_goes_J44 {X : wX} (C : CX X cX7_goes RX7 (some .int)) (hH : xH X = 0) (hN : xN X = 5) {b : Nat} {p1 : Int32} {p2 : Int32} {p3 : Int32} {M : mM} {Q : Int32 → Prop} (hQ : ∀ r, Q r → xPo X (some (.int r)) M) (hb : isC (xW X) 7 b)   (h : p_X7_goes_J44 b p1 p2 p3 Q   M) : V X 44 [(0, vR X b), (2, .int p2), (3, .int p3)] [] M := by
  refine V_iconst C 1 dX7_goes_44 (by decide) ?_
  refine V_goto (tgt := 49) C dX7_goes_45 (by decide) ?_
  exact V_sub [0, 1, 2] rfl (s_X7_goes_J49 C hH hN hQ hb   h)
set_option maxRecDepth 20000 in
set_option maxHeartbeats 1000000 in
theorem s_X7_goes {X : wX} (C : CX X cX7_goes RX7 (some .int)) (hH : xH X = 0) (hN : xN X = 5) {b : Nat} {p1 : Int32} {p2 : Int32} {p3 : Int32} {M : mM} {Q : Int32 → Prop} (hQ : ∀ r, Q r → xPo X (some (.int r)) M) (hb : isC (xW X) 7 b)   (h : p_X7_goes b p1 p2 p3 M Q) : V X 0 [(0, vR X b), (1, .int p1), (2, .int p2), (3, .int p3)] [] M := by
  refine V_aload_n C 0 dX7_goes_0 rfl ?_
  refine V_getR C FL_RX7_47 (f7_19 hb) dX7_goes_1 ?_
  refine V_iload_n C 1 dX7_goes_4 rfl ?_
  obtain ⟨b1, h⟩ := h
  refine V_iald C (k7_13 hb) b1 dX7_goes_5 ?_
  refine V_iconst C (-1) dX7_goes_6 (by decide) ?_
  refine V_icmp_eq (tgt := 44) C dX7_goes_7 (by decide) (fun hc => ?_) (fun hc => ?_)
  · have h := h.1 hc
    exact V_sub [0, 2, 3] rfl (s_X7_goes_J44 C hH hN hQ hb   h)
  · have h := h.2 hc
    refine V_aload_n C 0 dX7_goes_10 rfl ?_
    refine V_getR C FL_RX7_44 (f7_18 hb) dX7_goes_11 ?_
    refine V_bipush C 21 dX7_goes_14 (by decide) ?_
    refine V_iload_n C 1 dX7_goes_16 rfl ?_
    refine V_iconst C 1 dX7_goes_17 (by decide) ?_
    refine V_iadd C dX7_goes_18 ?_
    refine V_imul C dX7_goes_19 ?_
    refine V_iload_n C 3 dX7_goes_20 rfl ?_
    refine V_iadd C dX7_goes_21 ?_
    obtain ⟨b2, h⟩ := h
    refine V_iald C (k7_12 hb) b2 dX7_goes_22 ?_
    refine V_aload_n C 0 dX7_goes_23 rfl ?_
    refine V_getR C FL_RX7_44 (f7_18 hb) dX7_goes_24 ?_
    refine V_bipush C 21 dX7_goes_27 (by decide) ?_
    refine V_iload_n C 1 dX7_goes_29 rfl ?_
    refine V_imul C dX7_goes_30 ?_
    refine V_iload_n C 2 dX7_goes_31 rfl ?_
    refine V_iadd C dX7_goes_32 ?_
    obtain ⟨b3, h⟩ := h
    refine V_iald C (k7_12 hb) b3 dX7_goes_33 ?_
    refine V_isub C dX7_goes_34 ?_
    refine V_aload_n C 0 dX7_goes_35 rfl ?_
    refine V_getR C FL_RX7_47 (f7_19 hb) dX7_goes_36 ?_
    refine V_iload_n C 1 dX7_goes_39 rfl ?_
    obtain ⟨b4, h⟩ := h
    refine V_iald C (k7_13 hb) b4 dX7_goes_40 ?_
    refine V_icmp_lt (tgt := 48) C dX7_goes_41 (by decide) (fun hc => ?_) (fun hc => ?_)
    · have h := h.1 hc
      refine V_iconst C 0 dX7_goes_48 (by decide) ?_
      exact V_sub [0, 2, 3] rfl (s_X7_goes_J49 C hH hN hQ hb   h)
    · have h := h.2 hc
      exact V_sub [0, 2, 3] rfl (s_X7_goes_J44 C hH hN hQ hb   h)
set_option maxRecDepth 20000 in
set_option maxHeartbeats 1000000 in
theorem c_X7_goes {w : wU} {l : Launch} {b : Nat} {p1 : Int32} {p2 : Int32} {p3 : Int32} {M : mM} {Q : Int32 → Prop} (hb : isC w 7 b) (h : p_X7_goes b p1 p2 p3 M Q) : CT w l 0 yX7_goes cX7_goes 5 (some .int) [.ref (uA w b), .int p1, .int p2, .int p3] M (poI M Q) := by
  refine CT.of (by decide +kernel) (Nat.le_of_ble_eq_true rfl) (fun X hw hH hl hP hN C => ?_)
  subst hw
  exact s_X7_goes C hH hN (fun r q => by rw [hP]; exact ⟨rfl, r, rfl, q⟩) hb h
set_option maxRecDepth 20000 in
set_option maxHeartbeats 1000000 in
theorem s_X7_can_F142 {X : wX} (C : CX X cX7_can RX7 (some .boolean)) (hH : xH X = 7) (hN : xN X = 7) {b : Nat} {p1 : Int32} {p2 : Int32} {M : mM} {Q : Int32 → mM → Prop} (hQ : ∀ r M, Q r M → xPo X (some (.int r)) M) (hb : isC (xW X) 7 b) {v3 : Int32} {v4 : Int32} {ag142 : (Int32 × Int32) → Prop} (hag142 : ∀ s, ag142 s → V X 142 [(0, vR X b), (3, .int (s.1)), (4, .int (s.2))] [] M) (h : p_X7_can_F142 b p1 p2  M Q  ag142 v3 v4) : V X 142 [(0, vR X b), (3, .int v3), (4, .int v4)] [] M := by
  refine V_iload C 2 dX7_can_142 rfl ?_
  refine V_sipush C 168 dX7_can_144 (by decide) ?_
  refine V_icmp_ge (tgt := 176) C dX7_can_147 (by decide) (fun hc => ?_) (fun hc => ?_)
  · have h := h.1 hc
    refine V_iload_n C 1 dX7_can_176 rfl ?_
    exact V_zret C rfl h.1 dX7_can_177 (hQ _ _ h.2)
  · have h := h.2 hc
    refine V_iload_n C 1 dX7_can_150 rfl ?_
    refine V_if_ne (tgt := 164) C dX7_can_151 (by decide) (fun hc => ?_) (fun hc => ?_)
    · have h := h.1 hc
      refine V_iconst C 1 dX7_can_164 (by decide) ?_
      refine V_goto (tgt := 169) C dX7_can_165 (by decide) ?_
      refine V_istore_n (lv' := [(3, .int 1), (0, vR X b), (4, .int v4)]) C (ltN hN (by decide)) dX7_can_169 rfl ?_
      refine V_iinc (v := (v4 + 1)) (lv' := [(4, .int (v4 + 1)), (3, .int 1), (0, vR X b)]) C 2 (ltN hN (by decide)) dX7_can_170 rfl rfl rfl ?_
      refine V_goto (tgt := 142) C dX7_can_173 (by decide) ?_
      exact V_sub [2, 1, 0] rfl (hag142 ((1 : Int32), (v4 + 1)) h)
    · have h := h.2 hc
      refine V_aload_n C 0 dX7_can_154 rfl ?_
      refine V_getR C FL_RX7_50 (f7_20 hb) dX7_can_155 ?_
      refine V_iload C 2 dX7_can_158 rfl ?_
      obtain ⟨b2, h⟩ := h
      refine V_zald C (k7_14 hb) b2 dX7_can_160 ?_
      refine V_if_eq (tgt := 168) C dX7_can_161 (by decide) (fun hc => ?_) (fun hc => ?_)
      · have h := h.1 hc
        refine V_iconst C 0 dX7_can_168 (by decide) ?_
        refine V_istore_n (lv' := [(3, .int 0), (0, vR X b), (4, .int v4)]) C (ltN hN (by decide)) dX7_can_169 rfl ?_
        refine V_iinc (v := (v4 + 1)) (lv' := [(4, .int (v4 + 1)), (3, .int 0), (0, vR X b)]) C 2 (ltN hN (by decide)) dX7_can_170 rfl rfl rfl ?_
        refine V_goto (tgt := 142) C dX7_can_173 (by decide) ?_
        exact V_sub [2, 1, 0] rfl (hag142 ((0 : Int32), (v4 + 1)) h)
      · have h := h.2 hc
        refine V_iconst C 1 dX7_can_164 (by decide) ?_
        refine V_goto (tgt := 169) C dX7_can_165 (by decide) ?_
        refine V_istore_n (lv' := [(3, .int 1), (0, vR X b), (4, .int v4)]) C (ltN hN (by decide)) dX7_can_169 rfl ?_
        refine V_iinc (v := (v4 + 1)) (lv' := [(4, .int (v4 + 1)), (3, .int 1), (0, vR X b)]) C 2 (ltN hN (by decide)) dX7_can_170 rfl rfl rfl ?_
        refine V_goto (tgt := 142) C dX7_can_173 (by decide) ?_
        exact V_sub [2, 1, 0] rfl (hag142 ((1 : Int32), (v4 + 1)) h)
set_option maxRecDepth 20000 in
set_option maxHeartbeats 1000000 in
theorem s_X7_can_J121 {X : wX} (C : CX X cX7_can RX7 (some .boolean)) (hH : xH X = 7) (hN : xN X = 7) {b : Nat} {p1 : Int32} {p2 : Int32} {M : mM} {Q : Int32 → mM → Prop} (hQ : ∀ r M, Q r M → xPo X (some (.int r)) M) (hb : isC (xW X) 7 b) {v3 : Int32} {v4 : Int32} {ag8 : (Int32 × mM) → Prop} (hag8 : ∀ s, ag8 s → V X 8 [(0, vR X b), (3, .int (s.1))] [] (s.2)) (h : p_X7_can_J121 b p1 p2 Q ag8 v3 v4 M) : V X 121 [(0, vR X b), (3, .int v3), (4, .int v4)] [] M := by
  refine V_aload_n C 0 dX7_can_121 rfl ?_
  refine V_getR C FL_RX7_50 (f7_20 hb) dX7_can_122 ?_
  refine V_iload_n C 1 dX7_can_125 rfl ?_
  refine V_iload C 2 dX7_can_126 rfl ?_
  obtain ⟨b4, h⟩ := h
  refine V_zast C (k7_14 hb) b4 dX7_can_128 ?_
  refine V_nmM (fun M3 e_M3 => ?_)
  have h := h M3 e_M3
  refine V_iinc (v := (v3 + 1)) (lv' := [(3, .int (v3 + 1)), (0, vR X b), (4, .int v4)]) C 1 (ltN hN (by decide)) dX7_can_129 rfl rfl rfl ?_
  refine V_goto (tgt := 8) C dX7_can_132 (by decide) ?_
  exact V_sub [1, 0] rfl (hag8 ((v3 + 1), M3) h)
set_option maxRecDepth 20000 in
set_option maxHeartbeats 1000000 in
theorem s_X7_can_F46 {X : wX} (C : CX X cX7_can RX7 (some .boolean)) (hH : xH X = 7) (hN : xN X = 7) {b : Nat} {p1 : Int32} {p2 : Int32} {M : mM} {Q : Int32 → mM → Prop} (hQ : ∀ r M, Q r M → xPo X (some (.int r)) M) (hb : isC (xW X) 7 b) {v3 : Int32} {v5 : Int32} {v4 : Int32} {v6 : Int32} {ag8 : (Int32 × mM) → Prop} {ag46 : (Int32 × Int32) → Prop} (hag8 : ∀ s, ag8 s → V X 8 [(0, vR X b), (3, .int (s.1))] [] (s.2)) (hag46 : ∀ s, ag46 s → V X 46 [(0, vR X b), (3, .int v3), (4, .int (s.1)), (5, .int v5), (6, .int (s.2))] [] M) (h : p_X7_can_F46 b p1 p2 v3 v5 M Q ag8 ag46 v4 v6) : V X 46 [(0, vR X b), (3, .int v3), (4, .int v4), (5, .int v5), (6, .int v6)] [] M := by
  refine V_iload C 4 dX7_can_46 rfl ?_
  refine V_bipush C 21 dX7_can_48 (by decide) ?_
  refine V_icmp_ge (tgt := 121) C dX7_can_50 (by decide) (fun hc => ?_) (fun hc => ?_)
  · have h := h.1 hc
    exact V_sub [0, 1, 2] rfl (s_X7_can_J121 C hH hN hQ hb hag8  h)
  · have h := h.2 hc
    refine V_iload_n C 1 dX7_can_53 rfl ?_
    refine V_bipush C 21 dX7_can_54 (by decide) ?_
    refine V_icmp_lt (tgt := 121) C dX7_can_56 (by decide) (fun hc => ?_) (fun hc => ?_)
    · have h := h.1 hc
      exact V_sub [0, 1, 2] rfl (s_X7_can_J121 C hH hN hQ hb hag8  h)
    · have h := h.2 hc
      refine V_aload_n C 0 dX7_can_59 rfl ?_
      refine V_getR C FL_RX7_41 (f7_17 hb) dX7_can_60 ?_
      refine V_iload_n C 1 dX7_can_63 rfl ?_
      obtain ⟨b5, h⟩ := h
      refine V_iald C (k7_11 hb) b5 dX7_can_64 ?_
      refine V_if_le (tgt := 121) C dX7_can_65 (by decide) (fun hc => ?_) (fun hc => ?_)
      · have h := h.1 hc
        exact V_sub [0, 1, 2] rfl (s_X7_can_J121 C hH hN hQ hb hag8  h)
      · have h := h.2 hc
        refine V_iload C 2 dX7_can_68 rfl ?_
        refine V_if_ne (tgt := 121) C dX7_can_70 (by decide) (fun hc => ?_) (fun hc => ?_)
        · have h := h.1 hc
          exact V_sub [0, 1, 2] rfl (s_X7_can_J121 C hH hN hQ hb hag8  h)
        · have h := h.2 hc
          refine V_aload_n C 0 dX7_can_73 rfl ?_
          refine V_getR C FL_RX7_50 (f7_20 hb) dX7_can_74 ?_
          refine V_bipush C 21 dX7_can_77 (by decide) ?_
          refine V_iload C 3 dX7_can_79 rfl ?_
          refine V_iconst C 1 dX7_can_81 (by decide) ?_
          refine V_isub C dX7_can_82 ?_
          refine V_imul C dX7_can_83 ?_
          refine V_iload C 4 dX7_can_84 rfl ?_
          refine V_iadd C dX7_can_86 ?_
          obtain ⟨b6, h⟩ := h
          refine V_zald C (k7_14 hb) b6 dX7_can_87 ?_
          refine V_if_eq (tgt := 112) C dX7_can_88 (by decide) (fun hc => ?_) (fun hc => ?_)
          · have h := h.1 hc
            refine V_iconst C 0 dX7_can_112 (by decide) ?_
            refine V_istore (lv' := [(4, .int 0), (0, vR X b), (3, .int v3), (5, .int v5), (6, .int v6)]) C (ltN hN (by decide)) dX7_can_113 rfl ?_
            refine V_iinc (v := (v6 + 1)) (lv' := [(6, .int (v6 + 1)), (4, .int 0), (0, vR X b), (3, .int v3), (5, .int v5)]) C 4 (ltN hN (by decide)) dX7_can_115 rfl rfl rfl ?_
            refine V_goto (tgt := 46) C dX7_can_118 (by decide) ?_
            exact V_sub [2, 3, 1, 4, 0] rfl (hag46 ((0 : Int32), (v6 + 1)) h)
          · have h := h.2 hc
            refine V_aload_n C 0 dX7_can_91 rfl ?_
            refine V_iload C 3 dX7_can_92 rfl ?_
            refine V_iconst C 1 dX7_can_94 (by decide) ?_
            refine V_isub C dX7_can_95 ?_
            refine V_iload C 4 dX7_can_96 rfl ?_
            refine V_iload_n C 1 dX7_can_98 rfl ?_
            refine V_bipush C 21 dX7_can_99 (by decide) ?_
            refine V_irem C dX7_can_101 (by decide) ?_
            refine V_callV (As := [.int (v5 - 1), .int v6, .int (v3 - v3 / 21 * 21)]) (st := []) C (c_X7_goes hb h) Y_X7_goes Z_X7_goes (T := TX7) (N := 21) rfl (o7 hb) (ltN hH (by decide)) u_315 rfl rfl (Nat.le_of_ble_eq_true rfl) dX7_can_102 ?_
            rintro v9 M9 ⟨rfl, r7, rfl, h⟩
            show V X 105 _ [.int r7] M
            refine V_if_le (tgt := 112) C dX7_can_105 (by decide) (fun hc => ?_) (fun hc => ?_)
            · have h := h.1 hc
              refine V_iconst C 0 dX7_can_112 (by decide) ?_
              refine V_istore (lv' := [(4, .int 0), (0, vR X b), (3, .int v3), (5, .int v5), (6, .int v6)]) C (ltN hN (by decide)) dX7_can_113 rfl ?_
              refine V_iinc (v := (v6 + 1)) (lv' := [(6, .int (v6 + 1)), (4, .int 0), (0, vR X b), (3, .int v3), (5, .int v5)]) C 4 (ltN hN (by decide)) dX7_can_115 rfl rfl rfl ?_
              refine V_goto (tgt := 46) C dX7_can_118 (by decide) ?_
              exact V_sub [2, 3, 1, 4, 0] rfl (hag46 ((0 : Int32), (v6 + 1)) h)
            · have h := h.2 hc
              refine V_iconst C 1 dX7_can_108 (by decide) ?_
              refine V_goto (tgt := 113) C dX7_can_109 (by decide) ?_
              refine V_istore (lv' := [(4, .int 1), (0, vR X b), (3, .int v3), (5, .int v5), (6, .int v6)]) C (ltN hN (by decide)) dX7_can_113 rfl ?_
              refine V_iinc (v := (v6 + 1)) (lv' := [(6, .int (v6 + 1)), (4, .int 1), (0, vR X b), (3, .int v3), (5, .int v5)]) C 4 (ltN hN (by decide)) dX7_can_115 rfl rfl rfl ?_
              refine V_goto (tgt := 46) C dX7_can_118 (by decide) ?_
              exact V_sub [2, 3, 1, 4, 0] rfl (hag46 ((1 : Int32), (v6 + 1)) h)
set_option maxRecDepth 20000 in
set_option maxHeartbeats 1000000 in
theorem s_X7_can_J34 {X : wX} (C : CX X cX7_can RX7 (some .boolean)) (hH : xH X = 7) (hN : xN X = 7) {b : Nat} {p1 : Int32} {p2 : Int32} {M : mM} {Q : Int32 → mM → Prop} (hQ : ∀ r M, Q r M → xPo X (some (.int r)) M) (hb : isC (xW X) 7 b) {v3 : Int32} {ag8 : (Int32 × mM) → Prop} (hag8 : ∀ s, ag8 s → V X 8 [(0, vR X b), (3, .int (s.1))] [] (s.2)) (h : p_X7_can_J34 b p1 p2 Q ag8 v3 M) : V X 34 [(0, vR X b), (3, .int v3)] [] M := by
  refine V_iconst C 0 dX7_can_34 (by decide) ?_
  refine V_istore (lv' := [(4, .int 0), (0, vR X b), (3, .int v3)]) C (ltN hN (by decide)) dX7_can_35 rfl ?_
  refine V_iload_n C 2 dX7_can_37 rfl ?_
  refine V_bipush C 21 dX7_can_38 (by decide) ?_
  refine V_idiv C dX7_can_40 (by decide) ?_
  refine V_istore (lv' := [(5, .int (v3 / 21)), (4, .int 0), (0, vR X b), (3, .int v3)]) C (ltN hN (by decide)) dX7_can_41 rfl ?_
  refine V_iconst C 0 dX7_can_43 (by decide) ?_
  refine V_istore (lv' := [(6, .int 0), (5, .int (v3 / 21)), (4, .int 0), (0, vR X b), (3, .int v3)]) C (ltN hN (by decide)) dX7_can_44 rfl ?_
  refine V_sub [3, 4, 2, 1, 0] rfl ?_
  exact Loop.sound (s0 := ((0 : Int32), (0 : Int32))) (P := fun s => V X 46 [(0, vR X b), (3, .int v3), (4, .int (s.1)), (5, .int (v3 / 21)), (6, .int (s.2))] [] M) h (fun ag hag s hs => s_X7_can_F46 C hH hN hQ hb hag8 hag hs)
set_option maxRecDepth 20000 in
set_option maxHeartbeats 1000000 in
theorem s_X7_can_F8 {X : wX} (C : CX X cX7_can RX7 (some .boolean)) (hH : xH X = 7) (hN : xN X = 7) {b : Nat} {p1 : Int32} {p2 : Int32} {M : mM} {Q : Int32 → mM → Prop} (hQ : ∀ r M, Q r M → xPo X (some (.int r)) M) (hb : isC (xW X) 7 b) {v3 : Int32} {ag8 : (Int32 × mM) → Prop} (hag8 : ∀ s, ag8 s → V X 8 [(0, vR X b), (3, .int (s.1))] [] (s.2)) (h : p_X7_can_F8 b p1 p2  Q  ag8 v3 M) : V X 8 [(0, vR X b), (3, .int v3)] [] M := by
  refine V_iload_n C 1 dX7_can_8 rfl ?_
  refine V_sipush C 168 dX7_can_9 (by decide) ?_
  refine V_icmp_ge (tgt := 135) C dX7_can_12 (by decide) (fun hc => ?_) (fun hc => ?_)
  · have h := h.1 hc
    refine V_iconst C 0 dX7_can_135 (by decide) ?_
    refine V_istore_n (lv' := [(3, .int 0), (0, vR X b)]) C (ltN hN (by decide)) dX7_can_136 rfl ?_
    refine V_sipush C 147 dX7_can_137 (by decide) ?_
    refine V_istore (lv' := [(4, .int 147), (3, .int 0), (0, vR X b)]) C (ltN hN (by decide)) dX7_can_140 rfl ?_
    refine V_sub [2, 1, 0] rfl ?_
    exact Loop.sound (s0 := ((0 : Int32), (147 : Int32))) (P := fun s => V X 142 [(0, vR X b), (3, .int (s.1)), (4, .int (s.2))] [] M) h (fun ag hag s hs => s_X7_can_F142 C hH hN hQ hb  hag hs)
  · have h := h.2 hc
    refine V_iload_n C 1 dX7_can_15 rfl ?_
    refine V_bipush C 21 dX7_can_16 (by decide) ?_
    refine V_icmp_ge (tgt := 34) C dX7_can_18 (by decide) (fun hc => ?_) (fun hc => ?_)
    · have h := h.1 hc
      exact V_sub [0, 1] rfl (s_X7_can_J34 C hH hN hQ hb hag8  h)
    · have h := h.2 hc
      refine V_aload_n C 0 dX7_can_21 rfl ?_
      refine V_getR C FL_RX7_41 (f7_17 hb) dX7_can_22 ?_
      refine V_iload_n C 1 dX7_can_25 rfl ?_
      obtain ⟨b8, h⟩ := h
      refine V_iald C (k7_11 hb) b8 dX7_can_26 ?_
      refine V_if_le (tgt := 34) C dX7_can_27 (by decide) (fun hc => ?_) (fun hc => ?_)
      · have h := h.1 hc
        exact V_sub [0, 1] rfl (s_X7_can_J34 C hH hN hQ hb hag8  h)
      · have h := h.2 hc
        refine V_iconst C 1 dX7_can_30 (by decide) ?_
        refine V_goto (tgt := 35) C dX7_can_31 (by decide) ?_
        refine V_istore (lv' := [(4, .int 1), (0, vR X b), (3, .int v3)]) C (ltN hN (by decide)) dX7_can_35 rfl ?_
        refine V_iload_n C 2 dX7_can_37 rfl ?_
        refine V_bipush C 21 dX7_can_38 (by decide) ?_
        refine V_idiv C dX7_can_40 (by decide) ?_
        refine V_istore (lv' := [(5, .int (v3 / 21)), (4, .int 1), (0, vR X b), (3, .int v3)]) C (ltN hN (by decide)) dX7_can_41 rfl ?_
        refine V_iconst C 0 dX7_can_43 (by decide) ?_
        refine V_istore (lv' := [(6, .int 0), (5, .int (v3 / 21)), (4, .int 1), (0, vR X b), (3, .int v3)]) C (ltN hN (by decide)) dX7_can_44 rfl ?_
        refine V_sub [3, 4, 2, 1, 0] rfl ?_
        exact Loop.sound (s0 := ((1 : Int32), (0 : Int32))) (P := fun s => V X 46 [(0, vR X b), (3, .int v3), (4, .int (s.1)), (5, .int (v3 / 21)), (6, .int (s.2))] [] M) h (fun ag hag s hs => s_X7_can_F46 C hH hN hQ hb hag8 hag hs)
set_option maxRecDepth 20000 in
set_option maxHeartbeats 1000000 in
theorem s_X7_can {X : wX} (C : CX X cX7_can RX7 (some .boolean)) (hH : xH X = 7) (hN : xN X = 7) {b : Nat} {p1 : Int32} {p2 : Int32} {M : mM} {Q : Int32 → mM → Prop} (hQ : ∀ r M, Q r M → xPo X (some (.int r)) M) (hb : isC (xW X) 7 b)   (h : p_X7_can b p1 p2 M Q) : V X 0 [(0, vR X b), (1, .int p1), (2, .int p2)] [] M := by
  refine V_aload_n C 0 dX7_can_0 rfl ?_
  refine V_iload_n C 1 dX7_can_1 rfl ?_
  refine V_iload_n C 2 dX7_can_2 rfl ?_
  refine V_callV (As := [.int p1, .int p2]) (st := []) C (c_X7_looks hb h) Y_X7_looks Z_X7_looks (T := TX7) (N := 21) rfl (o7 hb) (ltN hH (by decide)) u_316 rfl rfl (Nat.le_of_ble_eq_true rfl) dX7_can_3 ?_
  rintro v9 M1 ⟨rfl, h⟩
  show V X 6 _ [] M1
  refine V_iconst C 0 dX7_can_6 (by decide) ?_
  refine V_istore_n (lv' := [(3, .int 0), (0, vR X b), (1, .int p1), (2, .int p2)]) C (ltN hN (by decide)) dX7_can_7 rfl ?_
  refine V_sub [1, 0] rfl ?_
  exact Loop.sound (s0 := ((0 : Int32), M1)) (P := fun s => V X 8 [(0, vR X b), (3, .int (s.1))] [] (s.2)) h (fun ag hag s hs => s_X7_can_F8 C hH hN hQ hb  hag hs)
set_option maxRecDepth 20000 in
set_option maxHeartbeats 1000000 in
theorem c_X7_can {w : wU} {l : Launch} {b : Nat} {p1 : Int32} {p2 : Int32} {M : mM} {Q : Int32 → mM → Prop} (hb : isC w 7 b) (h : p_X7_can b p1 p2 M Q) : CT w l 7 yX7_can cX7_can 7 (some .boolean) [.ref (uA w b), .int p1, .int p2] M (piI Q) := by
  refine CT.of (by decide +kernel) (Nat.le_of_ble_eq_true rfl) (fun X hw hH hl hP hN C => ?_)
  subst hw
  exact s_X7_can C hH hN (fun r M1 q => by rw [hP]; exact ⟨r, rfl, q⟩) hb h
set_option maxRecDepth 20000 in
set_option maxHeartbeats 1000000 in
theorem s_X7_forth_F171 {X : wX} (C : CX X cX7_forth RX7 (some .boolean)) (hH : xH X = 7) (hN : xN X = 6) {b : Nat} {p1 : Int32} {M : mM} {Q : Int32 → mM → Prop} (hQ : ∀ r M, Q r M → xPo X (some (.int r)) M) (hb : isC (xW X) 7 b) {v2 : Int32} {ag171 : (Int32 × mM) → Prop} (hag171 : ∀ s, ag171 s → V X 171 [(0, vR X b), (2, .int (s.1))] [] (s.2)) (h : p_X7_forth_F171 b p1  Q  ag171 v2 M) : V X 171 [(0, vR X b), (2, .int v2)] [] M := by
  refine V_iload_n C 1 dX7_forth_171 rfl ?_
  refine V_sipush C 168 dX7_forth_172 (by decide) ?_
  refine V_icmp_ge (tgt := 193) C dX7_forth_175 (by decide) (fun hc => ?_) (fun hc => ?_)
  · have h := h.1 hc
    refine V_aload_n C 0 dX7_forth_193 rfl ?_
    refine V_getR C FL_RX7_29 (f7_7 hb) dX7_forth_194 ?_
    refine V_iconst C 5 dX7_forth_197 (by decide) ?_
    refine V_iald C (k7_7 hb) (vp_lit (by decide)) dX7_forth_198 ?_
    refine V_if_le (tgt := 206) C dX7_forth_199 (by decide) (fun hc => ?_) (fun hc => ?_)
    · have h := h.1 hc
      refine V_iconst C 0 dX7_forth_206 (by decide) ?_
      exact V_zret C rfl (by decide) dX7_forth_207 (hQ _ _ h)
    · have h := h.2 hc
      refine V_iconst C 1 dX7_forth_202 (by decide) ?_
      refine V_goto (tgt := 207) C dX7_forth_203 (by decide) ?_
      exact V_zret C rfl (by decide) dX7_forth_207 (hQ _ _ h)
  · have h := h.2 hc
    refine V_aload_n C 0 dX7_forth_178 rfl ?_
    refine V_iconst C 5 dX7_forth_179 (by decide) ?_
    refine V_bipush C 20 dX7_forth_180 (by decide) ?_
    refine V_iload_n C 1 dX7_forth_182 rfl ?_
    refine V_iadd C dX7_forth_183 ?_
    refine V_callV (As := [.int 5, .int (20 + v2)]) (st := []) C (c_X7_adds hb h) Y_X7_adds Z_X7_adds (T := TX7) (N := 21) rfl (o7 hb) (ltN hH (by decide)) u_317 rfl rfl (Nat.le_of_ble_eq_true rfl) dX7_forth_184 ?_
    rintro v9 M3 ⟨rfl, h⟩
    show V X 187 _ [] M3
    refine V_iinc (v := (v2 + 1)) (lv' := [(2, .int (v2 + 1)), (0, vR X b)]) C 1 (ltN hN (by decide)) dX7_forth_187 rfl rfl rfl ?_
    refine V_goto (tgt := 171) C dX7_forth_190 (by decide) ?_
    exact V_sub [1, 0] rfl (hag171 ((v2 + 1), M3) h)
set_option maxRecDepth 20000 in
set_option maxHeartbeats 1000000 in
theorem s_X7_forth_F46 {X : wX} (C : CX X cX7_forth RX7 (some .boolean)) (hH : xH X = 7) (hN : xN X = 6) {b : Nat} {p1 : Int32} {M : mM} {Q : Int32 → mM → Prop} (hQ : ∀ r M, Q r M → xPo X (some (.int r)) M) (hb : isC (xW X) 7 b) {v2 : Int32} {v3 : Int32} {v4 : Int32} {ag8 : (Int32 × mM) → Prop} {ag46 : (Int32 × mM) → Prop} (hag8 : ∀ s, ag8 s → V X 8 [(0, vR X b), (2, .int (s.1))] [] (s.2)) (hag46 : ∀ s, ag46 s → V X 46 [(0, vR X b), (2, .int v2), (3, .int v3), (4, .int (s.1))] [] (s.2)) (h : p_X7_forth_F46 b p1 v2 v3 Q ag8 ag46 v4 M) : V X 46 [(0, vR X b), (2, .int v2), (3, .int v3), (4, .int v4)] [] M := by
  refine V_iload C 3 dX7_forth_46 rfl ?_
  refine V_bipush C 21 dX7_forth_48 (by decide) ?_
  refine V_icmp_ge (tgt := 155) C dX7_forth_50 (by decide) (fun hc => ?_) (fun hc => ?_)
  · have h := h.1 hc
    refine V_iinc (v := (v2 + 1)) (lv' := [(2, .int (v2 + 1)), (0, vR X b), (3, .int v3), (4, .int v4)]) C 1 (ltN hN (by decide)) dX7_forth_155 rfl rfl rfl ?_
    refine V_goto (tgt := 8) C dX7_forth_158 (by decide) ?_
    exact V_sub [1, 0] rfl (hag8 ((v2 + 1), M) h)
  · have h := h.2 hc
    refine V_iload_n C 2 dX7_forth_53 rfl ?_
    refine V_if_le (tgt := 155) C dX7_forth_54 (by decide) (fun hc => ?_) (fun hc => ?_)
    · have h := h.1 hc
      refine V_iinc (v := (v2 + 1)) (lv' := [(2, .int (v2 + 1)), (0, vR X b), (3, .int v3), (4, .int v4)]) C 1 (ltN hN (by decide)) dX7_forth_155 rfl rfl rfl ?_
      refine V_goto (tgt := 8) C dX7_forth_158 (by decide) ?_
      exact V_sub [1, 0] rfl (hag8 ((v2 + 1), M) h)
    · have h := h.2 hc
      refine V_aload_n C 0 dX7_forth_57 rfl ?_
      refine V_getR C FL_RX7_41 (f7_17 hb) dX7_forth_58 ?_
      refine V_iload_n C 1 dX7_forth_61 rfl ?_
      obtain ⟨b5, h⟩ := h
      refine V_iald C (k7_11 hb) b5 dX7_forth_62 ?_
      refine V_if_le (tgt := 155) C dX7_forth_63 (by decide) (fun hc => ?_) (fun hc => ?_)
      · have h := h.1 hc
        refine V_iinc (v := (v2 + 1)) (lv' := [(2, .int (v2 + 1)), (0, vR X b), (3, .int v3), (4, .int v4)]) C 1 (ltN hN (by decide)) dX7_forth_155 rfl rfl rfl ?_
        refine V_goto (tgt := 8) C dX7_forth_158 (by decide) ?_
        exact V_sub [1, 0] rfl (hag8 ((v2 + 1), M) h)
      · have h := h.2 hc
        refine V_aload_n C 0 dX7_forth_66 rfl ?_
        refine V_iload_n C 2 dX7_forth_67 rfl ?_
        refine V_iconst C 1 dX7_forth_68 (by decide) ?_
        refine V_isub C dX7_forth_69 ?_
        refine V_iload C 3 dX7_forth_70 rfl ?_
        refine V_iload_n C 1 dX7_forth_72 rfl ?_
        refine V_bipush C 21 dX7_forth_73 (by decide) ?_
        refine V_irem C dX7_forth_75 (by decide) ?_
        refine V_callV (As := [.int (v3 - 1), .int v4, .int (v2 - v2 / 21 * 21)]) (st := []) C (c_X7_goes hb h) Y_X7_goes Z_X7_goes (T := TX7) (N := 21) rfl (o7 hb) (ltN hH (by decide)) u_315 rfl rfl (Nat.le_of_ble_eq_true rfl) dX7_forth_76 ?_
        rintro v9 M9 ⟨rfl, r6, rfl, h⟩
        show V X 79 _ [.int r6] M
        refine V_aload_n C 0 dX7_forth_79 rfl ?_
        refine V_getR C FL_RX7_41 (f7_17 hb) dX7_forth_80 ?_
        refine V_iload_n C 1 dX7_forth_83 rfl ?_
        obtain ⟨b7, h⟩ := h
        refine V_iald C (k7_11 hb) b7 dX7_forth_84 ?_
        refine V_imul C dX7_forth_85 ?_
        refine V_nmI (fun x8 e_x8 => ?_)
        have h := h x8 e_x8
        refine V_istore (lv' := [(5, .int x8), (0, vR X b), (2, .int v2), (3, .int v3), (4, .int v4)]) C (ltN hN (by decide)) dX7_forth_86 rfl ?_
        refine V_iload C 0 dX7_forth_88 rfl ?_
        refine V_if_le (tgt := 149) C dX7_forth_90 (by decide) (fun hc => ?_) (fun hc => ?_)
        · have h := h.1 hc
          refine V_iinc (v := (v4 + 1)) (lv' := [(4, .int (v4 + 1)), (5, .int x8), (0, vR X b), (2, .int v2), (3, .int v3)]) C 4 (ltN hN (by decide)) dX7_forth_149 rfl rfl rfl ?_
          refine V_goto (tgt := 46) C dX7_forth_152 (by decide) ?_
          exact V_sub [2, 3, 4, 0] rfl (hag46 ((v4 + 1), M) h)
        · have h := h.2 hc
          refine V_aload_n C 1 dX7_forth_93 rfl ?_
          refine V_getR C FL_RX7_29 (f7_7 hb) dX7_forth_94 ?_
          refine V_bipush C 20 dX7_forth_97 (by decide) ?_
          refine V_bipush C 21 dX7_forth_99 (by decide) ?_
          refine V_iload_n C 3 dX7_forth_101 rfl ?_
          refine V_iconst C 1 dX7_forth_102 (by decide) ?_
          refine V_isub C dX7_forth_103 ?_
          refine V_imul C dX7_forth_104 ?_
          refine V_iadd C dX7_forth_105 ?_
          refine V_iload C 4 dX7_forth_106 rfl ?_
          refine V_iadd C dX7_forth_108 ?_
          obtain ⟨b9, h⟩ := h
          refine V_iald C (k7_7 hb) b9 dX7_forth_109 ?_
          refine V_if_le (tgt := 149) C dX7_forth_110 (by decide) (fun hc => ?_) (fun hc => ?_)
          · have h := h.1 hc
            refine V_iinc (v := (v4 + 1)) (lv' := [(4, .int (v4 + 1)), (5, .int x8), (0, vR X b), (2, .int v2), (3, .int v3)]) C 4 (ltN hN (by decide)) dX7_forth_149 rfl rfl rfl ?_
            refine V_goto (tgt := 46) C dX7_forth_152 (by decide) ?_
            exact V_sub [2, 3, 4, 0] rfl (hag46 ((v4 + 1), M) h)
          · have h := h.2 hc
            refine V_aload_n C 1 dX7_forth_113 rfl ?_
            refine V_bipush C 6 dX7_forth_114 (by decide) ?_
            refine V_bipush C 20 dX7_forth_116 (by decide) ?_
            refine V_bipush C 21 dX7_forth_118 (by decide) ?_
            refine V_iload_n C 3 dX7_forth_120 rfl ?_
            refine V_iconst C 1 dX7_forth_121 (by decide) ?_
            refine V_isub C dX7_forth_122 ?_
            refine V_imul C dX7_forth_123 ?_
            refine V_iadd C dX7_forth_124 ?_
            refine V_iload C 4 dX7_forth_125 rfl ?_
            refine V_iadd C dX7_forth_127 ?_
            refine V_callV (As := [.int 6, .int ((20 + (21 * (v3 - 1))) + v4)]) (st := []) C (c_X7_copies hb h) Y_X7_copies Z_X7_copies (T := TX7) (N := 21) rfl (o7 hb) (ltN hH (by decide)) u_234 rfl rfl (Nat.le_of_ble_eq_true rfl) dX7_forth_128 ?_
            rintro v9 M10 ⟨rfl, h⟩
            show V X 131 _ [] M10
            refine V_aload_n C 1 dX7_forth_131 rfl ?_
            refine V_bipush C 6 dX7_forth_132 (by decide) ?_
            refine V_iload C 0 dX7_forth_134 rfl ?_
            refine V_callV (As := [.int 6, .int x8]) (st := []) C (c_X7_times hb h) Y_X7_times Z_X7_times (T := TX7) (N := 21) rfl (o7 hb) (ltN hH (by decide)) u_318 rfl rfl (Nat.le_of_ble_eq_true rfl) dX7_forth_136 ?_
            rintro v9 M11 ⟨rfl, h⟩
            show V X 139 _ [] M11
            refine V_aload_n C 1 dX7_forth_139 rfl ?_
            refine V_bipush C 20 dX7_forth_140 (by decide) ?_
            refine V_iload_n C 2 dX7_forth_142 rfl ?_
            refine V_iadd C dX7_forth_143 ?_
            refine V_bipush C 6 dX7_forth_144 (by decide) ?_
            refine V_callV (As := [.int (20 + v2), .int 6]) (st := []) C (c_X7_adds hb h) Y_X7_adds Z_X7_adds (T := TX7) (N := 21) rfl (o7 hb) (ltN hH (by decide)) u_317 rfl rfl (Nat.le_of_ble_eq_true rfl) dX7_forth_146 ?_
            rintro v9 M12 ⟨rfl, h⟩
            show V X 149 _ [] M12
            refine V_iinc (v := (v4 + 1)) (lv' := [(4, .int (v4 + 1)), (5, .int x8), (0, vR X b), (2, .int v2), (3, .int v3)]) C 4 (ltN hN (by decide)) dX7_forth_149 rfl rfl rfl ?_
            refine V_goto (tgt := 46) C dX7_forth_152 (by decide) ?_
            exact V_sub [2, 3, 4, 0] rfl (hag46 ((v4 + 1), M12) h)
set_option maxRecDepth 20000 in
set_option maxHeartbeats 1000000 in
theorem s_X7_forth_F8 {X : wX} (C : CX X cX7_forth RX7 (some .boolean)) (hH : xH X = 7) (hN : xN X = 6) {b : Nat} {p1 : Int32} {M : mM} {Q : Int32 → mM → Prop} (hQ : ∀ r M, Q r M → xPo X (some (.int r)) M) (hb : isC (xW X) 7 b) {v2 : Int32} {ag8 : (Int32 × mM) → Prop} (hag8 : ∀ s, ag8 s → V X 8 [(0, vR X b), (2, .int (s.1))] [] (s.2)) (h : p_X7_forth_F8 b p1  Q  ag8 v2 M) : V X 8 [(0, vR X b), (2, .int v2)] [] M := by
  refine V_iload_n C 1 dX7_forth_8 rfl ?_
  refine V_sipush C 168 dX7_forth_9 (by decide) ?_
  refine V_icmp_ge (tgt := 161) C dX7_forth_12 (by decide) (fun hc => ?_) (fun hc => ?_)
  · have h := h.1 hc
    refine V_aload_n C 0 dX7_forth_161 rfl ?_
    refine V_iconst C 5 dX7_forth_162 (by decide) ?_
    refine V_lconst C 0 dX7_forth_163 (by decide) ?_
    refine V_callV (As := [.int 5, .long 0]) (st := []) C (c_X7_sets hb h) Y_X7_sets Z_X7_sets (T := TX7) (N := 21) rfl (o7 hb) (ltN hH (by decide)) u_235 rfl rfl (Nat.le_of_ble_eq_true rfl) dX7_forth_164 ?_
    rintro v9 M2 ⟨rfl, h⟩
    show V X 167 _ [] M2
    refine V_sipush C 147 dX7_forth_167 (by decide) ?_
    refine V_istore_n (lv' := [(2, .int 147), (0, vR X b)]) C (ltN hN (by decide)) dX7_forth_170 rfl ?_
    refine V_sub [1, 0] rfl ?_
    exact Loop.sound (s0 := ((147 : Int32), M2)) (P := fun s => V X 171 [(0, vR X b), (2, .int (s.1))] [] (s.2)) h (fun ag hag s hs => s_X7_forth_F171 C hH hN hQ hb  hag hs)
  · have h := h.2 hc
    refine V_iload_n C 1 dX7_forth_15 rfl ?_
    refine V_bipush C 21 dX7_forth_16 (by decide) ?_
    refine V_idiv C dX7_forth_18 (by decide) ?_
    refine V_istore_n (lv' := [(3, .int (v2 / 21)), (0, vR X b), (2, .int v2)]) C (ltN hN (by decide)) dX7_forth_19 rfl ?_
    refine V_aload_n C 1 dX7_forth_20 rfl ?_
    refine V_bipush C 20 dX7_forth_21 (by decide) ?_
    refine V_iload_n C 2 dX7_forth_23 rfl ?_
    refine V_iadd C dX7_forth_24 ?_
    refine V_iload_n C 0 dX7_forth_25 rfl ?_
    refine V_if_ne (tgt := 39) C dX7_forth_26 (by decide) (fun hc => ?_) (fun hc => ?_)
    · have h := h.1 hc
      refine V_lconst C 0 dX7_forth_39 (by decide) ?_
      refine V_callV (As := [.int (20 + v2), .long 0]) (st := []) C (c_X7_sets hb h) Y_X7_sets Z_X7_sets (T := TX7) (N := 21) rfl (o7 hb) (ltN hH (by decide)) u_235 rfl rfl (Nat.le_of_ble_eq_true rfl) dX7_forth_40 ?_
      rintro v9 M4 ⟨rfl, h⟩
      show V X 43 _ [] M4
      refine V_iconst C 0 dX7_forth_43 (by decide) ?_
      refine V_istore (lv' := [(4, .int 0), (3, .int (v2 / 21)), (0, vR X b), (2, .int v2)]) C (ltN hN (by decide)) dX7_forth_44 rfl ?_
      refine V_sub [2, 3, 1, 0] rfl ?_
      exact Loop.sound (s0 := ((0 : Int32), M4)) (P := fun s => V X 46 [(0, vR X b), (2, .int v2), (3, .int (v2 / 21)), (4, .int (s.1))] [] (s.2)) h (fun ag hag s hs => s_X7_forth_F46 C hH hN hQ hb hag8 hag hs)
    · have h := h.2 hc
      refine V_aload_n C 1 dX7_forth_29 rfl ?_
      refine V_getR C FL_RX7_41 (f7_17 hb) dX7_forth_30 ?_
      refine V_iload_n C 2 dX7_forth_33 rfl ?_
      obtain ⟨b13, h⟩ := h
      refine V_iald C (k7_11 hb) b13 dX7_forth_34 ?_
      refine V_i2l C dX7_forth_35 ?_
      refine V_goto (tgt := 40) C dX7_forth_36 (by decide) ?_
      refine V_callV (As := [.int (20 + v2), .long ((M.1 (b + 11) v2.toNatClampNeg).toInt64)]) (st := []) C (c_X7_sets hb h) Y_X7_sets Z_X7_sets (T := TX7) (N := 21) rfl (o7 hb) (ltN hH (by decide)) u_235 rfl rfl (Nat.le_of_ble_eq_true rfl) dX7_forth_40 ?_
      rintro v9 M14 ⟨rfl, h⟩
      show V X 43 _ [] M14
      refine V_iconst C 0 dX7_forth_43 (by decide) ?_
      refine V_istore (lv' := [(4, .int 0), (3, .int (v2 / 21)), (0, vR X b), (2, .int v2)]) C (ltN hN (by decide)) dX7_forth_44 rfl ?_
      refine V_sub [2, 3, 1, 0] rfl ?_
      exact Loop.sound (s0 := ((0 : Int32), M14)) (P := fun s => V X 46 [(0, vR X b), (2, .int v2), (3, .int (v2 / 21)), (4, .int (s.1))] [] (s.2)) h (fun ag hag s hs => s_X7_forth_F46 C hH hN hQ hb hag8 hag hs)
set_option maxRecDepth 20000 in
set_option maxHeartbeats 1000000 in
theorem s_X7_forth {X : wX} (C : CX X cX7_forth RX7 (some .boolean)) (hH : xH X = 7) (hN : xN X = 6) {b : Nat} {p1 : Int32} {M : mM} {Q : Int32 → mM → Prop} (hQ : ∀ r M, Q r M → xPo X (some (.int r)) M) (hb : isC (xW X) 7 b)   (h : p_X7_forth b p1 M Q) : V X 0 [(0, vR X b), (1, .int p1)] [] M := by
  refine V_aload_n C 0 dX7_forth_0 rfl ?_
  refine V_iload_n C 1 dX7_forth_1 rfl ?_
  refine V_iconst C 0 dX7_forth_2 (by decide) ?_
  refine V_callV (As := [.int p1, .int 0]) (st := []) C (c_X7_looks hb h) Y_X7_looks Z_X7_looks (T := TX7) (N := 21) rfl (o7 hb) (ltN hH (by decide)) u_316 rfl rfl (Nat.le_of_ble_eq_true rfl) dX7_forth_3 ?_
  rintro v9 M1 ⟨rfl, h⟩
  show V X 6 _ [] M1
  refine V_iconst C 0 dX7_forth_6 (by decide) ?_
  refine V_istore_n (lv' := [(2, .int 0), (0, vR X b), (1, .int p1)]) C (ltN hN (by decide)) dX7_forth_7 rfl ?_
  refine V_sub [1, 0] rfl ?_
  exact Loop.sound (s0 := ((0 : Int32), M1)) (P := fun s => V X 8 [(0, vR X b), (2, .int (s.1))] [] (s.2)) h (fun ag hag s hs => s_X7_forth_F8 C hH hN hQ hb  hag hs)
set_option maxRecDepth 20000 in
set_option maxHeartbeats 1000000 in
theorem c_X7_forth {w : wU} {l : Launch} {b : Nat} {p1 : Int32} {M : mM} {Q : Int32 → mM → Prop} (hb : isC w 7 b) (h : p_X7_forth b p1 M Q) : CT w l 7 yX7_forth cX7_forth 6 (some .boolean) [.ref (uA w b), .int p1] M (piI Q) := by
  refine CT.of (by decide +kernel) (Nat.le_of_ble_eq_true rfl) (fun X hw hH hl hP hN C => ?_)
  subst hw
  exact s_X7_forth C hH hN (fun r M1 q => by rw [hP]; exact ⟨r, rfl, q⟩) hb h
set_option maxRecDepth 20000 in
set_option maxHeartbeats 1000000 in
theorem s_X7_back_J187 {X : wX} (C : CX X cX7_back RX7 (none)) (hH : xH X = 2) (hN : xN X = 6) {b : Nat} {p1 : Int32} {M : mM} {Q : mM → Prop} (hQ : ∀ M, Q M → xPo X none M) (hb : isC (xW X) 7 b) {v2 : Int32} {ag4 : (Int32 × mM) → Prop} (hag4 : ∀ s, ag4 s → V X 4 [(0, vR X b), (1, .int p1), (2, .int (s.1))] [] (s.2)) (h : p_X7_back_J187 b p1 Q ag4 v2 M) : V X 187 [(0, vR X b), (1, .int p1), (2, .int v2)] [] M := by
  refine V_iload_n C 1 dX7_back_187 rfl ?_
  refine V_if_eq (tgt := 206) C dX7_back_188 (by decide) (fun hc => ?_) (fun hc => ?_)
  · have h := h.1 hc
    refine V_iinc (v := (v2 + (-1))) (lv' := [(2, .int (v2 + (-1))), (0, vR X b), (1, .int p1)]) C 2 (ltN hN (by decide)) dX7_back_206 rfl rfl rfl ?_
    refine V_goto (tgt := 4) C dX7_back_209 (by decide) ?_
    exact V_sub [1, 2, 0] rfl (hag4 ((v2 + (-1)), M) h)
  · have h := h.2 hc
    refine V_aload_n C 0 dX7_back_191 rfl ?_
    refine V_sipush C 188 dX7_back_192 (by decide) ?_
    refine V_iload_n C 2 dX7_back_195 rfl ?_
    refine V_iadd C dX7_back_196 ?_
    refine V_aload_n C 0 dX7_back_197 rfl ?_
    refine V_getR C FL_RX7_41 (f7_17 hb) dX7_back_198 ?_
    refine V_iload_n C 2 dX7_back_201 rfl ?_
    obtain ⟨b2, h⟩ := h
    refine V_iald C (k7_11 hb) b2 dX7_back_202 ?_
    refine V_callV (As := [.int (188 + v2), .int (M.1 (b + 11) v2.toNatClampNeg)]) (st := []) C (c_X7_times hb h) Y_X7_times Z_X7_times (T := TX7) (N := 21) rfl (o7 hb) (ltN hH (by decide)) u_318 rfl rfl (Nat.le_of_ble_eq_true rfl) dX7_back_203 ?_
    rintro v9 M3 ⟨rfl, h⟩
    show V X 206 _ [] M3
    refine V_iinc (v := (v2 + (-1))) (lv' := [(2, .int (v2 + (-1))), (0, vR X b), (1, .int p1)]) C 2 (ltN hN (by decide)) dX7_back_206 rfl rfl rfl ?_
    refine V_goto (tgt := 4) C dX7_back_209 (by decide) ?_
    exact V_sub [1, 2, 0] rfl (hag4 ((v2 + (-1)), M3) h)
set_option maxRecDepth 20000 in
set_option maxHeartbeats 1000000 in
theorem s_X7_back_J82 {X : wX} (C : CX X cX7_back RX7 (none)) (hH : xH X = 2) (hN : xN X = 6) {b : Nat} {p1 : Int32} {M : mM} {Q : mM → Prop} (hQ : ∀ M, Q M → xPo X none M) (hb : isC (xW X) 7 b) {v2 : Int32} {v3 : Int32} {v4 : Int32} {s0 : Int32} {s1 : Int32} {ag4 : (Int32 × mM) → Prop} {ag36 : (Int32 × mM) → Prop} (hag4 : ∀ s, ag4 s → V X 4 [(0, vR X b), (1, .int p1), (2, .int (s.1))] [] (s.2)) (hag36 : ∀ s, ag36 s → V X 36 [(0, vR X b), (1, .int p1), (2, .int v2), (3, .int v3), (4, .int (s.1))] [] (s.2)) (h : p_X7_back_J82 b p1 Q ag4 ag36 v2 v3 v4 s0 s1 M) : V X 82 [(0, vR X b), (1, .int p1), (2, .int v2), (3, .int v3), (4, .int v4)] [.int s0, .int s1] M := by
  refine V_imul C dX7_back_82 ?_
  refine V_istore (lv' := [(5, .int (s1 * s0)), (0, vR X b), (1, .int p1), (2, .int v2), (3, .int v3), (4, .int v4)]) C (ltN hN (by decide)) dX7_back_83 rfl ?_
  refine V_iload C 0 dX7_back_85 rfl ?_
  refine V_if_le (tgt := 181) C dX7_back_87 (by decide) (fun hc => ?_) (fun hc => ?_)
  · have h := h.1 hc
    refine V_iinc (v := (v4 + 1)) (lv' := [(4, .int (v4 + 1)), (5, .int (s1 * s0)), (0, vR X b), (1, .int p1), (2, .int v2), (3, .int v3)]) C 5 (ltN hN (by decide)) dX7_back_181 rfl rfl rfl ?_
    refine V_goto (tgt := 36) C dX7_back_184 (by decide) ?_
    exact V_sub [2, 3, 4, 5, 0] rfl (hag36 ((v4 + 1), M) h)
  · have h := h.2 hc
    refine V_aload_n C 1 dX7_back_90 rfl ?_
    refine V_getR C FL_RX7_29 (f7_7 hb) dX7_back_91 ?_
    refine V_sipush C 188 dX7_back_94 (by decide) ?_
    refine V_bipush C 21 dX7_back_97 (by decide) ?_
    refine V_iload_n C 4 dX7_back_99 rfl ?_
    refine V_iconst C 1 dX7_back_100 (by decide) ?_
    refine V_iadd C dX7_back_101 ?_
    refine V_imul C dX7_back_102 ?_
    refine V_iadd C dX7_back_103 ?_
    refine V_iload C 5 dX7_back_104 rfl ?_
    refine V_iadd C dX7_back_106 ?_
    obtain ⟨b6, h⟩ := h
    refine V_iald C (k7_7 hb) b6 dX7_back_107 ?_
    refine V_if_le (tgt := 181) C dX7_back_108 (by decide) (fun hc => ?_) (fun hc => ?_)
    · have h := h.1 hc
      refine V_iinc (v := (v4 + 1)) (lv' := [(4, .int (v4 + 1)), (5, .int (s1 * s0)), (0, vR X b), (1, .int p1), (2, .int v2), (3, .int v3)]) C 5 (ltN hN (by decide)) dX7_back_181 rfl rfl rfl ?_
      refine V_goto (tgt := 36) C dX7_back_184 (by decide) ?_
      exact V_sub [2, 3, 4, 5, 0] rfl (hag36 ((v4 + 1), M) h)
    · have h := h.2 hc
      refine V_aload_n C 1 dX7_back_111 rfl ?_
      refine V_bipush C 6 dX7_back_112 (by decide) ?_
      refine V_sipush C 188 dX7_back_114 (by decide) ?_
      refine V_bipush C 21 dX7_back_117 (by decide) ?_
      refine V_iload_n C 4 dX7_back_119 rfl ?_
      refine V_iconst C 1 dX7_back_120 (by decide) ?_
      refine V_iadd C dX7_back_121 ?_
      refine V_imul C dX7_back_122 ?_
      refine V_iadd C dX7_back_123 ?_
      refine V_iload C 5 dX7_back_124 rfl ?_
      refine V_iadd C dX7_back_126 ?_
      refine V_callV (As := [.int 6, .int ((188 + (21 * (v3 + 1))) + v4)]) (st := []) C (c_X7_copies hb h) Y_X7_copies Z_X7_copies (T := TX7) (N := 21) rfl (o7 hb) (ltN hH (by decide)) u_234 rfl rfl (Nat.le_of_ble_eq_true rfl) dX7_back_127 ?_
      rintro v9 M7 ⟨rfl, h⟩
      show V X 130 _ [] M7
      refine V_aload_n C 1 dX7_back_130 rfl ?_
      refine V_bipush C 6 dX7_back_131 (by decide) ?_
      refine V_iload C 0 dX7_back_133 rfl ?_
      refine V_callV (As := [.int 6, .int (s1 * s0)]) (st := []) C (c_X7_times hb h) Y_X7_times Z_X7_times (T := TX7) (N := 21) rfl (o7 hb) (ltN hH (by decide)) u_318 rfl rfl (Nat.le_of_ble_eq_true rfl) dX7_back_135 ?_
      rintro v9 M8 ⟨rfl, h⟩
      show V X 138 _ [] M8
      refine V_iload_n C 2 dX7_back_138 rfl ?_
      refine V_if_ne (tgt := 156) C dX7_back_139 (by decide) (fun hc => ?_) (fun hc => ?_)
      · have h := h.1 hc
        refine V_aload_n C 1 dX7_back_156 rfl ?_
        refine V_bipush C 6 dX7_back_157 (by decide) ?_
        refine V_sipush C 188 dX7_back_159 (by decide) ?_
        refine V_iload_n C 3 dX7_back_162 rfl ?_
        refine V_iadd C dX7_back_163 ?_
        refine V_callV (As := [.int 6, .int (188 + v2)]) (st := []) C (c_X7_against hb h) Y_X7_against Z_X7_against (T := TX7) (N := 21) rfl (o7 hb) (ltN hH (by decide)) u_239 rfl rfl (Nat.le_of_ble_eq_true rfl) dX7_back_164 ?_
        rintro v9 M9 ⟨rfl, r9, rfl, h⟩
        show V X 167 _ [.int r9] M8
        refine V_if_le (tgt := 181) C dX7_back_167 (by decide) (fun hc => ?_) (fun hc => ?_)
        · have h := h.1 hc
          refine V_iinc (v := (v4 + 1)) (lv' := [(4, .int (v4 + 1)), (5, .int (s1 * s0)), (0, vR X b), (1, .int p1), (2, .int v2), (3, .int v3)]) C 5 (ltN hN (by decide)) dX7_back_181 rfl rfl rfl ?_
          refine V_goto (tgt := 36) C dX7_back_184 (by decide) ?_
          exact V_sub [2, 3, 4, 5, 0] rfl (hag36 ((v4 + 1), M8) h)
        · have h := h.2 hc
          refine V_aload_n C 1 dX7_back_170 rfl ?_
          refine V_sipush C 188 dX7_back_171 (by decide) ?_
          refine V_iload_n C 3 dX7_back_174 rfl ?_
          refine V_iadd C dX7_back_175 ?_
          refine V_bipush C 6 dX7_back_176 (by decide) ?_
          refine V_callV (As := [.int (188 + v2), .int 6]) (st := []) C (c_X7_copies hb h) Y_X7_copies Z_X7_copies (T := TX7) (N := 21) rfl (o7 hb) (ltN hH (by decide)) u_234 rfl rfl (Nat.le_of_ble_eq_true rfl) dX7_back_178 ?_
          rintro v9 M10 ⟨rfl, h⟩
          show V X 181 _ [] M10
          refine V_iinc (v := (v4 + 1)) (lv' := [(4, .int (v4 + 1)), (5, .int (s1 * s0)), (0, vR X b), (1, .int p1), (2, .int v2), (3, .int v3)]) C 5 (ltN hN (by decide)) dX7_back_181 rfl rfl rfl ?_
          refine V_goto (tgt := 36) C dX7_back_184 (by decide) ?_
          exact V_sub [2, 3, 4, 5, 0] rfl (hag36 ((v4 + 1), M10) h)
      · have h := h.2 hc
        refine V_aload_n C 1 dX7_back_142 rfl ?_
        refine V_sipush C 188 dX7_back_143 (by decide) ?_
        refine V_iload_n C 3 dX7_back_146 rfl ?_
        refine V_iadd C dX7_back_147 ?_
        refine V_bipush C 6 dX7_back_148 (by decide) ?_
        refine V_callV (As := [.int (188 + v2), .int 6]) (st := []) C (c_X7_adds hb h) Y_X7_adds Z_X7_adds (T := TX7) (N := 21) rfl (o7 hb) (ltN hH (by decide)) u_317 rfl rfl (Nat.le_of_ble_eq_true rfl) dX7_back_150 ?_
        rintro v9 M11 ⟨rfl, h⟩
        show V X 153 _ [] M11
        refine V_goto (tgt := 181) C dX7_back_153 (by decide) ?_
        refine V_iinc (v := (v4 + 1)) (lv' := [(4, .int (v4 + 1)), (5, .int (s1 * s0)), (0, vR X b), (1, .int p1), (2, .int v2), (3, .int v3)]) C 5 (ltN hN (by decide)) dX7_back_181 rfl rfl rfl ?_
        refine V_goto (tgt := 36) C dX7_back_184 (by decide) ?_
        exact V_sub [2, 3, 4, 5, 0] rfl (hag36 ((v4 + 1), M11) h)
set_option maxRecDepth 20000 in
set_option maxHeartbeats 1000000 in
theorem s_X7_back_F36 {X : wX} (C : CX X cX7_back RX7 (none)) (hH : xH X = 2) (hN : xN X = 6) {b : Nat} {p1 : Int32} {M : mM} {Q : mM → Prop} (hQ : ∀ M, Q M → xPo X none M) (hb : isC (xW X) 7 b) {v2 : Int32} {v3 : Int32} {v4 : Int32} {ag4 : (Int32 × mM) → Prop} {ag36 : (Int32 × mM) → Prop} (hag4 : ∀ s, ag4 s → V X 4 [(0, vR X b), (1, .int p1), (2, .int (s.1))] [] (s.2)) (hag36 : ∀ s, ag36 s → V X 36 [(0, vR X b), (1, .int p1), (2, .int v2), (3, .int v3), (4, .int (s.1))] [] (s.2)) (h : p_X7_back_F36 b p1 v2 v3 Q ag4 ag36 v4 M) : V X 36 [(0, vR X b), (1, .int p1), (2, .int v2), (3, .int v3), (4, .int v4)] [] M := by
  refine V_iload C 4 dX7_back_36 rfl ?_
  refine V_bipush C 21 dX7_back_38 (by decide) ?_
  refine V_icmp_ge (tgt := 187) C dX7_back_40 (by decide) (fun hc => ?_) (fun hc => ?_)
  · have h := h.1 hc
    exact V_sub [0, 1, 2] rfl (s_X7_back_J187 C hH hN hQ hb hag4  h)
  · have h := h.2 hc
    refine V_iload_n C 3 dX7_back_43 rfl ?_
    refine V_bipush C 7 dX7_back_44 (by decide) ?_
    refine V_icmp_ge (tgt := 187) C dX7_back_46 (by decide) (fun hc => ?_) (fun hc => ?_)
    · have h := h.1 hc
      exact V_sub [0, 1, 2] rfl (s_X7_back_J187 C hH hN hQ hb hag4  h)
    · have h := h.2 hc
      refine V_aload_n C 0 dX7_back_49 rfl ?_
      refine V_iload_n C 3 dX7_back_50 rfl ?_
      refine V_iload_n C 2 dX7_back_51 rfl ?_
      refine V_bipush C 21 dX7_back_52 (by decide) ?_
      refine V_irem C dX7_back_54 (by decide) ?_
      refine V_iload C 4 dX7_back_55 rfl ?_
      refine V_callV (As := [.int v3, .int (v2 - v2 / 21 * 21), .int v4]) (st := []) C (c_X7_goes hb h) Y_X7_goes Z_X7_goes (T := TX7) (N := 21) rfl (o7 hb) (ltN hH (by decide)) u_315 rfl rfl (Nat.le_of_ble_eq_true rfl) dX7_back_57 ?_
      rintro v9 M9 ⟨rfl, r4, rfl, h⟩
      show V X 60 _ [.int r4] M
      refine V_iload_n C 1 dX7_back_60 rfl ?_
      refine V_if_eq (tgt := 68) C dX7_back_61 (by decide) (fun hc => ?_) (fun hc => ?_)
      · have h := h.1 hc
        refine V_aload_n C 0 dX7_back_68 rfl ?_
        refine V_getR C FL_RX7_41 (f7_17 hb) dX7_back_69 ?_
        refine V_bipush C 21 dX7_back_72 (by decide) ?_
        refine V_iload_n C 3 dX7_back_74 rfl ?_
        refine V_iconst C 1 dX7_back_75 (by decide) ?_
        refine V_iadd C dX7_back_76 ?_
        refine V_imul C dX7_back_77 ?_
        refine V_iload C 4 dX7_back_78 rfl ?_
        refine V_iadd C dX7_back_80 ?_
        obtain ⟨b5, h⟩ := h
        refine V_iald C (k7_11 hb) b5 dX7_back_81 ?_
        exact V_sub [0, 1, 2, 3, 4] rfl (s_X7_back_J82 C hH hN hQ hb hag4 hag36  h)
      · have h := h.2 hc
        refine V_iconst C 1 dX7_back_64 (by decide) ?_
        refine V_goto (tgt := 82) C dX7_back_65 (by decide) ?_
        exact V_sub [0, 1, 2, 3, 4] rfl (s_X7_back_J82 C hH hN hQ hb hag4 hag36  h)
set_option maxRecDepth 20000 in
set_option maxHeartbeats 1000000 in
theorem s_X7_back_F4 {X : wX} (C : CX X cX7_back RX7 (none)) (hH : xH X = 2) (hN : xN X = 6) {b : Nat} {p1 : Int32} {M : mM} {Q : mM → Prop} (hQ : ∀ M, Q M → xPo X none M) (hb : isC (xW X) 7 b) {v2 : Int32} {ag4 : (Int32 × mM) → Prop} (hag4 : ∀ s, ag4 s → V X 4 [(0, vR X b), (1, .int p1), (2, .int (s.1))] [] (s.2)) (h : p_X7_back_F4 b p1  Q  ag4 v2 M) : V X 4 [(0, vR X b), (1, .int p1), (2, .int v2)] [] M := by
  refine V_iload_n C 2 dX7_back_4 rfl ?_
  refine V_if_lt (tgt := 212) C dX7_back_5 (by decide) (fun hc => ?_) (fun hc => ?_)
  · have h := h.1 hc
    exact V_vret C dX7_back_212 (hQ _ h)
  · have h := h.2 hc
    refine V_iload_n C 2 dX7_back_8 rfl ?_
    refine V_bipush C 21 dX7_back_9 (by decide) ?_
    refine V_idiv C dX7_back_11 (by decide) ?_
    refine V_istore_n (lv' := [(3, .int (v2 / 21)), (0, vR X b), (1, .int p1), (2, .int v2)]) C (ltN hN (by decide)) dX7_back_12 rfl ?_
    refine V_aload_n C 1 dX7_back_13 rfl ?_
    refine V_sipush C 188 dX7_back_14 (by decide) ?_
    refine V_iload_n C 3 dX7_back_17 rfl ?_
    refine V_iadd C dX7_back_18 ?_
    refine V_iload_n C 0 dX7_back_19 rfl ?_
    refine V_bipush C 7 dX7_back_20 (by decide) ?_
    refine V_icmp_ne (tgt := 29) C dX7_back_22 (by decide) (fun hc => ?_) (fun hc => ?_)
    · have h := h.1 hc
      refine V_lconst C 0 dX7_back_29 (by decide) ?_
      refine V_callV (As := [.int (188 + v2), .long 0]) (st := []) C (c_X7_sets hb h) Y_X7_sets Z_X7_sets (T := TX7) (N := 21) rfl (o7 hb) (ltN hH (by decide)) u_235 rfl rfl (Nat.le_of_ble_eq_true rfl) dX7_back_30 ?_
      rintro v9 M1 ⟨rfl, h⟩
      show V X 33 _ [] M1
      refine V_iconst C 0 dX7_back_33 (by decide) ?_
      refine V_istore (lv' := [(4, .int 0), (3, .int (v2 / 21)), (0, vR X b), (1, .int p1), (2, .int v2)]) C (ltN hN (by decide)) dX7_back_34 rfl ?_
      refine V_sub [2, 3, 4, 1, 0] rfl ?_
      exact Loop.sound (s0 := ((0 : Int32), M1)) (P := fun s => V X 36 [(0, vR X b), (1, .int p1), (2, .int v2), (3, .int (v2 / 21)), (4, .int (s.1))] [] (s.2)) h (fun ag hag s hs => s_X7_back_F36 C hH hN hQ hb hag4 hag hs)
    · have h := h.2 hc
      refine V_lconst C 1 dX7_back_25 (by decide) ?_
      refine V_goto (tgt := 30) C dX7_back_26 (by decide) ?_
      refine V_callV (As := [.int (188 + v2), .long 1]) (st := []) C (c_X7_sets hb h) Y_X7_sets Z_X7_sets (T := TX7) (N := 21) rfl (o7 hb) (ltN hH (by decide)) u_235 rfl rfl (Nat.le_of_ble_eq_true rfl) dX7_back_30 ?_
      rintro v9 M12 ⟨rfl, h⟩
      show V X 33 _ [] M12
      refine V_iconst C 0 dX7_back_33 (by decide) ?_
      refine V_istore (lv' := [(4, .int 0), (3, .int (v2 / 21)), (0, vR X b), (1, .int p1), (2, .int v2)]) C (ltN hN (by decide)) dX7_back_34 rfl ?_
      refine V_sub [2, 3, 4, 1, 0] rfl ?_
      exact Loop.sound (s0 := ((0 : Int32), M12)) (P := fun s => V X 36 [(0, vR X b), (1, .int p1), (2, .int v2), (3, .int (v2 / 21)), (4, .int (s.1))] [] (s.2)) h (fun ag hag s hs => s_X7_back_F36 C hH hN hQ hb hag4 hag hs)
set_option maxRecDepth 20000 in
set_option maxHeartbeats 1000000 in
theorem s_X7_back {X : wX} (C : CX X cX7_back RX7 (none)) (hH : xH X = 2) (hN : xN X = 6) {b : Nat} {p1 : Int32} {M : mM} {Q : mM → Prop} (hQ : ∀ M, Q M → xPo X none M) (hb : isC (xW X) 7 b)   (h : p_X7_back b p1 M Q) : V X 0 [(0, vR X b), (1, .int p1)] [] M := by
  refine V_sipush C 167 dX7_back_0 (by decide) ?_
  refine V_istore_n (lv' := [(2, .int 167), (0, vR X b), (1, .int p1)]) C (ltN hN (by decide)) dX7_back_3 rfl ?_
  refine V_sub [1, 2, 0] rfl ?_
  exact Loop.sound (s0 := ((167 : Int32), M)) (P := fun s => V X 4 [(0, vR X b), (1, .int p1), (2, .int (s.1))] [] (s.2)) h (fun ag hag s hs => s_X7_back_F4 C hH hN hQ hb  hag hs)
set_option maxRecDepth 20000 in
set_option maxHeartbeats 1000000 in
theorem c_X7_back {w : wU} {l : Launch} {b : Nat} {p1 : Int32} {M : mM} {Q : mM → Prop} (hb : isC w 7 b) (h : p_X7_back b p1 M Q) : CT w l 2 yX7_back cX7_back 6 (none) [.ref (uA w b), .int p1] M (piV Q) := by
  refine CT.of (by decide +kernel) (Nat.le_of_ble_eq_true rfl) (fun X hw hH hl hP hN C => ?_)
  subst hw
  exact s_X7_back C hH hN (fun M1 q => by rw [hP]; exact ⟨rfl, q⟩) hb h
set_option maxRecDepth 20000 in
set_option maxHeartbeats 1000000 in
theorem s_X7_rows {X : wX} (C : CX X cX7_rows RX7 (some .boolean)) (hH : xH X = 8) (hN : xN X = 3) {b : Nat} {p1 : Int32} {M : mM} {Q : Int32 → mM → Prop} (hQ : ∀ r M, Q r M → xPo X (some (.int r)) M) (hb : isC (xW X) 7 b)   (h : p_X7_rows b p1 M Q) : V X 0 [(0, vR X b), (1, .int p1)] [] M := by
  refine V_aload_n C 0 dX7_rows_0 rfl ?_
  refine V_iload_n C 1 dX7_rows_1 rfl ?_
  refine V_callV (As := [.int p1]) (st := []) C (c_X7_forth hb h) Y_X7_forth Z_X7_forth (T := TX7) (N := 21) rfl (o7 hb) (ltN hH (by decide)) u_320 rfl rfl (Nat.le_of_ble_eq_true rfl) dX7_rows_2 ?_
  rintro v9 M1 ⟨r2, rfl, h⟩
  show V X 5 _ [.int r2] M1
  refine V_istore_n (lv' := [(2, .int r2), (0, vR X b), (1, .int p1)]) C (ltN hN (by decide)) dX7_rows_5 rfl ?_
  refine V_iload_n C 0 dX7_rows_6 rfl ?_
  refine V_if_eq (tgt := 15) C dX7_rows_7 (by decide) (fun hc => ?_) (fun hc => ?_)
  · have h := h.1 hc
    refine V_iload_n C 0 dX7_rows_15 rfl ?_
    exact V_zret C rfl h.1 dX7_rows_16 (hQ _ _ h.2)
  · have h := h.2 hc
    refine V_aload_n C 1 dX7_rows_10 rfl ?_
    refine V_iconst C 0 dX7_rows_11 (by decide) ?_
    refine V_callV (As := [.int 0]) (st := []) C (c_X7_back hb h) Y_X7_back Z_X7_back (T := TX7) (N := 21) rfl (o7 hb) (ltN hH (by decide)) u_319 rfl rfl (Nat.le_of_ble_eq_true rfl) dX7_rows_12 ?_
    rintro v9 M3 ⟨rfl, h⟩
    show V X 15 _ [] M3
    refine V_iload_n C 0 dX7_rows_15 rfl ?_
    exact V_zret C rfl h.1 dX7_rows_16 (hQ _ _ h.2)
set_option maxRecDepth 20000 in
set_option maxHeartbeats 1000000 in
theorem c_X7_rows {w : wU} {l : Launch} {b : Nat} {p1 : Int32} {M : mM} {Q : Int32 → mM → Prop} (hb : isC w 7 b) (h : p_X7_rows b p1 M Q) : CT w l 8 yX7_rows cX7_rows 3 (some .boolean) [.ref (uA w b), .int p1] M (piI Q) := by
  refine CT.of (by decide +kernel) (Nat.le_of_ble_eq_true rfl) (fun X hw hH hl hP hN C => ?_)
  subst hw
  exact s_X7_rows C hH hN (fun r M1 q => by rw [hP]; exact ⟨r, rfl, q⟩) hb h
set_option maxRecDepth 20000 in
set_option maxHeartbeats 1000000 in
theorem s_X7_addsRows {X : wX} (C : CX X cX7_addsRows RX7 (none)) (hH : xH X = 3) (hN : xN X = 3) {b : Nat} {p1 : Int32} {p2 : Int32} {M : mM} {Q : mM → Prop} (hQ : ∀ M, Q M → xPo X none M) (hb : isC (xW X) 7 b)   (h : p_X7_addsRows b p1 p2 M Q) : V X 0 [(0, vR X b), (1, .int p1), (2, .int p2)] [] M := by
  refine V_aload_n C 0 dX7_addsRows_0 rfl ?_
  refine V_bipush C 6 dX7_addsRows_1 (by decide) ?_
  refine V_bipush C 20 dX7_addsRows_3 (by decide) ?_
  refine V_bipush C 21 dX7_addsRows_5 (by decide) ?_
  refine V_iload_n C 1 dX7_addsRows_7 rfl ?_
  refine V_imul C dX7_addsRows_8 ?_
  refine V_iadd C dX7_addsRows_9 ?_
  refine V_iload_n C 2 dX7_addsRows_10 rfl ?_
  refine V_iadd C dX7_addsRows_11 ?_
  refine V_callV (As := [.int 6, .int ((20 + (21 * p1)) + p2)]) (st := []) C (c_X7_copies hb h) Y_X7_copies Z_X7_copies (T := TX7) (N := 21) rfl (o7 hb) (ltN hH (by decide)) u_234 rfl rfl (Nat.le_of_ble_eq_true rfl) dX7_addsRows_12 ?_
  rintro v9 M1 ⟨rfl, h⟩
  show V X 15 _ [] M1
  refine V_aload_n C 0 dX7_addsRows_15 rfl ?_
  refine V_getR C FL_RX7_29 (f7_7 hb) dX7_addsRows_16 ?_
  refine V_bipush C 6 dX7_addsRows_19 (by decide) ?_
  refine V_iald C (k7_7 hb) (vp_lit (by decide)) dX7_addsRows_21 ?_
  refine V_if_le (tgt := 67) C dX7_addsRows_22 (by decide) (fun hc => ?_) (fun hc => ?_)
  · have h := h.1 hc
    exact V_vret C dX7_addsRows_67 (hQ _ h)
  · have h := h.2 hc
    refine V_aload_n C 0 dX7_addsRows_25 rfl ?_
    refine V_getR C FL_RX7_29 (f7_7 hb) dX7_addsRows_26 ?_
    refine V_sipush C 188 dX7_addsRows_29 (by decide) ?_
    refine V_bipush C 21 dX7_addsRows_32 (by decide) ?_
    refine V_iload_n C 1 dX7_addsRows_34 rfl ?_
    refine V_imul C dX7_addsRows_35 ?_
    refine V_iadd C dX7_addsRows_36 ?_
    refine V_iload_n C 2 dX7_addsRows_37 rfl ?_
    refine V_iadd C dX7_addsRows_38 ?_
    obtain ⟨b2, h⟩ := h
    refine V_iald C (k7_7 hb) b2 dX7_addsRows_39 ?_
    refine V_if_le (tgt := 67) C dX7_addsRows_40 (by decide) (fun hc => ?_) (fun hc => ?_)
    · have h := h.1 hc
      exact V_vret C dX7_addsRows_67 (hQ _ h)
    · have h := h.2 hc
      refine V_aload_n C 0 dX7_addsRows_43 rfl ?_
      refine V_bipush C 6 dX7_addsRows_44 (by decide) ?_
      refine V_sipush C 188 dX7_addsRows_46 (by decide) ?_
      refine V_bipush C 21 dX7_addsRows_49 (by decide) ?_
      refine V_iload_n C 1 dX7_addsRows_51 rfl ?_
      refine V_imul C dX7_addsRows_52 ?_
      refine V_iadd C dX7_addsRows_53 ?_
      refine V_iload_n C 2 dX7_addsRows_54 rfl ?_
      refine V_iadd C dX7_addsRows_55 ?_
      refine V_callV (As := [.int 6, .int ((188 + (21 * p1)) + p2)]) (st := []) C (c_X7_multiplies hb h) Y_X7_multiplies Z_X7_multiplies (T := TX7) (N := 21) rfl (o7 hb) (ltN hH (by decide)) u_321 rfl rfl (Nat.le_of_ble_eq_true rfl) dX7_addsRows_56 ?_
      rintro v9 M3 ⟨rfl, h⟩
      show V X 59 _ [] M3
      refine V_aload_n C 0 dX7_addsRows_59 rfl ?_
      refine V_bipush C 7 dX7_addsRows_60 (by decide) ?_
      refine V_bipush C 6 dX7_addsRows_62 (by decide) ?_
      refine V_callV (As := [.int 7, .int 6]) (st := []) C (c_X7_adds hb h) Y_X7_adds Z_X7_adds (T := TX7) (N := 21) rfl (o7 hb) (ltN hH (by decide)) u_317 rfl rfl (Nat.le_of_ble_eq_true rfl) dX7_addsRows_64 ?_
      rintro v9 M4 ⟨rfl, h⟩
      show V X 67 _ [] M4
      exact V_vret C dX7_addsRows_67 (hQ _ h)
set_option maxRecDepth 20000 in
set_option maxHeartbeats 1000000 in
theorem c_X7_addsRows {w : wU} {l : Launch} {b : Nat} {p1 : Int32} {p2 : Int32} {M : mM} {Q : mM → Prop} (hb : isC w 7 b) (h : p_X7_addsRows b p1 p2 M Q) : CT w l 3 yX7_addsRows cX7_addsRows 3 (none) [.ref (uA w b), .int p1, .int p2] M (piV Q) := by
  refine CT.of (by decide +kernel) (Nat.le_of_ble_eq_true rfl) (fun X hw hH hl hP hN C => ?_)
  subst hw
  exact s_X7_addsRows C hH hN (fun M1 q => by rw [hP]; exact ⟨rfl, q⟩) hb h
set_option maxRecDepth 20000 in
set_option maxHeartbeats 1000000 in
theorem s_X7_tellsSum {X : wX} (C : CX X cX7_tellsSum RX7 (some .int)) (hH : xH X = 3) (hN : xN X = 1) {b : Nat} {M : mM} {Q : Int32 → mM → Prop} (hQ : ∀ r M, Q r M → xPo X (some (.int r)) M) (hb : isC (xW X) 7 b)   (h : p_X7_tellsSum b M Q) : V X 0 [(0, vR X b)] [] M := by
  refine V_aload_n C 0 dX7_tellsSum_0 rfl ?_
  refine V_iconst C 0 dX7_tellsSum_1 (by decide) ?_
  refine V_bipush C 7 dX7_tellsSum_2 (by decide) ?_
  refine V_callV (As := [.int 0, .int 7]) (st := []) C (c_X7_copies hb h) Y_X7_copies Z_X7_copies (T := TX7) (N := 21) rfl (o7 hb) (ltN hH (by decide)) u_234 rfl rfl (Nat.le_of_ble_eq_true rfl) dX7_tellsSum_4 ?_
  rintro v9 M1 ⟨rfl, h⟩
  show V X 7 _ [] M1
  refine V_aload_n C 0 dX7_tellsSum_7 rfl ?_
  refine V_iconst C 1 dX7_tellsSum_8 (by decide) ?_
  refine V_iconst C 5 dX7_tellsSum_9 (by decide) ?_
  refine V_callV (As := [.int 1, .int 5]) (st := []) C (c_X7_copies hb h) Y_X7_copies Z_X7_copies (T := TX7) (N := 21) rfl (o7 hb) (ltN hH (by decide)) u_234 rfl rfl (Nat.le_of_ble_eq_true rfl) dX7_tellsSum_10 ?_
  rintro v9 M2 ⟨rfl, h⟩
  show V X 13 _ [] M2
  refine V_aload_n C 0 dX7_tellsSum_13 rfl ?_
  refine V_callV (As := []) (st := []) C (c_X7_lowers hb h) Y_X7_lowers Z_X7_lowers (T := TX7) (N := 21) rfl (o7 hb) (ltN hH (by decide)) u_322 rfl rfl (Nat.le_of_ble_eq_true rfl) dX7_tellsSum_14 ?_
  rintro v9 M3 ⟨rfl, h⟩
  show V X 17 _ [] M3
  refine V_iconst C 1 dX7_tellsSum_17 (by decide) ?_
  exact V_iret C dX7_tellsSum_18 (hQ _ _ h)
set_option maxRecDepth 20000 in
set_option maxHeartbeats 1000000 in
theorem c_X7_tellsSum {w : wU} {l : Launch} {b : Nat} {M : mM} {Q : Int32 → mM → Prop} (hb : isC w 7 b) (h : p_X7_tellsSum b M Q) : CT w l 3 yX7_tellsSum cX7_tellsSum 1 (some .int) [.ref (uA w b)] M (piI Q) := by
  refine CT.of (by decide +kernel) (Nat.le_of_ble_eq_true rfl) (fun X hw hH hl hP hN C => ?_)
  subst hw
  exact s_X7_tellsSum C hH hN (fun r M1 q => by rw [hP]; exact ⟨r, rfl, q⟩) hb h
set_option maxRecDepth 20000 in
set_option maxHeartbeats 1000000 in
theorem s_X7_odds {X : wX} (C : CX X cX7_odds RX7 (some .int)) (hH : xH X = 9) (hN : xN X = 3) {b : Nat} {p1 : Int32} {p2 : Int32} {M : mM} {Q : Int32 → mM → Prop} (hQ : ∀ r M, Q r M → xPo X (some (.int r)) M) (hb : isC (xW X) 7 b)   (h : p_X7_odds b p1 p2 M Q) : V X 0 [(0, vR X b), (1, .int p1), (2, .int p2)] [] M := by
  refine V_iload_n C 1 dX7_odds_0 rfl ?_
  refine V_callS (As := [.int p1]) (st := []) C (c_X7_isCell  h) Y_X7_isCell Z_X7_isCell (ltN hH (by decide)) u_256 rfl rfl (Nat.le_of_ble_eq_true rfl) dX7_odds_1 ?_
  rintro v9 M9 ⟨rfl, r1, rfl, h⟩
  show V X 4 _ [.int r1] M
  refine V_if_eq (tgt := 15) C dX7_odds_4 (by decide) (fun hc => ?_) (fun hc => ?_)
  · have h := h.1 hc
    refine V_aload_n C 0 dX7_odds_15 rfl ?_
    refine V_callV (As := []) (st := []) C (c_X7_bad hb h) Y_X7_bad Z_X7_bad (T := TX7) (N := 21) rfl (o7 hb) (ltN hH (by decide)) u_242 rfl rfl (Nat.le_of_ble_eq_true rfl) dX7_odds_16 ?_
    rintro v9 M2 ⟨r3, rfl, h⟩
    show V X 19 _ [.int r3] M2
    exact V_iret C dX7_odds_19 (hQ _ _ h)
  · have h := h.2 hc
    refine V_aload_n C 0 dX7_odds_7 rfl ?_
    refine V_iload_n C 2 dX7_odds_8 rfl ?_
    refine V_callV (As := [.int p2]) (st := []) C (c_X7_isStack hb h) Y_X7_isStack Z_X7_isStack (T := TX7) (N := 21) rfl (o7 hb) (ltN hH (by decide)) u_308 rfl rfl (Nat.le_of_ble_eq_true rfl) dX7_odds_9 ?_
    rintro v9 M9 ⟨rfl, r4, rfl, h⟩
    show V X 12 _ [.int r4] M
    refine V_if_ne (tgt := 20) C dX7_odds_12 (by decide) (fun hc => ?_) (fun hc => ?_)
    · have h := h.1 hc
      refine V_aload_n C 0 dX7_odds_20 rfl ?_
      refine V_iload_n C 1 dX7_odds_21 rfl ?_
      refine V_bipush C 8 dX7_odds_22 (by decide) ?_
      refine V_idiv C dX7_odds_24 (by decide) ?_
      refine V_callV (As := [.int (p1 / 8)]) (st := []) C (c_X7_rows hb h) Y_X7_rows Z_X7_rows (T := TX7) (N := 21) rfl (o7 hb) (ltN hH (by decide)) u_325 rfl rfl (Nat.le_of_ble_eq_true rfl) dX7_odds_25 ?_
      rintro v9 M5 ⟨r6, rfl, h⟩
      show V X 28 _ [.int r6] M5
      refine V_if_ne (tgt := 36) C dX7_odds_28 (by decide) (fun hc => ?_) (fun hc => ?_)
      · have h := h.1 hc
        refine V_aload_n C 0 dX7_odds_36 rfl ?_
        refine V_bipush C 7 dX7_odds_37 (by decide) ?_
        refine V_lconst C 0 dX7_odds_39 (by decide) ?_
        refine V_callV (As := [.int 7, .long 0]) (st := []) C (c_X7_sets hb h) Y_X7_sets Z_X7_sets (T := TX7) (N := 21) rfl (o7 hb) (ltN hH (by decide)) u_235 rfl rfl (Nat.le_of_ble_eq_true rfl) dX7_odds_40 ?_
        rintro v9 M7 ⟨rfl, h⟩
        show V X 43 _ [] M7
        refine V_aload_n C 0 dX7_odds_43 rfl ?_
        refine V_iload_n C 1 dX7_odds_44 rfl ?_
        refine V_bipush C 8 dX7_odds_45 (by decide) ?_
        refine V_irem C dX7_odds_47 (by decide) ?_
        refine V_iload_n C 2 dX7_odds_48 rfl ?_
        refine V_callV (As := [.int (p1 - p1 / 8 * 8), .int p2]) (st := []) C (c_X7_addsRows hb h) Y_X7_addsRows Z_X7_addsRows (T := TX7) (N := 21) rfl (o7 hb) (ltN hH (by decide)) u_324 rfl rfl (Nat.le_of_ble_eq_true rfl) dX7_odds_49 ?_
        rintro v9 M8 ⟨rfl, h⟩
        show V X 52 _ [] M8
        refine V_aload_n C 0 dX7_odds_52 rfl ?_
        refine V_callV (As := []) (st := []) C (c_X7_tellsSum hb h) Y_X7_tellsSum Z_X7_tellsSum (T := TX7) (N := 21) rfl (o7 hb) (ltN hH (by decide)) u_323 rfl rfl (Nat.le_of_ble_eq_true rfl) dX7_odds_53 ?_
        rintro v9 M9 ⟨r10, rfl, h⟩
        show V X 56 _ [.int r10] M9
        exact V_iret C dX7_odds_56 (hQ _ _ h)
      · have h := h.2 hc
        refine V_aload_n C 0 dX7_odds_31 rfl ?_
        refine V_callV (As := []) (st := []) C (c_X7_no hb h) Y_X7_no Z_X7_no (T := TX7) (N := 21) rfl (o7 hb) (ltN hH (by decide)) u_257 rfl rfl (Nat.le_of_ble_eq_true rfl) dX7_odds_32 ?_
        rintro v9 M11 ⟨r12, rfl, h⟩
        show V X 35 _ [.int r12] M11
        exact V_iret C dX7_odds_35 (hQ _ _ h)
    · have h := h.2 hc
      refine V_aload_n C 0 dX7_odds_15 rfl ?_
      refine V_callV (As := []) (st := []) C (c_X7_bad hb h) Y_X7_bad Z_X7_bad (T := TX7) (N := 21) rfl (o7 hb) (ltN hH (by decide)) u_242 rfl rfl (Nat.le_of_ble_eq_true rfl) dX7_odds_16 ?_
      rintro v9 M13 ⟨r14, rfl, h⟩
      show V X 19 _ [.int r14] M13
      exact V_iret C dX7_odds_19 (hQ _ _ h)
set_option maxRecDepth 20000 in
set_option maxHeartbeats 1000000 in
theorem c_X7_odds {w : wU} {l : Launch} {b : Nat} {p1 : Int32} {p2 : Int32} {M : mM} {Q : Int32 → mM → Prop} (hb : isC w 7 b) (h : p_X7_odds b p1 p2 M Q) : CT w l 9 yX7_odds cX7_odds 3 (some .int) [.ref (uA w b), .int p1, .int p2] M (piI Q) := by
  refine CT.of (by decide +kernel) (Nat.le_of_ble_eq_true rfl) (fun X hw hH hl hP hN C => ?_)
  subst hw
  exact s_X7_odds C hH hN (fun r M1 q => by rw [hP]; exact ⟨r, rfl, q⟩) hb h
set_option maxRecDepth 20000 in
set_option maxHeartbeats 1000000 in
theorem s_X7_above_F37 {X : wX} (C : CX X cX7_above RX7 (some .int)) (hH : xH X = 9) (hN : xN X = 3) {b : Nat} {p1 : Int32} {M : mM} {Q : Int32 → mM → Prop} (hQ : ∀ r M, Q r M → xPo X (some (.int r)) M) (hb : isC (xW X) 7 b) {v2 : Int32} {ag37 : (Int32 × mM) → Prop} (hag37 : ∀ s, ag37 s → V X 37 [(0, vR X b), (1, .int p1), (2, .int (s.1))] [] (s.2)) (h : p_X7_above_F37 b p1  Q  ag37 v2 M) : V X 37 [(0, vR X b), (1, .int p1), (2, .int v2)] [] M := by
  refine V_iload_n C 2 dX7_above_37 rfl ?_
  refine V_bipush C 21 dX7_above_38 (by decide) ?_
  refine V_icmp_ge (tgt := 58) C dX7_above_40 (by decide) (fun hc => ?_) (fun hc => ?_)
  · have h := h.1 hc
    refine V_aload_n C 0 dX7_above_58 rfl ?_
    refine V_callV (As := []) (st := []) C (c_X7_tellsSum hb h) Y_X7_tellsSum Z_X7_tellsSum (T := TX7) (N := 21) rfl (o7 hb) (ltN hH (by decide)) u_323 rfl rfl (Nat.le_of_ble_eq_true rfl) dX7_above_59 ?_
    rintro v9 M5 ⟨r6, rfl, h⟩
    show V X 62 _ [.int r6] M5
    exact V_iret C dX7_above_62 (hQ _ _ h)
  · have h := h.2 hc
    refine V_aload_n C 0 dX7_above_43 rfl ?_
    refine V_iload_n C 1 dX7_above_44 rfl ?_
    refine V_bipush C 8 dX7_above_45 (by decide) ?_
    refine V_irem C dX7_above_47 (by decide) ?_
    refine V_iload_n C 2 dX7_above_48 rfl ?_
    refine V_callV (As := [.int (p1 - p1 / 8 * 8), .int v2]) (st := []) C (c_X7_addsRows hb h) Y_X7_addsRows Z_X7_addsRows (T := TX7) (N := 21) rfl (o7 hb) (ltN hH (by decide)) u_324 rfl rfl (Nat.le_of_ble_eq_true rfl) dX7_above_49 ?_
    rintro v9 M7 ⟨rfl, h⟩
    show V X 52 _ [] M7
    refine V_iinc (v := (v2 + 1)) (lv' := [(2, .int (v2 + 1)), (0, vR X b), (1, .int p1)]) C 2 (ltN hN (by decide)) dX7_above_52 rfl rfl rfl ?_
    refine V_goto (tgt := 37) C dX7_above_55 (by decide) ?_
    exact V_sub [1, 2, 0] rfl (hag37 ((v2 + 1), M7) h)
set_option maxRecDepth 20000 in
set_option maxHeartbeats 1000000 in
theorem s_X7_above {X : wX} (C : CX X cX7_above RX7 (some .int)) (hH : xH X = 9) (hN : xN X = 3) {b : Nat} {p1 : Int32} {M : mM} {Q : Int32 → mM → Prop} (hQ : ∀ r M, Q r M → xPo X (some (.int r)) M) (hb : isC (xW X) 7 b)   (h : p_X7_above b p1 M Q) : V X 0 [(0, vR X b), (1, .int p1)] [] M := by
  refine V_iload_n C 1 dX7_above_0 rfl ?_
  refine V_callS (As := [.int p1]) (st := []) C (c_X7_isCell  h) Y_X7_isCell Z_X7_isCell (ltN hH (by decide)) u_256 rfl rfl (Nat.le_of_ble_eq_true rfl) dX7_above_1 ?_
  rintro v9 M9 ⟨rfl, r1, rfl, h⟩
  show V X 4 _ [.int r1] M
  refine V_if_ne (tgt := 12) C dX7_above_4 (by decide) (fun hc => ?_) (fun hc => ?_)
  · have h := h.1 hc
    refine V_aload_n C 0 dX7_above_12 rfl ?_
    refine V_iload_n C 1 dX7_above_13 rfl ?_
    refine V_bipush C 8 dX7_above_14 (by decide) ?_
    refine V_idiv C dX7_above_16 (by decide) ?_
    refine V_callV (As := [.int (p1 / 8)]) (st := []) C (c_X7_rows hb h) Y_X7_rows Z_X7_rows (T := TX7) (N := 21) rfl (o7 hb) (ltN hH (by decide)) u_325 rfl rfl (Nat.le_of_ble_eq_true rfl) dX7_above_17 ?_
    rintro v9 M2 ⟨r3, rfl, h⟩
    show V X 20 _ [.int r3] M2
    refine V_if_ne (tgt := 28) C dX7_above_20 (by decide) (fun hc => ?_) (fun hc => ?_)
    · have h := h.1 hc
      refine V_aload_n C 0 dX7_above_28 rfl ?_
      refine V_bipush C 7 dX7_above_29 (by decide) ?_
      refine V_lconst C 0 dX7_above_31 (by decide) ?_
      refine V_callV (As := [.int 7, .long 0]) (st := []) C (c_X7_sets hb h) Y_X7_sets Z_X7_sets (T := TX7) (N := 21) rfl (o7 hb) (ltN hH (by decide)) u_235 rfl rfl (Nat.le_of_ble_eq_true rfl) dX7_above_32 ?_
      rintro v9 M4 ⟨rfl, h⟩
      show V X 35 _ [] M4
      refine V_iconst C 5 dX7_above_35 (by decide) ?_
      refine V_istore_n (lv' := [(2, .int 5), (0, vR X b), (1, .int p1)]) C (ltN hN (by decide)) dX7_above_36 rfl ?_
      refine V_sub [1, 2, 0] rfl ?_
      exact Loop.sound (s0 := ((5 : Int32), M4)) (P := fun s => V X 37 [(0, vR X b), (1, .int p1), (2, .int (s.1))] [] (s.2)) h (fun ag hag s hs => s_X7_above_F37 C hH hN hQ hb  hag hs)
    · have h := h.2 hc
      refine V_aload_n C 0 dX7_above_23 rfl ?_
      refine V_callV (As := []) (st := []) C (c_X7_no hb h) Y_X7_no Z_X7_no (T := TX7) (N := 21) rfl (o7 hb) (ltN hH (by decide)) u_257 rfl rfl (Nat.le_of_ble_eq_true rfl) dX7_above_24 ?_
      rintro v9 M8 ⟨r9, rfl, h⟩
      show V X 27 _ [.int r9] M8
      exact V_iret C dX7_above_27 (hQ _ _ h)
  · have h := h.2 hc
    refine V_aload_n C 0 dX7_above_7 rfl ?_
    refine V_callV (As := []) (st := []) C (c_X7_bad hb h) Y_X7_bad Z_X7_bad (T := TX7) (N := 21) rfl (o7 hb) (ltN hH (by decide)) u_242 rfl rfl (Nat.le_of_ble_eq_true rfl) dX7_above_8 ?_
    rintro v9 M10 ⟨r11, rfl, h⟩
    show V X 11 _ [.int r11] M10
    exact V_iret C dX7_above_11 (hQ _ _ h)
set_option maxRecDepth 20000 in
set_option maxHeartbeats 1000000 in
theorem c_X7_above {w : wU} {l : Launch} {b : Nat} {p1 : Int32} {M : mM} {Q : Int32 → mM → Prop} (hb : isC w 7 b) (h : p_X7_above b p1 M Q) : CT w l 9 yX7_above cX7_above 3 (some .int) [.ref (uA w b), .int p1] M (piI Q) := by
  refine CT.of (by decide +kernel) (Nat.le_of_ble_eq_true rfl) (fun X hw hH hl hP hN C => ?_)
  subst hw
  exact s_X7_above C hH hN (fun r M1 q => by rw [hP]; exact ⟨r, rfl, q⟩) hb h
set_option maxRecDepth 20000 in
set_option maxHeartbeats 1000000 in
theorem s_X7_likeliest_J146 {X : wX} (C : CX X cX7_likeliest RX7 (some .int)) (hH : xH X = 8) (hN : xN X = 8) {b : Nat} {p1 : Int32} {p2 : Int32} {M : mM} {Q : Int32 → mM → Prop} (hQ : ∀ r M, Q r M → xPo X (some (.int r)) M) (hb : isC (xW X) 7 b) {v3 : Int32} {v4 : Int32} {v6 : Int32} {ag52 : (Int32 × Int32 × mM) → Prop} {ag64 : (Int32 × Int32 × mM) → Prop} (hag52 : ∀ s, ag52 s → V X 52 [(0, vR X b), (2, .int p2), (3, .int (s.1)), (4, .int (s.2.1))] [] (s.2.2)) (hag64 : ∀ s, ag64 s → V X 64 [(0, vR X b), (2, .int p2), (3, .int v3), (4, .int v4), (5, .int (s.1)), (6, .int (s.2.1))] [] (s.2.2)) (h : p_X7_likeliest_J146 b p1 p2 Q ag52 ag64 v3 v4 v6 M) : V X 146 [(0, vR X b), (2, .int p2), (3, .int v3), (4, .int v4), (6, .int v6)] [] M := by
  refine V_iload C 4 dX7_likeliest_146 rfl ?_
  refine V_istore (lv' := [(5, .int v6), (0, vR X b), (2, .int p2), (3, .int v3), (4, .int v4), (6, .int v6)]) C (ltN hN (by decide)) dX7_likeliest_148 rfl ?_
  refine V_aload_n C 1 dX7_likeliest_150 rfl ?_
  refine V_bipush C 7 dX7_likeliest_151 (by decide) ?_
  refine V_bipush C 6 dX7_likeliest_153 (by decide) ?_
  refine V_callV (As := [.int 7, .int 6]) (st := []) C (c_X7_copies hb h) Y_X7_copies Z_X7_copies (T := TX7) (N := 21) rfl (o7 hb) (ltN hH (by decide)) u_234 rfl rfl (Nat.le_of_ble_eq_true rfl) dX7_likeliest_155 ?_
  rintro v9 M11 ⟨rfl, h⟩
  show V X 158 _ [] M11
  refine V_iinc (v := (v6 + 1)) (lv' := [(6, .int (v6 + 1)), (5, .int v6), (0, vR X b), (2, .int p2), (3, .int v3), (4, .int v4)]) C 5 (ltN hN (by decide)) dX7_likeliest_158 rfl rfl rfl ?_
  refine V_goto (tgt := 64) C dX7_likeliest_161 (by decide) ?_
  exact V_sub [2, 3, 4, 5, 1, 0] rfl (hag64 (v6, (v6 + 1), M11) h)
set_option maxRecDepth 20000 in
set_option maxHeartbeats 1000000 in
theorem s_X7_likeliest_J91 {X : wX} (C : CX X cX7_likeliest RX7 (some .int)) (hH : xH X = 8) (hN : xN X = 8) {b : Nat} {p1 : Int32} {p2 : Int32} {M : mM} {Q : Int32 → mM → Prop} (hQ : ∀ r M, Q r M → xPo X (some (.int r)) M) (hb : isC (xW X) 7 b) {v3 : Int32} {v4 : Int32} {v5 : Int32} {v6 : Int32} {s0 : Int32} {ag52 : (Int32 × Int32 × mM) → Prop} {ag64 : (Int32 × Int32 × mM) → Prop} (hag52 : ∀ s, ag52 s → V X 52 [(0, vR X b), (2, .int p2), (3, .int (s.1)), (4, .int (s.2.1))] [] (s.2.2)) (hag64 : ∀ s, ag64 s → V X 64 [(0, vR X b), (2, .int p2), (3, .int v3), (4, .int v4), (5, .int (s.1)), (6, .int (s.2.1))] [] (s.2.2)) (h : p_X7_likeliest_J91 b p1 p2 Q ag52 ag64 v3 v4 v5 v6 s0 M) : V X 91 [(0, vR X b), (2, .int p2), (3, .int v3), (4, .int v4), (5, .int v5), (6, .int v6)] [.int s0] M := by
  refine V_istore (lv' := [(7, .int s0), (0, vR X b), (2, .int p2), (3, .int v3), (4, .int v4), (5, .int v5), (6, .int v6)]) C (ltN hN (by decide)) dX7_likeliest_91 rfl ?_
  refine V_aload_n C 1 dX7_likeliest_93 rfl ?_
  refine V_bipush C 6 dX7_likeliest_94 (by decide) ?_
  refine V_sipush C 188 dX7_likeliest_96 (by decide) ?_
  refine V_bipush C 21 dX7_likeliest_99 (by decide) ?_
  refine V_iload C 4 dX7_likeliest_101 rfl ?_
  refine V_imul C dX7_likeliest_103 ?_
  refine V_iadd C dX7_likeliest_104 ?_
  refine V_iload C 6 dX7_likeliest_105 rfl ?_
  refine V_iadd C dX7_likeliest_107 ?_
  refine V_callV (As := [.int 6, .int ((188 + (21 * v4)) + v6)]) (st := []) C (c_X7_copies hb h) Y_X7_copies Z_X7_copies (T := TX7) (N := 21) rfl (o7 hb) (ltN hH (by decide)) u_234 rfl rfl (Nat.le_of_ble_eq_true rfl) dX7_likeliest_108 ?_
  rintro v9 M9 ⟨rfl, h⟩
  show V X 111 _ [] M9
  refine V_aload_n C 1 dX7_likeliest_111 rfl ?_
  refine V_bipush C 6 dX7_likeliest_112 (by decide) ?_
  refine V_iload C 0 dX7_likeliest_114 rfl ?_
  refine V_callV (As := [.int 6, .int s0]) (st := []) C (c_X7_times hb h) Y_X7_times Z_X7_times (T := TX7) (N := 21) rfl (o7 hb) (ltN hH (by decide)) u_318 rfl rfl (Nat.le_of_ble_eq_true rfl) dX7_likeliest_116 ?_
  rintro v9 M10 ⟨rfl, h⟩
  show V X 119 _ [] M10
  refine V_aload_n C 1 dX7_likeliest_119 rfl ?_
  refine V_getR C FL_RX7_29 (f7_7 hb) dX7_likeliest_120 ?_
  refine V_bipush C 6 dX7_likeliest_123 (by decide) ?_
  refine V_iald C (k7_7 hb) (vp_lit (by decide)) dX7_likeliest_125 ?_
  refine V_if_le (tgt := 158) C dX7_likeliest_126 (by decide) (fun hc => ?_) (fun hc => ?_)
  · have h := h.1 hc
    refine V_iinc (v := (v6 + 1)) (lv' := [(6, .int (v6 + 1)), (7, .int s0), (0, vR X b), (2, .int p2), (3, .int v3), (4, .int v4), (5, .int v5)]) C 6 (ltN hN (by decide)) dX7_likeliest_158 rfl rfl rfl ?_
    refine V_goto (tgt := 64) C dX7_likeliest_161 (by decide) ?_
    exact V_sub [2, 3, 4, 5, 6, 0] rfl (hag64 (v5, (v6 + 1), M10) h)
  · have h := h.2 hc
    refine V_iload C 5 dX7_likeliest_129 rfl ?_
    refine V_iconst C (-1) dX7_likeliest_131 (by decide) ?_
    refine V_icmp_eq (tgt := 146) C dX7_likeliest_132 (by decide) (fun hc => ?_) (fun hc => ?_)
    · have h := h.1 hc
      exact V_sub [1, 2, 3, 4, 6] rfl (s_X7_likeliest_J146 C hH hN hQ hb hag52 hag64  h)
    · have h := h.2 hc
      refine V_aload_n C 1 dX7_likeliest_135 rfl ?_
      refine V_bipush C 6 dX7_likeliest_136 (by decide) ?_
      refine V_bipush C 7 dX7_likeliest_138 (by decide) ?_
      refine V_callV (As := [.int 6, .int 7]) (st := []) C (c_X7_against hb h) Y_X7_against Z_X7_against (T := TX7) (N := 21) rfl (o7 hb) (ltN hH (by decide)) u_239 rfl rfl (Nat.le_of_ble_eq_true rfl) dX7_likeliest_140 ?_
      rintro v9 M9 ⟨rfl, r12, rfl, h⟩
      show V X 143 _ [.int r12] M10
      refine V_if_le (tgt := 158) C dX7_likeliest_143 (by decide) (fun hc => ?_) (fun hc => ?_)
      · have h := h.1 hc
        refine V_iinc (v := (v6 + 1)) (lv' := [(6, .int (v6 + 1)), (7, .int s0), (0, vR X b), (2, .int p2), (3, .int v3), (4, .int v4), (5, .int v5)]) C 6 (ltN hN (by decide)) dX7_likeliest_158 rfl rfl rfl ?_
        refine V_goto (tgt := 64) C dX7_likeliest_161 (by decide) ?_
        exact V_sub [2, 3, 4, 5, 6, 0] rfl (hag64 (v5, (v6 + 1), M10) h)
      · have h := h.2 hc
        exact V_sub [1, 2, 3, 4, 6] rfl (s_X7_likeliest_J146 C hH hN hQ hb hag52 hag64  h)
set_option maxRecDepth 20000 in
set_option maxHeartbeats 1000000 in
theorem s_X7_likeliest_F64 {X : wX} (C : CX X cX7_likeliest RX7 (some .int)) (hH : xH X = 8) (hN : xN X = 8) {b : Nat} {p1 : Int32} {p2 : Int32} {M : mM} {Q : Int32 → mM → Prop} (hQ : ∀ r M, Q r M → xPo X (some (.int r)) M) (hb : isC (xW X) 7 b) {v3 : Int32} {v4 : Int32} {v5 : Int32} {v6 : Int32} {ag52 : (Int32 × Int32 × mM) → Prop} {ag64 : (Int32 × Int32 × mM) → Prop} (hag52 : ∀ s, ag52 s → V X 52 [(0, vR X b), (2, .int p2), (3, .int (s.1)), (4, .int (s.2.1))] [] (s.2.2)) (hag64 : ∀ s, ag64 s → V X 64 [(0, vR X b), (2, .int p2), (3, .int v3), (4, .int v4), (5, .int (s.1)), (6, .int (s.2.1))] [] (s.2.2)) (h : p_X7_likeliest_F64 b p1 p2 v3 v4 Q ag52 ag64 v5 v6 M) : V X 64 [(0, vR X b), (2, .int p2), (3, .int v3), (4, .int v4), (5, .int v5), (6, .int v6)] [] M := by
  refine V_iload C 5 dX7_likeliest_64 rfl ?_
  refine V_bipush C 21 dX7_likeliest_66 (by decide) ?_
  refine V_icmp_ge (tgt := 164) C dX7_likeliest_68 (by decide) (fun hc => ?_) (fun hc => ?_)
  · have h := h.1 hc
    refine V_iload C 4 dX7_likeliest_164 rfl ?_
    refine V_istore_n (lv' := [(3, .int v5), (0, vR X b), (2, .int p2), (4, .int v4), (5, .int v5), (6, .int v6)]) C (ltN hN (by decide)) dX7_likeliest_166 rfl ?_
    refine V_iinc (v := (v4 + 1)) (lv' := [(4, .int (v4 + 1)), (3, .int v5), (0, vR X b), (2, .int p2), (5, .int v5), (6, .int v6)]) C 3 (ltN hN (by decide)) dX7_likeliest_167 rfl rfl rfl ?_
    refine V_goto (tgt := 52) C dX7_likeliest_170 (by decide) ?_
    exact V_sub [2, 3, 1, 0] rfl (hag52 (v5, (v4 + 1), M) h)
  · have h := h.2 hc
    refine V_iload C 3 dX7_likeliest_71 rfl ?_
    refine V_if_ne (tgt := 80) C dX7_likeliest_73 (by decide) (fun hc => ?_) (fun hc => ?_)
    · have h := h.1 hc
      refine V_aload_n C 0 dX7_likeliest_80 rfl ?_
      refine V_iload C 3 dX7_likeliest_81 rfl ?_
      refine V_iconst C 1 dX7_likeliest_83 (by decide) ?_
      refine V_isub C dX7_likeliest_84 ?_
      refine V_iload_n C 2 dX7_likeliest_85 rfl ?_
      refine V_iload C 5 dX7_likeliest_86 rfl ?_
      refine V_callV (As := [.int (v4 - 1), .int v3, .int v6]) (st := []) C (c_X7_goes hb h) Y_X7_goes Z_X7_goes (T := TX7) (N := 21) rfl (o7 hb) (ltN hH (by decide)) u_315 rfl rfl (Nat.le_of_ble_eq_true rfl) dX7_likeliest_88 ?_
      rintro v9 M9 ⟨rfl, r8, rfl, h⟩
      show V X 91 _ [.int r8] M
      exact V_sub [0, 1, 2, 3, 4, 5] rfl (s_X7_likeliest_J91 C hH hN hQ hb hag52 hag64  h)
    · have h := h.2 hc
      refine V_iconst C 1 dX7_likeliest_76 (by decide) ?_
      refine V_goto (tgt := 91) C dX7_likeliest_77 (by decide) ?_
      exact V_sub [0, 1, 2, 3, 4, 5] rfl (s_X7_likeliest_J91 C hH hN hQ hb hag52 hag64  h)
set_option maxRecDepth 20000 in
set_option maxHeartbeats 1000000 in
theorem s_X7_likeliest_F52 {X : wX} (C : CX X cX7_likeliest RX7 (some .int)) (hH : xH X = 8) (hN : xN X = 8) {b : Nat} {p1 : Int32} {p2 : Int32} {M : mM} {Q : Int32 → mM → Prop} (hQ : ∀ r M, Q r M → xPo X (some (.int r)) M) (hb : isC (xW X) 7 b) {v3 : Int32} {v4 : Int32} {ag52 : (Int32 × Int32 × mM) → Prop} (hag52 : ∀ s, ag52 s → V X 52 [(0, vR X b), (2, .int p2), (3, .int (s.1)), (4, .int (s.2.1))] [] (s.2.2)) (h : p_X7_likeliest_F52 b p1 p2  Q  ag52 v3 v4 M) : V X 52 [(0, vR X b), (2, .int p2), (3, .int v3), (4, .int v4)] [] M := by
  refine V_iload C 3 dX7_likeliest_52 rfl ?_
  refine V_iload_n C 1 dX7_likeliest_54 rfl ?_
  refine V_icmp_gt (tgt := 173) C dX7_likeliest_55 (by decide) (fun hc => ?_) (fun hc => ?_)
  · have h := h.1 hc
    refine V_iload_n C 2 dX7_likeliest_173 rfl ?_
    exact V_iret C dX7_likeliest_174 (hQ _ _ h)
  · have h := h.2 hc
    refine V_iconst C (-1) dX7_likeliest_58 (by decide) ?_
    refine V_istore (lv' := [(5, .int (-1)), (0, vR X b), (2, .int p2), (3, .int v3), (4, .int v4)]) C (ltN hN (by decide)) dX7_likeliest_59 rfl ?_
    refine V_iconst C 0 dX7_likeliest_61 (by decide) ?_
    refine V_istore (lv' := [(6, .int 0), (5, .int (-1)), (0, vR X b), (2, .int p2), (3, .int v3), (4, .int v4)]) C (ltN hN (by decide)) dX7_likeliest_62 rfl ?_
    refine V_sub [2, 3, 4, 5, 1, 0] rfl ?_
    exact Loop.sound (s0 := ((-1 : Int32), (0 : Int32), M)) (P := fun s => V X 64 [(0, vR X b), (2, .int p2), (3, .int v3), (4, .int v4), (5, .int (s.1)), (6, .int (s.2.1))] [] (s.2.2)) h (fun ag hag s hs => s_X7_likeliest_F64 C hH hN hQ hb hag52 hag hs)
set_option maxRecDepth 20000 in
set_option maxHeartbeats 1000000 in
theorem s_X7_likeliest {X : wX} (C : CX X cX7_likeliest RX7 (some .int)) (hH : xH X = 8) (hN : xN X = 8) {b : Nat} {p1 : Int32} {p2 : Int32} {M : mM} {Q : Int32 → mM → Prop} (hQ : ∀ r M, Q r M → xPo X (some (.int r)) M) (hb : isC (xW X) 7 b)   (h : p_X7_likeliest b p1 p2 M Q) : V X 0 [(0, vR X b), (1, .int p1), (2, .int p2)] [] M := by
  refine V_iload_n C 1 dX7_likeliest_0 rfl ?_
  refine V_i2l C dX7_likeliest_1 ?_
  refine V_lconst C 0 dX7_likeliest_2 (by decide) ?_
  refine V_ldc2 C u_251 dX7_likeliest_3 ?_
  refine V_callS (As := [.long (p1.toInt64), .long 0, .long 5]) (st := []) C (c_X7_in  h) Y_X7_in Z_X7_in (ltN hH (by decide)) u_243 rfl rfl (Nat.le_of_ble_eq_true rfl) dX7_likeliest_6 ?_
  rintro v9 M9 ⟨rfl, r1, rfl, h⟩
  show V X 9 _ [.int r1] M
  refine V_if_eq (tgt := 24) C dX7_likeliest_9 (by decide) (fun hc => ?_) (fun hc => ?_)
  · have h := h.1 hc
    refine V_aload_n C 0 dX7_likeliest_24 rfl ?_
    refine V_callV (As := []) (st := []) C (c_X7_bad hb h) Y_X7_bad Z_X7_bad (T := TX7) (N := 21) rfl (o7 hb) (ltN hH (by decide)) u_242 rfl rfl (Nat.le_of_ble_eq_true rfl) dX7_likeliest_25 ?_
    rintro v9 M2 ⟨r3, rfl, h⟩
    show V X 28 _ [.int r3] M2
    exact V_iret C dX7_likeliest_28 (hQ _ _ h)
  · have h := h.2 hc
    refine V_iload_n C 2 dX7_likeliest_12 rfl ?_
    refine V_i2l C dX7_likeliest_13 ?_
    refine V_lconst C 0 dX7_likeliest_14 (by decide) ?_
    refine V_ldc2 C u_326 dX7_likeliest_15 ?_
    refine V_callS (As := [.long (p2.toInt64), .long 0, .long 7]) (st := []) C (c_X7_in  h) Y_X7_in Z_X7_in (ltN hH (by decide)) u_243 rfl rfl (Nat.le_of_ble_eq_true rfl) dX7_likeliest_18 ?_
    rintro v9 M9 ⟨rfl, r4, rfl, h⟩
    show V X 21 _ [.int r4] M
    refine V_if_ne (tgt := 29) C dX7_likeliest_21 (by decide) (fun hc => ?_) (fun hc => ?_)
    · have h := h.1 hc
      refine V_aload_n C 0 dX7_likeliest_29 rfl ?_
      refine V_iload_n C 1 dX7_likeliest_30 rfl ?_
      refine V_callV (As := [.int p1]) (st := []) C (c_X7_forth hb h) Y_X7_forth Z_X7_forth (T := TX7) (N := 21) rfl (o7 hb) (ltN hH (by decide)) u_320 rfl rfl (Nat.le_of_ble_eq_true rfl) dX7_likeliest_31 ?_
      rintro v9 M5 ⟨r6, rfl, h⟩
      show V X 34 _ [.int r6] M5
      refine V_if_ne (tgt := 42) C dX7_likeliest_34 (by decide) (fun hc => ?_) (fun hc => ?_)
      · have h := h.1 hc
        refine V_aload_n C 0 dX7_likeliest_42 rfl ?_
        refine V_iconst C 1 dX7_likeliest_43 (by decide) ?_
        refine V_callV (As := [.int 1]) (st := []) C (c_X7_back hb h) Y_X7_back Z_X7_back (T := TX7) (N := 21) rfl (o7 hb) (ltN hH (by decide)) u_319 rfl rfl (Nat.le_of_ble_eq_true rfl) dX7_likeliest_44 ?_
        rintro v9 M7 ⟨rfl, h⟩
        show V X 47 _ [] M7
        refine V_iconst C (-1) dX7_likeliest_47 (by decide) ?_
        refine V_istore_n (lv' := [(3, .int (-1)), (0, vR X b), (1, .int p1), (2, .int p2)]) C (ltN hN (by decide)) dX7_likeliest_48 rfl ?_
        refine V_iconst C 0 dX7_likeliest_49 (by decide) ?_
        refine V_istore (lv' := [(4, .int 0), (3, .int (-1)), (0, vR X b), (1, .int p1), (2, .int p2)]) C (ltN hN (by decide)) dX7_likeliest_50 rfl ?_
        refine V_sub [2, 4, 1, 0] rfl ?_
        exact Loop.sound (s0 := ((-1 : Int32), (0 : Int32), M7)) (P := fun s => V X 52 [(0, vR X b), (2, .int p2), (3, .int (s.1)), (4, .int (s.2.1))] [] (s.2.2)) h (fun ag hag s hs => s_X7_likeliest_F52 C hH hN hQ hb  hag hs)
      · have h := h.2 hc
        refine V_aload_n C 0 dX7_likeliest_37 rfl ?_
        refine V_callV (As := []) (st := []) C (c_X7_no hb h) Y_X7_no Z_X7_no (T := TX7) (N := 21) rfl (o7 hb) (ltN hH (by decide)) u_257 rfl rfl (Nat.le_of_ble_eq_true rfl) dX7_likeliest_38 ?_
        rintro v9 M13 ⟨r14, rfl, h⟩
        show V X 41 _ [.int r14] M13
        exact V_iret C dX7_likeliest_41 (hQ _ _ h)
    · have h := h.2 hc
      refine V_aload_n C 0 dX7_likeliest_24 rfl ?_
      refine V_callV (As := []) (st := []) C (c_X7_bad hb h) Y_X7_bad Z_X7_bad (T := TX7) (N := 21) rfl (o7 hb) (ltN hH (by decide)) u_242 rfl rfl (Nat.le_of_ble_eq_true rfl) dX7_likeliest_25 ?_
      rintro v9 M15 ⟨r16, rfl, h⟩
      show V X 28 _ [.int r16] M15
      exact V_iret C dX7_likeliest_28 (hQ _ _ h)
set_option maxRecDepth 20000 in
set_option maxHeartbeats 1000000 in
theorem c_X7_likeliest {w : wU} {l : Launch} {b : Nat} {p1 : Int32} {p2 : Int32} {M : mM} {Q : Int32 → mM → Prop} (hb : isC w 7 b) (h : p_X7_likeliest b p1 p2 M Q) : CT w l 8 yX7_likeliest cX7_likeliest 8 (some .int) [.ref (uA w b), .int p1, .int p2] M (piI Q) := by
  refine CT.of (by decide +kernel) (Nat.le_of_ble_eq_true rfl) (fun X hw hH hl hP hN C => ?_)
  subst hw
  exact s_X7_likeliest C hH hN (fun r M1 q => by rw [hP]; exact ⟨r, rfl, q⟩) hb h
set_option maxRecDepth 20000 in
set_option maxHeartbeats 1000000 in
theorem s_X7_stood_F115 {X : wX} (C : CX X cX7_stood RX7 (some .int)) (hH : xH X = 8) (hN : xN X = 5) {b : Nat} {p1 : Int32} {M : mM} {Q : Int32 → mM → Prop} (hQ : ∀ r M, Q r M → xPo X (some (.int r)) M) (hb : isC (xW X) 7 b) {v3 : Int32} {ag115 : (Int32 × mM) → Prop} (hag115 : ∀ s, ag115 s → V X 115 [(0, vR X b), (1, .int p1), (3, .int (s.1))] [] (s.2)) (h : p_X7_stood_F115 b p1  Q  ag115 v3 M) : V X 115 [(0, vR X b), (1, .int p1), (3, .int v3)] [] M := by
  refine V_iload_n C 2 dX7_stood_115 rfl ?_
  refine V_iconst C 4 dX7_stood_116 (by decide) ?_
  refine V_icmp_ge (tgt := 135) C dX7_stood_117 (by decide) (fun hc => ?_) (fun hc => ?_)
  · have h := h.1 hc
    refine V_aload_n C 0 dX7_stood_135 rfl ?_
    refine V_getR C FL_RX7_29 (f7_7 hb) dX7_stood_136 ?_
    refine V_iconst C 5 dX7_stood_139 (by decide) ?_
    refine V_iald C (k7_7 hb) (vp_lit (by decide)) dX7_stood_140 ?_
    refine V_if_ne (tgt := 149) C dX7_stood_141 (by decide) (fun hc => ?_) (fun hc => ?_)
    · have h := h.1 hc
      refine V_aload_n C 0 dX7_stood_149 rfl ?_
      refine V_bipush C 7 dX7_stood_150 (by decide) ?_
      refine V_bipush C 8 dX7_stood_152 (by decide) ?_
      refine V_iload_n C 1 dX7_stood_154 rfl ?_
      refine V_iadd C dX7_stood_155 ?_
      refine V_callV (As := [.int 7, .int (8 + p1)]) (st := []) C (c_X7_copies hb h) Y_X7_copies Z_X7_copies (T := TX7) (N := 21) rfl (o7 hb) (ltN hH (by decide)) u_234 rfl rfl (Nat.le_of_ble_eq_true rfl) dX7_stood_156 ?_
      rintro v9 M5 ⟨rfl, h⟩
      show V X 159 _ [] M5
      refine V_aload_n C 0 dX7_stood_159 rfl ?_
      refine V_callV (As := []) (st := []) C (c_X7_tellsSum hb h) Y_X7_tellsSum Z_X7_tellsSum (T := TX7) (N := 21) rfl (o7 hb) (ltN hH (by decide)) u_323 rfl rfl (Nat.le_of_ble_eq_true rfl) dX7_stood_160 ?_
      rintro v9 M6 ⟨r7, rfl, h⟩
      show V X 163 _ [.int r7] M6
      exact V_iret C dX7_stood_163 (hQ _ _ h)
    · have h := h.2 hc
      refine V_aload_n C 0 dX7_stood_144 rfl ?_
      refine V_callV (As := []) (st := []) C (c_X7_no hb h) Y_X7_no Z_X7_no (T := TX7) (N := 21) rfl (o7 hb) (ltN hH (by decide)) u_257 rfl rfl (Nat.le_of_ble_eq_true rfl) dX7_stood_145 ?_
      rintro v9 M8 ⟨r9, rfl, h⟩
      show V X 148 _ [.int r9] M8
      exact V_iret C dX7_stood_148 (hQ _ _ h)
  · have h := h.2 hc
    refine V_aload_n C 0 dX7_stood_120 rfl ?_
    refine V_iconst C 5 dX7_stood_121 (by decide) ?_
    refine V_bipush C 8 dX7_stood_122 (by decide) ?_
    refine V_iload_n C 2 dX7_stood_124 rfl ?_
    refine V_iadd C dX7_stood_125 ?_
    refine V_callV (As := [.int 5, .int (8 + v3)]) (st := []) C (c_X7_adds hb h) Y_X7_adds Z_X7_adds (T := TX7) (N := 21) rfl (o7 hb) (ltN hH (by decide)) u_317 rfl rfl (Nat.le_of_ble_eq_true rfl) dX7_stood_126 ?_
    rintro v9 M10 ⟨rfl, h⟩
    show V X 129 _ [] M10
    refine V_iinc (v := (v3 + 1)) (lv' := [(3, .int (v3 + 1)), (0, vR X b), (1, .int p1)]) C 2 (ltN hN (by decide)) dX7_stood_129 rfl rfl rfl ?_
    refine V_goto (tgt := 115) C dX7_stood_132 (by decide) ?_
    exact V_sub [1, 2, 0] rfl (hag115 ((v3 + 1), M10) h)
set_option maxRecDepth 20000 in
set_option maxHeartbeats 1000000 in
theorem s_X7_stood_F52 {X : wX} (C : CX X cX7_stood RX7 (some .int)) (hH : xH X = 8) (hN : xN X = 5) {b : Nat} {p1 : Int32} {M : mM} {Q : Int32 → mM → Prop} (hQ : ∀ r M, Q r M → xPo X (some (.int r)) M) (hb : isC (xW X) 7 b) {v2 : Int32} {v3 : Int32} {v4 : Int32} {ag27 : (Int32 × mM) → Prop} {ag52 : (Int32 × mM) → Prop} (hag27 : ∀ s, ag27 s → V X 27 [(0, vR X b), (1, .int p1), (2, .int v2), (3, .int (s.1))] [] (s.2)) (hag52 : ∀ s, ag52 s → V X 52 [(0, vR X b), (1, .int p1), (2, .int v2), (3, .int v3), (4, .int (s.1))] [] (s.2)) (h : p_X7_stood_F52 b p1 v2 v3 Q ag27 ag52 v4 M) : V X 52 [(0, vR X b), (1, .int p1), (2, .int v2), (3, .int v3), (4, .int v4)] [] M := by
  refine V_iload C 4 dX7_stood_52 rfl ?_
  refine V_bipush C 6 dX7_stood_54 (by decide) ?_
  refine V_icmp_ge (tgt := 93) C dX7_stood_56 (by decide) (fun hc => ?_) (fun hc => ?_)
  · have h := h.1 hc
    refine V_iinc (v := (v3 + 1)) (lv' := [(3, .int (v3 + 1)), (0, vR X b), (1, .int p1), (2, .int v2), (4, .int v4)]) C 3 (ltN hN (by decide)) dX7_stood_93 rfl rfl rfl ?_
    refine V_goto (tgt := 27) C dX7_stood_96 (by decide) ?_
    exact V_sub [1, 2, 3, 0] rfl (hag27 ((v3 + 1), M) h)
  · have h := h.2 hc
    refine V_aload_n C 0 dX7_stood_59 rfl ?_
    refine V_getR C FL_RX7_29 (f7_7 hb) dX7_stood_60 ?_
    refine V_bipush C 8 dX7_stood_63 (by decide) ?_
    refine V_iload_n C 3 dX7_stood_65 rfl ?_
    refine V_iadd C dX7_stood_66 ?_
    obtain ⟨b13, h⟩ := h
    refine V_iald C (k7_7 hb) b13 dX7_stood_67 ?_
    refine V_if_le (tgt := 93) C dX7_stood_68 (by decide) (fun hc => ?_) (fun hc => ?_)
    · have h := h.1 hc
      refine V_iinc (v := (v3 + 1)) (lv' := [(3, .int (v3 + 1)), (0, vR X b), (1, .int p1), (2, .int v2), (4, .int v4)]) C 3 (ltN hN (by decide)) dX7_stood_93 rfl rfl rfl ?_
      refine V_goto (tgt := 27) C dX7_stood_96 (by decide) ?_
      exact V_sub [1, 2, 3, 0] rfl (hag27 ((v3 + 1), M) h)
    · have h := h.2 hc
      refine V_aload_n C 0 dX7_stood_71 rfl ?_
      refine V_iload C 4 dX7_stood_72 rfl ?_
      refine V_callV (As := [.int v4]) (st := []) C (c_X7_forth hb h) Y_X7_forth Z_X7_forth (T := TX7) (N := 21) rfl (o7 hb) (ltN hH (by decide)) u_320 rfl rfl (Nat.le_of_ble_eq_true rfl) dX7_stood_74 ?_
      rintro v9 M14 ⟨r15, rfl, h⟩
      show V X 77 _ [.int r15] M14
      refine V_pop C dX7_stood_77 rfl ?_
      refine V_aload_n C 0 dX7_stood_78 rfl ?_
      refine V_bipush C 8 dX7_stood_79 (by decide) ?_
      refine V_iload_n C 3 dX7_stood_81 rfl ?_
      refine V_iadd C dX7_stood_82 ?_
      refine V_iconst C 5 dX7_stood_83 (by decide) ?_
      refine V_callV (As := [.int (8 + v3), .int 5]) (st := []) C (c_X7_multiplies hb h) Y_X7_multiplies Z_X7_multiplies (T := TX7) (N := 21) rfl (o7 hb) (ltN hH (by decide)) u_321 rfl rfl (Nat.le_of_ble_eq_true rfl) dX7_stood_84 ?_
      rintro v9 M16 ⟨rfl, h⟩
      show V X 87 _ [] M16
      refine V_iinc (v := (v4 + 1)) (lv' := [(4, .int (v4 + 1)), (0, vR X b), (1, .int p1), (2, .int v2), (3, .int v3)]) C 4 (ltN hN (by decide)) dX7_stood_87 rfl rfl rfl ?_
      refine V_goto (tgt := 52) C dX7_stood_90 (by decide) ?_
      exact V_sub [1, 2, 3, 4, 0] rfl (hag52 ((v4 + 1), M16) h)
set_option maxRecDepth 20000 in
set_option maxHeartbeats 1000000 in
theorem s_X7_stood_F27 {X : wX} (C : CX X cX7_stood RX7 (some .int)) (hH : xH X = 8) (hN : xN X = 5) {b : Nat} {p1 : Int32} {M : mM} {Q : Int32 → mM → Prop} (hQ : ∀ r M, Q r M → xPo X (some (.int r)) M) (hb : isC (xW X) 7 b) {v2 : Int32} {v3 : Int32} {ag27 : (Int32 × mM) → Prop} (hag27 : ∀ s, ag27 s → V X 27 [(0, vR X b), (1, .int p1), (2, .int v2), (3, .int (s.1))] [] (s.2)) (h : p_X7_stood_F27 b p1 v2 Q  ag27 v3 M) : V X 27 [(0, vR X b), (1, .int p1), (2, .int v2), (3, .int v3)] [] M := by
  refine V_iload_n C 3 dX7_stood_27 rfl ?_
  refine V_iconst C 4 dX7_stood_28 (by decide) ?_
  refine V_icmp_ge (tgt := 99) C dX7_stood_29 (by decide) (fun hc => ?_) (fun hc => ?_)
  · have h := h.1 hc
    refine V_aload_n C 0 dX7_stood_99 rfl ?_
    refine V_getR C FL_RX7_7 (f7_0 hb) dX7_stood_100 ?_
    refine V_bipush C 7 dX7_stood_103 (by decide) ?_
    refine V_iload_n C 2 dX7_stood_105 rfl ?_
    refine V_iast C (k7_1 hb) (vp_lit (by decide)) dX7_stood_106 ?_
    refine V_nmM (fun M3 e_M3 => ?_)
    have h := h M3 e_M3
    refine V_aload_n C 0 dX7_stood_107 rfl ?_
    refine V_iconst C 5 dX7_stood_108 (by decide) ?_
    refine V_lconst C 0 dX7_stood_109 (by decide) ?_
    refine V_callV (As := [.int 5, .long 0]) (st := []) C (c_X7_sets hb h) Y_X7_sets Z_X7_sets (T := TX7) (N := 21) rfl (o7 hb) (ltN hH (by decide)) u_235 rfl rfl (Nat.le_of_ble_eq_true rfl) dX7_stood_110 ?_
    rintro v9 M4 ⟨rfl, h⟩
    show V X 113 _ [] M4
    refine V_iconst C 0 dX7_stood_113 (by decide) ?_
    refine V_istore_n (lv' := [(3, .int 0), (0, vR X b), (1, .int p1), (2, .int v2)]) C (ltN hN (by decide)) dX7_stood_114 rfl ?_
    refine V_sub [1, 2, 0] rfl ?_
    exact Loop.sound (s0 := ((0 : Int32), M4)) (P := fun s => V X 115 [(0, vR X b), (1, .int p1), (3, .int (s.1))] [] (s.2)) h (fun ag hag s hs => s_X7_stood_F115 C hH hN hQ hb  hag hs)
  · have h := h.2 hc
    refine V_aload_n C 0 dX7_stood_32 rfl ?_
    refine V_getR C FL_RX7_7 (f7_0 hb) dX7_stood_33 ?_
    refine V_bipush C 7 dX7_stood_36 (by decide) ?_
    refine V_iload_n C 3 dX7_stood_38 rfl ?_
    refine V_iast C (k7_1 hb) (vp_lit (by decide)) dX7_stood_39 ?_
    refine V_nmM (fun M11 e_M11 => ?_)
    have h := h M11 e_M11
    refine V_aload_n C 0 dX7_stood_40 rfl ?_
    refine V_bipush C 8 dX7_stood_41 (by decide) ?_
    refine V_iload_n C 3 dX7_stood_43 rfl ?_
    refine V_iadd C dX7_stood_44 ?_
    refine V_lconst C 1 dX7_stood_45 (by decide) ?_
    refine V_callV (As := [.int (8 + v3), .long 1]) (st := []) C (c_X7_sets hb h) Y_X7_sets Z_X7_sets (T := TX7) (N := 21) rfl (o7 hb) (ltN hH (by decide)) u_235 rfl rfl (Nat.le_of_ble_eq_true rfl) dX7_stood_46 ?_
    rintro v9 M12 ⟨rfl, h⟩
    show V X 49 _ [] M12
    refine V_iconst C 0 dX7_stood_49 (by decide) ?_
    refine V_istore (lv' := [(4, .int 0), (0, vR X b), (1, .int p1), (2, .int v2), (3, .int v3)]) C (ltN hN (by decide)) dX7_stood_50 rfl ?_
    refine V_sub [1, 2, 3, 4, 0] rfl ?_
    exact Loop.sound (s0 := ((0 : Int32), M12)) (P := fun s => V X 52 [(0, vR X b), (1, .int p1), (2, .int v2), (3, .int v3), (4, .int (s.1))] [] (s.2)) h (fun ag hag s hs => s_X7_stood_F52 C hH hN hQ hb hag27 hag hs)
set_option maxRecDepth 20000 in
set_option maxHeartbeats 1000000 in
theorem s_X7_stood {X : wX} (C : CX X cX7_stood RX7 (some .int)) (hH : xH X = 8) (hN : xN X = 5) {b : Nat} {p1 : Int32} {M : mM} {Q : Int32 → mM → Prop} (hQ : ∀ r M, Q r M → xPo X (some (.int r)) M) (hb : isC (xW X) 7 b)   (h : p_X7_stood b p1 M Q) : V X 0 [(0, vR X b), (1, .int p1)] [] M := by
  refine V_iload_n C 1 dX7_stood_0 rfl ?_
  refine V_i2l C dX7_stood_1 ?_
  refine V_lconst C 0 dX7_stood_2 (by decide) ?_
  refine V_ldc2 C u_249 dX7_stood_3 ?_
  refine V_callS (As := [.long (p1.toInt64), .long 0, .long 3]) (st := []) C (c_X7_in  h) Y_X7_in Z_X7_in (ltN hH (by decide)) u_243 rfl rfl (Nat.le_of_ble_eq_true rfl) dX7_stood_6 ?_
  rintro v9 M9 ⟨rfl, r1, rfl, h⟩
  show V X 9 _ [.int r1] M
  refine V_if_ne (tgt := 17) C dX7_stood_9 (by decide) (fun hc => ?_) (fun hc => ?_)
  · have h := h.1 hc
    refine V_aload_n C 0 dX7_stood_17 rfl ?_
    refine V_getR C FL_RX7_7 (f7_0 hb) dX7_stood_18 ?_
    refine V_bipush C 7 dX7_stood_21 (by decide) ?_
    refine V_iald C (k7_1 hb) (vp_lit (by decide)) dX7_stood_23 ?_
    refine V_nmI (fun x2 e_x2 => ?_)
    have h := h x2 e_x2
    refine V_istore_n (lv' := [(2, .int x2), (0, vR X b), (1, .int p1)]) C (ltN hN (by decide)) dX7_stood_24 rfl ?_
    refine V_iconst C 0 dX7_stood_25 (by decide) ?_
    refine V_istore_n (lv' := [(3, .int 0), (2, .int x2), (0, vR X b), (1, .int p1)]) C (ltN hN (by decide)) dX7_stood_26 rfl ?_
    refine V_sub [2, 3, 1, 0] rfl ?_
    exact Loop.sound (s0 := ((0 : Int32), M)) (P := fun s => V X 27 [(0, vR X b), (1, .int p1), (2, .int x2), (3, .int (s.1))] [] (s.2)) h (fun ag hag s hs => s_X7_stood_F27 C hH hN hQ hb  hag hs)
  · have h := h.2 hc
    refine V_aload_n C 0 dX7_stood_12 rfl ?_
    refine V_callV (As := []) (st := []) C (c_X7_bad hb h) Y_X7_bad Z_X7_bad (T := TX7) (N := 21) rfl (o7 hb) (ltN hH (by decide)) u_242 rfl rfl (Nat.le_of_ble_eq_true rfl) dX7_stood_13 ?_
    rintro v9 M17 ⟨r18, rfl, h⟩
    show V X 16 _ [.int r18] M17
    exact V_iret C dX7_stood_16 (hQ _ _ h)
set_option maxRecDepth 20000 in
set_option maxHeartbeats 1000000 in
theorem c_X7_stood {w : wU} {l : Launch} {b : Nat} {p1 : Int32} {M : mM} {Q : Int32 → mM → Prop} (hb : isC w 7 b) (h : p_X7_stood b p1 M Q) : CT w l 8 yX7_stood cX7_stood 5 (some .int) [.ref (uA w b), .int p1] M (piI Q) := by
  refine CT.of (by decide +kernel) (Nat.le_of_ble_eq_true rfl) (fun X hw hH hl hP hN C => ?_)
  subst hw
  exact s_X7_stood C hH hN (fun r M1 q => by rw [hP]; exact ⟨r, rfl, q⟩) hb h
set_option maxRecDepth 20000 in
set_option maxHeartbeats 1000000 in
theorem s_X7_span_J89 {X : wX} (C : CX X cX7_span RX7 (some .int)) (hH : xH X = 8) (hN : xN X = 8) {b : Nat} {p1 : Int32} {p2 : Int32} {M : mM} {Q : Int32 → mM → Prop} (hQ : ∀ r M, Q r M → xPo X (some (.int r)) M) (hb : isC (xW X) 7 b) {v3 : Int32} {v4 : Int32} {v5 : Int32} {v6 : Int32} {ag36 : (Int32 × Int32 × mM) → Prop} (hag36 : ∀ s, ag36 s → V X 36 [(0, vR X b), (1, .int p1), (2, .int p2), (3, .int v3), (4, .int (s.1)), (5, .int (s.2.1))] [] (s.2.2)) (h : p_X7_span_J89 b p1 p2 Q ag36 v3 v4 v5 v6 M) : V X 89 [(0, vR X b), (1, .int p1), (2, .int p2), (3, .int v3), (4, .int v4), (5, .int v5), (6, .int v6)] [] M := by
  refine V_iload C 6 dX7_span_89 rfl ?_
  refine V_if_eq (tgt := 110) C dX7_span_91 (by decide) (fun hc => ?_) (fun hc => ?_)
  · have h := h.1 hc
    refine V_iload C 4 dX7_span_110 rfl ?_
    refine V_istore (lv' := [(4, .int v4), (0, vR X b), (1, .int p1), (2, .int p2), (3, .int v3), (5, .int v5), (6, .int v6)]) C (ltN hN (by decide)) dX7_span_112 rfl ?_
    refine V_iinc (v := (v5 + 1)) (lv' := [(5, .int (v5 + 1)), (4, .int v4), (0, vR X b), (1, .int p1), (2, .int p2), (3, .int v3), (6, .int v6)]) C 5 (ltN hN (by decide)) dX7_span_114 rfl rfl rfl ?_
    refine V_goto (tgt := 36) C dX7_span_117 (by decide) ?_
    exact V_sub [2, 3, 4, 5, 1, 0] rfl (hag36 (v4, (v5 + 1), M) h)
  · have h := h.2 hc
    refine V_iload_n C 2 dX7_span_94 rfl ?_
    refine V_iconst C 1 dX7_span_95 (by decide) ?_
    refine V_icmp_eq (tgt := 105) C dX7_span_96 (by decide) (fun hc => ?_) (fun hc => ?_)
    · have h := h.1 hc
      refine V_iload C 5 dX7_span_105 rfl ?_
      refine V_goto (tgt := 112) C dX7_span_107 (by decide) ?_
      refine V_istore (lv' := [(4, .int v5), (0, vR X b), (1, .int p1), (2, .int p2), (3, .int v3), (5, .int v5), (6, .int v6)]) C (ltN hN (by decide)) dX7_span_112 rfl ?_
      refine V_iinc (v := (v5 + 1)) (lv' := [(5, .int (v5 + 1)), (4, .int v5), (0, vR X b), (1, .int p1), (2, .int p2), (3, .int v3), (6, .int v6)]) C 5 (ltN hN (by decide)) dX7_span_114 rfl rfl rfl ?_
      refine V_goto (tgt := 36) C dX7_span_117 (by decide) ?_
      exact V_sub [2, 3, 4, 5, 1, 0] rfl (hag36 (v5, (v5 + 1), M) h)
    · have h := h.2 hc
      refine V_iload C 4 dX7_span_99 rfl ?_
      refine V_iconst C (-1) dX7_span_101 (by decide) ?_
      refine V_icmp_ne (tgt := 110) C dX7_span_102 (by decide) (fun hc => ?_) (fun hc => ?_)
      · have h := h.1 hc
        refine V_iload C 4 dX7_span_110 rfl ?_
        refine V_istore (lv' := [(4, .int v4), (0, vR X b), (1, .int p1), (2, .int p2), (3, .int v3), (5, .int v5), (6, .int v6)]) C (ltN hN (by decide)) dX7_span_112 rfl ?_
        refine V_iinc (v := (v5 + 1)) (lv' := [(5, .int (v5 + 1)), (4, .int v4), (0, vR X b), (1, .int p1), (2, .int p2), (3, .int v3), (6, .int v6)]) C 5 (ltN hN (by decide)) dX7_span_114 rfl rfl rfl ?_
        refine V_goto (tgt := 36) C dX7_span_117 (by decide) ?_
        exact V_sub [2, 3, 4, 5, 1, 0] rfl (hag36 (v4, (v5 + 1), M) h)
      · have h := h.2 hc
        refine V_iload C 5 dX7_span_105 rfl ?_
        refine V_goto (tgt := 112) C dX7_span_107 (by decide) ?_
        refine V_istore (lv' := [(4, .int v5), (0, vR X b), (1, .int p1), (2, .int p2), (3, .int v3), (5, .int v5), (6, .int v6)]) C (ltN hN (by decide)) dX7_span_112 rfl ?_
        refine V_iinc (v := (v5 + 1)) (lv' := [(5, .int (v5 + 1)), (4, .int v5), (0, vR X b), (1, .int p1), (2, .int p2), (3, .int v3), (6, .int v6)]) C 5 (ltN hN (by decide)) dX7_span_114 rfl rfl rfl ?_
        refine V_goto (tgt := 36) C dX7_span_117 (by decide) ?_
        exact V_sub [2, 3, 4, 5, 1, 0] rfl (hag36 (v5, (v5 + 1), M) h)
set_option maxRecDepth 20000 in
set_option maxHeartbeats 1000000 in
theorem s_X7_span_F62 {X : wX} (C : CX X cX7_span RX7 (some .int)) (hH : xH X = 8) (hN : xN X = 8) {b : Nat} {p1 : Int32} {p2 : Int32} {M : mM} {Q : Int32 → mM → Prop} (hQ : ∀ r M, Q r M → xPo X (some (.int r)) M) (hb : isC (xW X) 7 b) {v3 : Int32} {v4 : Int32} {v5 : Int32} {v6 : Int32} {v7 : Int32} {ag36 : (Int32 × Int32 × mM) → Prop} {ag62 : (Int32 × Int32 × mM) → Prop} (hag36 : ∀ s, ag36 s → V X 36 [(0, vR X b), (1, .int p1), (2, .int p2), (3, .int v3), (4, .int (s.1)), (5, .int (s.2.1))] [] (s.2.2)) (hag62 : ∀ s, ag62 s → V X 62 [(0, vR X b), (1, .int p1), (2, .int p2), (3, .int v3), (4, .int v4), (5, .int v5), (6, .int (s.1)), (7, .int (s.2.1))] [] (s.2.2)) (h : p_X7_span_F62 b p1 p2 v3 v4 v5 Q ag36 ag62 v6 v7 M) : V X 62 [(0, vR X b), (1, .int p1), (2, .int p2), (3, .int v3), (4, .int v4), (5, .int v5), (6, .int v6), (7, .int v7)] [] M := by
  refine V_iload C 7 dX7_span_62 rfl ?_
  refine V_bipush C 6 dX7_span_64 (by decide) ?_
  refine V_icmp_ge (tgt := 89) C dX7_span_66 (by decide) (fun hc => ?_) (fun hc => ?_)
  · have h := h.1 hc
    exact V_sub [0, 1, 2, 3, 4, 5, 6] rfl (s_X7_span_J89 C hH hN hQ hb hag36  h)
  · have h := h.2 hc
    refine V_iload C 6 dX7_span_69 rfl ?_
    refine V_if_eq (tgt := 89) C dX7_span_71 (by decide) (fun hc => ?_) (fun hc => ?_)
    · have h := h.1 hc
      exact V_sub [0, 1, 2, 3, 4, 5, 6] rfl (s_X7_span_J89 C hH hN hQ hb hag36  h)
    · have h := h.2 hc
      refine V_aload_n C 0 dX7_span_74 rfl ?_
      refine V_iload C 7 dX7_span_75 rfl ?_
      refine V_iconst C 0 dX7_span_77 (by decide) ?_
      refine V_callV (As := [.int v7, .int 0]) (st := []) C (c_X7_can hb h) Y_X7_can Z_X7_can (T := TX7) (N := 21) rfl (o7 hb) (ltN hH (by decide)) u_327 rfl rfl (Nat.le_of_ble_eq_true rfl) dX7_span_78 ?_
      rintro v9 M10 ⟨r11, rfl, h⟩
      show V X 81 _ [.int r11] M10
      refine V_istore (lv' := [(6, .int r11), (0, vR X b), (1, .int p1), (2, .int p2), (3, .int v3), (4, .int v4), (5, .int v5), (7, .int v7)]) C (ltN hN (by decide)) dX7_span_81 rfl ?_
      refine V_iinc (v := (v7 + 1)) (lv' := [(7, .int (v7 + 1)), (6, .int r11), (0, vR X b), (1, .int p1), (2, .int p2), (3, .int v3), (4, .int v4), (5, .int v5)]) C 7 (ltN hN (by decide)) dX7_span_83 rfl rfl rfl ?_
      refine V_goto (tgt := 62) C dX7_span_86 (by decide) ?_
      exact V_sub [2, 3, 4, 5, 6, 7, 1, 0] rfl (hag62 (r11, (v7 + 1), M10) h)
set_option maxRecDepth 20000 in
set_option maxHeartbeats 1000000 in
theorem s_X7_span_F36 {X : wX} (C : CX X cX7_span RX7 (some .int)) (hH : xH X = 8) (hN : xN X = 8) {b : Nat} {p1 : Int32} {p2 : Int32} {M : mM} {Q : Int32 → mM → Prop} (hQ : ∀ r M, Q r M → xPo X (some (.int r)) M) (hb : isC (xW X) 7 b) {v3 : Int32} {v4 : Int32} {v5 : Int32} {ag36 : (Int32 × Int32 × mM) → Prop} (hag36 : ∀ s, ag36 s → V X 36 [(0, vR X b), (1, .int p1), (2, .int p2), (3, .int v3), (4, .int (s.1)), (5, .int (s.2.1))] [] (s.2.2)) (h : p_X7_span_F36 b p1 p2 v3 Q  ag36 v4 v5 M) : V X 36 [(0, vR X b), (1, .int p1), (2, .int p2), (3, .int v3), (4, .int v4), (5, .int v5)] [] M := by
  refine V_iload C 5 dX7_span_36 rfl ?_
  refine V_bipush C 61 dX7_span_38 (by decide) ?_
  refine V_icmp_ge (tgt := 120) C dX7_span_40 (by decide) (fun hc => ?_) (fun hc => ?_)
  · have h := h.1 hc
    refine V_aload_n C 0 dX7_span_120 rfl ?_
    refine V_getR C FL_RX7_7 (f7_0 hb) dX7_span_121 ?_
    refine V_bipush C 40 dX7_span_124 (by decide) ?_
    refine V_iconst C 4 dX7_span_126 (by decide) ?_
    refine V_iload_n C 1 dX7_span_127 rfl ?_
    refine V_imul C dX7_span_128 ?_
    refine V_iadd C dX7_span_129 ?_
    refine V_iload_n C 3 dX7_span_130 rfl ?_
    obtain ⟨b7, h⟩ := h
    refine V_iast C (k7_1 hb) b7 dX7_span_131 ?_
    refine V_nmM (fun M6 e_M6 => ?_)
    have h := h M6 e_M6
    refine V_iload C 4 dX7_span_132 rfl ?_
    exact V_iret C dX7_span_134 (hQ _ _ h)
  · have h := h.2 hc
    refine V_aload_n C 0 dX7_span_43 rfl ?_
    refine V_getR C FL_RX7_7 (f7_0 hb) dX7_span_44 ?_
    refine V_bipush C 40 dX7_span_47 (by decide) ?_
    refine V_iconst C 4 dX7_span_49 (by decide) ?_
    refine V_iload_n C 1 dX7_span_50 rfl ?_
    refine V_imul C dX7_span_51 ?_
    refine V_iadd C dX7_span_52 ?_
    refine V_iload C 5 dX7_span_53 rfl ?_
    obtain ⟨b9, h⟩ := h
    refine V_iast C (k7_1 hb) b9 dX7_span_55 ?_
    refine V_nmM (fun M8 e_M8 => ?_)
    have h := h M8 e_M8
    refine V_iconst C 1 dX7_span_56 (by decide) ?_
    refine V_istore (lv' := [(6, .int 1), (0, vR X b), (1, .int p1), (2, .int p2), (3, .int v3), (4, .int v4), (5, .int v5)]) C (ltN hN (by decide)) dX7_span_57 rfl ?_
    refine V_iconst C 0 dX7_span_59 (by decide) ?_
    refine V_istore (lv' := [(7, .int 0), (6, .int 1), (0, vR X b), (1, .int p1), (2, .int p2), (3, .int v3), (4, .int v4), (5, .int v5)]) C (ltN hN (by decide)) dX7_span_60 rfl ?_
    refine V_sub [2, 3, 4, 5, 6, 7, 1, 0] rfl ?_
    exact Loop.sound (s0 := ((1 : Int32), (0 : Int32), M8)) (P := fun s => V X 62 [(0, vR X b), (1, .int p1), (2, .int p2), (3, .int v3), (4, .int v4), (5, .int v5), (6, .int (s.1)), (7, .int (s.2.1))] [] (s.2.2)) h (fun ag hag s hs => s_X7_span_F62 C hH hN hQ hb hag36 hag hs)
set_option maxRecDepth 20000 in
set_option maxHeartbeats 1000000 in
theorem s_X7_span {X : wX} (C : CX X cX7_span RX7 (some .int)) (hH : xH X = 8) (hN : xN X = 8) {b : Nat} {p1 : Int32} {p2 : Int32} {M : mM} {Q : Int32 → mM → Prop} (hQ : ∀ r M, Q r M → xPo X (some (.int r)) M) (hb : isC (xW X) 7 b)   (h : p_X7_span b p1 p2 M Q) : V X 0 [(0, vR X b), (1, .int p1), (2, .int p2)] [] M := by
  refine V_aload_n C 0 dX7_span_0 rfl ?_
  refine V_iload_n C 1 dX7_span_1 rfl ?_
  refine V_callV (As := [.int p1]) (st := []) C (c_X7_isStuff hb h) Y_X7_isStuff Z_X7_isStuff (T := TX7) (N := 21) rfl (o7 hb) (ltN hH (by decide)) u_253 rfl rfl (Nat.le_of_ble_eq_true rfl) dX7_span_2 ?_
  rintro v9 M9 ⟨rfl, r1, rfl, h⟩
  show V X 5 _ [.int r1] M
  refine V_if_eq (tgt := 18) C dX7_span_5 (by decide) (fun hc => ?_) (fun hc => ?_)
  · have h := h.1 hc
    refine V_aload_n C 0 dX7_span_18 rfl ?_
    refine V_callV (As := []) (st := []) C (c_X7_bad hb h) Y_X7_bad Z_X7_bad (T := TX7) (N := 21) rfl (o7 hb) (ltN hH (by decide)) u_242 rfl rfl (Nat.le_of_ble_eq_true rfl) dX7_span_19 ?_
    rintro v9 M2 ⟨r3, rfl, h⟩
    show V X 22 _ [.int r3] M2
    exact V_iret C dX7_span_22 (hQ _ _ h)
  · have h := h.2 hc
    refine V_iload_n C 2 dX7_span_8 rfl ?_
    refine V_i2l C dX7_span_9 ?_
    refine V_lconst C 0 dX7_span_10 (by decide) ?_
    refine V_lconst C 1 dX7_span_11 (by decide) ?_
    refine V_callS (As := [.long (p2.toInt64), .long 0, .long 1]) (st := []) C (c_X7_in  h) Y_X7_in Z_X7_in (ltN hH (by decide)) u_243 rfl rfl (Nat.le_of_ble_eq_true rfl) dX7_span_12 ?_
    rintro v9 M9 ⟨rfl, r4, rfl, h⟩
    show V X 15 _ [.int r4] M
    refine V_if_ne (tgt := 23) C dX7_span_15 (by decide) (fun hc => ?_) (fun hc => ?_)
    · have h := h.1 hc
      refine V_aload_n C 0 dX7_span_23 rfl ?_
      refine V_iload_n C 1 dX7_span_24 rfl ?_
      refine V_iconst C 0 dX7_span_25 (by decide) ?_
      refine V_callV (As := [.int p1, .int 0]) (st := []) C (c_X7_ofStuff hb h) Y_X7_ofStuff Z_X7_ofStuff (T := TX7) (N := 21) rfl (o7 hb) (ltN hH (by decide)) u_301 rfl rfl (Nat.le_of_ble_eq_true rfl) dX7_span_26 ?_
      rintro v9 M9 ⟨rfl, r5, rfl, h⟩
      show V X 29 _ [.int r5] M
      refine V_istore_n (lv' := [(3, .int r5), (0, vR X b), (1, .int p1), (2, .int p2)]) C (ltN hN (by decide)) dX7_span_29 rfl ?_
      refine V_iconst C (-1) dX7_span_30 (by decide) ?_
      refine V_istore (lv' := [(4, .int (-1)), (3, .int r5), (0, vR X b), (1, .int p1), (2, .int p2)]) C (ltN hN (by decide)) dX7_span_31 rfl ?_
      refine V_iconst C 1 dX7_span_33 (by decide) ?_
      refine V_istore (lv' := [(5, .int 1), (4, .int (-1)), (3, .int r5), (0, vR X b), (1, .int p1), (2, .int p2)]) C (ltN hN (by decide)) dX7_span_34 rfl ?_
      refine V_sub [3, 4, 5, 2, 1, 0] rfl ?_
      exact Loop.sound (s0 := ((-1 : Int32), (1 : Int32), M)) (P := fun s => V X 36 [(0, vR X b), (1, .int p1), (2, .int p2), (3, .int r5), (4, .int (s.1)), (5, .int (s.2.1))] [] (s.2.2)) h (fun ag hag s hs => s_X7_span_F36 C hH hN hQ hb  hag hs)
    · have h := h.2 hc
      refine V_aload_n C 0 dX7_span_18 rfl ?_
      refine V_callV (As := []) (st := []) C (c_X7_bad hb h) Y_X7_bad Z_X7_bad (T := TX7) (N := 21) rfl (o7 hb) (ltN hH (by decide)) u_242 rfl rfl (Nat.le_of_ble_eq_true rfl) dX7_span_19 ?_
      rintro v9 M12 ⟨r13, rfl, h⟩
      show V X 22 _ [.int r13] M12
      exact V_iret C dX7_span_22 (hQ _ _ h)
set_option maxRecDepth 20000 in
set_option maxHeartbeats 1000000 in
theorem c_X7_span {w : wU} {l : Launch} {b : Nat} {p1 : Int32} {p2 : Int32} {M : mM} {Q : Int32 → mM → Prop} (hb : isC w 7 b) (h : p_X7_span b p1 p2 M Q) : CT w l 8 yX7_span cX7_span 8 (some .int) [.ref (uA w b), .int p1, .int p2] M (piI Q) := by
  refine CT.of (by decide +kernel) (Nat.le_of_ble_eq_true rfl) (fun X hw hH hl hP hN C => ?_)
  subst hw
  exact s_X7_span C hH hN (fun r M1 q => by rw [hP]; exact ⟨r, rfl, q⟩) hb h
set_option maxRecDepth 20000 in
set_option maxHeartbeats 1000000 in
theorem s_X7_sizeOf_F4 {X : wX} (C : CX X cX7_sizeOf RX7 (some .int)) (hH : xH X = 0) (hN : xN X = 3) {p1 : Int32} {M : mM} {Q : Int32 → Prop} (hQ : ∀ r, Q r → xPo X (some (.int r)) M)  {v1 : Int32} {v2 : Int32} {ag4 : (Int32 × Int32) → Prop} (hag4 : ∀ s, ag4 s → V X 4 [(1, .int (s.1)), (2, .int (s.2))] [] M) (h : p_X7_sizeOf_F4 p1  M Q  ag4 v1 v2) : V X 4 [(1, .int v1), (2, .int v2)] [] M := by
  refine V_iload_n C 1 dX7_sizeOf_4 rfl ?_
  refine V_if_le (tgt := 21) C dX7_sizeOf_5 (by decide) (fun hc => ?_) (fun hc => ?_)
  · have h := h.1 hc
    refine V_iload_n C 0 dX7_sizeOf_21 rfl ?_
    exact V_iret C dX7_sizeOf_22 (hQ _ h)
  · have h := h.2 hc
    refine V_iload_n C 0 dX7_sizeOf_8 rfl ?_
    refine V_iload_n C 1 dX7_sizeOf_9 rfl ?_
    refine V_iconst C 1 dX7_sizeOf_10 (by decide) ?_
    refine V_iand C dX7_sizeOf_11 ?_
    refine V_iadd C dX7_sizeOf_12 ?_
    refine V_istore_n (lv' := [(1, .int (v1 + (v2 &&& 1))), (2, .int v2)]) C (ltN hN (by decide)) dX7_sizeOf_13 rfl ?_
    refine V_iload_n C 1 dX7_sizeOf_14 rfl ?_
    refine V_iconst C 1 dX7_sizeOf_15 (by decide) ?_
    refine V_ishr C dX7_sizeOf_16 ?_
    refine V_istore_n (lv' := [(2, .int (v2 >>> (1 &&& 31))), (1, .int (v1 + (v2 &&& 1)))]) C (ltN hN (by decide)) dX7_sizeOf_17 rfl ?_
    refine V_goto (tgt := 4) C dX7_sizeOf_18 (by decide) ?_
    exact V_sub [1, 0] rfl (hag4 ((v1 + (v2 &&& 1)), (v2 >>> (1 &&& 31))) h)
set_option maxRecDepth 20000 in
set_option maxHeartbeats 1000000 in
theorem s_X7_sizeOf {X : wX} (C : CX X cX7_sizeOf RX7 (some .int)) (hH : xH X = 0) (hN : xN X = 3) {p1 : Int32} {M : mM} {Q : Int32 → Prop} (hQ : ∀ r, Q r → xPo X (some (.int r)) M)    (h : p_X7_sizeOf p1 M Q) : V X 0 [(0, .int p1)] [] M := by
  refine V_iconst C 0 dX7_sizeOf_0 (by decide) ?_
  refine V_istore_n (lv' := [(1, .int 0), (0, .int p1)]) C (ltN hN (by decide)) dX7_sizeOf_1 rfl ?_
  refine V_iload_n C 1 dX7_sizeOf_2 rfl ?_
  refine V_istore_n (lv' := [(2, .int p1), (1, .int 0), (0, .int p1)]) C (ltN hN (by decide)) dX7_sizeOf_3 rfl ?_
  refine V_sub [1, 0] rfl ?_
  exact Loop.sound (s0 := ((0 : Int32), p1)) (P := fun s => V X 4 [(1, .int (s.1)), (2, .int (s.2))] [] M) h (fun ag hag s hs => s_X7_sizeOf_F4 C hH hN hQ   hag hs)
set_option maxRecDepth 20000 in
set_option maxHeartbeats 1000000 in
theorem c_X7_sizeOf {w : wU} {l : Launch} {p1 : Int32} {M : mM} {Q : Int32 → Prop}  (h : p_X7_sizeOf p1 M Q) : CT w l 0 yX7_sizeOf cX7_sizeOf 3 (some .int) [.int p1] M (poI M Q) := by
  refine CT.of (by decide +kernel) (Nat.le_of_ble_eq_true rfl) (fun X hw hH hl hP hN C => ?_)
  subst hw
  exact s_X7_sizeOf C hH hN (fun r q => by rw [hP]; exact ⟨rfl, r, rfl, q⟩)  h
set_option maxRecDepth 20000 in
set_option maxHeartbeats 1000000 in
theorem s_X7_tracesOf_F4 {X : wX} (C : CX X cX7_tracesOf RX7 (some .int)) (hH : xH X = 1) (hN : xN X = 4) {b : Nat} {p1 : Int32} {M : mM} {Q : Int32 → Prop} (hQ : ∀ r, Q r → xPo X (some (.int r)) M) (hb : isC (xW X) 7 b) {v2 : Int32} {v3 : Int32} {ag4 : (Int32 × Int32) → Prop} (hag4 : ∀ s, ag4 s → V X 4 [(0, vR X b), (1, .int p1), (2, .int (s.1)), (3, .int (s.2))] [] M) (h : p_X7_tracesOf_F4 b p1  M Q  ag4 v2 v3) : V X 4 [(0, vR X b), (1, .int p1), (2, .int v2), (3, .int v3)] [] M := by
  refine V_iload_n C 3 dX7_tracesOf_4 rfl ?_
  refine V_aload_n C 0 dX7_tracesOf_5 rfl ?_
  refine V_getR C FL_RX7_7 (f7_0 hb) dX7_tracesOf_6 ?_
  refine V_iconst C 1 dX7_tracesOf_9 (by decide) ?_
  refine V_iald C (k7_1 hb) (vp_lit (by decide)) dX7_tracesOf_10 ?_
  refine V_icmp_ge (tgt := 52) C dX7_tracesOf_11 (by decide) (fun hc => ?_) (fun hc => ?_)
  · have h := h.1 hc
    refine V_iload_n C 2 dX7_tracesOf_52 rfl ?_
    exact V_iret C dX7_tracesOf_53 (hQ _ h)
  · have h := h.2 hc
    refine V_iload_n C 2 dX7_tracesOf_14 rfl ?_
    refine V_aload_n C 0 dX7_tracesOf_15 rfl ?_
    refine V_iload_n C 3 dX7_tracesOf_16 rfl ?_
    refine V_iconst C 0 dX7_tracesOf_17 (by decide) ?_
    refine V_callV (As := [.int v3, .int 0]) (st := [.int v2]) C (c_X7_ofTrace hb h) Y_X7_ofTrace Z_X7_ofTrace (T := TX7) (N := 21) rfl (o7 hb) (ltN hH (by decide)) u_258 rfl rfl (Nat.le_of_ble_eq_true rfl) dX7_tracesOf_18 ?_
    rintro v9 M9 ⟨rfl, r1, rfl, h⟩
    show V X 21 _ [.int r1, .int v2] M
    refine V_bipush C 8 dX7_tracesOf_21 (by decide) ?_
    refine V_idiv C dX7_tracesOf_23 (by decide) ?_
    refine V_iload_n C 1 dX7_tracesOf_24 rfl ?_
    refine V_icmp_ne (tgt := 43) C dX7_tracesOf_25 (by decide) (fun hc => ?_) (fun hc => ?_)
    · have h := h.1 hc
      refine V_iconst C 0 dX7_tracesOf_43 (by decide) ?_
      refine V_ior C dX7_tracesOf_44 ?_
      refine V_istore_n (lv' := [(2, .int (v2 ||| 0)), (0, vR X b), (1, .int p1), (3, .int v3)]) C (ltN hN (by decide)) dX7_tracesOf_45 rfl ?_
      refine V_iinc (v := (v3 + 1)) (lv' := [(3, .int (v3 + 1)), (2, .int (v2 ||| 0)), (0, vR X b), (1, .int p1)]) C 3 (ltN hN (by decide)) dX7_tracesOf_46 rfl rfl rfl ?_
      refine V_goto (tgt := 4) C dX7_tracesOf_49 (by decide) ?_
      exact V_sub [2, 3, 1, 0] rfl (hag4 ((v2 ||| 0), (v3 + 1)) h)
    · have h := h.2 hc
      refine V_aload_n C 0 dX7_tracesOf_28 rfl ?_
      refine V_iload_n C 3 dX7_tracesOf_29 rfl ?_
      refine V_iconst C 3 dX7_tracesOf_30 (by decide) ?_
      refine V_callV (As := [.int v3, .int 3]) (st := [.int v2]) C (c_X7_ofTrace hb h) Y_X7_ofTrace Z_X7_ofTrace (T := TX7) (N := 21) rfl (o7 hb) (ltN hH (by decide)) u_258 rfl rfl (Nat.le_of_ble_eq_true rfl) dX7_tracesOf_31 ?_
      rintro v9 M9 ⟨rfl, r2, rfl, h⟩
      show V X 34 _ [.int r2, .int v2] M
      refine V_if_ne (tgt := 43) C dX7_tracesOf_34 (by decide) (fun hc => ?_) (fun hc => ?_)
      · have h := h.1 hc
        refine V_iconst C 0 dX7_tracesOf_43 (by decide) ?_
        refine V_ior C dX7_tracesOf_44 ?_
        refine V_istore_n (lv' := [(2, .int (v2 ||| 0)), (0, vR X b), (1, .int p1), (3, .int v3)]) C (ltN hN (by decide)) dX7_tracesOf_45 rfl ?_
        refine V_iinc (v := (v3 + 1)) (lv' := [(3, .int (v3 + 1)), (2, .int (v2 ||| 0)), (0, vR X b), (1, .int p1)]) C 3 (ltN hN (by decide)) dX7_tracesOf_46 rfl rfl rfl ?_
        refine V_goto (tgt := 4) C dX7_tracesOf_49 (by decide) ?_
        exact V_sub [2, 3, 1, 0] rfl (hag4 ((v2 ||| 0), (v3 + 1)) h)
      · have h := h.2 hc
        refine V_iconst C 1 dX7_tracesOf_37 (by decide) ?_
        refine V_iload_n C 3 dX7_tracesOf_38 rfl ?_
        refine V_ishl C dX7_tracesOf_39 ?_
        refine V_goto (tgt := 44) C dX7_tracesOf_40 (by decide) ?_
        refine V_ior C dX7_tracesOf_44 ?_
        refine V_nmI (fun x3 e_x3 => ?_)
        have h := h x3 e_x3
        refine V_istore_n (lv' := [(2, .int x3), (0, vR X b), (1, .int p1), (3, .int v3)]) C (ltN hN (by decide)) dX7_tracesOf_45 rfl ?_
        refine V_iinc (v := (v3 + 1)) (lv' := [(3, .int (v3 + 1)), (2, .int x3), (0, vR X b), (1, .int p1)]) C 3 (ltN hN (by decide)) dX7_tracesOf_46 rfl rfl rfl ?_
        refine V_goto (tgt := 4) C dX7_tracesOf_49 (by decide) ?_
        exact V_sub [2, 3, 1, 0] rfl (hag4 (x3, (v3 + 1)) h)
set_option maxRecDepth 20000 in
set_option maxHeartbeats 1000000 in
theorem s_X7_tracesOf {X : wX} (C : CX X cX7_tracesOf RX7 (some .int)) (hH : xH X = 1) (hN : xN X = 4) {b : Nat} {p1 : Int32} {M : mM} {Q : Int32 → Prop} (hQ : ∀ r, Q r → xPo X (some (.int r)) M) (hb : isC (xW X) 7 b)   (h : p_X7_tracesOf b p1 M Q) : V X 0 [(0, vR X b), (1, .int p1)] [] M := by
  refine V_iconst C 0 dX7_tracesOf_0 (by decide) ?_
  refine V_istore_n (lv' := [(2, .int 0), (0, vR X b), (1, .int p1)]) C (ltN hN (by decide)) dX7_tracesOf_1 rfl ?_
  refine V_iconst C 0 dX7_tracesOf_2 (by decide) ?_
  refine V_istore_n (lv' := [(3, .int 0), (2, .int 0), (0, vR X b), (1, .int p1)]) C (ltN hN (by decide)) dX7_tracesOf_3 rfl ?_
  refine V_sub [2, 3, 1, 0] rfl ?_
  exact Loop.sound (s0 := ((0 : Int32), (0 : Int32))) (P := fun s => V X 4 [(0, vR X b), (1, .int p1), (2, .int (s.1)), (3, .int (s.2))] [] M) h (fun ag hag s hs => s_X7_tracesOf_F4 C hH hN hQ hb  hag hs)
set_option maxRecDepth 20000 in
set_option maxHeartbeats 1000000 in
theorem c_X7_tracesOf {w : wU} {l : Launch} {b : Nat} {p1 : Int32} {M : mM} {Q : Int32 → Prop} (hb : isC w 7 b) (h : p_X7_tracesOf b p1 M Q) : CT w l 1 yX7_tracesOf cX7_tracesOf 4 (some .int) [.ref (uA w b), .int p1] M (poI M Q) := by
  refine CT.of (by decide +kernel) (Nat.le_of_ble_eq_true rfl) (fun X hw hH hl hP hN C => ?_)
  subst hw
  exact s_X7_tracesOf C hH hN (fun r q => by rw [hP]; exact ⟨rfl, r, rfl, q⟩) hb h
set_option maxRecDepth 20000 in
set_option maxHeartbeats 1000000 in
theorem s_X7_later_J134 {X : wX} (C : CX X cX7_later RX7 (some .int)) (hH : xH X = 8) (hN : xN X = 11) {b : Nat} {p1 : Int32} {M : mM} {Q : Int32 → mM → Prop} (hQ : ∀ r M, Q r M → xPo X (some (.int r)) M) (hb : isC (xW X) 7 b) {v2 : Int32} {v3 : Int32} {v4 : Int32} {v5 : Int32} {v6 : Int32} {v7 : Int32} {v8 : Int32} {v9 : Int32} {s0 : Int32} {ag36 : (Int32 × mM) → Prop} {ag52 : (Int32 × Int32 × Int32 × mM) → Prop} {ag66 : (Int32 × Int32 × Int32 × mM) → Prop} {ag76 : (Int32 × Int32 × Int32 × mM) → Prop} (hag36 : ∀ s, ag36 s → V X 36 [(0, vR X b), (1, .int p1), (2, .int v2), (3, .int (s.1))] [] (s.2)) (hag52 : ∀ s, ag52 s → V X 52 [(0, vR X b), (1, .int p1), (2, .int v2), (3, .int v3), (4, .int (s.1)), (5, .int (s.2.1)), (6, .int (s.2.2.1))] [] (s.2.2.2)) (hag66 : ∀ s, ag66 s → V X 66 [(0, vR X b), (1, .int p1), (2, .int v2), (3, .int v3), (4, .int (s.1)), (5, .int (s.2.1)), (6, .int v6), (7, .int (s.2.2.1))] [] (s.2.2.2)) (hag76 : ∀ s, ag76 s → V X 76 [(0, vR X b), (1, .int p1), (2, .int v2), (3, .int v3), (4, .int (s.1)), (5, .int (s.2.1)), (6, .int v6), (7, .int v7), (8, .int (s.2.2.1))] [] (s.2.2.2)) (h : p_X7_later_J134 b p1 Q ag36 ag52 ag66 ag76 v2 v3 v4 v5 v6 v7 v8 v9 s0 M) : V X 134 [(0, vR X b), (1, .int p1), (2, .int v2), (3, .int v3), (4, .int v4), (5, .int v5), (6, .int v6), (7, .int v7), (8, .int v8), (9, .int v9)] [.int s0] M := by
  refine V_istore (lv' := [(10, .int s0), (0, vR X b), (1, .int p1), (2, .int v2), (3, .int v3), (4, .int v4), (5, .int v5), (6, .int v6), (7, .int v7), (8, .int v8), (9, .int v9)]) C (ltN hN (by decide)) dX7_later_134 rfl ?_
  refine V_iload C 0 dX7_later_136 rfl ?_
  refine V_if_eq (tgt := 158) C dX7_later_138 (by decide) (fun hc => ?_) (fun hc => ?_)
  · have h := h.1 hc
    refine V_iinc (v := (v8 + 1)) (lv' := [(8, .int (v8 + 1)), (10, .int s0), (0, vR X b), (1, .int p1), (2, .int v2), (3, .int v3), (4, .int v4), (5, .int v5), (6, .int v6), (7, .int v7), (9, .int v9)]) C 9 (ltN hN (by decide)) dX7_later_158 rfl rfl rfl ?_
    refine V_goto (tgt := 76) C dX7_later_161 (by decide) ?_
    exact V_sub [2, 3, 4, 5, 6, 7, 8, 9, 0] rfl (hag76 (v4, v5, (v8 + 1), M) h)
  · have h := h.2 hc
    refine V_aload_n C 1 dX7_later_141 rfl ?_
    refine V_iload_n C 2 dX7_later_142 rfl ?_
    refine V_iload C 10 dX7_later_143 rfl ?_
    refine V_callV (As := [.int p1, .int v9]) (st := []) C (c_X7_can hb h) Y_X7_can Z_X7_can (T := TX7) (N := 21) rfl (o7 hb) (ltN hH (by decide)) u_327 rfl rfl (Nat.le_of_ble_eq_true rfl) dX7_later_145 ?_
    rintro v9 M7 ⟨r8, rfl, h⟩
    show V X 148 _ [.int r8] M7
    refine V_if_eq (tgt := 158) C dX7_later_148 (by decide) (fun hc => ?_) (fun hc => ?_)
    · have h := h.1 hc
      refine V_iinc (v := (v8 + 1)) (lv' := [(8, .int (v8 + 1)), (10, .int s0), (0, vR X b), (1, .int p1), (2, .int v2), (3, .int v3), (4, .int v4), (5, .int v5), (6, .int v6), (7, .int v7), (9, .int v9)]) C 9 (ltN hN (by decide)) dX7_later_158 rfl rfl rfl ?_
      refine V_goto (tgt := 76) C dX7_later_161 (by decide) ?_
      exact V_sub [2, 3, 4, 5, 6, 7, 8, 9, 0] rfl (hag76 (v4, v5, (v8 + 1), M7) h)
    · have h := h.2 hc
      refine V_iload C 10 dX7_later_151 rfl ?_
      refine V_istore (lv' := [(4, .int v9), (10, .int s0), (0, vR X b), (1, .int p1), (2, .int v2), (3, .int v3), (5, .int v5), (6, .int v6), (7, .int v7), (8, .int v8), (9, .int v9)]) C (ltN hN (by decide)) dX7_later_153 rfl ?_
      refine V_iconst C 1 dX7_later_155 (by decide) ?_
      refine V_istore (lv' := [(5, .int 1), (4, .int v9), (10, .int s0), (0, vR X b), (1, .int p1), (2, .int v2), (3, .int v3), (6, .int v6), (7, .int v7), (8, .int v8), (9, .int v9)]) C (ltN hN (by decide)) dX7_later_156 rfl ?_
      refine V_iinc (v := (v8 + 1)) (lv' := [(8, .int (v8 + 1)), (5, .int 1), (4, .int v9), (10, .int s0), (0, vR X b), (1, .int p1), (2, .int v2), (3, .int v3), (6, .int v6), (7, .int v7), (9, .int v9)]) C 9 (ltN hN (by decide)) dX7_later_158 rfl rfl rfl ?_
      refine V_goto (tgt := 76) C dX7_later_161 (by decide) ?_
      exact V_sub [4, 5, 6, 7, 2, 1, 8, 9, 0] rfl (hag76 (v9, (1 : Int32), (v8 + 1), M7) h)
set_option maxRecDepth 20000 in
set_option maxHeartbeats 1000000 in
theorem s_X7_later_J133 {X : wX} (C : CX X cX7_later RX7 (some .int)) (hH : xH X = 8) (hN : xN X = 11) {b : Nat} {p1 : Int32} {M : mM} {Q : Int32 → mM → Prop} (hQ : ∀ r M, Q r M → xPo X (some (.int r)) M) (hb : isC (xW X) 7 b) {v2 : Int32} {v3 : Int32} {v4 : Int32} {v5 : Int32} {v6 : Int32} {v7 : Int32} {v8 : Int32} {v9 : Int32} {ag36 : (Int32 × mM) → Prop} {ag52 : (Int32 × Int32 × Int32 × mM) → Prop} {ag66 : (Int32 × Int32 × Int32 × mM) → Prop} {ag76 : (Int32 × Int32 × Int32 × mM) → Prop} (hag36 : ∀ s, ag36 s → V X 36 [(0, vR X b), (1, .int p1), (2, .int v2), (3, .int (s.1))] [] (s.2)) (hag52 : ∀ s, ag52 s → V X 52 [(0, vR X b), (1, .int p1), (2, .int v2), (3, .int v3), (4, .int (s.1)), (5, .int (s.2.1)), (6, .int (s.2.2.1))] [] (s.2.2.2)) (hag66 : ∀ s, ag66 s → V X 66 [(0, vR X b), (1, .int p1), (2, .int v2), (3, .int v3), (4, .int (s.1)), (5, .int (s.2.1)), (6, .int v6), (7, .int (s.2.2.1))] [] (s.2.2.2)) (hag76 : ∀ s, ag76 s → V X 76 [(0, vR X b), (1, .int p1), (2, .int v2), (3, .int v3), (4, .int (s.1)), (5, .int (s.2.1)), (6, .int v6), (7, .int v7), (8, .int (s.2.2.1))] [] (s.2.2.2)) (h : p_X7_later_J133 b p1 Q ag36 ag52 ag66 ag76 v2 v3 v4 v5 v6 v7 v8 v9 M) : V X 133 [(0, vR X b), (1, .int p1), (2, .int v2), (3, .int v3), (4, .int v4), (5, .int v5), (6, .int v6), (7, .int v7), (8, .int v8), (9, .int v9)] [] M := by
  refine V_iconst C 0 dX7_later_133 (by decide) ?_
  exact V_sub [0, 1, 2, 3, 4, 5, 6, 7, 8, 9] rfl (s_X7_later_J134 C hH hN hQ hb hag36 hag52 hag66 hag76  h)
set_option maxRecDepth 20000 in
set_option maxHeartbeats 1000000 in
theorem s_X7_later_J129 {X : wX} (C : CX X cX7_later RX7 (some .int)) (hH : xH X = 8) (hN : xN X = 11) {b : Nat} {p1 : Int32} {M : mM} {Q : Int32 → mM → Prop} (hQ : ∀ r M, Q r M → xPo X (some (.int r)) M) (hb : isC (xW X) 7 b) {v2 : Int32} {v3 : Int32} {v4 : Int32} {v5 : Int32} {v6 : Int32} {v7 : Int32} {v8 : Int32} {v9 : Int32} {ag36 : (Int32 × mM) → Prop} {ag52 : (Int32 × Int32 × Int32 × mM) → Prop} {ag66 : (Int32 × Int32 × Int32 × mM) → Prop} {ag76 : (Int32 × Int32 × Int32 × mM) → Prop} (hag36 : ∀ s, ag36 s → V X 36 [(0, vR X b), (1, .int p1), (2, .int v2), (3, .int (s.1))] [] (s.2)) (hag52 : ∀ s, ag52 s → V X 52 [(0, vR X b), (1, .int p1), (2, .int v2), (3, .int v3), (4, .int (s.1)), (5, .int (s.2.1)), (6, .int (s.2.2.1))] [] (s.2.2.2)) (hag66 : ∀ s, ag66 s → V X 66 [(0, vR X b), (1, .int p1), (2, .int v2), (3, .int v3), (4, .int (s.1)), (5, .int (s.2.1)), (6, .int v6), (7, .int (s.2.2.1))] [] (s.2.2.2)) (hag76 : ∀ s, ag76 s → V X 76 [(0, vR X b), (1, .int p1), (2, .int v2), (3, .int v3), (4, .int (s.1)), (5, .int (s.2.1)), (6, .int v6), (7, .int v7), (8, .int (s.2.2.1))] [] (s.2.2.2)) (h : p_X7_later_J129 b p1 Q ag36 ag52 ag66 ag76 v2 v3 v4 v5 v6 v7 v8 v9 M) : V X 129 [(0, vR X b), (1, .int p1), (2, .int v2), (3, .int v3), (4, .int v4), (5, .int v5), (6, .int v6), (7, .int v7), (8, .int v8), (9, .int v9)] [] M := by
  refine V_iconst C 1 dX7_later_129 (by decide) ?_
  refine V_goto (tgt := 134) C dX7_later_130 (by decide) ?_
  exact V_sub [0, 1, 2, 3, 4, 5, 6, 7, 8, 9] rfl (s_X7_later_J134 C hH hN hQ hb hag36 hag52 hag66 hag76  h)
set_option maxRecDepth 20000 in
set_option maxHeartbeats 1000000 in
theorem s_X7_later_F76 {X : wX} (C : CX X cX7_later RX7 (some .int)) (hH : xH X = 8) (hN : xN X = 11) {b : Nat} {p1 : Int32} {M : mM} {Q : Int32 → mM → Prop} (hQ : ∀ r M, Q r M → xPo X (some (.int r)) M) (hb : isC (xW X) 7 b) {v2 : Int32} {v3 : Int32} {v6 : Int32} {v7 : Int32} {v4 : Int32} {v5 : Int32} {v8 : Int32} {ag36 : (Int32 × mM) → Prop} {ag52 : (Int32 × Int32 × Int32 × mM) → Prop} {ag66 : (Int32 × Int32 × Int32 × mM) → Prop} {ag76 : (Int32 × Int32 × Int32 × mM) → Prop} (hag36 : ∀ s, ag36 s → V X 36 [(0, vR X b), (1, .int p1), (2, .int v2), (3, .int (s.1))] [] (s.2)) (hag52 : ∀ s, ag52 s → V X 52 [(0, vR X b), (1, .int p1), (2, .int v2), (3, .int v3), (4, .int (s.1)), (5, .int (s.2.1)), (6, .int (s.2.2.1))] [] (s.2.2.2)) (hag66 : ∀ s, ag66 s → V X 66 [(0, vR X b), (1, .int p1), (2, .int v2), (3, .int v3), (4, .int (s.1)), (5, .int (s.2.1)), (6, .int v6), (7, .int (s.2.2.1))] [] (s.2.2.2)) (hag76 : ∀ s, ag76 s → V X 76 [(0, vR X b), (1, .int p1), (2, .int v2), (3, .int v3), (4, .int (s.1)), (5, .int (s.2.1)), (6, .int v6), (7, .int v7), (8, .int (s.2.2.1))] [] (s.2.2.2)) (h : p_X7_later_F76 b p1 v2 v3 v6 v7 Q ag36 ag52 ag66 ag76 v4 v5 v8 M) : V X 76 [(0, vR X b), (1, .int p1), (2, .int v2), (3, .int v3), (4, .int v4), (5, .int v5), (6, .int v6), (7, .int v7), (8, .int v8)] [] M := by
  refine V_iload C 8 dX7_later_76 rfl ?_
  refine V_iload C 7 dX7_later_78 rfl ?_
  refine V_icmp_gt (tgt := 164) C dX7_later_80 (by decide) (fun hc => ?_) (fun hc => ?_)
  · have h := h.1 hc
    refine V_iinc (v := (v7 + 1)) (lv' := [(7, .int (v7 + 1)), (0, vR X b), (1, .int p1), (2, .int v2), (3, .int v3), (4, .int v4), (5, .int v5), (6, .int v6), (8, .int v8)]) C 7 (ltN hN (by decide)) dX7_later_164 rfl rfl rfl ?_
    refine V_goto (tgt := 66) C dX7_later_167 (by decide) ?_
    exact V_sub [1, 2, 3, 4, 5, 6, 7, 0] rfl (hag66 (v4, v5, (v7 + 1), M) h)
  · have h := h.2 hc
    refine V_iconst C 1 dX7_later_83 (by decide) ?_
    refine V_iload C 6 dX7_later_84 rfl ?_
    refine V_ishl C dX7_later_86 ?_
    refine V_iconst C 1 dX7_later_87 (by decide) ?_
    refine V_iload C 7 dX7_later_88 rfl ?_
    refine V_ishl C dX7_later_90 ?_
    refine V_ior C dX7_later_91 ?_
    refine V_iconst C 1 dX7_later_92 (by decide) ?_
    refine V_iload C 8 dX7_later_93 rfl ?_
    refine V_ishl C dX7_later_95 ?_
    refine V_ior C dX7_later_96 ?_
    refine V_nmI (fun x5 e_x5 => ?_)
    have h := h x5 e_x5
    refine V_istore (lv' := [(9, .int x5), (0, vR X b), (1, .int p1), (2, .int v2), (3, .int v3), (4, .int v4), (5, .int v5), (6, .int v6), (7, .int v7), (8, .int v8)]) C (ltN hN (by decide)) dX7_later_97 rfl ?_
    refine V_iload C 0 dX7_later_99 rfl ?_
    refine V_callS (As := [.int x5]) (st := []) C (c_X7_sizeOf  h) Y_X7_sizeOf Z_X7_sizeOf (ltN hH (by decide)) u_329 rfl rfl (Nat.le_of_ble_eq_true rfl) dX7_later_101 ?_
    rintro v9 M9 ⟨rfl, r6, rfl, h⟩
    show V X 104 _ [.int r6] M
    refine V_iload_n C 4 dX7_later_104 rfl ?_
    refine V_icmp_ne (tgt := 133) C dX7_later_105 (by decide) (fun hc => ?_) (fun hc => ?_)
    · have h := h.1 hc
      exact V_sub [1, 2, 3, 4, 5, 6, 7, 8, 9, 0] rfl (s_X7_later_J133 C hH hN hQ hb hag36 hag52 hag66 hag76  h)
    · have h := h.2 hc
      refine V_iload C 0 dX7_later_108 rfl ?_
      refine V_iload_n C 3 dX7_later_110 rfl ?_
      refine V_iconst C (-1) dX7_later_111 (by decide) ?_
      refine V_ixor C dX7_later_112 ?_
      refine V_iand C dX7_later_113 ?_
      refine V_if_ne (tgt := 133) C dX7_later_114 (by decide) (fun hc => ?_) (fun hc => ?_)
      · have h := h.1 hc
        exact V_sub [1, 2, 3, 4, 5, 6, 7, 8, 9, 0] rfl (s_X7_later_J133 C hH hN hQ hb hag36 hag52 hag66 hag76  h)
      · have h := h.2 hc
        refine V_iload C 6 dX7_later_117 rfl ?_
        refine V_if_eq (tgt := 129) C dX7_later_119 (by decide) (fun hc => ?_) (fun hc => ?_)
        · have h := h.1 hc
          exact V_sub [1, 2, 3, 4, 5, 6, 7, 8, 9, 0] rfl (s_X7_later_J129 C hH hN hQ hb hag36 hag52 hag66 hag76  h)
        · have h := h.2 hc
          refine V_iload C 0 dX7_later_122 rfl ?_
          refine V_iload C 5 dX7_later_124 rfl ?_
          refine V_icmp_ge (tgt := 133) C dX7_later_126 (by decide) (fun hc => ?_) (fun hc => ?_)
          · have h := h.1 hc
            exact V_sub [1, 2, 3, 4, 5, 6, 7, 8, 9, 0] rfl (s_X7_later_J133 C hH hN hQ hb hag36 hag52 hag66 hag76  h)
          · have h := h.2 hc
            exact V_sub [1, 2, 3, 4, 5, 6, 7, 8, 9, 0] rfl (s_X7_later_J129 C hH hN hQ hb hag36 hag52 hag66 hag76  h)
set_option maxRecDepth 20000 in
set_option maxHeartbeats 1000000 in
theorem s_X7_later_F66 {X : wX} (C : CX X cX7_later RX7 (some .int)) (hH : xH X = 8) (hN : xN X = 11) {b : Nat} {p1 : Int32} {M : mM} {Q : Int32 → mM → Prop} (hQ : ∀ r M, Q r M → xPo X (some (.int r)) M) (hb : isC (xW X) 7 b) {v2 : Int32} {v3 : Int32} {v6 : Int32} {v4 : Int32} {v5 : Int32} {v7 : Int32} {ag36 : (Int32 × mM) → Prop} {ag52 : (Int32 × Int32 × Int32 × mM) → Prop} {ag66 : (Int32 × Int32 × Int32 × mM) → Prop} (hag36 : ∀ s, ag36 s → V X 36 [(0, vR X b), (1, .int p1), (2, .int v2), (3, .int (s.1))] [] (s.2)) (hag52 : ∀ s, ag52 s → V X 52 [(0, vR X b), (1, .int p1), (2, .int v2), (3, .int v3), (4, .int (s.1)), (5, .int (s.2.1)), (6, .int (s.2.2.1))] [] (s.2.2.2)) (hag66 : ∀ s, ag66 s → V X 66 [(0, vR X b), (1, .int p1), (2, .int v2), (3, .int v3), (4, .int (s.1)), (5, .int (s.2.1)), (6, .int v6), (7, .int (s.2.2.1))] [] (s.2.2.2)) (h : p_X7_later_F66 b p1 v2 v3 v6 Q ag36 ag52 ag66 v4 v5 v7 M) : V X 66 [(0, vR X b), (1, .int p1), (2, .int v2), (3, .int v3), (4, .int v4), (5, .int v5), (6, .int v6), (7, .int v7)] [] M := by
  refine V_iload C 7 dX7_later_66 rfl ?_
  refine V_iload C 6 dX7_later_68 rfl ?_
  refine V_icmp_gt (tgt := 170) C dX7_later_70 (by decide) (fun hc => ?_) (fun hc => ?_)
  · have h := h.1 hc
    refine V_iinc (v := (v6 + 1)) (lv' := [(6, .int (v6 + 1)), (0, vR X b), (1, .int p1), (2, .int v2), (3, .int v3), (4, .int v4), (5, .int v5), (7, .int v7)]) C 6 (ltN hN (by decide)) dX7_later_170 rfl rfl rfl ?_
    refine V_goto (tgt := 52) C dX7_later_173 (by decide) ?_
    exact V_sub [1, 2, 3, 4, 5, 6, 0] rfl (hag52 (v4, v5, (v6 + 1), M) h)
  · have h := h.2 hc
    refine V_iconst C 0 dX7_later_73 (by decide) ?_
    refine V_istore (lv' := [(8, .int 0), (0, vR X b), (1, .int p1), (2, .int v2), (3, .int v3), (4, .int v4), (5, .int v5), (6, .int v6), (7, .int v7)]) C (ltN hN (by decide)) dX7_later_74 rfl ?_
    refine V_sub [1, 2, 3, 4, 5, 6, 7, 8, 0] rfl ?_
    exact Loop.sound (s0 := (v4, v5, (0 : Int32), M)) (P := fun s => V X 76 [(0, vR X b), (1, .int p1), (2, .int v2), (3, .int v3), (4, .int (s.1)), (5, .int (s.2.1)), (6, .int v6), (7, .int v7), (8, .int (s.2.2.1))] [] (s.2.2.2)) h (fun ag hag s hs => s_X7_later_F76 C hH hN hQ hb hag36 hag52 hag66 hag hs)
set_option maxRecDepth 20000 in
set_option maxHeartbeats 1000000 in
theorem s_X7_later_F52 {X : wX} (C : CX X cX7_later RX7 (some .int)) (hH : xH X = 8) (hN : xN X = 11) {b : Nat} {p1 : Int32} {M : mM} {Q : Int32 → mM → Prop} (hQ : ∀ r M, Q r M → xPo X (some (.int r)) M) (hb : isC (xW X) 7 b) {v2 : Int32} {v3 : Int32} {v4 : Int32} {v5 : Int32} {v6 : Int32} {ag36 : (Int32 × mM) → Prop} {ag52 : (Int32 × Int32 × Int32 × mM) → Prop} (hag36 : ∀ s, ag36 s → V X 36 [(0, vR X b), (1, .int p1), (2, .int v2), (3, .int (s.1))] [] (s.2)) (hag52 : ∀ s, ag52 s → V X 52 [(0, vR X b), (1, .int p1), (2, .int v2), (3, .int v3), (4, .int (s.1)), (5, .int (s.2.1)), (6, .int (s.2.2.1))] [] (s.2.2.2)) (h : p_X7_later_F52 b p1 v2 v3 Q ag36 ag52 v4 v5 v6 M) : V X 52 [(0, vR X b), (1, .int p1), (2, .int v2), (3, .int v3), (4, .int v4), (5, .int v5), (6, .int v6)] [] M := by
  refine V_iload C 6 dX7_later_52 rfl ?_
  refine V_aload_n C 0 dX7_later_54 rfl ?_
  refine V_getR C FL_RX7_7 (f7_0 hb) dX7_later_55 ?_
  refine V_iconst C 1 dX7_later_58 (by decide) ?_
  refine V_iald C (k7_1 hb) (vp_lit (by decide)) dX7_later_59 ?_
  refine V_icmp_ge (tgt := 176) C dX7_later_60 (by decide) (fun hc => ?_) (fun hc => ?_)
  · have h := h.1 hc
    refine V_iload C 5 dX7_later_176 rfl ?_
    refine V_if_eq (tgt := 184) C dX7_later_178 (by decide) (fun hc => ?_) (fun hc => ?_)
    · have h := h.1 hc
      refine V_iinc (v := (v3 + 1)) (lv' := [(3, .int (v3 + 1)), (0, vR X b), (1, .int p1), (2, .int v2), (4, .int v4), (5, .int v5), (6, .int v6)]) C 3 (ltN hN (by decide)) dX7_later_184 rfl rfl rfl ?_
      refine V_goto (tgt := 36) C dX7_later_187 (by decide) ?_
      exact V_sub [1, 2, 3, 0] rfl (hag36 ((v3 + 1), M) h)
    · have h := h.2 hc
      refine V_iload C 4 dX7_later_181 rfl ?_
      exact V_iret C dX7_later_183 (hQ _ _ h)
  · have h := h.2 hc
    refine V_iconst C 0 dX7_later_63 (by decide) ?_
    refine V_istore (lv' := [(7, .int 0), (0, vR X b), (1, .int p1), (2, .int v2), (3, .int v3), (4, .int v4), (5, .int v5), (6, .int v6)]) C (ltN hN (by decide)) dX7_later_64 rfl ?_
    refine V_sub [1, 2, 3, 4, 5, 6, 7, 0] rfl ?_
    exact Loop.sound (s0 := (v4, v5, (0 : Int32), M)) (P := fun s => V X 66 [(0, vR X b), (1, .int p1), (2, .int v2), (3, .int v3), (4, .int (s.1)), (5, .int (s.2.1)), (6, .int v6), (7, .int (s.2.2.1))] [] (s.2.2.2)) h (fun ag hag s hs => s_X7_later_F66 C hH hN hQ hb hag36 hag52 hag hs)
set_option maxRecDepth 20000 in
set_option maxHeartbeats 1000000 in
theorem s_X7_later_F36 {X : wX} (C : CX X cX7_later RX7 (some .int)) (hH : xH X = 8) (hN : xN X = 11) {b : Nat} {p1 : Int32} {M : mM} {Q : Int32 → mM → Prop} (hQ : ∀ r M, Q r M → xPo X (some (.int r)) M) (hb : isC (xW X) 7 b) {v2 : Int32} {v3 : Int32} {ag36 : (Int32 × mM) → Prop} (hag36 : ∀ s, ag36 s → V X 36 [(0, vR X b), (1, .int p1), (2, .int v2), (3, .int (s.1))] [] (s.2)) (h : p_X7_later_F36 b p1 v2 Q  ag36 v3 M) : V X 36 [(0, vR X b), (1, .int p1), (2, .int v2), (3, .int v3)] [] M := by
  refine V_iload_n C 3 dX7_later_36 rfl ?_
  refine V_iconst C 4 dX7_later_37 (by decide) ?_
  refine V_icmp_ge (tgt := 190) C dX7_later_38 (by decide) (fun hc => ?_) (fun hc => ?_)
  · have h := h.1 hc
    refine V_bipush C (-5) dX7_later_190 (by decide) ?_
    exact V_iret C dX7_later_192 (hQ _ _ h)
  · have h := h.2 hc
    refine V_ldcw C u_328 dX7_later_41 ?_
    refine V_istore (lv' := [(4, .int 1000000), (0, vR X b), (1, .int p1), (2, .int v2), (3, .int v3)]) C (ltN hN (by decide)) dX7_later_44 rfl ?_
    refine V_iconst C 0 dX7_later_46 (by decide) ?_
    refine V_istore (lv' := [(5, .int 0), (4, .int 1000000), (0, vR X b), (1, .int p1), (2, .int v2), (3, .int v3)]) C (ltN hN (by decide)) dX7_later_47 rfl ?_
    refine V_iconst C 0 dX7_later_49 (by decide) ?_
    refine V_istore (lv' := [(6, .int 0), (5, .int 0), (4, .int 1000000), (0, vR X b), (1, .int p1), (2, .int v2), (3, .int v3)]) C (ltN hN (by decide)) dX7_later_50 rfl ?_
    refine V_sub [3, 4, 5, 6, 2, 1, 0] rfl ?_
    exact Loop.sound (s0 := ((1000000 : Int32), (0 : Int32), (0 : Int32), M)) (P := fun s => V X 52 [(0, vR X b), (1, .int p1), (2, .int v2), (3, .int v3), (4, .int (s.1)), (5, .int (s.2.1)), (6, .int (s.2.2.1))] [] (s.2.2.2)) h (fun ag hag s hs => s_X7_later_F52 C hH hN hQ hb hag36 hag hs)
set_option maxRecDepth 20000 in
set_option maxHeartbeats 1000000 in
theorem s_X7_later {X : wX} (C : CX X cX7_later RX7 (some .int)) (hH : xH X = 8) (hN : xN X = 11) {b : Nat} {p1 : Int32} {M : mM} {Q : Int32 → mM → Prop} (hQ : ∀ r M, Q r M → xPo X (some (.int r)) M) (hb : isC (xW X) 7 b)   (h : p_X7_later b p1 M Q) : V X 0 [(0, vR X b), (1, .int p1)] [] M := by
  refine V_iload_n C 1 dX7_later_0 rfl ?_
  refine V_i2l C dX7_later_1 ?_
  refine V_lconst C 0 dX7_later_2 (by decide) ?_
  refine V_ldc2 C u_251 dX7_later_3 ?_
  refine V_callS (As := [.long (p1.toInt64), .long 0, .long 5]) (st := []) C (c_X7_in  h) Y_X7_in Z_X7_in (ltN hH (by decide)) u_243 rfl rfl (Nat.le_of_ble_eq_true rfl) dX7_later_6 ?_
  rintro v9 M9 ⟨rfl, r1, rfl, h⟩
  show V X 9 _ [.int r1] M
  refine V_if_ne (tgt := 17) C dX7_later_9 (by decide) (fun hc => ?_) (fun hc => ?_)
  · have h := h.1 hc
    refine V_aload_n C 0 dX7_later_17 rfl ?_
    refine V_iload_n C 1 dX7_later_18 rfl ?_
    refine V_iconst C 0 dX7_later_19 (by decide) ?_
    refine V_callV (As := [.int p1, .int 0]) (st := []) C (c_X7_can hb h) Y_X7_can Z_X7_can (T := TX7) (N := 21) rfl (o7 hb) (ltN hH (by decide)) u_327 rfl rfl (Nat.le_of_ble_eq_true rfl) dX7_later_20 ?_
    rintro v9 M2 ⟨r3, rfl, h⟩
    show V X 23 _ [.int r3] M2
    refine V_if_eq (tgt := 28) C dX7_later_23 (by decide) (fun hc => ?_) (fun hc => ?_)
    · have h := h.1 hc
      refine V_aload_n C 0 dX7_later_28 rfl ?_
      refine V_iload_n C 1 dX7_later_29 rfl ?_
      refine V_callV (As := [.int p1]) (st := []) C (c_X7_tracesOf hb h) Y_X7_tracesOf Z_X7_tracesOf (T := TX7) (N := 21) rfl (o7 hb) (ltN hH (by decide)) u_330 rfl rfl (Nat.le_of_ble_eq_true rfl) dX7_later_30 ?_
      rintro v9 M9 ⟨rfl, r4, rfl, h⟩
      show V X 33 _ [.int r4] M2
      refine V_istore_n (lv' := [(2, .int r4), (0, vR X b), (1, .int p1)]) C (ltN hN (by decide)) dX7_later_33 rfl ?_
      refine V_iconst C 1 dX7_later_34 (by decide) ?_
      refine V_istore_n (lv' := [(3, .int 1), (2, .int r4), (0, vR X b), (1, .int p1)]) C (ltN hN (by decide)) dX7_later_35 rfl ?_
      refine V_sub [2, 3, 1, 0] rfl ?_
      exact Loop.sound (s0 := ((1 : Int32), M2)) (P := fun s => V X 36 [(0, vR X b), (1, .int p1), (2, .int r4), (3, .int (s.1))] [] (s.2)) h (fun ag hag s hs => s_X7_later_F36 C hH hN hQ hb  hag hs)
    · have h := h.2 hc
      refine V_iconst C 0 dX7_later_26 (by decide) ?_
      exact V_iret C dX7_later_27 (hQ _ _ h)
  · have h := h.2 hc
    refine V_aload_n C 0 dX7_later_12 rfl ?_
    refine V_callV (As := []) (st := []) C (c_X7_bad hb h) Y_X7_bad Z_X7_bad (T := TX7) (N := 21) rfl (o7 hb) (ltN hH (by decide)) u_242 rfl rfl (Nat.le_of_ble_eq_true rfl) dX7_later_13 ?_
    rintro v9 M9 ⟨r10, rfl, h⟩
    show V X 16 _ [.int r10] M9
    exact V_iret C dX7_later_16 (hQ _ _ h)
set_option maxRecDepth 20000 in
set_option maxHeartbeats 1000000 in
theorem c_X7_later {w : wU} {l : Launch} {b : Nat} {p1 : Int32} {M : mM} {Q : Int32 → mM → Prop} (hb : isC w 7 b) (h : p_X7_later b p1 M Q) : CT w l 8 yX7_later cX7_later 11 (some .int) [.ref (uA w b), .int p1] M (piI Q) := by
  refine CT.of (by decide +kernel) (Nat.le_of_ble_eq_true rfl) (fun X hw hH hl hP hN C => ?_)
  subst hw
  exact s_X7_later C hH hN (fun r M1 q => by rw [hP]; exact ⟨r, rfl, q⟩) hb h
