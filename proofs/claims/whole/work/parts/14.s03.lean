set_option maxRecDepth 20000 in
set_option maxHeartbeats 1000000 in
theorem s_X3_tellItem {X : wX} (C : CX X cX3_tellItem RX3 (some .boolean)) (hH : xH X = 4) (hN : xN X = 3) {b : Nat} {p1 : Nat} {p2 : Int32} {M : mM} {Q : Int32 → mM → Prop} (hQ : ∀ r M, Q r M → xPo X (some (.int r)) M) (hb : isC (xW X) 3 b) (h1 : isC (xW X) 2 p1)   (h : p_X3_tellItem b p1 p2 M Q) : V X 0 [(0, vR X b), (1, vR X p1), (2, .int p2)] [] M := by
  refine V_aload_n C 0 dX3_tellItem_0 rfl ?_
  refine V_aload_n C 1 dX3_tellItem_1 rfl ?_
  refine V_iload_n C 2 dX3_tellItem_2 rfl ?_
  refine V_callV (As := [vR X p1, .int p2]) (st := []) C (c_X3_answerTo hb h1 h) Y_X3_answerTo Z_X3_answerTo (T := TX3) (N := 7) rfl (o3 hb) (ltN hH (by decide)) u_135 rfl rfl (Nat.le_of_ble_eq_true rfl) dX3_tellItem_3 ?_
  rintro v9 M1 ⟨r2, rfl, h⟩
  show V X 6 _ [.int r2] M1
  refine V_iconst C (-1) dX3_tellItem_6 (by decide) ?_
  refine V_icmp_lt (tgt := 14) C dX3_tellItem_7 (by decide) (fun hc => ?_) (fun hc => ?_)
  · have h := h.1 hc
    refine V_iconst C 0 dX3_tellItem_14 (by decide) ?_
    exact V_zret C rfl (by decide) dX3_tellItem_15 (hQ _ _ h)
  · have h := h.2 hc
    refine V_iconst C 1 dX3_tellItem_10 (by decide) ?_
    refine V_goto (tgt := 15) C dX3_tellItem_11 (by decide) ?_
    exact V_zret C rfl (by decide) dX3_tellItem_15 (hQ _ _ h)
set_option maxRecDepth 20000 in
set_option maxHeartbeats 1000000 in
theorem c_X3_tellItem {w : wU} {l : Launch} {b : Nat} {p1 : Nat} {p2 : Int32} {M : mM} {Q : Int32 → mM → Prop} (hb : isC w 3 b) (h1 : isC w 2 p1) (h : p_X3_tellItem b p1 p2 M Q) : CT w l 4 yX3_tellItem cX3_tellItem 3 (some .boolean) [.ref (uA w b), .ref (uA w p1), .int p2] M (piI Q) := by
  refine CT.of (by decide +kernel) (Nat.le_of_ble_eq_true rfl) (fun X hw hH hl hP hN C => ?_)
  subst hw
  exact s_X3_tellItem C hH hN (fun r M1 q => by rw [hP]; exact ⟨r, rfl, q⟩) hb h1 h
set_option maxRecDepth 20000 in
set_option maxHeartbeats 1000000 in
theorem s_X3_tell_J98 {X : wX} (C : CX X cX3_tell RX3 (some .int)) (hH : xH X = 8) (hN : xN X = 6) {b : Nat} {p1 : Nat} {M : mM} {Q : Int32 → mM → Prop} (hQ : ∀ r M, Q r M → xPo X (some (.int r)) M) (hb : isC (xW X) 3 b) (h1 : isC (xW X) 2 p1) {v2 : Int32} {v3 : Int32}  (h : p_X3_tell_J98 b p1 Q  v2 v3 M) : V X 98 [(2, .int v2), (3, .int v3)] [] M := by
  refine V_iload_n C 1 dX3_tell_98 rfl ?_
  refine V_iconst C (-1) dX3_tell_99 (by decide) ?_
  refine V_icmp_ne (tgt := 107) C dX3_tell_100 (by decide) (fun hc => ?_) (fun hc => ?_)
  · have h := h.1 hc
    refine V_sipush C (-1000) dX3_tell_107 (by decide) ?_
    refine V_iload_n C 1 dX3_tell_110 rfl ?_
    refine V_isub C dX3_tell_111 ?_
    exact V_iret C dX3_tell_112 (hQ _ _ h)
  · have h := h.2 hc
    refine V_iload_n C 0 dX3_tell_103 rfl ?_
    refine V_goto (tgt := 112) C dX3_tell_104 (by decide) ?_
    exact V_iret C dX3_tell_112 (hQ _ _ h)
set_option maxRecDepth 20000 in
set_option maxHeartbeats 1000000 in
theorem s_X3_tell_J85 {X : wX} (C : CX X cX3_tell RX3 (some .int)) (hH : xH X = 8) (hN : xN X = 6) {b : Nat} {p1 : Nat} {M : mM} {Q : Int32 → mM → Prop} (hQ : ∀ r M, Q r M → xPo X (some (.int r)) M) (hb : isC (xW X) 3 b) (h1 : isC (xW X) 2 p1) {v2 : Int32} {v3 : Int32} {v4 : Int32} {ag20 : (Int32 × Int32 × Int32 × mM) → Prop} (hag20 : ∀ s, ag20 s → V X 20 [(0, vR X b), (1, vR X p1), (2, .int (s.1)), (3, .int (s.2.1)), (4, .int (s.2.2.1))] [] (s.2.2.2)) (h : p_X3_tell_J85 b p1 Q ag20 v2 v3 v4 M) : V X 85 [(0, vR X b), (1, vR X p1), (2, .int v2), (3, .int v3), (4, .int v4)] [] M := by
  refine V_iinc (v := (v2 + 1)) (lv' := [(2, .int (v2 + 1)), (0, vR X b), (1, vR X p1), (3, .int v3), (4, .int v4)]) C 2 (ltN hN (by decide)) dX3_tell_85 rfl rfl rfl ?_
  refine V_aload_n C 1 dX3_tell_88 rfl ?_
  refine V_callV (As := []) (st := []) C (c_X3_readToken hb h) Y_X3_readToken Z_X3_readToken (T := TX3) (N := 7) rfl (o3 hb) (ltN hH (by decide)) u_128 rfl rfl (Nat.le_of_ble_eq_true rfl) dX3_tell_89 ?_
  rintro v9 M6 ⟨rfl, h⟩
  show V X 92 _ [] M6
  refine V_iinc (v := (v4 + 1)) (lv' := [(4, .int (v4 + 1)), (2, .int (v2 + 1)), (0, vR X b), (1, vR X p1), (3, .int v3)]) C 4 (ltN hN (by decide)) dX3_tell_92 rfl rfl rfl ?_
  refine V_goto (tgt := 20) C dX3_tell_95 (by decide) ?_
  exact V_sub [2, 3, 1, 4, 0] rfl (hag20 ((v2 + 1), v3, (v4 + 1), M6) h)
set_option maxRecDepth 20000 in
set_option maxHeartbeats 1000000 in
theorem s_X3_tell_J51 {X : wX} (C : CX X cX3_tell RX3 (some .int)) (hH : xH X = 8) (hN : xN X = 6) {b : Nat} {p1 : Nat} {M : mM} {Q : Int32 → mM → Prop} (hQ : ∀ r M, Q r M → xPo X (some (.int r)) M) (hb : isC (xW X) 3 b) (h1 : isC (xW X) 2 p1) {v2 : Int32} {v3 : Int32} {v4 : Int32} {s0 : Int32} {ag20 : (Int32 × Int32 × Int32 × mM) → Prop} (hag20 : ∀ s, ag20 s → V X 20 [(0, vR X b), (1, vR X p1), (2, .int (s.1)), (3, .int (s.2.1)), (4, .int (s.2.2.1))] [] (s.2.2.2)) (h : p_X3_tell_J51 b p1 Q ag20 v2 v3 v4 s0 M) : V X 51 [(0, vR X b), (1, vR X p1), (2, .int v2), (3, .int v3), (4, .int v4)] [.int s0] M := by
  refine V_istore (lv' := [(5, .int s0), (0, vR X b), (1, vR X p1), (2, .int v2), (3, .int v3), (4, .int v4)]) C (ltN hN (by decide)) dX3_tell_51 rfl ?_
  refine V_aload_n C 1 dX3_tell_53 rfl ?_
  refine V_callV (As := []) (st := []) C (c_X3_readItem hb h) Y_X3_readItem Z_X3_readItem (T := TX3) (N := 7) rfl (o3 hb) (ltN hH (by decide)) u_137 rfl rfl (Nat.le_of_ble_eq_true rfl) dX3_tell_54 ?_
  rintro v9 M4 ⟨r5, rfl, h⟩
  show V X 57 _ [.int r5] M4
  refine V_if_ne (tgt := 68) C dX3_tell_57 (by decide) (fun hc => ?_) (fun hc => ?_)
  · have h := h.1 hc
    refine V_iload_n C 4 dX3_tell_68 rfl ?_
    refine V_iconst C (-1) dX3_tell_69 (by decide) ?_
    refine V_icmp_ne (tgt := 85) C dX3_tell_70 (by decide) (fun hc => ?_) (fun hc => ?_)
    · have h := h.1 hc
      exact V_sub [1, 2, 3, 4, 5] rfl (s_X3_tell_J85 C hH hN hQ hb h1 hag20  h)
    · have h := h.2 hc
      refine V_aload_n C 1 dX3_tell_73 rfl ?_
      refine V_aload_n C 2 dX3_tell_74 rfl ?_
      refine V_iload C 0 dX3_tell_75 rfl ?_
      refine V_callV (As := [vR X p1, .int s0]) (st := []) C (c_X3_tellItem hb h1 h) Y_X3_tellItem Z_X3_tellItem (T := TX3) (N := 7) rfl (o3 hb) (ltN hH (by decide)) u_136 rfl rfl (Nat.le_of_ble_eq_true rfl) dX3_tell_77 ?_
      rintro v9 M7 ⟨r8, rfl, h⟩
      show V X 80 _ [.int r8] M7
      refine V_if_ne (tgt := 85) C dX3_tell_80 (by decide) (fun hc => ?_) (fun hc => ?_)
      · have h := h.1 hc
        exact V_sub [1, 2, 3, 4, 5] rfl (s_X3_tell_J85 C hH hN hQ hb h1 hag20  h)
      · have h := h.2 hc
        refine V_iload_n C 3 dX3_tell_83 rfl ?_
        refine V_istore_n (lv' := [(3, .int v2), (5, .int s0), (0, vR X b), (1, vR X p1), (2, .int v2), (4, .int v4)]) C (ltN hN (by decide)) dX3_tell_84 rfl ?_
        exact V_sub [2, 3, 4, 0, 5] rfl (s_X3_tell_J85 C hH hN hQ hb h1 hag20  h)
  · have h := h.2 hc
    refine V_bipush C (-10) dX3_tell_60 (by decide) ?_
    refine V_aload_n C 1 dX3_tell_62 rfl ?_
    refine V_getI C FL_RX3_48 (f3_5 hb) dX3_tell_63 ?_
    refine V_isub C dX3_tell_66 ?_
    exact V_iret C dX3_tell_67 (hQ _ _ h)
set_option maxRecDepth 20000 in
set_option maxHeartbeats 1000000 in
theorem s_X3_tell_F20 {X : wX} (C : CX X cX3_tell RX3 (some .int)) (hH : xH X = 8) (hN : xN X = 6) {b : Nat} {p1 : Nat} {M : mM} {Q : Int32 → mM → Prop} (hQ : ∀ r M, Q r M → xPo X (some (.int r)) M) (hb : isC (xW X) 3 b) (h1 : isC (xW X) 2 p1) {v2 : Int32} {v3 : Int32} {v4 : Int32} {ag20 : (Int32 × Int32 × Int32 × mM) → Prop} (hag20 : ∀ s, ag20 s → V X 20 [(0, vR X b), (1, vR X p1), (2, .int (s.1)), (3, .int (s.2.1)), (4, .int (s.2.2.1))] [] (s.2.2.2)) (h : p_X3_tell_F20 b p1  Q  ag20 v2 v3 v4 M) : V X 20 [(0, vR X b), (1, vR X p1), (2, .int v2), (3, .int v3), (4, .int v4)] [] M := by
  refine V_iload C 4 dX3_tell_20 rfl ?_
  refine V_sipush C 300 dX3_tell_22 (by decide) ?_
  refine V_icmp_ge (tgt := 98) C dX3_tell_25 (by decide) (fun hc => ?_) (fun hc => ?_)
  · have h := h.1 hc
    exact V_sub [2, 3] rfl (s_X3_tell_J98 C hH hN hQ hb h1   h)
  · have h := h.2 hc
    refine V_aload_n C 0 dX3_tell_28 rfl ?_
    refine V_getI C FL_RX3_38 (f3_4 hb) dX3_tell_29 ?_
    refine V_if_eq (tgt := 98) C dX3_tell_32 (by decide) (fun hc => ?_) (fun hc => ?_)
    · have h := h.1 hc
      exact V_sub [2, 3] rfl (s_X3_tell_J98 C hH hN hQ hb h1   h)
    · have h := h.2 hc
      refine V_aload_n C 0 dX3_tell_35 rfl ?_
      refine V_getI C FL_RX3_38 (f3_4 hb) dX3_tell_36 ?_
      refine V_iconst C 1 dX3_tell_39 (by decide) ?_
      refine V_icmp_ne (tgt := 50) C dX3_tell_40 (by decide) (fun hc => ?_) (fun hc => ?_)
      · have h := h.1 hc
        refine V_iconst C (-1) dX3_tell_50 (by decide) ?_
        exact V_sub [0, 1, 2, 3, 4] rfl (s_X3_tell_J51 C hH hN hQ hb h1 hag20  h)
      · have h := h.2 hc
        refine V_aload_n C 0 dX3_tell_43 rfl ?_
        refine V_getI C FL_RX3_41 (f3_6 hb) dX3_tell_44 ?_
        refine V_goto (tgt := 51) C dX3_tell_47 (by decide) ?_
        exact V_sub [0, 1, 2, 3, 4] rfl (s_X3_tell_J51 C hH hN hQ hb h1 hag20  h)
set_option maxRecDepth 20000 in
set_option maxHeartbeats 1000000 in
theorem s_X3_tell {X : wX} (C : CX X cX3_tell RX3 (some .int)) (hH : xH X = 8) (hN : xN X = 6) {b : Nat} {p1 : Nat} {M : mM} {Q : Int32 → mM → Prop} (hQ : ∀ r M, Q r M → xPo X (some (.int r)) M) (hb : isC (xW X) 3 b) (h1 : isC (xW X) 2 p1)   (h : p_X3_tell b p1 M Q) : V X 0 [(0, vR X b), (1, vR X p1)] [] M := by
  refine V_aload_n C 1 dX3_tell_0 rfl ?_
  refine V_callV (As := []) (st := []) C (c_X2_beAtFirst h1 h) Y_X2_beAtFirst Z_X2_beAtFirst (T := TX2) (N := 13) rfl (o2 h1) (ltN hH (by decide)) u_138 rfl rfl (Nat.le_of_ble_eq_true rfl) dX3_tell_1 ?_
  rintro v9 M1 ⟨rfl, h⟩
  show V X 4 _ [] M1
  refine V_iconst C 0 dX3_tell_4 (by decide) ?_
  refine V_istore_n (lv' := [(2, .int 0), (0, vR X b), (1, vR X p1)]) C (ltN hN (by decide)) dX3_tell_5 rfl ?_
  refine V_iconst C (-1) dX3_tell_6 (by decide) ?_
  refine V_istore_n (lv' := [(3, .int (-1)), (2, .int 0), (0, vR X b), (1, vR X p1)]) C (ltN hN (by decide)) dX3_tell_7 rfl ?_
  refine V_aload_n C 2 dX3_tell_8 rfl ?_
  refine V_iconst C 0 dX3_tell_9 (by decide) ?_
  refine V_putI C FW_RX3_32 (f3_3 hb) rfl rfl dX3_tell_10 ?_
  refine V_nmM (fun M2 e_M2 => ?_)
  have h := h M2 e_M2
  refine V_aload_n C 2 dX3_tell_13 rfl ?_
  refine V_callV (As := []) (st := []) C (c_X3_readToken hb h) Y_X3_readToken Z_X3_readToken (T := TX3) (N := 7) rfl (o3 hb) (ltN hH (by decide)) u_128 rfl rfl (Nat.le_of_ble_eq_true rfl) dX3_tell_14 ?_
  rintro v9 M3 ⟨rfl, h⟩
  show V X 17 _ [] M3
  refine V_iconst C 0 dX3_tell_17 (by decide) ?_
  refine V_istore (lv' := [(4, .int 0), (3, .int (-1)), (2, .int 0), (0, vR X b), (1, vR X p1)]) C (ltN hN (by decide)) dX3_tell_18 rfl ?_
  refine V_sub [3, 4, 2, 1, 0] rfl ?_
  exact Loop.sound (s0 := ((0 : Int32), (-1 : Int32), (0 : Int32), M3)) (P := fun s => V X 20 [(0, vR X b), (1, vR X p1), (2, .int (s.1)), (3, .int (s.2.1)), (4, .int (s.2.2.1))] [] (s.2.2.2)) h (fun ag hag s hs => s_X3_tell_F20 C hH hN hQ hb h1  hag hs)
set_option maxRecDepth 20000 in
set_option maxHeartbeats 1000000 in
theorem c_X3_tell {w : wU} {l : Launch} {b : Nat} {p1 : Nat} {M : mM} {Q : Int32 → mM → Prop} (hb : isC w 3 b) (h1 : isC w 2 p1) (h : p_X3_tell b p1 M Q) : CT w l 8 yX3_tell cX3_tell 6 (some .int) [.ref (uA w b), .ref (uA w p1)] M (piI Q) := by
  refine CT.of (by decide +kernel) (Nat.le_of_ble_eq_true rfl) (fun X hw hH hl hP hN C => ?_)
  subst hw
  exact s_X3_tell C hH hN (fun r M1 q => by rw [hP]; exact ⟨r, rfl, q⟩) hb h1 h
set_option maxRecDepth 20000 in
set_option maxHeartbeats 1000000 in
theorem s_X4_take_F16 {X : wX} (C : CX X cX4_take RX4 (none)) (hH : xH X = 3) (hN : xN X = 5) {b : Nat} {p1 : Nat} {M : mM} {Q : mM → Prop} (hQ : ∀ M, Q M → xPo X none M) (hb : isC (xW X) 4 b) (h1 : isC (xW X) 2 p1) {v2 : Int32} {v3 : Int32} {v4 : Int32} {ag2 : (Int32 × mM) → Prop} {ag16 : (Int32 × mM) → Prop} (hag2 : ∀ s, ag2 s → V X 2 [(0, vR X b), (1, vR X p1), (2, .int (s.1))] [] (s.2)) (hag16 : ∀ s, ag16 s → V X 16 [(0, vR X b), (1, vR X p1), (2, .int v2), (3, .int v3), (4, .int (s.1))] [] (s.2)) (h : p_X4_take_F16 b p1 v2 v3 Q ag2 ag16 v4 M) : V X 16 [(0, vR X b), (1, vR X p1), (2, .int v2), (3, .int v3), (4, .int v4)] [] M := by
  refine V_iload C 4 dX4_take_16 rfl ?_
  refine V_bipush C 21 dX4_take_18 (by decide) ?_
  refine V_icmp_ge (tgt := 86) C dX4_take_20 (by decide) (fun hc => ?_) (fun hc => ?_)
  · have h := h.1 hc
    refine V_iinc (v := (v2 + 1)) (lv' := [(2, .int (v2 + 1)), (0, vR X b), (1, vR X p1), (3, .int v3), (4, .int v4)]) C 2 (ltN hN (by decide)) dX4_take_86 rfl rfl rfl ?_
    refine V_goto (tgt := 2) C dX4_take_89 (by decide) ?_
    exact V_sub [1, 2, 0] rfl (hag2 ((v2 + 1), M) h)
  · have h := h.2 hc
    refine V_aload_n C 1 dX4_take_23 rfl ?_
    refine V_iload C 4 dX4_take_24 rfl ?_
    refine V_callV (As := [.int v4]) (st := []) C (c_X2_isStack h1 h) Y_X2_isStack Z_X2_isStack (T := TX2) (N := 13) rfl (o2 h1) (ltN hH (by decide)) u_142 rfl rfl (Nat.le_of_ble_eq_true rfl) dX4_take_26 ?_
    rintro v9 M9 ⟨rfl, r2, rfl, h⟩
    show V X 29 _ [.int r2] M
    refine V_if_eq (tgt := 80) C dX4_take_29 (by decide) (fun hc => ?_) (fun hc => ?_)
    · have h := h.1 hc
      refine V_iinc (v := (v4 + 1)) (lv' := [(4, .int (v4 + 1)), (0, vR X b), (1, vR X p1), (2, .int v2), (3, .int v3)]) C 4 (ltN hN (by decide)) dX4_take_80 rfl rfl rfl ?_
      refine V_goto (tgt := 16) C dX4_take_83 (by decide) ?_
      exact V_sub [1, 2, 3, 4, 0] rfl (hag16 ((v4 + 1), M) h)
    · have h := h.2 hc
      refine V_aload_n C 0 dX4_take_32 rfl ?_
      refine V_getR C FL_RX4_11 (f4_0 hb) dX4_take_33 ?_
      refine V_iload_n C 2 dX4_take_36 rfl ?_
      obtain ⟨b3, h⟩ := h
      refine V_aald5 C (k4_1 hb) b3 dX4_take_37 ?_
      refine V_iload C 4 dX4_take_38 rfl ?_
      refine V_aload_n C 1 dX4_take_40 rfl ?_
      refine V_iload C 4 dX4_take_41 rfl ?_
      refine V_iload_n C 3 dX4_take_43 rfl ?_
      refine V_callV (As := [.int v4, .int v3]) (st := [.int v4, vR X (b + 2 + v2.toNatClampNeg)]) C (c_X2_stoneLost h1 h) Y_X2_stoneLost Z_X2_stoneLost (T := TX2) (N := 13) rfl (o2 h1) (ltN hH (by decide)) u_141 rfl rfl (Nat.le_of_ble_eq_true rfl) dX4_take_44 ?_
      rintro v9 M9 ⟨rfl, r4, rfl, h⟩
      show V X 47 _ [.int r4, .int v4, vR X (b + 2 + v2.toNatClampNeg)] M
      obtain ⟨b6, h⟩ := h
      refine V_iast C (r4_1 hb b3) b6 dX4_take_47 ?_
      refine V_nmM (fun M5 e_M5 => ?_)
      have h := h M5 e_M5
      refine V_aload_n C 0 dX4_take_48 rfl ?_
      refine V_getR C FL_RX4_16 (f4_1 hb) dX4_take_49 ?_
      refine V_iload_n C 2 dX4_take_52 rfl ?_
      obtain ⟨b7, h⟩ := h
      refine V_aald5 C (k4_6 hb) b7 dX4_take_53 ?_
      refine V_iload C 4 dX4_take_54 rfl ?_
      refine V_aload_n C 1 dX4_take_56 rfl ?_
      refine V_iload C 4 dX4_take_57 rfl ?_
      refine V_iload_n C 3 dX4_take_59 rfl ?_
      refine V_callV (As := [.int v4, .int v3]) (st := [.int v4, vR X (b + 7 + v2.toNatClampNeg)]) C (c_X2_lampsOf h1 h) Y_X2_lampsOf Z_X2_lampsOf (T := TX2) (N := 13) rfl (o2 h1) (ltN hH (by decide)) u_140 rfl rfl (Nat.le_of_ble_eq_true rfl) dX4_take_60 ?_
      rintro v9 M9 ⟨rfl, r8, rfl, h⟩
      show V X 63 _ [.int r8, .int v4, vR X (b + 7 + v2.toNatClampNeg)] M5
      obtain ⟨b10, h⟩ := h
      refine V_iast C (r4_6 hb b7) b10 dX4_take_63 ?_
      refine V_nmM (fun M9 e_M9 => ?_)
      have h := h M9 e_M9
      refine V_aload_n C 0 dX4_take_64 rfl ?_
      refine V_getR C FL_RX4_19 (f4_2 hb) dX4_take_65 ?_
      refine V_iload_n C 2 dX4_take_68 rfl ?_
      obtain ⟨b11, h⟩ := h
      refine V_aald5 C (k4_11 hb) b11 dX4_take_69 ?_
      refine V_iload C 4 dX4_take_70 rfl ?_
      refine V_aload_n C 1 dX4_take_72 rfl ?_
      refine V_iload C 4 dX4_take_73 rfl ?_
      refine V_iload_n C 3 dX4_take_75 rfl ?_
      refine V_callV (As := [.int v4, .int v3]) (st := [.int v4, vR X (b + 12 + v2.toNatClampNeg)]) C (c_X2_grainsOf h1 h) Y_X2_grainsOf Z_X2_grainsOf (T := TX2) (N := 13) rfl (o2 h1) (ltN hH (by decide)) u_139 rfl rfl (Nat.le_of_ble_eq_true rfl) dX4_take_76 ?_
      rintro v9 M9 ⟨rfl, r12, rfl, h⟩
      show V X 79 _ [.int r12, .int v4, vR X (b + 12 + v2.toNatClampNeg)] M9
      obtain ⟨b14, h⟩ := h
      refine V_iast C (r4_11 hb b11) b14 dX4_take_79 ?_
      refine V_nmM (fun M13 e_M13 => ?_)
      have h := h M13 e_M13
      refine V_iinc (v := (v4 + 1)) (lv' := [(4, .int (v4 + 1)), (0, vR X b), (1, vR X p1), (2, .int v2), (3, .int v3)]) C 4 (ltN hN (by decide)) dX4_take_80 rfl rfl rfl ?_
      refine V_goto (tgt := 16) C dX4_take_83 (by decide) ?_
      exact V_sub [1, 2, 3, 4, 0] rfl (hag16 ((v4 + 1), M13) h)
set_option maxRecDepth 20000 in
set_option maxHeartbeats 1000000 in
theorem s_X4_take_F2 {X : wX} (C : CX X cX4_take RX4 (none)) (hH : xH X = 3) (hN : xN X = 5) {b : Nat} {p1 : Nat} {M : mM} {Q : mM → Prop} (hQ : ∀ M, Q M → xPo X none M) (hb : isC (xW X) 4 b) (h1 : isC (xW X) 2 p1) {v2 : Int32} {ag2 : (Int32 × mM) → Prop} (hag2 : ∀ s, ag2 s → V X 2 [(0, vR X b), (1, vR X p1), (2, .int (s.1))] [] (s.2)) (h : p_X4_take_F2 b p1  Q  ag2 v2 M) : V X 2 [(0, vR X b), (1, vR X p1), (2, .int v2)] [] M := by
  refine V_iload_n C 2 dX4_take_2 rfl ?_
  refine V_iconst C 4 dX4_take_3 (by decide) ?_
  refine V_icmp_ge (tgt := 92) C dX4_take_4 (by decide) (fun hc => ?_) (fun hc => ?_)
  · have h := h.1 hc
    exact V_vret C dX4_take_92 (hQ _ h)
  · have h := h.2 hc
    refine V_aload_n C 1 dX4_take_7 rfl ?_
    refine V_iload_n C 2 dX4_take_8 rfl ?_
    refine V_callV (As := [.int v2]) (st := []) C (c_X2_wearOf h1 h) Y_X2_wearOf Z_X2_wearOf (T := TX2) (N := 13) rfl (o2 h1) (ltN hH (by decide)) u_143 rfl rfl (Nat.le_of_ble_eq_true rfl) dX4_take_9 ?_
    rintro v9 M9 ⟨rfl, r1, rfl, h⟩
    show V X 12 _ [.int r1] M
    refine V_istore_n (lv' := [(3, .int r1), (0, vR X b), (1, vR X p1), (2, .int v2)]) C (ltN hN (by decide)) dX4_take_12 rfl ?_
    refine V_iconst C 0 dX4_take_13 (by decide) ?_
    refine V_istore (lv' := [(4, .int 0), (3, .int r1), (0, vR X b), (1, vR X p1), (2, .int v2)]) C (ltN hN (by decide)) dX4_take_14 rfl ?_
    refine V_sub [2, 3, 4, 1, 0] rfl ?_
    exact Loop.sound (s0 := ((0 : Int32), M)) (P := fun s => V X 16 [(0, vR X b), (1, vR X p1), (2, .int v2), (3, .int r1), (4, .int (s.1))] [] (s.2)) h (fun ag hag s hs => s_X4_take_F16 C hH hN hQ hb h1 hag2 hag hs)
set_option maxRecDepth 20000 in
set_option maxHeartbeats 1000000 in
theorem s_X4_take {X : wX} (C : CX X cX4_take RX4 (none)) (hH : xH X = 3) (hN : xN X = 5) {b : Nat} {p1 : Nat} {M : mM} {Q : mM → Prop} (hQ : ∀ M, Q M → xPo X none M) (hb : isC (xW X) 4 b) (h1 : isC (xW X) 2 p1)   (h : p_X4_take b p1 M Q) : V X 0 [(0, vR X b), (1, vR X p1)] [] M := by
  refine V_iconst C 0 dX4_take_0 (by decide) ?_
  refine V_istore_n (lv' := [(2, .int 0), (0, vR X b), (1, vR X p1)]) C (ltN hN (by decide)) dX4_take_1 rfl ?_
  refine V_sub [1, 2, 0] rfl ?_
  exact Loop.sound (s0 := ((0 : Int32), M)) (P := fun s => V X 2 [(0, vR X b), (1, vR X p1), (2, .int (s.1))] [] (s.2)) h (fun ag hag s hs => s_X4_take_F2 C hH hN hQ hb h1  hag hs)
set_option maxRecDepth 20000 in
set_option maxHeartbeats 1000000 in
theorem c_X4_take {w : wU} {l : Launch} {b : Nat} {p1 : Nat} {M : mM} {Q : mM → Prop} (hb : isC w 4 b) (h1 : isC w 2 p1) (h : p_X4_take b p1 M Q) : CT w l 3 yX4_take cX4_take 5 (none) [.ref (uA w b), .ref (uA w p1)] M (piV Q) := by
  refine CT.of (by decide +kernel) (Nat.le_of_ble_eq_true rfl) (fun X hw hH hl hP hN C => ?_)
  subst hw
  exact s_X4_take C hH hN (fun M1 q => by rw [hP]; exact ⟨rfl, q⟩) hb h1 h
set_option maxRecDepth 20000 in
set_option maxHeartbeats 1000000 in
theorem s_X5_digit {X : wX} (C : CX X cX5_digit RX5 (some .int)) (hH : xH X = 1) (hN : xN X = 2) {b : Nat} {p1 : Int32} {M : mM} {Q : Int32 → Prop} (hQ : ∀ r, Q r → xPo X (some (.int r)) M) (hb : isC (xW X) 5 b)   (h : p_X5_digit b p1 M Q) : V X 0 [(0, vR X b), (1, .int p1)] [] M := by
  refine V_iload_n C 1 dX5_digit_0 rfl ?_
  refine V_iconst C 0 dX5_digit_1 (by decide) ?_
  refine V_aload_n C 0 dX5_digit_2 rfl ?_
  refine V_getI C FL_RX5_18 (f5_2 hb) dX5_digit_3 ?_
  refine V_iconst C 1 dX5_digit_6 (by decide) ?_
  refine V_isub C dX5_digit_7 ?_
  refine V_callN (As := [.int p1, .int 0, .int ((M.1 b 2) - 1)]) (st := []) C (c_X6_within  h) Y_X6_within Z_X6_within (ltN hH (by decide)) (List.mem_of_getElem? (i := 9) rfl) rfl rfl (Nat.le_of_ble_eq_true rfl) dX5_digit_8 ?_
  rintro v9 M9 ⟨rfl, r1, rfl, h⟩
  show V X 11 _ [.int r1] M
  refine V_if_eq (tgt := 23) C dX5_digit_11 (by decide) (fun hc => ?_) (fun hc => ?_)
  · have h := h.1 hc
    refine V_iconst C (-1) dX5_digit_23 (by decide) ?_
    exact V_iret C dX5_digit_24 (hQ _ h)
  · have h := h.2 hc
    refine V_aload_n C 0 dX5_digit_14 rfl ?_
    refine V_getR C FL_RX5_11 (f5_0 hb) dX5_digit_15 ?_
    refine V_iload_n C 1 dX5_digit_18 rfl ?_
    obtain ⟨b2, h⟩ := h
    refine V_iald C (k5_1 hb) b2 dX5_digit_19 ?_
    refine V_goto (tgt := 24) C dX5_digit_20 (by decide) ?_
    exact V_iret C dX5_digit_24 (hQ _ h)
set_option maxRecDepth 20000 in
set_option maxHeartbeats 1000000 in
theorem c_X5_digit {w : wU} {l : Launch} {b : Nat} {p1 : Int32} {M : mM} {Q : Int32 → Prop} (hb : isC w 5 b) (h : p_X5_digit b p1 M Q) : CT w l 1 yX5_digit cX5_digit 2 (some .int) [.ref (uA w b), .int p1] M (poI M Q) := by
  refine CT.of (by decide +kernel) (Nat.le_of_ble_eq_true rfl) (fun X hw hH hl hP hN C => ?_)
  subst hw
  exact s_X5_digit C hH hN (fun r q => by rw [hP]; exact ⟨rfl, r, rfl, q⟩) hb h
set_option maxRecDepth 20000 in
set_option maxHeartbeats 1000000 in
theorem s_X5_add_F4 {X : wX} (C : CX X cX5_add RX5 (none)) (hH : xH X = 1) (hN : xN X = 4) {b : Nat} {p1 : Nat} {M : mM} {Q : mM → Prop} (hQ : ∀ M, Q M → xPo X none M) (hb : isC (xW X) 5 b) (h1 : isC (xW X) 5 p1) {v2 : Int32} {v3 : Int32} {ag4 : (Int32 × Int32 × mM) → Prop} (hag4 : ∀ s, ag4 s → V X 4 [(0, vR X b), (1, vR X p1), (2, .int (s.1)), (3, .int (s.2.1))] [] (s.2.2)) (h : p_X5_add_F4 b p1  Q  ag4 v2 v3 M) : V X 4 [(0, vR X b), (1, vR X p1), (2, .int v2), (3, .int v3)] [] M := by
  refine V_iload_n C 3 dX5_add_4 rfl ?_
  refine V_bipush C 16 dX5_add_5 (by decide) ?_
  refine V_icmp_ge (tgt := 47) C dX5_add_7 (by decide) (fun hc => ?_) (fun hc => ?_)
  · have h := h.1 hc
    refine V_aload_n C 0 dX5_add_47 rfl ?_
    refine V_callV (As := []) (st := []) C (c_X5_measure hb h) Y_X5_measure Z_X5_measure (T := TX5) (N := 3) rfl (o5 hb) (ltN hH (by decide)) u_2 rfl rfl (Nat.le_of_ble_eq_true rfl) dX5_add_48 ?_
    rintro v9 M1 ⟨rfl, h⟩
    show V X 51 _ [] M1
    exact V_vret C dX5_add_51 (hQ _ h)
  · have h := h.2 hc
    refine V_iload_n C 2 dX5_add_10 rfl ?_
    refine V_aload_n C 0 dX5_add_11 rfl ?_
    refine V_getR C FL_RX5_11 (f5_0 hb) dX5_add_12 ?_
    refine V_iload_n C 3 dX5_add_15 rfl ?_
    obtain ⟨b2, h⟩ := h
    refine V_iald C (k5_1 hb) b2 dX5_add_16 ?_
    refine V_aload_n C 1 dX5_add_17 rfl ?_
    refine V_getR C FL_RX5_11 (f5_0 h1) dX5_add_18 ?_
    refine V_iload_n C 3 dX5_add_21 rfl ?_
    obtain ⟨b3, h⟩ := h
    refine V_iald C (k5_1 h1) b3 dX5_add_22 ?_
    refine V_iadd C dX5_add_23 ?_
    refine V_iadd C dX5_add_24 ?_
    refine V_nmI (fun x4 e_x4 => ?_)
    have h := h x4 e_x4
    refine V_istore_n (lv' := [(2, .int x4), (0, vR X b), (1, vR X p1), (3, .int v3)]) C (ltN hN (by decide)) dX5_add_25 rfl ?_
    refine V_aload_n C 1 dX5_add_26 rfl ?_
    refine V_getR C FL_RX5_11 (f5_0 hb) dX5_add_27 ?_
    refine V_iload_n C 3 dX5_add_30 rfl ?_
    refine V_iload_n C 0 dX5_add_31 rfl ?_
    refine V_ldc C u_13 dX5_add_32 ?_
    refine V_iand C dX5_add_34 ?_
    obtain ⟨b6, h⟩ := h
    refine V_iast C (k5_1 hb) b6 dX5_add_35 ?_
    refine V_nmM (fun M5 e_M5 => ?_)
    have h := h M5 e_M5
    refine V_iload_n C 0 dX5_add_36 rfl ?_
    refine V_bipush C 30 dX5_add_37 (by decide) ?_
    refine V_iushr C dX5_add_39 ?_
    refine V_nmI (fun x7 e_x7 => ?_)
    have h := h x7 e_x7
    refine V_istore_n (lv' := [(2, .int x7), (0, vR X b), (1, vR X p1), (3, .int v3)]) C (ltN hN (by decide)) dX5_add_40 rfl ?_
    refine V_iinc (v := (v3 + 1)) (lv' := [(3, .int (v3 + 1)), (2, .int x7), (0, vR X b), (1, vR X p1)]) C 3 (ltN hN (by decide)) dX5_add_41 rfl rfl rfl ?_
    refine V_goto (tgt := 4) C dX5_add_44 (by decide) ?_
    exact V_sub [2, 3, 1, 0] rfl (hag4 (x7, (v3 + 1), M5) h)
set_option maxRecDepth 20000 in
set_option maxHeartbeats 1000000 in
theorem s_X5_add {X : wX} (C : CX X cX5_add RX5 (none)) (hH : xH X = 1) (hN : xN X = 4) {b : Nat} {p1 : Nat} {M : mM} {Q : mM → Prop} (hQ : ∀ M, Q M → xPo X none M) (hb : isC (xW X) 5 b) (h1 : isC (xW X) 5 p1)   (h : p_X5_add b p1 M Q) : V X 0 [(0, vR X b), (1, vR X p1)] [] M := by
  refine V_iconst C 0 dX5_add_0 (by decide) ?_
  refine V_istore_n (lv' := [(2, .int 0), (0, vR X b), (1, vR X p1)]) C (ltN hN (by decide)) dX5_add_1 rfl ?_
  refine V_iconst C 0 dX5_add_2 (by decide) ?_
  refine V_istore_n (lv' := [(3, .int 0), (2, .int 0), (0, vR X b), (1, vR X p1)]) C (ltN hN (by decide)) dX5_add_3 rfl ?_
  refine V_sub [2, 3, 1, 0] rfl ?_
  exact Loop.sound (s0 := ((0 : Int32), (0 : Int32), M)) (P := fun s => V X 4 [(0, vR X b), (1, vR X p1), (2, .int (s.1)), (3, .int (s.2.1))] [] (s.2.2)) h (fun ag hag s hs => s_X5_add_F4 C hH hN hQ hb h1  hag hs)
set_option maxRecDepth 20000 in
set_option maxHeartbeats 1000000 in
theorem c_X5_add {w : wU} {l : Launch} {b : Nat} {p1 : Nat} {M : mM} {Q : mM → Prop} (hb : isC w 5 b) (h1 : isC w 5 p1) (h : p_X5_add b p1 M Q) : CT w l 1 yX5_add cX5_add 4 (none) [.ref (uA w b), .ref (uA w p1)] M (piV Q) := by
  refine CT.of (by decide +kernel) (Nat.le_of_ble_eq_true rfl) (fun X hw hH hl hP hN C => ?_)
  subst hw
  exact s_X5_add C hH hN (fun M1 q => by rw [hP]; exact ⟨rfl, q⟩) hb h1 h
set_option maxRecDepth 20000 in
set_option maxHeartbeats 1000000 in
theorem s_X5_multiply_F46 {X : wX} (C : CX X cX5_multiply RX5 (none)) (hH : xH X = 1) (hN : xN X = 9) {b : Nat} {p1 : Int64} {M : mM} {Q : mM → Prop} (hQ : ∀ M, Q M → xPo X none M) (hb : isC (xW X) 5 b) {v3 : Int32} {v4 : Int64} {v6 : Int64} {v8 : Int32} {ag23 : (Int32 × mM) → Prop} {ag46 : (Int64 × Int32 × mM) → Prop} (hag23 : ∀ s, ag23 s → V X 23 [(0, vR X b), (1, .long p1), (3, .int (s.1))] [] (s.2)) (hag46 : ∀ s, ag46 s → V X 46 [(0, vR X b), (1, .long p1), (3, .int v3), (4, .long v4), (6, .long (s.1)), (8, .int (s.2.1))] [] (s.2.2)) (h : p_X5_multiply_F46 b p1 v3 v4 Q ag23 ag46 v6 v8 M) : V X 46 [(0, vR X b), (1, .long p1), (3, .int v3), (4, .long v4), (6, .long v6), (8, .int v8)] [] M := by
  refine V_iload C 5 dX5_multiply_46 rfl ?_
  refine V_iload_n C 2 dX5_multiply_48 rfl ?_
  refine V_iadd C dX5_multiply_49 ?_
  refine V_bipush C 16 dX5_multiply_50 (by decide) ?_
  refine V_icmp_ge (tgt := 111) C dX5_multiply_52 (by decide) (fun hc => ?_) (fun hc => ?_)
  · have h := h.1 hc
    refine V_iinc (v := (v3 + 1)) (lv' := [(3, .int (v3 + 1)), (0, vR X b), (1, .long p1), (4, .long v4), (6, .long v6), (8, .int v8)]) C 2 (ltN hN (by decide)) dX5_multiply_111 rfl rfl rfl ?_
    refine V_goto (tgt := 23) C dX5_multiply_114 (by decide) ?_
    exact V_sub [1, 2, 0] rfl (hag23 ((v3 + 1), M) h)
  · have h := h.2 hc
    refine V_lload C 4 dX5_multiply_55 rfl ?_
    refine V_aload_n C 0 dX5_multiply_57 rfl ?_
    refine V_getR C FL_RX5_15 (f5_1 hb) dX5_multiply_58 ?_
    refine V_iload C 5 dX5_multiply_61 rfl ?_
    refine V_iload_n C 2 dX5_multiply_63 rfl ?_
    refine V_iadd C dX5_multiply_64 ?_
    obtain ⟨b4, h⟩ := h
    refine V_iald C (k5_2 hb) b4 dX5_multiply_65 ?_
    refine V_i2l C dX5_multiply_66 ?_
    refine V_lload C 3 dX5_multiply_67 rfl ?_
    refine V_aload_n C 0 dX5_multiply_69 rfl ?_
    refine V_getR C FL_RX5_11 (f5_0 hb) dX5_multiply_70 ?_
    refine V_iload C 5 dX5_multiply_73 rfl ?_
    obtain ⟨b5, h⟩ := h
    refine V_iald C (k5_1 hb) b5 dX5_multiply_75 ?_
    refine V_i2l C dX5_multiply_76 ?_
    refine V_lmul C dX5_multiply_77 ?_
    refine V_ladd C dX5_multiply_78 ?_
    refine V_ladd C dX5_multiply_79 ?_
    refine V_nmL (fun x6 e_x6 => ?_)
    have h := h x6 e_x6
    refine V_lstore (lv' := [(6, .long x6), (0, vR X b), (1, .long p1), (3, .int v3), (4, .long v4), (8, .int v8)]) C (ltN hN (by decide)) dX5_multiply_80 rfl ?_
    refine V_aload_n C 1 dX5_multiply_82 rfl ?_
    refine V_getR C FL_RX5_15 (f5_1 hb) dX5_multiply_83 ?_
    refine V_iload C 5 dX5_multiply_86 rfl ?_
    refine V_iload_n C 3 dX5_multiply_88 rfl ?_
    refine V_iadd C dX5_multiply_89 ?_
    refine V_lload C 0 dX5_multiply_90 rfl ?_
    refine V_ldc2 C u_3 dX5_multiply_92 ?_
    refine V_land C dX5_multiply_95 ?_
    refine V_l2i C dX5_multiply_96 ?_
    obtain ⟨b8, h⟩ := h
    refine V_iast C (k5_2 hb) b8 dX5_multiply_97 ?_
    refine V_nmM (fun M7 e_M7 => ?_)
    have h := h M7 e_M7
    refine V_lload C 0 dX5_multiply_98 rfl ?_
    refine V_bipush C 30 dX5_multiply_100 (by decide) ?_
    refine V_lushr C dX5_multiply_102 ?_
    refine V_nmL (fun x9 e_x9 => ?_)
    have h := h x9 e_x9
    refine V_lstore (lv' := [(6, .long x9), (0, vR X b), (1, .long p1), (3, .int v3), (4, .long v4), (8, .int v8)]) C (ltN hN (by decide)) dX5_multiply_103 rfl ?_
    refine V_iinc (v := (v8 + 1)) (lv' := [(8, .int (v8 + 1)), (6, .long x9), (0, vR X b), (1, .long p1), (3, .int v3), (4, .long v4)]) C 5 (ltN hN (by decide)) dX5_multiply_105 rfl rfl rfl ?_
    refine V_goto (tgt := 46) C dX5_multiply_108 (by decide) ?_
    exact V_sub [2, 3, 4, 5, 1, 0] rfl (hag46 (x9, (v8 + 1), M7) h)
set_option maxRecDepth 20000 in
set_option maxHeartbeats 1000000 in
theorem s_X5_multiply_F23 {X : wX} (C : CX X cX5_multiply RX5 (none)) (hH : xH X = 1) (hN : xN X = 9) {b : Nat} {p1 : Int64} {M : mM} {Q : mM → Prop} (hQ : ∀ M, Q M → xPo X none M) (hb : isC (xW X) 5 b) {v3 : Int32} {ag23 : (Int32 × mM) → Prop} (hag23 : ∀ s, ag23 s → V X 23 [(0, vR X b), (1, .long p1), (3, .int (s.1))] [] (s.2)) (h : p_X5_multiply_F23 b p1  Q  ag23 v3 M) : V X 23 [(0, vR X b), (1, .long p1), (3, .int v3)] [] M := by
  refine V_iload_n C 2 dX5_multiply_23 rfl ?_
  refine V_iconst C 3 dX5_multiply_24 (by decide) ?_
  refine V_icmp_ge (tgt := 117) C dX5_multiply_25 (by decide) (fun hc => ?_) (fun hc => ?_)
  · have h := h.1 hc
    refine V_aload_n C 0 dX5_multiply_117 rfl ?_
    refine V_getR C FL_RX5_15 (f5_1 hb) dX5_multiply_118 ?_
    refine V_iconst C 0 dX5_multiply_121 (by decide) ?_
    refine V_aload_n C 0 dX5_multiply_122 rfl ?_
    refine V_getR C FL_RX5_11 (f5_0 hb) dX5_multiply_123 ?_
    refine V_iconst C 0 dX5_multiply_126 (by decide) ?_
    refine V_bipush C 16 dX5_multiply_127 (by decide) ?_
    refine V_copy C (k5_2 hb) (k5_1 hb) (ltN hH (by decide)) u_9 ⟨u_10, u_11, u_12⟩ (by decide) (by decide) (by decide) (by decide) (by decide) (Nat.le_of_ble_eq_true rfl) dX5_multiply_129 ?_
    refine V_nmM (fun M1 e_M1 => ?_)
    have h := h M1 e_M1
    refine V_aload_n C 0 dX5_multiply_132 rfl ?_
    refine V_callV (As := []) (st := []) C (c_X5_measure hb h) Y_X5_measure Z_X5_measure (T := TX5) (N := 3) rfl (o5 hb) (ltN hH (by decide)) u_2 rfl rfl (Nat.le_of_ble_eq_true rfl) dX5_multiply_133 ?_
    rintro v9 M2 ⟨rfl, h⟩
    show V X 136 _ [] M2
    exact V_vret C dX5_multiply_136 (hQ _ h)
  · have h := h.2 hc
    refine V_lload_n C 1 dX5_multiply_28 rfl ?_
    refine V_iload_n C 2 dX5_multiply_29 rfl ?_
    refine V_bipush C 30 dX5_multiply_30 (by decide) ?_
    refine V_imul C dX5_multiply_32 ?_
    refine V_lushr C dX5_multiply_33 ?_
    refine V_ldc2 C u_3 dX5_multiply_34 ?_
    refine V_land C dX5_multiply_37 ?_
    refine V_nmL (fun x3 e_x3 => ?_)
    have h := h x3 e_x3
    refine V_lstore (lv' := [(4, .long x3), (0, vR X b), (1, .long p1), (3, .int v3)]) C (ltN hN (by decide)) dX5_multiply_38 rfl ?_
    refine V_lconst C 0 dX5_multiply_40 (by decide) ?_
    refine V_lstore (lv' := [(6, .long 0), (4, .long x3), (0, vR X b), (1, .long p1), (3, .int v3)]) C (ltN hN (by decide)) dX5_multiply_41 rfl ?_
    refine V_iconst C 0 dX5_multiply_43 (by decide) ?_
    refine V_istore (lv' := [(8, .int 0), (6, .long 0), (4, .long x3), (0, vR X b), (1, .long p1), (3, .int v3)]) C (ltN hN (by decide)) dX5_multiply_44 rfl ?_
    refine V_sub [3, 4, 5, 2, 1, 0] rfl ?_
    exact Loop.sound (s0 := ((0 : Int64), (0 : Int32), M)) (P := fun s => V X 46 [(0, vR X b), (1, .long p1), (3, .int v3), (4, .long x3), (6, .long (s.1)), (8, .int (s.2.1))] [] (s.2.2)) h (fun ag hag s hs => s_X5_multiply_F46 C hH hN hQ hb hag23 hag hs)
set_option maxRecDepth 20000 in
set_option maxHeartbeats 1000000 in
theorem s_X5_multiply_F2 {X : wX} (C : CX X cX5_multiply RX5 (none)) (hH : xH X = 1) (hN : xN X = 9) {b : Nat} {p1 : Int64} {M : mM} {Q : mM → Prop} (hQ : ∀ M, Q M → xPo X none M) (hb : isC (xW X) 5 b) {v3 : Int32} {ag2 : (Int32 × mM) → Prop} (hag2 : ∀ s, ag2 s → V X 2 [(0, vR X b), (1, .long p1), (3, .int (s.1))] [] (s.2)) (h : p_X5_multiply_F2 b p1  Q  ag2 v3 M) : V X 2 [(0, vR X b), (1, .long p1), (3, .int v3)] [] M := by
  refine V_iload_n C 2 dX5_multiply_2 rfl ?_
  refine V_bipush C 16 dX5_multiply_3 (by decide) ?_
  refine V_icmp_ge (tgt := 21) C dX5_multiply_5 (by decide) (fun hc => ?_) (fun hc => ?_)
  · have h := h.1 hc
    refine V_iconst C 0 dX5_multiply_21 (by decide) ?_
    refine V_istore_n (lv' := [(3, .int 0), (0, vR X b), (1, .long p1)]) C (ltN hN (by decide)) dX5_multiply_22 rfl ?_
    refine V_sub [1, 2, 0] rfl ?_
    exact Loop.sound (s0 := ((0 : Int32), M)) (P := fun s => V X 23 [(0, vR X b), (1, .long p1), (3, .int (s.1))] [] (s.2)) h (fun ag hag s hs => s_X5_multiply_F23 C hH hN hQ hb  hag hs)
  · have h := h.2 hc
    refine V_aload_n C 0 dX5_multiply_8 rfl ?_
    refine V_getR C FL_RX5_15 (f5_1 hb) dX5_multiply_9 ?_
    refine V_iload_n C 2 dX5_multiply_12 rfl ?_
    refine V_iconst C 0 dX5_multiply_13 (by decide) ?_
    obtain ⟨b11, h⟩ := h
    refine V_iast C (k5_2 hb) b11 dX5_multiply_14 ?_
    refine V_nmM (fun M10 e_M10 => ?_)
    have h := h M10 e_M10
    refine V_iinc (v := (v3 + 1)) (lv' := [(3, .int (v3 + 1)), (0, vR X b), (1, .long p1)]) C 2 (ltN hN (by decide)) dX5_multiply_15 rfl rfl rfl ?_
    refine V_goto (tgt := 2) C dX5_multiply_18 (by decide) ?_
    exact V_sub [1, 2, 0] rfl (hag2 ((v3 + 1), M10) h)
set_option maxRecDepth 20000 in
set_option maxHeartbeats 1000000 in
theorem s_X5_multiply {X : wX} (C : CX X cX5_multiply RX5 (none)) (hH : xH X = 1) (hN : xN X = 9) {b : Nat} {p1 : Int64} {M : mM} {Q : mM → Prop} (hQ : ∀ M, Q M → xPo X none M) (hb : isC (xW X) 5 b)   (h : p_X5_multiply b p1 M Q) : V X 0 [(0, vR X b), (1, .long p1)] [] M := by
  refine V_iconst C 0 dX5_multiply_0 (by decide) ?_
  refine V_istore_n (lv' := [(3, .int 0), (0, vR X b), (1, .long p1)]) C (ltN hN (by decide)) dX5_multiply_1 rfl ?_
  refine V_sub [1, 2, 0] rfl ?_
  exact Loop.sound (s0 := ((0 : Int32), M)) (P := fun s => V X 2 [(0, vR X b), (1, .long p1), (3, .int (s.1))] [] (s.2)) h (fun ag hag s hs => s_X5_multiply_F2 C hH hN hQ hb  hag hs)
set_option maxRecDepth 20000 in
set_option maxHeartbeats 1000000 in
theorem c_X5_multiply {w : wU} {l : Launch} {b : Nat} {p1 : Int64} {M : mM} {Q : mM → Prop} (hb : isC w 5 b) (h : p_X5_multiply b p1 M Q) : CT w l 1 yX5_multiply cX5_multiply 9 (none) [.ref (uA w b), .long p1] M (piV Q) := by
  refine CT.of (by decide +kernel) (Nat.le_of_ble_eq_true rfl) (fun X hw hH hl hP hN C => ?_)
  subst hw
  exact s_X5_multiply C hH hN (fun M1 q => by rw [hP]; exact ⟨rfl, q⟩) hb h
set_option maxRecDepth 20000 in
set_option maxHeartbeats 1000000 in
theorem s_X5_mix_F5 {X : wX} (C : CX X cX5_mix RX5 (some .long)) (hH : xH X = 0) (hN : xN X = 6) {b : Nat} {p1 : Int64} {M : mM} {Q : Int64 → Prop} (hQ : ∀ r, Q r → xPo X (some (.long r)) M) (hb : isC (xW X) 5 b) {v3 : Int64} {v5 : Int32} {ag5 : (Int64 × Int32) → Prop} (hag5 : ∀ s, ag5 s → V X 5 [(0, vR X b), (3, .long (s.1)), (5, .int (s.2))] [] M) (h : p_X5_mix_F5 b p1  M Q  ag5 v3 v5) : V X 5 [(0, vR X b), (3, .long v3), (5, .int v5)] [] M := by
  refine V_iload C 2 dX5_mix_5 rfl ?_
  refine V_aload_n C 0 dX5_mix_7 rfl ?_
  refine V_getI C FL_RX5_18 (f5_2 hb) dX5_mix_8 ?_
  refine V_icmp_ge (tgt := 42) C dX5_mix_11 (by decide) (fun hc => ?_) (fun hc => ?_)
  · have h := h.1 hc
    refine V_lload_n C 1 dX5_mix_42 rfl ?_
    exact V_lret C dX5_mix_43 (hQ _ h)
  · have h := h.2 hc
    refine V_iload C 2 dX5_mix_14 rfl ?_
    refine V_bipush C 16 dX5_mix_16 (by decide) ?_
    refine V_icmp_ge (tgt := 42) C dX5_mix_18 (by decide) (fun hc => ?_) (fun hc => ?_)
    · have h := h.1 hc
      refine V_lload_n C 1 dX5_mix_42 rfl ?_
      exact V_lret C dX5_mix_43 (hQ _ h)
    · have h := h.2 hc
      refine V_ldc2 C u_144 dX5_mix_21 ?_
      refine V_lload_n C 1 dX5_mix_24 rfl ?_
      refine V_lmul C dX5_mix_25 ?_
      refine V_aload_n C 0 dX5_mix_26 rfl ?_
      refine V_getR C FL_RX5_11 (f5_0 hb) dX5_mix_27 ?_
      refine V_iload C 2 dX5_mix_30 rfl ?_
      obtain ⟨b1, h⟩ := h
      refine V_iald C (k5_1 hb) b1 dX5_mix_32 ?_
      refine V_i2l C dX5_mix_33 ?_
      refine V_ladd C dX5_mix_34 ?_
      refine V_nmL (fun x2 e_x2 => ?_)
      have h := h x2 e_x2
      refine V_lstore_n (lv' := [(3, .long x2), (0, vR X b), (5, .int v5)]) C (ltN hN (by decide)) dX5_mix_35 rfl ?_
      refine V_iinc (v := (v5 + 1)) (lv' := [(5, .int (v5 + 1)), (3, .long x2), (0, vR X b)]) C 2 (ltN hN (by decide)) dX5_mix_36 rfl rfl rfl ?_
      refine V_goto (tgt := 5) C dX5_mix_39 (by decide) ?_
      exact V_sub [2, 1, 0] rfl (hag5 (x2, (v5 + 1)) h)
set_option maxRecDepth 20000 in
set_option maxHeartbeats 1000000 in
theorem s_X5_mix {X : wX} (C : CX X cX5_mix RX5 (some .long)) (hH : xH X = 0) (hN : xN X = 6) {b : Nat} {p1 : Int64} {M : mM} {Q : Int64 → Prop} (hQ : ∀ r, Q r → xPo X (some (.long r)) M) (hb : isC (xW X) 5 b)   (h : p_X5_mix b p1 M Q) : V X 0 [(0, vR X b), (1, .long p1)] [] M := by
  refine V_lload_n C 1 dX5_mix_0 rfl ?_
  refine V_lstore_n (lv' := [(3, .long p1), (0, vR X b), (1, .long p1)]) C (ltN hN (by decide)) dX5_mix_1 rfl ?_
  refine V_iconst C 0 dX5_mix_2 (by decide) ?_
  refine V_istore (lv' := [(5, .int 0), (3, .long p1), (0, vR X b), (1, .long p1)]) C (ltN hN (by decide)) dX5_mix_3 rfl ?_
  refine V_sub [2, 1, 0] rfl ?_
  exact Loop.sound (s0 := (p1, (0 : Int32))) (P := fun s => V X 5 [(0, vR X b), (3, .long (s.1)), (5, .int (s.2))] [] M) h (fun ag hag s hs => s_X5_mix_F5 C hH hN hQ hb  hag hs)
set_option maxRecDepth 20000 in
set_option maxHeartbeats 1000000 in
theorem c_X5_mix {w : wU} {l : Launch} {b : Nat} {p1 : Int64} {M : mM} {Q : Int64 → Prop} (hb : isC w 5 b) (h : p_X5_mix b p1 M Q) : CT w l 0 yX5_mix cX5_mix 6 (some .long) [.ref (uA w b), .long p1] M (poL M Q) := by
  refine CT.of (by decide +kernel) (Nat.le_of_ble_eq_true rfl) (fun X hw hH hl hP hN C => ?_)
  subst hw
  exact s_X5_mix C hH hN (fun r q => by rw [hP]; exact ⟨rfl, r, rfl, q⟩) hb h
set_option maxRecDepth 20000 in
set_option maxHeartbeats 1000000 in
theorem s_X6_told {X : wX} (C : CX X cX6_told RX6 (some .int)) (hH : xH X = 0) (hN : xN X = 2) {b : Nat} {p1 : Int32} {M : mM} {Q : Int32 → mM → Prop} (hQ : ∀ r M, Q r M → xPo X (some (.int r)) M) (hb : isC (xW X) 6 b)   (h : p_X6_told b p1 M Q) : V X 0 [(0, vR X b), (1, .int p1)] [] M := by
  refine V_iload_n C 1 dX6_told_0 rfl ?_
  refine V_bipush C (-2) dX6_told_1 (by decide) ?_
  refine V_icmp_gt (tgt := 25) C dX6_told_3 (by decide) (fun hc => ?_) (fun hc => ?_)
  · have h := h.1 hc
    refine V_iload_n C 1 dX6_told_25 rfl ?_
    exact V_iret C dX6_told_26 (hQ _ _ h)
  · have h := h.2 hc
    refine V_iload_n C 1 dX6_told_6 rfl ?_
    refine V_bipush C (-4) dX6_told_7 (by decide) ?_
    refine V_icmp_lt (tgt := 25) C dX6_told_9 (by decide) (fun hc => ?_) (fun hc => ?_)
    · have h := h.1 hc
      refine V_iload_n C 1 dX6_told_25 rfl ?_
      exact V_iret C dX6_told_26 (hQ _ _ h)
    · have h := h.2 hc
      refine V_aload_n C 0 dX6_told_12 rfl ?_
      refine V_getR C FL_RX6_68 (f6_11 hb) dX6_told_13 ?_
      refine V_bipush C (-2) dX6_told_16 (by decide) ?_
      refine V_iload_n C 1 dX6_told_18 rfl ?_
      refine V_isub C dX6_told_19 ?_
      refine V_dup2_1 C dX6_told_20 rfl rfl ?_
      obtain ⟨b1, h⟩ := h
      refine V_iald C (k6_144 hb) b1 dX6_told_21 ?_
      refine V_iconst C 1 dX6_told_22 (by decide) ?_
      refine V_iadd C dX6_told_23 ?_
      obtain ⟨b3, h⟩ := h
      refine V_iast C (k6_144 hb) b3 dX6_told_24 ?_
      refine V_nmM (fun M2 e_M2 => ?_)
      have h := h M2 e_M2
      refine V_iload_n C 1 dX6_told_25 rfl ?_
      exact V_iret C dX6_told_26 (hQ _ _ h)
set_option maxRecDepth 20000 in
set_option maxHeartbeats 1000000 in
theorem c_X6_told {w : wU} {l : Launch} {b : Nat} {p1 : Int32} {M : mM} {Q : Int32 → mM → Prop} (hb : isC w 6 b) (h : p_X6_told b p1 M Q) : CT w l 0 yX6_told cX6_told 2 (some .int) [.ref (uA w b), .int p1] M (piI Q) := by
  refine CT.of (by decide +kernel) (Nat.le_of_ble_eq_true rfl) (fun X hw hH hl hP hN C => ?_)
  subst hw
  exact s_X6_told C hH hN (fun r M1 q => by rw [hP]; exact ⟨r, rfl, q⟩) hb h
set_option maxRecDepth 20000 in
set_option maxHeartbeats 1000000 in
theorem s_X6_stuff {X : wX} (C : CX X cX6_stuff RX6 (some .int)) (hH : xH X = 2) (hN : xN X = 5) {b : Nat} {p1 : Int32} {p2 : Int32} {p3 : Int32} {p4 : Int32} {M : mM} {Q : Int32 → mM → Prop} (hQ : ∀ r M, Q r M → xPo X (some (.int r)) M) (hb : isC (xW X) 6 b)   (h : p_X6_stuff b p1 p2 p3 p4 M Q) : V X 0 [(0, vR X b), (1, .int p1), (2, .int p2), (3, .int p3), (4, .int p4)] [] M := by
  refine V_aload_n C 0 dX6_stuff_0 rfl ?_
  refine V_aload_n C 0 dX6_stuff_1 rfl ?_
  refine V_getR C FL_RX6_10 (f6_0 hb) dX6_stuff_2 ?_
  refine V_iload_n C 1 dX6_stuff_5 rfl ?_
  refine V_iload_n C 2 dX6_stuff_6 rfl ?_
  refine V_iload_n C 3 dX6_stuff_7 rfl ?_
  refine V_iload C 4 dX6_stuff_8 rfl ?_
  refine V_callV (As := [.int p1, .int p2, .int p3, .int p4]) (st := [vR X b]) C (c_X2_addStuff (j6_1 hb) h) Y_X2_addStuff Z_X2_addStuff (T := TX2) (N := 13) rfl (o2 (j6_1 hb)) (ltN hH (by decide)) u_148 rfl rfl (Nat.le_of_ble_eq_true rfl) dX6_stuff_10 ?_
  rintro v9 M1 ⟨r2, rfl, h⟩
  show V X 13 _ [.int r2, vR X b] M1
  refine V_callV (As := [.int r2]) (st := []) C (c_X6_told hb h) Y_X6_told Z_X6_told (T := TX6) (N := 12) rfl (o6 hb) (ltN hH (by decide)) u_147 rfl rfl (Nat.le_of_ble_eq_true rfl) dX6_stuff_13 ?_
  rintro v9 M3 ⟨r4, rfl, h⟩
  show V X 16 _ [.int r4] M3
  exact V_iret C dX6_stuff_16 (hQ _ _ h)
set_option maxRecDepth 20000 in
set_option maxHeartbeats 1000000 in
theorem c_X6_stuff {w : wU} {l : Launch} {b : Nat} {p1 : Int32} {p2 : Int32} {p3 : Int32} {p4 : Int32} {M : mM} {Q : Int32 → mM → Prop} (hb : isC w 6 b) (h : p_X6_stuff b p1 p2 p3 p4 M Q) : CT w l 2 yX6_stuff cX6_stuff 5 (some .int) [.ref (uA w b), .int p1, .int p2, .int p3, .int p4] M (piI Q) := by
  refine CT.of (by decide +kernel) (Nat.le_of_ble_eq_true rfl) (fun X hw hH hl hP hN C => ?_)
  subst hw
  exact s_X6_stuff C hH hN (fun r M1 q => by rw [hP]; exact ⟨r, rfl, q⟩) hb h
set_option maxRecDepth 20000 in
set_option maxHeartbeats 1000000 in
theorem s_X6_put {X : wX} (C : CX X cX6_put RX6 (some .int)) (hH : xH X = 2) (hN : xN X = 3) {b : Nat} {p1 : Int32} {p2 : Int32} {M : mM} {Q : Int32 → mM → Prop} (hQ : ∀ r M, Q r M → xPo X (some (.int r)) M) (hb : isC (xW X) 6 b)   (h : p_X6_put b p1 p2 M Q) : V X 0 [(0, vR X b), (1, .int p1), (2, .int p2)] [] M := by
  refine V_aload_n C 0 dX6_put_0 rfl ?_
  refine V_aload_n C 0 dX6_put_1 rfl ?_
  refine V_getR C FL_RX6_10 (f6_0 hb) dX6_put_2 ?_
  refine V_iload_n C 1 dX6_put_5 rfl ?_
  refine V_iload_n C 2 dX6_put_6 rfl ?_
  refine V_callV (As := [.int p1, .int p2]) (st := [vR X b]) C (c_X2_set (j6_1 hb) h) Y_X2_set Z_X2_set (T := TX2) (N := 13) rfl (o2 (j6_1 hb)) (ltN hH (by decide)) u_149 rfl rfl (Nat.le_of_ble_eq_true rfl) dX6_put_7 ?_
  rintro v9 M1 ⟨r2, rfl, h⟩
  show V X 10 _ [.int r2, vR X b] M1
  refine V_callV (As := [.int r2]) (st := []) C (c_X6_told hb h) Y_X6_told Z_X6_told (T := TX6) (N := 12) rfl (o6 hb) (ltN hH (by decide)) u_147 rfl rfl (Nat.le_of_ble_eq_true rfl) dX6_put_10 ?_
  rintro v9 M3 ⟨r4, rfl, h⟩
  show V X 13 _ [.int r4] M3
  exact V_iret C dX6_put_13 (hQ _ _ h)
set_option maxRecDepth 20000 in
set_option maxHeartbeats 1000000 in
theorem c_X6_put {w : wU} {l : Launch} {b : Nat} {p1 : Int32} {p2 : Int32} {M : mM} {Q : Int32 → mM → Prop} (hb : isC w 6 b) (h : p_X6_put b p1 p2 M Q) : CT w l 2 yX6_put cX6_put 3 (some .int) [.ref (uA w b), .int p1, .int p2] M (piI Q) := by
  refine CT.of (by decide +kernel) (Nat.le_of_ble_eq_true rfl) (fun X hw hH hl hP hN C => ?_)
  subst hw
  exact s_X6_put C hH hN (fun r M1 q => by rw [hP]; exact ⟨r, rfl, q⟩) hb h
set_option maxRecDepth 20000 in
set_option maxHeartbeats 1000000 in
theorem s_X6_habit {X : wX} (C : CX X cX6_habit RX6 (some .int)) (hH : xH X = 2) (hN : xN X = 3) {b : Nat} {p1 : Int32} {p2 : Int32} {M : mM} {Q : Int32 → mM → Prop} (hQ : ∀ r M, Q r M → xPo X (some (.int r)) M) (hb : isC (xW X) 6 b)   (h : p_X6_habit b p1 p2 M Q) : V X 0 [(0, vR X b), (1, .int p1), (2, .int p2)] [] M := by
  refine V_aload_n C 0 dX6_habit_0 rfl ?_
  refine V_aload_n C 0 dX6_habit_1 rfl ?_
  refine V_getR C FL_RX6_10 (f6_0 hb) dX6_habit_2 ?_
  refine V_iload_n C 1 dX6_habit_5 rfl ?_
  refine V_iload_n C 2 dX6_habit_6 rfl ?_
  refine V_callV (As := [.int p1, .int p2]) (st := [vR X b]) C (c_X2_setHabit (j6_1 hb) h) Y_X2_setHabit Z_X2_setHabit (T := TX2) (N := 13) rfl (o2 (j6_1 hb)) (ltN hH (by decide)) u_150 rfl rfl (Nat.le_of_ble_eq_true rfl) dX6_habit_7 ?_
  rintro v9 M1 ⟨r2, rfl, h⟩
  show V X 10 _ [.int r2, vR X b] M1
  refine V_callV (As := [.int r2]) (st := []) C (c_X6_told hb h) Y_X6_told Z_X6_told (T := TX6) (N := 12) rfl (o6 hb) (ltN hH (by decide)) u_147 rfl rfl (Nat.le_of_ble_eq_true rfl) dX6_habit_10 ?_
  rintro v9 M3 ⟨r4, rfl, h⟩
  show V X 13 _ [.int r4] M3
  exact V_iret C dX6_habit_13 (hQ _ _ h)
set_option maxRecDepth 20000 in
set_option maxHeartbeats 1000000 in
theorem c_X6_habit {w : wU} {l : Launch} {b : Nat} {p1 : Int32} {p2 : Int32} {M : mM} {Q : Int32 → mM → Prop} (hb : isC w 6 b) (h : p_X6_habit b p1 p2 M Q) : CT w l 2 yX6_habit cX6_habit 3 (some .int) [.ref (uA w b), .int p1, .int p2] M (piI Q) := by
  refine CT.of (by decide +kernel) (Nat.le_of_ble_eq_true rfl) (fun X hw hH hl hP hN C => ?_)
  subst hw
  exact s_X6_habit C hH hN (fun r M1 q => by rw [hP]; exact ⟨r, rfl, q⟩) hb h
set_option maxRecDepth 20000 in
set_option maxHeartbeats 1000000 in
theorem s_X6_trace {X : wX} (C : CX X cX6_trace RX6 (some .int)) (hH : xH X = 3) (hN : xN X = 4) {b : Nat} {p1 : Int32} {p2 : Int32} {p3 : Int32} {M : mM} {Q : Int32 → mM → Prop} (hQ : ∀ r M, Q r M → xPo X (some (.int r)) M) (hb : isC (xW X) 6 b)   (h : p_X6_trace b p1 p2 p3 M Q) : V X 0 [(0, vR X b), (1, .int p1), (2, .int p2), (3, .int p3)] [] M := by
  refine V_aload_n C 0 dX6_trace_0 rfl ?_
  refine V_aload_n C 0 dX6_trace_1 rfl ?_
  refine V_getR C FL_RX6_10 (f6_0 hb) dX6_trace_2 ?_
  refine V_iload_n C 1 dX6_trace_5 rfl ?_
  refine V_iload_n C 2 dX6_trace_6 rfl ?_
  refine V_iload_n C 3 dX6_trace_7 rfl ?_
  refine V_callV (As := [.int p1, .int p2, .int p3]) (st := [vR X b]) C (c_X2_addTrace (j6_1 hb) h) Y_X2_addTrace Z_X2_addTrace (T := TX2) (N := 13) rfl (o2 (j6_1 hb)) (ltN hH (by decide)) u_151 rfl rfl (Nat.le_of_ble_eq_true rfl) dX6_trace_8 ?_
  rintro v9 M1 ⟨r2, rfl, h⟩
  show V X 11 _ [.int r2, vR X b] M1
  refine V_callV (As := [.int r2]) (st := []) C (c_X6_told hb h) Y_X6_told Z_X6_told (T := TX6) (N := 12) rfl (o6 hb) (ltN hH (by decide)) u_147 rfl rfl (Nat.le_of_ble_eq_true rfl) dX6_trace_11 ?_
  rintro v9 M3 ⟨r4, rfl, h⟩
  show V X 14 _ [.int r4] M3
  exact V_iret C dX6_trace_14 (hQ _ _ h)
set_option maxRecDepth 20000 in
set_option maxHeartbeats 1000000 in
theorem c_X6_trace {w : wU} {l : Launch} {b : Nat} {p1 : Int32} {p2 : Int32} {p3 : Int32} {M : mM} {Q : Int32 → mM → Prop} (hb : isC w 6 b) (h : p_X6_trace b p1 p2 p3 M Q) : CT w l 3 yX6_trace cX6_trace 4 (some .int) [.ref (uA w b), .int p1, .int p2, .int p3] M (piI Q) := by
  refine CT.of (by decide +kernel) (Nat.le_of_ble_eq_true rfl) (fun X hw hH hl hP hN C => ?_)
  subst hw
  exact s_X6_trace C hH hN (fun r M1 q => by rw [hP]; exact ⟨r, rfl, q⟩) hb h
set_option maxRecDepth 20000 in
set_option maxHeartbeats 1000000 in
theorem s_X6_aside {X : wX} (C : CX X cX6_aside RX6 (some .int)) (hH : xH X = 2) (hN : xN X = 3) {b : Nat} {p1 : Int32} {p2 : Int32} {M : mM} {Q : Int32 → mM → Prop} (hQ : ∀ r M, Q r M → xPo X (some (.int r)) M) (hb : isC (xW X) 6 b)   (h : p_X6_aside b p1 p2 M Q) : V X 0 [(0, vR X b), (1, .int p1), (2, .int p2)] [] M := by
  refine V_aload_n C 0 dX6_aside_0 rfl ?_
  refine V_aload_n C 0 dX6_aside_1 rfl ?_
  refine V_getR C FL_RX6_10 (f6_0 hb) dX6_aside_2 ?_
  refine V_iload_n C 1 dX6_aside_5 rfl ?_
  refine V_iload_n C 2 dX6_aside_6 rfl ?_
  refine V_callV (As := [.int p1, .int p2]) (st := [vR X b]) C (c_X2_setAside (j6_1 hb) h) Y_X2_setAside Z_X2_setAside (T := TX2) (N := 13) rfl (o2 (j6_1 hb)) (ltN hH (by decide)) u_152 rfl rfl (Nat.le_of_ble_eq_true rfl) dX6_aside_7 ?_
  rintro v9 M1 ⟨r2, rfl, h⟩
  show V X 10 _ [.int r2, vR X b] M1
  refine V_callV (As := [.int r2]) (st := []) C (c_X6_told hb h) Y_X6_told Z_X6_told (T := TX6) (N := 12) rfl (o6 hb) (ltN hH (by decide)) u_147 rfl rfl (Nat.le_of_ble_eq_true rfl) dX6_aside_10 ?_
  rintro v9 M3 ⟨r4, rfl, h⟩
  show V X 13 _ [.int r4] M3
  exact V_iret C dX6_aside_13 (hQ _ _ h)
set_option maxRecDepth 20000 in
set_option maxHeartbeats 1000000 in
theorem c_X6_aside {w : wU} {l : Launch} {b : Nat} {p1 : Int32} {p2 : Int32} {M : mM} {Q : Int32 → mM → Prop} (hb : isC w 6 b) (h : p_X6_aside b p1 p2 M Q) : CT w l 2 yX6_aside cX6_aside 3 (some .int) [.ref (uA w b), .int p1, .int p2] M (piI Q) := by
  refine CT.of (by decide +kernel) (Nat.le_of_ble_eq_true rfl) (fun X hw hH hl hP hN C => ?_)
  subst hw
  exact s_X6_aside C hH hN (fun r M1 q => by rw [hP]; exact ⟨r, rfl, q⟩) hb h
set_option maxRecDepth 20000 in
set_option maxHeartbeats 1000000 in
theorem s_X6_copy {X : wX} (C : CX X cX6_copy RX6 (some .int)) (hH : xH X = 3) (hN : xN X = 4) {b : Nat} {p1 : Int32} {p2 : Int32} {M : mM} {Q : Int32 → mM → Prop} (hQ : ∀ r M, Q r M → xPo X (some (.int r)) M) (hb : isC (xW X) 6 b)   (h : p_X6_copy b p1 p2 M Q) : V X 0 [(0, vR X b), (1, .int p1), (2, .int p2)] [] M := by
  refine V_aload_n C 0 dX6_copy_0 rfl ?_
  refine V_getR C FL_RX6_10 (f6_0 hb) dX6_copy_1 ?_
  refine V_iload_n C 1 dX6_copy_4 rfl ?_
  refine V_iload_n C 2 dX6_copy_5 rfl ?_
  refine V_callV (As := [.int p1, .int p2]) (st := []) C (c_X2_paint (j6_1 hb) h) Y_X2_paint Z_X2_paint (T := TX2) (N := 13) rfl (o2 (j6_1 hb)) (ltN hH (by decide)) u_153 rfl rfl (Nat.le_of_ble_eq_true rfl) dX6_copy_6 ?_
  rintro v9 M1 ⟨r2, rfl, h⟩
  show V X 9 _ [.int r2] M1
  refine V_istore_n (lv' := [(3, .int r2), (0, vR X b), (1, .int p1), (2, .int p2)]) C (ltN hN (by decide)) dX6_copy_9 rfl ?_
  refine V_iload_n C 0 dX6_copy_10 rfl ?_
  refine V_bipush C (-10) dX6_copy_11 (by decide) ?_
  refine V_icmp_ne (tgt := 23) C dX6_copy_13 (by decide) (fun hc => ?_) (fun hc => ?_)
  · have h := h.1 hc
    refine V_iload_n C 0 dX6_copy_23 rfl ?_
    exact V_iret C dX6_copy_24 (hQ _ _ h)
  · have h := h.2 hc
    refine V_aload_n C 1 dX6_copy_16 rfl ?_
    refine V_bipush C (-2) dX6_copy_17 (by decide) ?_
    refine V_callV (As := [.int (-2)]) (st := []) C (c_X6_told hb h) Y_X6_told Z_X6_told (T := TX6) (N := 12) rfl (o6 hb) (ltN hH (by decide)) u_147 rfl rfl (Nat.le_of_ble_eq_true rfl) dX6_copy_19 ?_
    rintro v9 M3 ⟨r4, rfl, h⟩
    show V X 22 _ [.int r4] M3
    refine V_pop C dX6_copy_22 rfl ?_
    refine V_iload_n C 0 dX6_copy_23 rfl ?_
    exact V_iret C dX6_copy_24 (hQ _ _ h)
set_option maxRecDepth 20000 in
set_option maxHeartbeats 1000000 in
theorem c_X6_copy {w : wU} {l : Launch} {b : Nat} {p1 : Int32} {p2 : Int32} {M : mM} {Q : Int32 → mM → Prop} (hb : isC w 6 b) (h : p_X6_copy b p1 p2 M Q) : CT w l 3 yX6_copy cX6_copy 4 (some .int) [.ref (uA w b), .int p1, .int p2] M (piI Q) := by
  refine CT.of (by decide +kernel) (Nat.le_of_ble_eq_true rfl) (fun X hw hH hl hP hN C => ?_)
  subst hw
  exact s_X6_copy C hH hN (fun r M1 q => by rw [hP]; exact ⟨r, rfl, q⟩) hb h
set_option maxRecDepth 20000 in
set_option maxHeartbeats 1000000 in
theorem s_X6_type {X : wX} (C : CX X cX6_type RX6 (some .int)) (hH : xH X = 2) (hN : xN X = 4) {b : Nat} {p1 : Int64} {p2 : Int32} {M : mM} {Q : Int32 → mM → Prop} (hQ : ∀ r M, Q r M → xPo X (some (.int r)) M) (hb : isC (xW X) 6 b)   (h : p_X6_type b p1 p2 M Q) : V X 0 [(0, vR X b), (1, .long p1), (3, .int p2)] [] M := by
  refine V_aload_n C 0 dX6_type_0 rfl ?_
  refine V_aload_n C 0 dX6_type_1 rfl ?_
  refine V_getR C FL_RX6_30 (f6_4 hb) dX6_type_2 ?_
  refine V_lload_n C 1 dX6_type_5 rfl ?_
  refine V_iload_n C 2 dX6_type_6 rfl ?_
  refine V_callV (As := [.long p1, .int p2]) (st := [vR X b]) C (c_X3_write (j6_51 hb) h) Y_X3_write Z_X3_write (T := TX3) (N := 7) rfl (o3 (j6_51 hb)) (ltN hH (by decide)) u_155 rfl rfl (Nat.le_of_ble_eq_true rfl) dX6_type_7 ?_
  rintro v9 M1 ⟨r2, rfl, h⟩
  show V X 10 _ [.int r2, vR X b] M1
  refine V_callV (As := [.int r2]) (st := []) C (c_X6_told hb h) Y_X6_told Z_X6_told (T := TX6) (N := 12) rfl (o6 hb) (ltN hH (by decide)) u_147 rfl rfl (Nat.le_of_ble_eq_true rfl) dX6_type_10 ?_
  rintro v9 M3 ⟨r4, rfl, h⟩
  show V X 13 _ [.int r4] M3
  exact V_iret C dX6_type_13 (hQ _ _ h)
set_option maxRecDepth 20000 in
set_option maxHeartbeats 1000000 in
theorem c_X6_type {w : wU} {l : Launch} {b : Nat} {p1 : Int64} {p2 : Int32} {M : mM} {Q : Int32 → mM → Prop} (hb : isC w 6 b) (h : p_X6_type b p1 p2 M Q) : CT w l 2 yX6_type cX6_type 4 (some .int) [.ref (uA w b), .long p1, .int p2] M (piI Q) := by
  refine CT.of (by decide +kernel) (Nat.le_of_ble_eq_true rfl) (fun X hw hH hl hP hN C => ?_)
  subst hw
  exact s_X6_type C hH hN (fun r M1 q => by rw [hP]; exact ⟨r, rfl, q⟩) hb h
set_option maxRecDepth 20000 in
set_option maxHeartbeats 1000000 in
theorem s_X6_clear {X : wX} (C : CX X cX6_clear RX6 (some .int)) (hH : xH X = 1) (hN : xN X = 1) {b : Nat} {M : mM} {Q : Int32 → mM → Prop} (hQ : ∀ r M, Q r M → xPo X (some (.int r)) M) (hb : isC (xW X) 6 b)   (h : p_X6_clear b M Q) : V X 0 [(0, vR X b)] [] M := by
  refine V_aload_n C 0 dX6_clear_0 rfl ?_
  refine V_getR C FL_RX6_30 (f6_4 hb) dX6_clear_1 ?_
  refine V_callV (As := []) (st := []) C (c_X3_wipe (j6_51 hb) h) Y_X3_wipe Z_X3_wipe (T := TX3) (N := 7) rfl (o3 (j6_51 hb)) (ltN hH (by decide)) u_156 rfl rfl (Nat.le_of_ble_eq_true rfl) dX6_clear_4 ?_
  rintro v9 M1 ⟨r2, rfl, h⟩
  show V X 7 _ [.int r2] M1
  exact V_iret C dX6_clear_7 (hQ _ _ h)
set_option maxRecDepth 20000 in
set_option maxHeartbeats 1000000 in
theorem c_X6_clear {w : wU} {l : Launch} {b : Nat} {M : mM} {Q : Int32 → mM → Prop} (hb : isC w 6 b) (h : p_X6_clear b M Q) : CT w l 1 yX6_clear cX6_clear 1 (some .int) [.ref (uA w b)] M (piI Q) := by
  refine CT.of (by decide +kernel) (Nat.le_of_ble_eq_true rfl) (fun X hw hH hl hP hN C => ?_)
  subst hw
  exact s_X6_clear C hH hN (fun r M1 q => by rw [hP]; exact ⟨r, rfl, q⟩) hb h
set_option maxRecDepth 20000 in
set_option maxHeartbeats 1000000 in
theorem s_X6_statue {X : wX} (C : CX X cX6_statue RX6 (some .int)) (hH : xH X = 9) (hN : xN X = 2) {b : Nat} {M : mM} {Q : Int32 → mM → Prop} (hQ : ∀ r M, Q r M → xPo X (some (.int r)) M) (hb : isC (xW X) 6 b)   (h : p_X6_statue b M Q) : V X 0 [(0, vR X b)] [] M := by
  refine V_aload_n C 0 dX6_statue_0 rfl ?_
  refine V_getR C FL_RX6_30 (f6_4 hb) dX6_statue_1 ?_
  refine V_aload_n C 0 dX6_statue_4 rfl ?_
  refine V_getR C FL_RX6_16 (f6_1 hb) dX6_statue_5 ?_
  refine V_callV (As := [vR X (b + 13)]) (st := []) C (c_X3_tell (j6_51 hb) (j6_13 hb) h) Y_X3_tell Z_X3_tell (T := TX3) (N := 7) rfl (o3 (j6_51 hb)) (ltN hH (by decide)) u_159 rfl rfl (Nat.le_of_ble_eq_true rfl) dX6_statue_8 ?_
  rintro v9 M1 ⟨r2, rfl, h⟩
  show V X 11 _ [.int r2] M1
  refine V_istore_n (lv' := [(1, .int r2), (0, vR X b)]) C (ltN hN (by decide)) dX6_statue_11 rfl ?_
  refine V_iload_n C 0 dX6_statue_12 rfl ?_
  refine V_if_lt (tgt := 27) C dX6_statue_13 (by decide) (fun hc => ?_) (fun hc => ?_)
  · have h := h.1 hc
    refine V_iload_n C 0 dX6_statue_27 rfl ?_
    exact V_iret C dX6_statue_28 (hQ _ _ h)
  · have h := h.2 hc
    refine V_aload_n C 1 dX6_statue_16 rfl ?_
    refine V_getR C FL_RX6_10 (f6_0 hb) dX6_statue_17 ?_
    refine V_aload_n C 1 dX6_statue_20 rfl ?_
    refine V_getR C FL_RX6_16 (f6_1 hb) dX6_statue_21 ?_
    refine V_callV (As := [vR X (b + 13)]) (st := []) C (c_X2_become (j6_1 hb) (j6_13 hb) h) Y_X2_become Z_X2_become (T := TX2) (N := 13) rfl (o2 (j6_1 hb)) (ltN hH (by decide)) u_158 rfl rfl (Nat.le_of_ble_eq_true rfl) dX6_statue_24 ?_
    rintro v9 M3 ⟨rfl, h⟩
    show V X 27 _ [] M3
    refine V_iload_n C 0 dX6_statue_27 rfl ?_
    exact V_iret C dX6_statue_28 (hQ _ _ h)
set_option maxRecDepth 20000 in
set_option maxHeartbeats 1000000 in
theorem c_X6_statue {w : wU} {l : Launch} {b : Nat} {M : mM} {Q : Int32 → mM → Prop} (hb : isC w 6 b) (h : p_X6_statue b M Q) : CT w l 9 yX6_statue cX6_statue 2 (some .int) [.ref (uA w b)] M (piI Q) := by
  refine CT.of (by decide +kernel) (Nat.le_of_ble_eq_true rfl) (fun X hw hH hl hP hN C => ?_)
  subst hw
  exact s_X6_statue C hH hN (fun r M1 q => by rw [hP]; exact ⟨r, rfl, q⟩) hb h
set_option maxRecDepth 20000 in
set_option maxHeartbeats 1000000 in
theorem s_X6_left {X : wX} (C : CX X cX6_left RX6 (some .int)) (hH : xH X = 2) (hN : xN X = 5) {b : Nat} {p1 : Int32} {p2 : Int32} {p3 : Int32} {M : mM} {Q : Int32 → mM → Prop} (hQ : ∀ r M, Q r M → xPo X (some (.int r)) M) (hb : isC (xW X) 6 b)   (h : p_X6_left b p1 p2 p3 M Q) : V X 0 [(0, vR X b), (1, .int p1), (2, .int p2), (3, .int p3)] [] M := by
  refine V_iload_n C 1 dX6_left_0 rfl ?_
  refine V_callS (As := [.int p1]) (st := []) C (c_X6_isCell  h) Y_X6_isCell Z_X6_isCell (ltN hH (by decide)) u_166 rfl rfl (Nat.le_of_ble_eq_true rfl) dX6_left_1 ?_
  rintro v9 M9 ⟨rfl, r1, rfl, h⟩
  show V X 4 _ [.int r1] M
  refine V_if_eq (tgt := 27) C dX6_left_4 (by decide) (fun hc => ?_) (fun hc => ?_)
  · have h := h.1 hc
    refine V_aload_n C 0 dX6_left_27 rfl ?_
    refine V_bipush C (-2) dX6_left_28 (by decide) ?_
    refine V_callV (As := [.int (-2)]) (st := []) C (c_X6_told hb h) Y_X6_told Z_X6_told (T := TX6) (N := 12) rfl (o6 hb) (ltN hH (by decide)) u_147 rfl rfl (Nat.le_of_ble_eq_true rfl) dX6_left_30 ?_
    rintro v9 M2 ⟨r3, rfl, h⟩
    show V X 33 _ [.int r3] M2
    exact V_iret C dX6_left_33 (hQ _ _ h)
  · have h := h.2 hc
    refine V_aload_n C 0 dX6_left_7 rfl ?_
    refine V_getR C FL_RX6_10 (f6_0 hb) dX6_left_8 ?_
    refine V_iload_n C 2 dX6_left_11 rfl ?_
    refine V_callV (As := [.int p2]) (st := []) C (c_X2_isStack (j6_1 hb) h) Y_X2_isStack Z_X2_isStack (T := TX2) (N := 13) rfl (o2 (j6_1 hb)) (ltN hH (by decide)) u_165 rfl rfl (Nat.le_of_ble_eq_true rfl) dX6_left_12 ?_
    rintro v9 M9 ⟨rfl, r4, rfl, h⟩
    show V X 15 _ [.int r4] M
    refine V_if_eq (tgt := 27) C dX6_left_15 (by decide) (fun hc => ?_) (fun hc => ?_)
    · have h := h.1 hc
      refine V_aload_n C 0 dX6_left_27 rfl ?_
      refine V_bipush C (-2) dX6_left_28 (by decide) ?_
      refine V_callV (As := [.int (-2)]) (st := []) C (c_X6_told hb h) Y_X6_told Z_X6_told (T := TX6) (N := 12) rfl (o6 hb) (ltN hH (by decide)) u_147 rfl rfl (Nat.le_of_ble_eq_true rfl) dX6_left_30 ?_
      rintro v9 M5 ⟨r6, rfl, h⟩
      show V X 33 _ [.int r6] M5
      exact V_iret C dX6_left_33 (hQ _ _ h)
    · have h := h.2 hc
      refine V_iload_n C 3 dX6_left_18 rfl ?_
      refine V_iconst C 0 dX6_left_19 (by decide) ?_
      refine V_iconst C 2 dX6_left_20 (by decide) ?_
      refine V_callS (As := [.int p3, .int 0, .int 2]) (st := []) C (c_X6_within  h) Y_X6_within Z_X6_within (ltN hH (by decide)) u_101 rfl rfl (Nat.le_of_ble_eq_true rfl) dX6_left_21 ?_
      rintro v9 M9 ⟨rfl, r7, rfl, h⟩
      show V X 24 _ [.int r7] M
      refine V_if_ne (tgt := 34) C dX6_left_24 (by decide) (fun hc => ?_) (fun hc => ?_)
      · have h := h.1 hc
        refine V_aload_n C 0 dX6_left_34 rfl ?_
        refine V_getR C FL_RX6_10 (f6_0 hb) dX6_left_35 ?_
        refine V_iload_n C 1 dX6_left_38 rfl ?_
        refine V_callS (As := [.int p1]) (st := [vR X (b + 1)]) C (c_X6_sideOf  h) Y_X6_sideOf Z_X6_sideOf (ltN hH (by decide)) u_164 rfl rfl (Nat.le_of_ble_eq_true rfl) dX6_left_39 ?_
        rintro v9 M9 ⟨rfl, r8, rfl, h⟩
        show V X 42 _ [.int r8, vR X (b + 1)] M
        refine V_callV (As := [.int r8]) (st := []) C (c_X2_wearOf (j6_1 hb) h) Y_X2_wearOf Z_X2_wearOf (T := TX2) (N := 13) rfl (o2 (j6_1 hb)) (ltN hH (by decide)) u_163 rfl rfl (Nat.le_of_ble_eq_true rfl) dX6_left_42 ?_
        rintro v9 M9 ⟨rfl, r9, rfl, h⟩
        show V X 45 _ [.int r9] M
        refine V_istore (lv' := [(4, .int r9), (0, vR X b), (1, .int p1), (2, .int p2), (3, .int p3)]) C (ltN hN (by decide)) dX6_left_45 rfl ?_
        refine V_iload_n C 4 dX6_left_47 rfl ?_
        refine V_if_ne (tgt := 62) C dX6_left_48 (by decide) (fun hc => ?_) (fun hc => ?_)
        · have h := h.1 hc
          refine V_iload_n C 4 dX6_left_62 rfl ?_
          refine V_iconst C 1 dX6_left_63 (by decide) ?_
          refine V_icmp_ne (tgt := 80) C dX6_left_64 (by decide) (fun hc => ?_) (fun hc => ?_)
          · have h := h.1 hc
            refine V_aload_n C 1 dX6_left_80 rfl ?_
            refine V_getR C FL_RX6_10 (f6_0 hb) dX6_left_81 ?_
            refine V_iload_n C 3 dX6_left_84 rfl ?_
            refine V_iload C 0 dX6_left_85 rfl ?_
            refine V_callV (As := [.int p2, .int r9]) (st := []) C (c_X2_stoneLost (j6_1 hb) h) Y_X2_stoneLost Z_X2_stoneLost (T := TX2) (N := 13) rfl (o2 (j6_1 hb)) (ltN hH (by decide)) u_160 rfl rfl (Nat.le_of_ble_eq_true rfl) dX6_left_87 ?_
            rintro v9 M9 ⟨rfl, r10, rfl, h⟩
            show V X 90 _ [.int r10] M
            exact V_iret C dX6_left_90 (hQ _ _ h)
          · have h := h.2 hc
            refine V_aload_n C 1 dX6_left_67 rfl ?_
            refine V_getR C FL_RX6_10 (f6_0 hb) dX6_left_68 ?_
            refine V_iload_n C 3 dX6_left_71 rfl ?_
            refine V_iload C 0 dX6_left_72 rfl ?_
            refine V_callV (As := [.int p2, .int r9]) (st := []) C (c_X2_upperLeft (j6_1 hb) h) Y_X2_upperLeft Z_X2_upperLeft (T := TX2) (N := 13) rfl (o2 (j6_1 hb)) (ltN hH (by decide)) u_161 rfl rfl (Nat.le_of_ble_eq_true rfl) dX6_left_74 ?_
            rintro v9 M9 ⟨rfl, r11, rfl, h⟩
            show V X 77 _ [.int r11] M
            refine V_goto (tgt := 90) C dX6_left_77 (by decide) ?_
            exact V_iret C dX6_left_90 (hQ _ _ h)
        · have h := h.2 hc
          refine V_aload_n C 1 dX6_left_51 rfl ?_
          refine V_getR C FL_RX6_10 (f6_0 hb) dX6_left_52 ?_
          refine V_iload_n C 3 dX6_left_55 rfl ?_
          refine V_iload C 0 dX6_left_56 rfl ?_
          refine V_callV (As := [.int p2, .int r9]) (st := []) C (c_X2_groundLeft (j6_1 hb) h) Y_X2_groundLeft Z_X2_groundLeft (T := TX2) (N := 13) rfl (o2 (j6_1 hb)) (ltN hH (by decide)) u_162 rfl rfl (Nat.le_of_ble_eq_true rfl) dX6_left_58 ?_
          rintro v9 M9 ⟨rfl, r12, rfl, h⟩
          show V X 61 _ [.int r12] M
          exact V_iret C dX6_left_61 (hQ _ _ h)
      · have h := h.2 hc
        refine V_aload_n C 0 dX6_left_27 rfl ?_
        refine V_bipush C (-2) dX6_left_28 (by decide) ?_
        refine V_callV (As := [.int (-2)]) (st := []) C (c_X6_told hb h) Y_X6_told Z_X6_told (T := TX6) (N := 12) rfl (o6 hb) (ltN hH (by decide)) u_147 rfl rfl (Nat.le_of_ble_eq_true rfl) dX6_left_30 ?_
        rintro v9 M13 ⟨r14, rfl, h⟩
        show V X 33 _ [.int r14] M13
        exact V_iret C dX6_left_33 (hQ _ _ h)
set_option maxRecDepth 20000 in
set_option maxHeartbeats 1000000 in
theorem c_X6_left {w : wU} {l : Launch} {b : Nat} {p1 : Int32} {p2 : Int32} {p3 : Int32} {M : mM} {Q : Int32 → mM → Prop} (hb : isC w 6 b) (h : p_X6_left b p1 p2 p3 M Q) : CT w l 2 yX6_left cX6_left 5 (some .int) [.ref (uA w b), .int p1, .int p2, .int p3] M (piI Q) := by
  refine CT.of (by decide +kernel) (Nat.le_of_ble_eq_true rfl) (fun X hw hH hl hP hN C => ?_)
  subst hw
  exact s_X6_left C hH hN (fun r M1 q => by rw [hP]; exact ⟨r, rfl, q⟩) hb h
set_option maxRecDepth 20000 in
set_option maxHeartbeats 1000000 in
theorem s_X6_shines {X : wX} (C : CX X cX6_shines RX6 (some .int)) (hH : xH X = 3) (hN : xN X = 4) {b : Nat} {p1 : Int32} {p2 : Int32} {p3 : Int32} {M : mM} {Q : Int32 → mM → Prop} (hQ : ∀ r M, Q r M → xPo X (some (.int r)) M) (hb : isC (xW X) 6 b)   (h : p_X6_shines b p1 p2 p3 M Q) : V X 0 [(0, vR X b), (1, .int p1), (2, .int p2), (3, .int p3)] [] M := by
  refine V_iload_n C 1 dX6_shines_0 rfl ?_
  refine V_callS (As := [.int p1]) (st := []) C (c_X6_isCell  h) Y_X6_isCell Z_X6_isCell (ltN hH (by decide)) u_166 rfl rfl (Nat.le_of_ble_eq_true rfl) dX6_shines_1 ?_
  rintro v9 M9 ⟨rfl, r1, rfl, h⟩
  show V X 4 _ [.int r1] M
  refine V_if_eq (tgt := 27) C dX6_shines_4 (by decide) (fun hc => ?_) (fun hc => ?_)
  · have h := h.1 hc
    refine V_aload_n C 0 dX6_shines_27 rfl ?_
    refine V_bipush C (-2) dX6_shines_28 (by decide) ?_
    refine V_callV (As := [.int (-2)]) (st := []) C (c_X6_told hb h) Y_X6_told Z_X6_told (T := TX6) (N := 12) rfl (o6 hb) (ltN hH (by decide)) u_147 rfl rfl (Nat.le_of_ble_eq_true rfl) dX6_shines_30 ?_
    rintro v9 M2 ⟨r3, rfl, h⟩
    show V X 33 _ [.int r3] M2
    exact V_iret C dX6_shines_33 (hQ _ _ h)
  · have h := h.2 hc
    refine V_aload_n C 0 dX6_shines_7 rfl ?_
    refine V_getR C FL_RX6_10 (f6_0 hb) dX6_shines_8 ?_
    refine V_iload_n C 2 dX6_shines_11 rfl ?_
    refine V_callV (As := [.int p2]) (st := []) C (c_X2_isStack (j6_1 hb) h) Y_X2_isStack Z_X2_isStack (T := TX2) (N := 13) rfl (o2 (j6_1 hb)) (ltN hH (by decide)) u_165 rfl rfl (Nat.le_of_ble_eq_true rfl) dX6_shines_12 ?_
    rintro v9 M9 ⟨rfl, r4, rfl, h⟩
    show V X 15 _ [.int r4] M
    refine V_if_eq (tgt := 27) C dX6_shines_15 (by decide) (fun hc => ?_) (fun hc => ?_)
    · have h := h.1 hc
      refine V_aload_n C 0 dX6_shines_27 rfl ?_
      refine V_bipush C (-2) dX6_shines_28 (by decide) ?_
      refine V_callV (As := [.int (-2)]) (st := []) C (c_X6_told hb h) Y_X6_told Z_X6_told (T := TX6) (N := 12) rfl (o6 hb) (ltN hH (by decide)) u_147 rfl rfl (Nat.le_of_ble_eq_true rfl) dX6_shines_30 ?_
      rintro v9 M5 ⟨r6, rfl, h⟩
      show V X 33 _ [.int r6] M5
      exact V_iret C dX6_shines_33 (hQ _ _ h)
    · have h := h.2 hc
      refine V_iload_n C 3 dX6_shines_18 rfl ?_
      refine V_iconst C 0 dX6_shines_19 (by decide) ?_
      refine V_iconst C 3 dX6_shines_20 (by decide) ?_
      refine V_callS (As := [.int p3, .int 0, .int 3]) (st := []) C (c_X6_within  h) Y_X6_within Z_X6_within (ltN hH (by decide)) u_101 rfl rfl (Nat.le_of_ble_eq_true rfl) dX6_shines_21 ?_
      rintro v9 M9 ⟨rfl, r7, rfl, h⟩
      show V X 24 _ [.int r7] M
      refine V_if_ne (tgt := 34) C dX6_shines_24 (by decide) (fun hc => ?_) (fun hc => ?_)
      · have h := h.1 hc
        refine V_aload_n C 0 dX6_shines_34 rfl ?_
        refine V_getR C FL_RX6_10 (f6_0 hb) dX6_shines_35 ?_
        refine V_iload_n C 2 dX6_shines_38 rfl ?_
        refine V_aload_n C 0 dX6_shines_39 rfl ?_
        refine V_getR C FL_RX6_10 (f6_0 hb) dX6_shines_40 ?_
        refine V_iload_n C 1 dX6_shines_43 rfl ?_
        refine V_callS (As := [.int p1]) (st := [vR X (b + 1), .int p2, vR X (b + 1)]) C (c_X6_sideOf  h) Y_X6_sideOf Z_X6_sideOf (ltN hH (by decide)) u_164 rfl rfl (Nat.le_of_ble_eq_true rfl) dX6_shines_44 ?_
        rintro v9 M9 ⟨rfl, r8, rfl, h⟩
        show V X 47 _ [.int r8, vR X (b + 1), .int p2, vR X (b + 1)] M
        refine V_callV (As := [.int r8]) (st := [.int p2, vR X (b + 1)]) C (c_X2_wearOf (j6_1 hb) h) Y_X2_wearOf Z_X2_wearOf (T := TX2) (N := 13) rfl (o2 (j6_1 hb)) (ltN hH (by decide)) u_163 rfl rfl (Nat.le_of_ble_eq_true rfl) dX6_shines_47 ?_
        rintro v9 M9 ⟨rfl, r9, rfl, h⟩
        show V X 50 _ [.int r9, .int p2, vR X (b + 1)] M
        refine V_callV (As := [.int p2, .int r9]) (st := []) C (c_X2_lampsOf (j6_1 hb) h) Y_X2_lampsOf Z_X2_lampsOf (T := TX2) (N := 13) rfl (o2 (j6_1 hb)) (ltN hH (by decide)) u_167 rfl rfl (Nat.le_of_ble_eq_true rfl) dX6_shines_50 ?_
        rintro v9 M9 ⟨rfl, r10, rfl, h⟩
        show V X 53 _ [.int r10] M
        refine V_iload_n C 3 dX6_shines_53 rfl ?_
        refine V_ishr C dX6_shines_54 ?_
        refine V_iconst C 1 dX6_shines_55 (by decide) ?_
        refine V_iand C dX6_shines_56 ?_
        exact V_iret C dX6_shines_57 (hQ _ _ h)
      · have h := h.2 hc
        refine V_aload_n C 0 dX6_shines_27 rfl ?_
        refine V_bipush C (-2) dX6_shines_28 (by decide) ?_
        refine V_callV (As := [.int (-2)]) (st := []) C (c_X6_told hb h) Y_X6_told Z_X6_told (T := TX6) (N := 12) rfl (o6 hb) (ltN hH (by decide)) u_147 rfl rfl (Nat.le_of_ble_eq_true rfl) dX6_shines_30 ?_
        rintro v9 M11 ⟨r12, rfl, h⟩
        show V X 33 _ [.int r12] M11
        exact V_iret C dX6_shines_33 (hQ _ _ h)
set_option maxRecDepth 20000 in
set_option maxHeartbeats 1000000 in
theorem c_X6_shines {w : wU} {l : Launch} {b : Nat} {p1 : Int32} {p2 : Int32} {p3 : Int32} {M : mM} {Q : Int32 → mM → Prop} (hb : isC w 6 b) (h : p_X6_shines b p1 p2 p3 M Q) : CT w l 3 yX6_shines cX6_shines 4 (some .int) [.ref (uA w b), .int p1, .int p2, .int p3] M (piI Q) := by
  refine CT.of (by decide +kernel) (Nat.le_of_ble_eq_true rfl) (fun X hw hH hl hP hN C => ?_)
  subst hw
  exact s_X6_shines C hH hN (fun r M1 q => by rw [hP]; exact ⟨r, rfl, q⟩) hb h
set_option maxRecDepth 20000 in
set_option maxHeartbeats 1000000 in
theorem s_X6_lookAt {X : wX} (C : CX X cX6_lookAt RX6 (none)) (hH : xH X = 4) (hN : xN X = 3) {b : Nat} {p1 : Nat} {p2 : Int32} {M : mM} {Q : mM → Prop} (hQ : ∀ M, Q M → xPo X none M) (hb : isC (xW X) 6 b) (h1 : isC (xW X) 2 p1)   (h : p_X6_lookAt b p1 p2 M Q) : V X 0 [(0, vR X b), (1, vR X p1), (2, .int p2)] [] M := by
  refine V_aload_n C 0 dX6_lookAt_0 rfl ?_
  refine V_getR C FL_RX6_37 (f6_5 hb) dX6_lookAt_1 ?_
  refine V_aload_n C 1 dX6_lookAt_4 rfl ?_
  refine V_callV (As := [vR X p1]) (st := []) C (c_X4_take (j6_54 hb) h1 h) Y_X4_take Z_X4_take (T := TX4) (N := 3) rfl (o4 (j6_54 hb)) (ltN hH (by decide)) u_171 rfl rfl (Nat.le_of_ble_eq_true rfl) dX6_lookAt_5 ?_
  rintro v9 M1 ⟨rfl, h⟩
  show V X 8 _ [] M1
  refine V_aload_n C 0 dX6_lookAt_8 rfl ?_
  refine V_getR C FL_RX6_44 (f6_6 hb) dX6_lookAt_9 ?_
  refine V_aload_n C 1 dX6_lookAt_12 rfl ?_
  refine V_aload_n C 0 dX6_lookAt_13 rfl ?_
  refine V_getR C FL_RX6_37 (f6_5 hb) dX6_lookAt_14 ?_
  refine V_iload_n C 2 dX6_lookAt_17 rfl ?_
  refine V_callV (As := [vR X p1, vR X (b + 54), .int p2]) (st := []) C (c_X1_look (j6_70 hb) h1 (j6_54 hb) h) Y_X1_look Z_X1_look (T := TX1) (N := 17) rfl (o1 (j6_70 hb)) (ltN hH (by decide)) u_170 rfl rfl (Nat.le_of_ble_eq_true rfl) dX6_lookAt_18 ?_
  rintro v9 M2 ⟨rfl, h⟩
  show V X 21 _ [] M2
  exact V_vret C dX6_lookAt_21 (hQ _ h)
set_option maxRecDepth 20000 in
set_option maxHeartbeats 1000000 in
theorem c_X6_lookAt {w : wU} {l : Launch} {b : Nat} {p1 : Nat} {p2 : Int32} {M : mM} {Q : mM → Prop} (hb : isC w 6 b) (h1 : isC w 2 p1) (h : p_X6_lookAt b p1 p2 M Q) : CT w l 4 yX6_lookAt cX6_lookAt 3 (none) [.ref (uA w b), .ref (uA w p1), .int p2] M (piV Q) := by
  refine CT.of (by decide +kernel) (Nat.le_of_ble_eq_true rfl) (fun X hw hH hl hP hN C => ?_)
  subst hw
  exact s_X6_lookAt C hH hN (fun M1 q => by rw [hP]; exact ⟨rfl, q⟩) hb h1 h
set_option maxRecDepth 20000 in
set_option maxHeartbeats 1000000 in
theorem s_X6_fits {X : wX} (C : CX X cX6_fits RX6 (some .int)) (hH : xH X = 5) (hN : xN X = 3) {b : Nat} {p1 : Int32} {p2 : Int32} {M : mM} {Q : Int32 → mM → Prop} (hQ : ∀ r M, Q r M → xPo X (some (.int r)) M) (hb : isC (xW X) 6 b)   (h : p_X6_fits b p1 p2 M Q) : V X 0 [(0, vR X b), (1, .int p1), (2, .int p2)] [] M := by
  refine V_iload_n C 1 dX6_fits_0 rfl ?_
  refine V_callS (As := [.int p1]) (st := []) C (c_X6_isCell  h) Y_X6_isCell Z_X6_isCell (ltN hH (by decide)) u_166 rfl rfl (Nat.le_of_ble_eq_true rfl) dX6_fits_1 ?_
  rintro v9 M9 ⟨rfl, r1, rfl, h⟩
  show V X 4 _ [.int r1] M
  refine V_if_eq (tgt := 18) C dX6_fits_4 (by decide) (fun hc => ?_) (fun hc => ?_)
  · have h := h.1 hc
    refine V_aload_n C 0 dX6_fits_18 rfl ?_
    refine V_bipush C (-2) dX6_fits_19 (by decide) ?_
    refine V_callV (As := [.int (-2)]) (st := []) C (c_X6_told hb h) Y_X6_told Z_X6_told (T := TX6) (N := 12) rfl (o6 hb) (ltN hH (by decide)) u_147 rfl rfl (Nat.le_of_ble_eq_true rfl) dX6_fits_21 ?_
    rintro v9 M2 ⟨r3, rfl, h⟩
    show V X 24 _ [.int r3] M2
    exact V_iret C dX6_fits_24 (hQ _ _ h)
  · have h := h.2 hc
    refine V_aload_n C 0 dX6_fits_7 rfl ?_
    refine V_getR C FL_RX6_10 (f6_0 hb) dX6_fits_8 ?_
    refine V_iload_n C 2 dX6_fits_11 rfl ?_
    refine V_callV (As := [.int p2]) (st := []) C (c_X2_isStack (j6_1 hb) h) Y_X2_isStack Z_X2_isStack (T := TX2) (N := 13) rfl (o2 (j6_1 hb)) (ltN hH (by decide)) u_165 rfl rfl (Nat.le_of_ble_eq_true rfl) dX6_fits_12 ?_
    rintro v9 M9 ⟨rfl, r4, rfl, h⟩
    show V X 15 _ [.int r4] M
    refine V_if_ne (tgt := 25) C dX6_fits_15 (by decide) (fun hc => ?_) (fun hc => ?_)
    · have h := h.1 hc
      refine V_aload_n C 0 dX6_fits_25 rfl ?_
      refine V_aload_n C 0 dX6_fits_26 rfl ?_
      refine V_getR C FL_RX6_10 (f6_0 hb) dX6_fits_27 ?_
      refine V_iload_n C 1 dX6_fits_30 rfl ?_
      refine V_bipush C 8 dX6_fits_31 (by decide) ?_
      refine V_idiv C dX6_fits_33 (by decide) ?_
      refine V_callV (As := [vR X (b + 1), .int (p1 / 8)]) (st := []) C (c_X6_lookAt hb (j6_1 hb) h) Y_X6_lookAt Z_X6_lookAt (T := TX6) (N := 12) rfl (o6 hb) (ltN hH (by decide)) u_173 rfl rfl (Nat.le_of_ble_eq_true rfl) dX6_fits_34 ?_
      rintro v9 M5 ⟨rfl, h⟩
      show V X 37 _ [] M5
      refine V_aload_n C 0 dX6_fits_37 rfl ?_
      refine V_getR C FL_RX6_44 (f6_6 hb) dX6_fits_38 ?_
      refine V_iload_n C 1 dX6_fits_41 rfl ?_
      refine V_bipush C 8 dX6_fits_42 (by decide) ?_
      refine V_irem C dX6_fits_44 (by decide) ?_
      refine V_iload_n C 2 dX6_fits_45 rfl ?_
      refine V_callV (As := [.int (p1 - p1 / 8 * 8), .int p2]) (st := []) C (c_X1_isFree (j6_70 hb) h) Y_X1_isFree Z_X1_isFree (T := TX1) (N := 17) rfl (o1 (j6_70 hb)) (ltN hH (by decide)) u_172 rfl rfl (Nat.le_of_ble_eq_true rfl) dX6_fits_46 ?_
      rintro v9 M9 ⟨rfl, r6, rfl, h⟩
      show V X 49 _ [.int r6] M5
      refine V_if_eq (tgt := 56) C dX6_fits_49 (by decide) (fun hc => ?_) (fun hc => ?_)
      · have h := h.1 hc
        refine V_iconst C 0 dX6_fits_56 (by decide) ?_
        exact V_iret C dX6_fits_57 (hQ _ _ h)
      · have h := h.2 hc
        refine V_iconst C 1 dX6_fits_52 (by decide) ?_
        refine V_goto (tgt := 57) C dX6_fits_53 (by decide) ?_
        exact V_iret C dX6_fits_57 (hQ _ _ h)
    · have h := h.2 hc
      refine V_aload_n C 0 dX6_fits_18 rfl ?_
      refine V_bipush C (-2) dX6_fits_19 (by decide) ?_
      refine V_callV (As := [.int (-2)]) (st := []) C (c_X6_told hb h) Y_X6_told Z_X6_told (T := TX6) (N := 12) rfl (o6 hb) (ltN hH (by decide)) u_147 rfl rfl (Nat.le_of_ble_eq_true rfl) dX6_fits_21 ?_
      rintro v9 M7 ⟨r8, rfl, h⟩
      show V X 24 _ [.int r8] M7
      exact V_iret C dX6_fits_24 (hQ _ _ h)
set_option maxRecDepth 20000 in
set_option maxHeartbeats 1000000 in
theorem c_X6_fits {w : wU} {l : Launch} {b : Nat} {p1 : Int32} {p2 : Int32} {M : mM} {Q : Int32 → mM → Prop} (hb : isC w 6 b) (h : p_X6_fits b p1 p2 M Q) : CT w l 5 yX6_fits cX6_fits 3 (some .int) [.ref (uA w b), .int p1, .int p2] M (piI Q) := by
  refine CT.of (by decide +kernel) (Nat.le_of_ble_eq_true rfl) (fun X hw hH hl hP hN C => ?_)
  subst hw
  exact s_X6_fits C hH hN (fun r M1 q => by rw [hP]; exact ⟨r, rfl, q⟩) hb h
set_option maxRecDepth 20000 in
set_option maxHeartbeats 1000000 in
theorem s_X6_reckonAround {X : wX} (C : CX X cX6_reckonAround RX6 (some .boolean)) (hH : xH X = 5) (hN : xN X = 2) {b : Nat} {p1 : Int32} {M : mM} {Q : Int32 → mM → Prop} (hQ : ∀ r M, Q r M → xPo X (some (.int r)) M) (hb : isC (xW X) 6 b)   (h : p_X6_reckonAround b p1 M Q) : V X 0 [(0, vR X b), (1, .int p1)] [] M := by
  refine V_aload_n C 0 dX6_reckonAround_0 rfl ?_
  refine V_aload_n C 0 dX6_reckonAround_1 rfl ?_
  refine V_getR C FL_RX6_10 (f6_0 hb) dX6_reckonAround_2 ?_
  refine V_iload_n C 1 dX6_reckonAround_5 rfl ?_
  refine V_bipush C 8 dX6_reckonAround_6 (by decide) ?_
  refine V_idiv C dX6_reckonAround_8 (by decide) ?_
  refine V_callV (As := [vR X (b + 1), .int (p1 / 8)]) (st := []) C (c_X6_lookAt hb (j6_1 hb) h) Y_X6_lookAt Z_X6_lookAt (T := TX6) (N := 12) rfl (o6 hb) (ltN hH (by decide)) u_173 rfl rfl (Nat.le_of_ble_eq_true rfl) dX6_reckonAround_9 ?_
  rintro v9 M1 ⟨rfl, h⟩
  show V X 12 _ [] M1
  refine V_aload_n C 0 dX6_reckonAround_12 rfl ?_
  refine V_getR C FL_RX6_44 (f6_6 hb) dX6_reckonAround_13 ?_
  refine V_callV (As := []) (st := []) C (c_X1_reckon (j6_70 hb) h) Y_X1_reckon Z_X1_reckon (T := TX1) (N := 17) rfl (o1 (j6_70 hb)) (ltN hH (by decide)) u_175 rfl rfl (Nat.le_of_ble_eq_true rfl) dX6_reckonAround_16 ?_
  rintro v9 M2 ⟨rfl, h⟩
  show V X 19 _ [] M2
  refine V_aload_n C 0 dX6_reckonAround_19 rfl ?_
  refine V_getR C FL_RX6_44 (f6_6 hb) dX6_reckonAround_20 ?_
  refine V_getL C FL_RX6_158 (f1_12 (j6_70 hb)) dX6_reckonAround_23 ?_
  refine V_lconst C 0 dX6_reckonAround_26 (by decide) ?_
  refine V_lcmp C dX6_reckonAround_27 ?_
  refine V_if_eq (tgt := 35) C dX6_reckonAround_28 (by decide) (fun hc => ?_) (fun hc => ?_)
  · have h := h.1 (lgc_eq.mp hc)
    refine V_iconst C 0 dX6_reckonAround_35 (by decide) ?_
    exact V_zret C rfl (by decide) dX6_reckonAround_36 (hQ _ _ h)
  · have h := h.2 (lgc_ne.mp hc)
    refine V_iconst C 1 dX6_reckonAround_31 (by decide) ?_
    refine V_goto (tgt := 36) C dX6_reckonAround_32 (by decide) ?_
    exact V_zret C rfl (by decide) dX6_reckonAround_36 (hQ _ _ h)
set_option maxRecDepth 20000 in
set_option maxHeartbeats 1000000 in
theorem c_X6_reckonAround {w : wU} {l : Launch} {b : Nat} {p1 : Int32} {M : mM} {Q : Int32 → mM → Prop} (hb : isC w 6 b) (h : p_X6_reckonAround b p1 M Q) : CT w l 5 yX6_reckonAround cX6_reckonAround 2 (some .boolean) [.ref (uA w b), .int p1] M (piI Q) := by
  refine CT.of (by decide +kernel) (Nat.le_of_ble_eq_true rfl) (fun X hw hH hl hP hN C => ?_)
  subst hw
  exact s_X6_reckonAround C hH hN (fun r M1 q => by rw [hP]; exact ⟨r, rfl, q⟩) hb h
set_option maxRecDepth 20000 in
set_option maxHeartbeats 1000000 in
theorem s_X6_odds {X : wX} (C : CX X cX6_odds RX6 (some .int)) (hH : xH X = 6) (hN : xN X = 3) {b : Nat} {p1 : Int32} {p2 : Int32} {M : mM} {Q : Int32 → mM → Prop} (hQ : ∀ r M, Q r M → xPo X (some (.int r)) M) (hb : isC (xW X) 6 b)   (h : p_X6_odds b p1 p2 M Q) : V X 0 [(0, vR X b), (1, .int p1), (2, .int p2)] [] M := by
  refine V_iload_n C 1 dX6_odds_0 rfl ?_
  refine V_callS (As := [.int p1]) (st := []) C (c_X6_isCell  h) Y_X6_isCell Z_X6_isCell (ltN hH (by decide)) u_166 rfl rfl (Nat.le_of_ble_eq_true rfl) dX6_odds_1 ?_
  rintro v9 M9 ⟨rfl, r1, rfl, h⟩
  show V X 4 _ [.int r1] M
  refine V_if_eq (tgt := 18) C dX6_odds_4 (by decide) (fun hc => ?_) (fun hc => ?_)
  · have h := h.1 hc
    refine V_aload_n C 0 dX6_odds_18 rfl ?_
    refine V_bipush C (-2) dX6_odds_19 (by decide) ?_
    refine V_callV (As := [.int (-2)]) (st := []) C (c_X6_told hb h) Y_X6_told Z_X6_told (T := TX6) (N := 12) rfl (o6 hb) (ltN hH (by decide)) u_147 rfl rfl (Nat.le_of_ble_eq_true rfl) dX6_odds_21 ?_
    rintro v9 M2 ⟨r3, rfl, h⟩
    show V X 24 _ [.int r3] M2
    exact V_iret C dX6_odds_24 (hQ _ _ h)
  · have h := h.2 hc
    refine V_aload_n C 0 dX6_odds_7 rfl ?_
    refine V_getR C FL_RX6_10 (f6_0 hb) dX6_odds_8 ?_
    refine V_iload_n C 2 dX6_odds_11 rfl ?_
    refine V_callV (As := [.int p2]) (st := []) C (c_X2_isStack (j6_1 hb) h) Y_X2_isStack Z_X2_isStack (T := TX2) (N := 13) rfl (o2 (j6_1 hb)) (ltN hH (by decide)) u_165 rfl rfl (Nat.le_of_ble_eq_true rfl) dX6_odds_12 ?_
    rintro v9 M9 ⟨rfl, r4, rfl, h⟩
    show V X 15 _ [.int r4] M
    refine V_if_ne (tgt := 25) C dX6_odds_15 (by decide) (fun hc => ?_) (fun hc => ?_)
    · have h := h.1 hc
      refine V_aload_n C 0 dX6_odds_25 rfl ?_
      refine V_iload_n C 1 dX6_odds_26 rfl ?_
      refine V_callV (As := [.int p1]) (st := []) C (c_X6_reckonAround hb h) Y_X6_reckonAround Z_X6_reckonAround (T := TX6) (N := 12) rfl (o6 hb) (ltN hH (by decide)) u_179 rfl rfl (Nat.le_of_ble_eq_true rfl) dX6_odds_27 ?_
      rintro v9 M5 ⟨r6, rfl, h⟩
      show V X 30 _ [.int r6] M5
      refine V_if_ne (tgt := 40) C dX6_odds_30 (by decide) (fun hc => ?_) (fun hc => ?_)
      · have h := h.1 hc
        refine V_aload_n C 0 dX6_odds_40 rfl ?_
        refine V_getR C FL_RX6_51 (f6_7 hb) dX6_odds_41 ?_
        refine V_aload_n C 0 dX6_odds_44 rfl ?_
        refine V_getR C FL_RX6_44 (f6_6 hb) dX6_odds_45 ?_
        refine V_iload_n C 1 dX6_odds_48 rfl ?_
        refine V_bipush C 8 dX6_odds_49 (by decide) ?_
        refine V_irem C dX6_odds_51 (by decide) ?_
        refine V_iload_n C 2 dX6_odds_52 rfl ?_
        refine V_callV (As := [.int (p1 - p1 / 8 * 8), .int p2]) (st := [vR X (b + 122)]) C (c_X1_weightOf (j6_70 hb) h) Y_X1_weightOf Z_X1_weightOf (T := TX1) (N := 17) rfl (o1 (j6_70 hb)) (ltN hH (by decide)) u_178 rfl rfl (Nat.le_of_ble_eq_true rfl) dX6_odds_53 ?_
        rintro v9 M9 ⟨rfl, r7, rfl, h⟩
        show V X 56 _ [.long r7, vR X (b + 122)] M5
        refine V_aload_n C 0 dX6_odds_56 rfl ?_
        refine V_getR C FL_RX6_44 (f6_6 hb) dX6_odds_57 ?_
        refine V_getL C FL_RX6_158 (f1_12 (j6_70 hb)) dX6_odds_60 ?_
        refine V_callV (As := [.long r7, .long (M5.2 (b + 70) 12)]) (st := []) C (c_X0_setTo (j6_122 hb) h) Y_X0_setTo Z_X0_setTo (T := TX0) (N := 4) rfl (o0 (j6_122 hb)) (ltN hH (by decide)) u_177 rfl rfl (Nat.le_of_ble_eq_true rfl) dX6_odds_63 ?_
        rintro v9 M8 ⟨rfl, h⟩
        show V X 66 _ [] M8
        refine V_iconst C 1 dX6_odds_66 (by decide) ?_
        exact V_iret C dX6_odds_67 (hQ _ _ h)
      · have h := h.2 hc
        refine V_aload_n C 0 dX6_odds_33 rfl ?_
        refine V_bipush C (-3) dX6_odds_34 (by decide) ?_
        refine V_callV (As := [.int (-3)]) (st := []) C (c_X6_told hb h) Y_X6_told Z_X6_told (T := TX6) (N := 12) rfl (o6 hb) (ltN hH (by decide)) u_147 rfl rfl (Nat.le_of_ble_eq_true rfl) dX6_odds_36 ?_
        rintro v9 M9 ⟨r10, rfl, h⟩
        show V X 39 _ [.int r10] M9
        exact V_iret C dX6_odds_39 (hQ _ _ h)
    · have h := h.2 hc
      refine V_aload_n C 0 dX6_odds_18 rfl ?_
      refine V_bipush C (-2) dX6_odds_19 (by decide) ?_
      refine V_callV (As := [.int (-2)]) (st := []) C (c_X6_told hb h) Y_X6_told Z_X6_told (T := TX6) (N := 12) rfl (o6 hb) (ltN hH (by decide)) u_147 rfl rfl (Nat.le_of_ble_eq_true rfl) dX6_odds_21 ?_
      rintro v9 M11 ⟨r12, rfl, h⟩
      show V X 24 _ [.int r12] M11
      exact V_iret C dX6_odds_24 (hQ _ _ h)
set_option maxRecDepth 20000 in
set_option maxHeartbeats 1000000 in
theorem c_X6_odds {w : wU} {l : Launch} {b : Nat} {p1 : Int32} {p2 : Int32} {M : mM} {Q : Int32 → mM → Prop} (hb : isC w 6 b) (h : p_X6_odds b p1 p2 M Q) : CT w l 6 yX6_odds cX6_odds 3 (some .int) [.ref (uA w b), .int p1, .int p2] M (piI Q) := by
  refine CT.of (by decide +kernel) (Nat.le_of_ble_eq_true rfl) (fun X hw hH hl hP hN C => ?_)
  subst hw
  exact s_X6_odds C hH hN (fun r M1 q => by rw [hP]; exact ⟨r, rfl, q⟩) hb h
set_option maxRecDepth 20000 in
set_option maxHeartbeats 1000000 in
theorem s_X6_above_F34 {X : wX} (C : CX X cX6_above RX6 (some .int)) (hH : xH X = 6) (hN : xN X = 5) {b : Nat} {p1 : Int32} {M : mM} {Q : Int32 → mM → Prop} (hQ : ∀ r M, Q r M → xPo X (some (.int r)) M) (hb : isC (xW X) 6 b) {v2 : Int64} {v4 : Int32} {ag34 : (Int64 × Int32) → Prop} (hag34 : ∀ s, ag34 s → V X 34 [(0, vR X b), (1, .int p1), (2, .long (s.1)), (4, .int (s.2))] [] M) (h : p_X6_above_F34 b p1  M Q  ag34 v2 v4) : V X 34 [(0, vR X b), (1, .int p1), (2, .long v2), (4, .int v4)] [] M := by
  refine V_iload C 3 dX6_above_34 rfl ?_
  refine V_bipush C 21 dX6_above_36 (by decide) ?_
  refine V_icmp_ge (tgt := 72) C dX6_above_38 (by decide) (fun hc => ?_) (fun hc => ?_)
  · have h := h.1 hc
    refine V_aload_n C 0 dX6_above_72 rfl ?_
    refine V_getR C FL_RX6_51 (f6_7 hb) dX6_above_73 ?_
    refine V_lload_n C 2 dX6_above_76 rfl ?_
    refine V_aload_n C 0 dX6_above_77 rfl ?_
    refine V_getR C FL_RX6_44 (f6_6 hb) dX6_above_78 ?_
    refine V_getL C FL_RX6_158 (f1_12 (j6_70 hb)) dX6_above_81 ?_
    refine V_callV (As := [.long v2, .long (M.2 (b + 70) 12)]) (st := []) C (c_X0_setTo (j6_122 hb) h) Y_X0_setTo Z_X0_setTo (T := TX0) (N := 4) rfl (o0 (j6_122 hb)) (ltN hH (by decide)) u_177 rfl rfl (Nat.le_of_ble_eq_true rfl) dX6_above_84 ?_
    rintro v9 M4 ⟨rfl, h⟩
    show V X 87 _ [] M4
    refine V_iconst C 1 dX6_above_87 (by decide) ?_
    exact V_iret C dX6_above_88 (hQ _ _ h)
  · have h := h.2 hc
    refine V_iload C 3 dX6_above_41 rfl ?_
    refine V_callS (As := [.int v4]) (st := []) C (c_X6_upperOf  h) Y_X6_upperOf Z_X6_upperOf (ltN hH (by decide)) u_111 rfl rfl (Nat.le_of_ble_eq_true rfl) dX6_above_43 ?_
    rintro v9 M9 ⟨rfl, r5, rfl, h⟩
    show V X 46 _ [.int r5] M
    refine V_iconst C (-1) dX6_above_46 (by decide) ?_
    refine V_icmp_eq (tgt := 66) C dX6_above_47 (by decide) (fun hc => ?_) (fun hc => ?_)
    · have h := h.1 hc
      refine V_iinc (v := (v4 + 1)) (lv' := [(4, .int (v4 + 1)), (0, vR X b), (1, .int p1), (2, .long v2)]) C 3 (ltN hN (by decide)) dX6_above_66 rfl rfl rfl ?_
      refine V_goto (tgt := 34) C dX6_above_69 (by decide) ?_
      exact V_sub [1, 2, 3, 0] rfl (hag34 (v2, (v4 + 1)) h)
    · have h := h.2 hc
      refine V_lload_n C 2 dX6_above_50 rfl ?_
      refine V_aload_n C 0 dX6_above_51 rfl ?_
      refine V_getR C FL_RX6_44 (f6_6 hb) dX6_above_52 ?_
      refine V_iload_n C 1 dX6_above_55 rfl ?_
      refine V_bipush C 8 dX6_above_56 (by decide) ?_
      refine V_irem C dX6_above_58 (by decide) ?_
      refine V_iload C 3 dX6_above_59 rfl ?_
      refine V_callV (As := [.int (p1 - p1 / 8 * 8), .int v4]) (st := [.long v2]) C (c_X1_weightOf (j6_70 hb) h) Y_X1_weightOf Z_X1_weightOf (T := TX1) (N := 17) rfl (o1 (j6_70 hb)) (ltN hH (by decide)) u_178 rfl rfl (Nat.le_of_ble_eq_true rfl) dX6_above_61 ?_
      rintro v9 M9 ⟨rfl, r6, rfl, h⟩
      show V X 64 _ [.long r6, .long v2] M
      refine V_ladd C dX6_above_64 ?_
      refine V_lstore_n (lv' := [(2, .long (v2 + r6)), (0, vR X b), (1, .int p1), (4, .int v4)]) C (ltN hN (by decide)) dX6_above_65 rfl ?_
      refine V_iinc (v := (v4 + 1)) (lv' := [(4, .int (v4 + 1)), (2, .long (v2 + r6)), (0, vR X b), (1, .int p1)]) C 3 (ltN hN (by decide)) dX6_above_66 rfl rfl rfl ?_
      refine V_goto (tgt := 34) C dX6_above_69 (by decide) ?_
      exact V_sub [2, 3, 1, 0] rfl (hag34 ((v2 + r6), (v4 + 1)) h)
set_option maxRecDepth 20000 in
set_option maxHeartbeats 1000000 in
theorem s_X6_above {X : wX} (C : CX X cX6_above RX6 (some .int)) (hH : xH X = 6) (hN : xN X = 5) {b : Nat} {p1 : Int32} {M : mM} {Q : Int32 → mM → Prop} (hQ : ∀ r M, Q r M → xPo X (some (.int r)) M) (hb : isC (xW X) 6 b)   (h : p_X6_above b p1 M Q) : V X 0 [(0, vR X b), (1, .int p1)] [] M := by
  refine V_iload_n C 1 dX6_above_0 rfl ?_
  refine V_callS (As := [.int p1]) (st := []) C (c_X6_isCell  h) Y_X6_isCell Z_X6_isCell (ltN hH (by decide)) u_166 rfl rfl (Nat.le_of_ble_eq_true rfl) dX6_above_1 ?_
  rintro v9 M9 ⟨rfl, r1, rfl, h⟩
  show V X 4 _ [.int r1] M
  refine V_if_ne (tgt := 14) C dX6_above_4 (by decide) (fun hc => ?_) (fun hc => ?_)
  · have h := h.1 hc
    refine V_aload_n C 0 dX6_above_14 rfl ?_
    refine V_iload_n C 1 dX6_above_15 rfl ?_
    refine V_callV (As := [.int p1]) (st := []) C (c_X6_reckonAround hb h) Y_X6_reckonAround Z_X6_reckonAround (T := TX6) (N := 12) rfl (o6 hb) (ltN hH (by decide)) u_179 rfl rfl (Nat.le_of_ble_eq_true rfl) dX6_above_16 ?_
    rintro v9 M2 ⟨r3, rfl, h⟩
    show V X 19 _ [.int r3] M2
    refine V_if_ne (tgt := 29) C dX6_above_19 (by decide) (fun hc => ?_) (fun hc => ?_)
    · have h := h.1 hc
      refine V_lconst C 0 dX6_above_29 (by decide) ?_
      refine V_lstore_n (lv' := [(2, .long 0), (0, vR X b), (1, .int p1)]) C (ltN hN (by decide)) dX6_above_30 rfl ?_
      refine V_iconst C 0 dX6_above_31 (by decide) ?_
      refine V_istore (lv' := [(4, .int 0), (2, .long 0), (0, vR X b), (1, .int p1)]) C (ltN hN (by decide)) dX6_above_32 rfl ?_
      refine V_sub [2, 3, 1, 0] rfl ?_
      exact Loop.sound (s0 := ((0 : Int64), (0 : Int32))) (P := fun s => V X 34 [(0, vR X b), (1, .int p1), (2, .long (s.1)), (4, .int (s.2))] [] M2) h (fun ag hag s hs => s_X6_above_F34 C hH hN hQ hb  hag hs)
    · have h := h.2 hc
      refine V_aload_n C 0 dX6_above_22 rfl ?_
      refine V_bipush C (-3) dX6_above_23 (by decide) ?_
      refine V_callV (As := [.int (-3)]) (st := []) C (c_X6_told hb h) Y_X6_told Z_X6_told (T := TX6) (N := 12) rfl (o6 hb) (ltN hH (by decide)) u_147 rfl rfl (Nat.le_of_ble_eq_true rfl) dX6_above_25 ?_
      rintro v9 M7 ⟨r8, rfl, h⟩
      show V X 28 _ [.int r8] M7
      exact V_iret C dX6_above_28 (hQ _ _ h)
  · have h := h.2 hc
    refine V_aload_n C 0 dX6_above_7 rfl ?_
    refine V_bipush C (-2) dX6_above_8 (by decide) ?_
    refine V_callV (As := [.int (-2)]) (st := []) C (c_X6_told hb h) Y_X6_told Z_X6_told (T := TX6) (N := 12) rfl (o6 hb) (ltN hH (by decide)) u_147 rfl rfl (Nat.le_of_ble_eq_true rfl) dX6_above_10 ?_
    rintro v9 M9 ⟨r10, rfl, h⟩
    show V X 13 _ [.int r10] M9
    exact V_iret C dX6_above_13 (hQ _ _ h)
set_option maxRecDepth 20000 in
set_option maxHeartbeats 1000000 in
theorem c_X6_above {w : wU} {l : Launch} {b : Nat} {p1 : Int32} {M : mM} {Q : Int32 → mM → Prop} (hb : isC w 6 b) (h : p_X6_above b p1 M Q) : CT w l 6 yX6_above cX6_above 5 (some .int) [.ref (uA w b), .int p1] M (piI Q) := by
  refine CT.of (by decide +kernel) (Nat.le_of_ble_eq_true rfl) (fun X hw hH hl hP hN C => ?_)
  subst hw
  exact s_X6_above C hH hN (fun r M1 q => by rw [hP]; exact ⟨r, rfl, q⟩) hb h
set_option maxRecDepth 20000 in
set_option maxHeartbeats 1000000 in
theorem s_X6_isHem {X : wX} (C : CX X cX6_isHem RX6 (some .boolean)) (hH : xH X = 1) (hN : xN X = 1) {p1 : Int32} {M : mM} {Q : Int32 → Prop} (hQ : ∀ r, Q r → xPo X (some (.int r)) M)    (h : p_X6_isHem p1 M Q) : V X 0 [(0, .int p1)] [] M := by
  refine V_iload_n C 0 dX6_isHem_0 rfl ?_
  refine V_iconst C 0 dX6_isHem_1 (by decide) ?_
  refine V_iconst C 5 dX6_isHem_2 (by decide) ?_
  refine V_callS (As := [.int p1, .int 0, .int 5]) (st := []) C (c_X6_within  h) Y_X6_within Z_X6_within (ltN hH (by decide)) u_101 rfl rfl (Nat.le_of_ble_eq_true rfl) dX6_isHem_3 ?_
  rintro v9 M9 ⟨rfl, r1, rfl, h⟩
  show V X 6 _ [.int r1] M
  exact V_zret C rfl h.1 dX6_isHem_6 (hQ _ h.2)
set_option maxRecDepth 20000 in
set_option maxHeartbeats 1000000 in
theorem c_X6_isHem {w : wU} {l : Launch} {p1 : Int32} {M : mM} {Q : Int32 → Prop}  (h : p_X6_isHem p1 M Q) : CT w l 1 yX6_isHem cX6_isHem 1 (some .boolean) [.int p1] M (poI M Q) := by
  refine CT.of (by decide +kernel) (Nat.le_of_ble_eq_true rfl) (fun X hw hH hl hP hN C => ?_)
  subst hw
  exact s_X6_isHem C hH hN (fun r q => by rw [hP]; exact ⟨rfl, r, rfl, q⟩)  h
set_option maxRecDepth 20000 in
set_option maxHeartbeats 1000000 in
theorem s_X6_likeliest {X : wX} (C : CX X cX6_likeliest RX6 (some .int)) (hH : xH X = 5) (hN : xN X = 3) {b : Nat} {p1 : Int32} {p2 : Int32} {M : mM} {Q : Int32 → mM → Prop} (hQ : ∀ r M, Q r M → xPo X (some (.int r)) M) (hb : isC (xW X) 6 b)   (h : p_X6_likeliest b p1 p2 M Q) : V X 0 [(0, vR X b), (1, .int p1), (2, .int p2)] [] M := by
  refine V_iload_n C 1 dX6_likeliest_0 rfl ?_
  refine V_callS (As := [.int p1]) (st := []) C (c_X6_isHem  h) Y_X6_isHem Z_X6_isHem (ltN hH (by decide)) u_182 rfl rfl (Nat.le_of_ble_eq_true rfl) dX6_likeliest_1 ?_
  rintro v9 M9 ⟨rfl, r1, rfl, h⟩
  show V X 4 _ [.int r1] M
  refine V_if_eq (tgt := 17) C dX6_likeliest_4 (by decide) (fun hc => ?_) (fun hc => ?_)
  · have h := h.1 hc
    refine V_aload_n C 0 dX6_likeliest_17 rfl ?_
    refine V_bipush C (-2) dX6_likeliest_18 (by decide) ?_
    refine V_callV (As := [.int (-2)]) (st := []) C (c_X6_told hb h) Y_X6_told Z_X6_told (T := TX6) (N := 12) rfl (o6 hb) (ltN hH (by decide)) u_147 rfl rfl (Nat.le_of_ble_eq_true rfl) dX6_likeliest_20 ?_
    rintro v9 M2 ⟨r3, rfl, h⟩
    show V X 23 _ [.int r3] M2
    exact V_iret C dX6_likeliest_23 (hQ _ _ h)
  · have h := h.2 hc
    refine V_iload_n C 2 dX6_likeliest_7 rfl ?_
    refine V_iconst C 0 dX6_likeliest_8 (by decide) ?_
    refine V_bipush C 7 dX6_likeliest_9 (by decide) ?_
    refine V_callS (As := [.int p2, .int 0, .int 7]) (st := []) C (c_X6_within  h) Y_X6_within Z_X6_within (ltN hH (by decide)) u_101 rfl rfl (Nat.le_of_ble_eq_true rfl) dX6_likeliest_11 ?_
    rintro v9 M9 ⟨rfl, r4, rfl, h⟩
    show V X 14 _ [.int r4] M
    refine V_if_ne (tgt := 24) C dX6_likeliest_14 (by decide) (fun hc => ?_) (fun hc => ?_)
    · have h := h.1 hc
      refine V_aload_n C 0 dX6_likeliest_24 rfl ?_
      refine V_aload_n C 0 dX6_likeliest_25 rfl ?_
      refine V_getR C FL_RX6_10 (f6_0 hb) dX6_likeliest_26 ?_
      refine V_iload_n C 1 dX6_likeliest_29 rfl ?_
      refine V_callV (As := [vR X (b + 1), .int p1]) (st := []) C (c_X6_lookAt hb (j6_1 hb) h) Y_X6_lookAt Z_X6_lookAt (T := TX6) (N := 12) rfl (o6 hb) (ltN hH (by decide)) u_173 rfl rfl (Nat.le_of_ble_eq_true rfl) dX6_likeliest_30 ?_
      rintro v9 M5 ⟨rfl, h⟩
      show V X 33 _ [] M5
      refine V_aload_n C 0 dX6_likeliest_33 rfl ?_
      refine V_getR C FL_RX6_44 (f6_6 hb) dX6_likeliest_34 ?_
      refine V_iconst C 0 dX6_likeliest_37 (by decide) ?_
      refine V_callV (As := [.int 0]) (st := []) C (c_X1_canBe (j6_70 hb) h) Y_X1_canBe Z_X1_canBe (T := TX1) (N := 17) rfl (o1 (j6_70 hb)) (ltN hH (by decide)) u_181 rfl rfl (Nat.le_of_ble_eq_true rfl) dX6_likeliest_38 ?_
      rintro v9 M6 ⟨r7, rfl, h⟩
      show V X 41 _ [.int r7] M6
      refine V_if_eq (tgt := 55) C dX6_likeliest_41 (by decide) (fun hc => ?_) (fun hc => ?_)
      · have h := h.1 hc
        refine V_aload_n C 0 dX6_likeliest_55 rfl ?_
        refine V_bipush C (-3) dX6_likeliest_56 (by decide) ?_
        refine V_callV (As := [.int (-3)]) (st := []) C (c_X6_told hb h) Y_X6_told Z_X6_told (T := TX6) (N := 12) rfl (o6 hb) (ltN hH (by decide)) u_147 rfl rfl (Nat.le_of_ble_eq_true rfl) dX6_likeliest_58 ?_
        rintro v9 M8 ⟨r9, rfl, h⟩
        show V X 61 _ [.int r9] M8
        exact V_iret C dX6_likeliest_61 (hQ _ _ h)
      · have h := h.2 hc
        refine V_aload_n C 0 dX6_likeliest_44 rfl ?_
        refine V_getR C FL_RX6_44 (f6_6 hb) dX6_likeliest_45 ?_
        refine V_iload_n C 2 dX6_likeliest_48 rfl ?_
        refine V_callV (As := [.int p2]) (st := []) C (c_X1_likeliestAt (j6_70 hb) h) Y_X1_likeliestAt Z_X1_likeliestAt (T := TX1) (N := 17) rfl (o1 (j6_70 hb)) (ltN hH (by decide)) u_180 rfl rfl (Nat.le_of_ble_eq_true rfl) dX6_likeliest_49 ?_
        rintro v9 M10 ⟨r11, rfl, h⟩
        show V X 52 _ [.int r11] M10
        refine V_goto (tgt := 61) C dX6_likeliest_52 (by decide) ?_
        exact V_iret C dX6_likeliest_61 (hQ _ _ h)
    · have h := h.2 hc
      refine V_aload_n C 0 dX6_likeliest_17 rfl ?_
      refine V_bipush C (-2) dX6_likeliest_18 (by decide) ?_
      refine V_callV (As := [.int (-2)]) (st := []) C (c_X6_told hb h) Y_X6_told Z_X6_told (T := TX6) (N := 12) rfl (o6 hb) (ltN hH (by decide)) u_147 rfl rfl (Nat.le_of_ble_eq_true rfl) dX6_likeliest_20 ?_
      rintro v9 M12 ⟨r13, rfl, h⟩
      show V X 23 _ [.int r13] M12
      exact V_iret C dX6_likeliest_23 (hQ _ _ h)
set_option maxRecDepth 20000 in
set_option maxHeartbeats 1000000 in
theorem c_X6_likeliest {w : wU} {l : Launch} {b : Nat} {p1 : Int32} {p2 : Int32} {M : mM} {Q : Int32 → mM → Prop} (hb : isC w 6 b) (h : p_X6_likeliest b p1 p2 M Q) : CT w l 5 yX6_likeliest cX6_likeliest 3 (some .int) [.ref (uA w b), .int p1, .int p2] M (piI Q) := by
  refine CT.of (by decide +kernel) (Nat.le_of_ble_eq_true rfl) (fun X hw hH hl hP hN C => ?_)
  subst hw
  exact s_X6_likeliest C hH hN (fun r M1 q => by rw [hP]; exact ⟨r, rfl, q⟩) hb h
set_option maxRecDepth 20000 in
set_option maxHeartbeats 1000000 in
theorem s_X6_multiplyHems_F18 {X : wX} (C : CX X cX6_multiplyHems RX6 (none)) (hH : xH X = 4) (hN : xN X = 3) {b : Nat} {p1 : Nat} {M : mM} {Q : mM → Prop} (hQ : ∀ M, Q M → xPo X none M) (hb : isC (xW X) 6 b) (h1 : isC (xW X) 2 p1) {v2 : Int32} {ag18 : (Int32 × mM) → Prop} (hag18 : ∀ s, ag18 s → V X 18 [(0, vR X b), (1, vR X p1), (2, .int (s.1))] [] (s.2)) (h : p_X6_multiplyHems_F18 b p1  Q  ag18 v2 M) : V X 18 [(0, vR X b), (1, vR X p1), (2, .int v2)] [] M := by
  refine V_iload_n C 2 dX6_multiplyHems_18 rfl ?_
  refine V_bipush C 6 dX6_multiplyHems_19 (by decide) ?_
  refine V_icmp_ge (tgt := 74) C dX6_multiplyHems_21 (by decide) (fun hc => ?_) (fun hc => ?_)
  · have h := h.1 hc
    exact V_vret C dX6_multiplyHems_74 (hQ _ h)
  · have h := h.2 hc
    refine V_aload_n C 0 dX6_multiplyHems_24 rfl ?_
    refine V_getR C FL_RX6_58 (f6_8 hb) dX6_multiplyHems_25 ?_
    refine V_callV (As := []) (st := []) C (c_X5_isZero (j6_135 hb) h) Y_X5_isZero Z_X5_isZero (T := TX5) (N := 3) rfl (o5 (j6_135 hb)) (ltN hH (by decide)) u_186 rfl rfl (Nat.le_of_ble_eq_true rfl) dX6_multiplyHems_28 ?_
    rintro v9 M9 ⟨rfl, r3, rfl, h⟩
    show V X 31 _ [.int r3] M
    refine V_if_ne (tgt := 74) C dX6_multiplyHems_31 (by decide) (fun hc => ?_) (fun hc => ?_)
    · have h := h.1 hc
      exact V_vret C dX6_multiplyHems_74 (hQ _ h)
    · have h := h.2 hc
      refine V_aload_n C 0 dX6_multiplyHems_34 rfl ?_
      refine V_getR C FL_RX6_44 (f6_6 hb) dX6_multiplyHems_35 ?_
      refine V_aload_n C 1 dX6_multiplyHems_38 rfl ?_
      refine V_aload_n C 0 dX6_multiplyHems_39 rfl ?_
      refine V_getR C FL_RX6_37 (f6_5 hb) dX6_multiplyHems_40 ?_
      refine V_iload_n C 2 dX6_multiplyHems_43 rfl ?_
      refine V_callV (As := [vR X p1, vR X (b + 54), .int v2]) (st := []) C (c_X1_look (j6_70 hb) h1 (j6_54 hb) h) Y_X1_look Z_X1_look (T := TX1) (N := 17) rfl (o1 (j6_70 hb)) (ltN hH (by decide)) u_170 rfl rfl (Nat.le_of_ble_eq_true rfl) dX6_multiplyHems_44 ?_
      rintro v9 M4 ⟨rfl, h⟩
      show V X 47 _ [] M4
      refine V_aload_n C 0 dX6_multiplyHems_47 rfl ?_
      refine V_getR C FL_RX6_44 (f6_6 hb) dX6_multiplyHems_48 ?_
      refine V_callV (As := []) (st := []) C (c_X1_reckonAhead (j6_70 hb) h) Y_X1_reckonAhead Z_X1_reckonAhead (T := TX1) (N := 17) rfl (o1 (j6_70 hb)) (ltN hH (by decide)) u_185 rfl rfl (Nat.le_of_ble_eq_true rfl) dX6_multiplyHems_51 ?_
      rintro v9 M5 ⟨rfl, h⟩
      show V X 54 _ [] M5
      refine V_aload_n C 0 dX6_multiplyHems_54 rfl ?_
      refine V_getR C FL_RX6_58 (f6_8 hb) dX6_multiplyHems_55 ?_
      refine V_aload_n C 0 dX6_multiplyHems_58 rfl ?_
      refine V_getR C FL_RX6_44 (f6_6 hb) dX6_multiplyHems_59 ?_
      refine V_getL C FL_RX6_158 (f1_12 (j6_70 hb)) dX6_multiplyHems_62 ?_
      refine V_callV (As := [.long (M5.2 (b + 70) 12)]) (st := []) C (c_X5_multiply (j6_135 hb) h) Y_X5_multiply Z_X5_multiply (T := TX5) (N := 3) rfl (o5 (j6_135 hb)) (ltN hH (by decide)) u_184 rfl rfl (Nat.le_of_ble_eq_true rfl) dX6_multiplyHems_65 ?_
      rintro v9 M6 ⟨rfl, h⟩
      show V X 68 _ [] M6
      refine V_iinc (v := (v2 + 1)) (lv' := [(2, .int (v2 + 1)), (0, vR X b), (1, vR X p1)]) C 2 (ltN hN (by decide)) dX6_multiplyHems_68 rfl rfl rfl ?_
      refine V_goto (tgt := 18) C dX6_multiplyHems_71 (by decide) ?_
      exact V_sub [1, 2, 0] rfl (hag18 ((v2 + 1), M6) h)
set_option maxRecDepth 20000 in
set_option maxHeartbeats 1000000 in
theorem s_X6_multiplyHems {X : wX} (C : CX X cX6_multiplyHems RX6 (none)) (hH : xH X = 4) (hN : xN X = 3) {b : Nat} {p1 : Nat} {M : mM} {Q : mM → Prop} (hQ : ∀ M, Q M → xPo X none M) (hb : isC (xW X) 6 b) (h1 : isC (xW X) 2 p1)   (h : p_X6_multiplyHems b p1 M Q) : V X 0 [(0, vR X b), (1, vR X p1)] [] M := by
  refine V_aload_n C 0 dX6_multiplyHems_0 rfl ?_
  refine V_getR C FL_RX6_58 (f6_8 hb) dX6_multiplyHems_1 ?_
  refine V_lconst C 1 dX6_multiplyHems_4 (by decide) ?_
  refine V_callV (As := [.long 1]) (st := []) C (c_X5_set (j6_135 hb) h) Y_X5_set Z_X5_set (T := TX5) (N := 3) rfl (o5 (j6_135 hb)) (ltN hH (by decide)) u_187 rfl rfl (Nat.le_of_ble_eq_true rfl) dX6_multiplyHems_5 ?_
  rintro v9 M1 ⟨rfl, h⟩
  show V X 8 _ [] M1
  refine V_aload_n C 0 dX6_multiplyHems_8 rfl ?_
  refine V_getR C FL_RX6_37 (f6_5 hb) dX6_multiplyHems_9 ?_
  refine V_aload_n C 1 dX6_multiplyHems_12 rfl ?_
  refine V_callV (As := [vR X p1]) (st := []) C (c_X4_take (j6_54 hb) h1 h) Y_X4_take Z_X4_take (T := TX4) (N := 3) rfl (o4 (j6_54 hb)) (ltN hH (by decide)) u_171 rfl rfl (Nat.le_of_ble_eq_true rfl) dX6_multiplyHems_13 ?_
  rintro v9 M2 ⟨rfl, h⟩
  show V X 16 _ [] M2
  refine V_iconst C 0 dX6_multiplyHems_16 (by decide) ?_
  refine V_istore_n (lv' := [(2, .int 0), (0, vR X b), (1, vR X p1)]) C (ltN hN (by decide)) dX6_multiplyHems_17 rfl ?_
  refine V_sub [1, 2, 0] rfl ?_
  exact Loop.sound (s0 := ((0 : Int32), M2)) (P := fun s => V X 18 [(0, vR X b), (1, vR X p1), (2, .int (s.1))] [] (s.2)) h (fun ag hag s hs => s_X6_multiplyHems_F18 C hH hN hQ hb h1  hag hs)
set_option maxRecDepth 20000 in
set_option maxHeartbeats 1000000 in
theorem c_X6_multiplyHems {w : wU} {l : Launch} {b : Nat} {p1 : Nat} {M : mM} {Q : mM → Prop} (hb : isC w 6 b) (h1 : isC w 2 p1) (h : p_X6_multiplyHems b p1 M Q) : CT w l 4 yX6_multiplyHems cX6_multiplyHems 3 (none) [.ref (uA w b), .ref (uA w p1)] M (piV Q) := by
  refine CT.of (by decide +kernel) (Nat.le_of_ble_eq_true rfl) (fun X hw hH hl hP hN C => ?_)
  subst hw
  exact s_X6_multiplyHems C hH hN (fun M1 q => by rw [hP]; exact ⟨rfl, q⟩) hb h1 h
set_option maxRecDepth 20000 in
set_option maxHeartbeats 1000000 in
theorem s_X6_stood_F37 {X : wX} (C : CX X cX6_stood RX6 (some .int)) (hH : xH X = 5) (hN : xN X = 3) {b : Nat} {p1 : Int32} {M : mM} {Q : Int32 → mM → Prop} (hQ : ∀ r M, Q r M → xPo X (some (.int r)) M) (hb : isC (xW X) 6 b) {v2 : Int32} {ag37 : (Int32 × mM) → Prop} (hag37 : ∀ s, ag37 s → V X 37 [(0, vR X b), (1, .int p1), (2, .int (s.1))] [] (s.2)) (h : p_X6_stood_F37 b p1  Q  ag37 v2 M) : V X 37 [(0, vR X b), (1, .int p1), (2, .int v2)] [] M := by
  refine V_iload_n C 2 dX6_stood_37 rfl ?_
  refine V_iconst C 4 dX6_stood_38 (by decide) ?_
  refine V_icmp_ge (tgt := 93) C dX6_stood_39 (by decide) (fun hc => ?_) (fun hc => ?_)
  · have h := h.1 hc
    refine V_aload_n C 0 dX6_stood_93 rfl ?_
    refine V_getR C FL_RX6_65 (f6_10 hb) dX6_stood_94 ?_
    refine V_callV (As := []) (st := []) C (c_X5_isZero (j6_141 hb) h) Y_X5_isZero Z_X5_isZero (T := TX5) (N := 3) rfl (o5 (j6_141 hb)) (ltN hH (by decide)) u_186 rfl rfl (Nat.le_of_ble_eq_true rfl) dX6_stood_97 ?_
    rintro v9 M9 ⟨rfl, r4, rfl, h⟩
    show V X 100 _ [.int r4] M
    refine V_if_eq (tgt := 110) C dX6_stood_100 (by decide) (fun hc => ?_) (fun hc => ?_)
    · have h := h.1 hc
      refine V_aload_n C 0 dX6_stood_110 rfl ?_
      refine V_getR C FL_RX6_51 (f6_7 hb) dX6_stood_111 ?_
      refine V_aload_n C 0 dX6_stood_114 rfl ?_
      refine V_getR C FL_RX6_62 (f6_9 hb) dX6_stood_115 ?_
      refine V_aload_n C 0 dX6_stood_118 rfl ?_
      refine V_getR C FL_RX6_65 (f6_10 hb) dX6_stood_119 ?_
      refine V_callV (As := [vR X (b + 138), vR X (b + 141)]) (st := []) C (c_X0_setTo_ (j6_122 hb) (j6_138 hb) (j6_141 hb) h) Y_X0_setTo_ Z_X0_setTo_ (T := TX0) (N := 4) rfl (o0 (j6_122 hb)) (ltN hH (by decide)) u_190 rfl rfl (Nat.le_of_ble_eq_true rfl) dX6_stood_122 ?_
      rintro v9 M5 ⟨rfl, h⟩
      show V X 125 _ [] M5
      refine V_iconst C 1 dX6_stood_125 (by decide) ?_
      exact V_iret C dX6_stood_126 (hQ _ _ h)
    · have h := h.2 hc
      refine V_aload_n C 0 dX6_stood_103 rfl ?_
      refine V_bipush C (-3) dX6_stood_104 (by decide) ?_
      refine V_callV (As := [.int (-3)]) (st := []) C (c_X6_told hb h) Y_X6_told Z_X6_told (T := TX6) (N := 12) rfl (o6 hb) (ltN hH (by decide)) u_147 rfl rfl (Nat.le_of_ble_eq_true rfl) dX6_stood_106 ?_
      rintro v9 M6 ⟨r7, rfl, h⟩
      show V X 109 _ [.int r7] M6
      exact V_iret C dX6_stood_109 (hQ _ _ h)
  · have h := h.2 hc
    refine V_aload_n C 0 dX6_stood_42 rfl ?_
    refine V_getR C FL_RX6_16 (f6_1 hb) dX6_stood_43 ?_
    refine V_iconst C 5 dX6_stood_46 (by decide) ?_
    refine V_iload_n C 2 dX6_stood_47 rfl ?_
    refine V_callV (As := [.int 5, .int v2]) (st := []) C (c_X2_set (j6_13 hb) h) Y_X2_set Z_X2_set (T := TX2) (N := 13) rfl (o2 (j6_13 hb)) (ltN hH (by decide)) u_149 rfl rfl (Nat.le_of_ble_eq_true rfl) dX6_stood_48 ?_
    rintro v9 M8 ⟨r9, rfl, h⟩
    show V X 51 _ [.int r9] M8
    refine V_pop C dX6_stood_51 rfl ?_
    refine V_aload_n C 0 dX6_stood_52 rfl ?_
    refine V_aload_n C 0 dX6_stood_53 rfl ?_
    refine V_getR C FL_RX6_16 (f6_1 hb) dX6_stood_54 ?_
    refine V_callV (As := [vR X (b + 13)]) (st := []) C (c_X6_multiplyHems hb (j6_13 hb) h) Y_X6_multiplyHems Z_X6_multiplyHems (T := TX6) (N := 12) rfl (o6 hb) (ltN hH (by decide)) u_193 rfl rfl (Nat.le_of_ble_eq_true rfl) dX6_stood_57 ?_
    rintro v9 M10 ⟨rfl, h⟩
    show V X 60 _ [] M10
    refine V_aload_n C 0 dX6_stood_60 rfl ?_
    refine V_getR C FL_RX6_65 (f6_10 hb) dX6_stood_61 ?_
    refine V_aload_n C 0 dX6_stood_64 rfl ?_
    refine V_getR C FL_RX6_58 (f6_8 hb) dX6_stood_65 ?_
    refine V_callV (As := [vR X (b + 135)]) (st := []) C (c_X5_add (j6_141 hb) (j6_135 hb) h) Y_X5_add Z_X5_add (T := TX5) (N := 3) rfl (o5 (j6_141 hb)) (ltN hH (by decide)) u_192 rfl rfl (Nat.le_of_ble_eq_true rfl) dX6_stood_68 ?_
    rintro v9 M11 ⟨rfl, h⟩
    show V X 71 _ [] M11
    refine V_iload_n C 2 dX6_stood_71 rfl ?_
    refine V_iload_n C 1 dX6_stood_72 rfl ?_
    refine V_icmp_ne (tgt := 87) C dX6_stood_73 (by decide) (fun hc => ?_) (fun hc => ?_)
    · have h := h.1 hc
      refine V_iinc (v := (v2 + 1)) (lv' := [(2, .int (v2 + 1)), (0, vR X b), (1, .int p1)]) C 2 (ltN hN (by decide)) dX6_stood_87 rfl rfl rfl ?_
      refine V_goto (tgt := 37) C dX6_stood_90 (by decide) ?_
      exact V_sub [1, 2, 0] rfl (hag37 ((v2 + 1), M11) h)
    · have h := h.2 hc
      refine V_aload_n C 0 dX6_stood_76 rfl ?_
      refine V_getR C FL_RX6_62 (f6_9 hb) dX6_stood_77 ?_
      refine V_aload_n C 0 dX6_stood_80 rfl ?_
      refine V_getR C FL_RX6_58 (f6_8 hb) dX6_stood_81 ?_
      refine V_callV (As := [vR X (b + 135)]) (st := []) C (c_X5_become (j6_138 hb) (j6_135 hb) h) Y_X5_become Z_X5_become (T := TX5) (N := 3) rfl (o5 (j6_138 hb)) (ltN hH (by decide)) u_191 rfl rfl (Nat.le_of_ble_eq_true rfl) dX6_stood_84 ?_
      rintro v9 M12 ⟨rfl, h⟩
      show V X 87 _ [] M12
      refine V_iinc (v := (v2 + 1)) (lv' := [(2, .int (v2 + 1)), (0, vR X b), (1, .int p1)]) C 2 (ltN hN (by decide)) dX6_stood_87 rfl rfl rfl ?_
      refine V_goto (tgt := 37) C dX6_stood_90 (by decide) ?_
      exact V_sub [1, 2, 0] rfl (hag37 ((v2 + 1), M12) h)
set_option maxRecDepth 20000 in
set_option maxHeartbeats 1000000 in
theorem s_X6_stood {X : wX} (C : CX X cX6_stood RX6 (some .int)) (hH : xH X = 5) (hN : xN X = 3) {b : Nat} {p1 : Int32} {M : mM} {Q : Int32 → mM → Prop} (hQ : ∀ r M, Q r M → xPo X (some (.int r)) M) (hb : isC (xW X) 6 b)   (h : p_X6_stood b p1 M Q) : V X 0 [(0, vR X b), (1, .int p1)] [] M := by
  refine V_iload_n C 1 dX6_stood_0 rfl ?_
  refine V_iconst C 0 dX6_stood_1 (by decide) ?_
  refine V_iconst C 3 dX6_stood_2 (by decide) ?_
  refine V_callS (As := [.int p1, .int 0, .int 3]) (st := []) C (c_X6_within  h) Y_X6_within Z_X6_within (ltN hH (by decide)) u_101 rfl rfl (Nat.le_of_ble_eq_true rfl) dX6_stood_3 ?_
  rintro v9 M9 ⟨rfl, r1, rfl, h⟩
  show V X 6 _ [.int r1] M
  refine V_if_ne (tgt := 16) C dX6_stood_6 (by decide) (fun hc => ?_) (fun hc => ?_)
  · have h := h.1 hc
    refine V_aload_n C 0 dX6_stood_16 rfl ?_
    refine V_getR C FL_RX6_16 (f6_1 hb) dX6_stood_17 ?_
    refine V_aload_n C 0 dX6_stood_20 rfl ?_
    refine V_getR C FL_RX6_10 (f6_0 hb) dX6_stood_21 ?_
    refine V_callV (As := [vR X (b + 1)]) (st := []) C (c_X2_become (j6_13 hb) (j6_1 hb) h) Y_X2_become Z_X2_become (T := TX2) (N := 13) rfl (o2 (j6_13 hb)) (ltN hH (by decide)) u_158 rfl rfl (Nat.le_of_ble_eq_true rfl) dX6_stood_24 ?_
    rintro v9 M2 ⟨rfl, h⟩
    show V X 27 _ [] M2
    refine V_aload_n C 0 dX6_stood_27 rfl ?_
    refine V_getR C FL_RX6_65 (f6_10 hb) dX6_stood_28 ?_
    refine V_lconst C 0 dX6_stood_31 (by decide) ?_
    refine V_callV (As := [.long 0]) (st := []) C (c_X5_set (j6_141 hb) h) Y_X5_set Z_X5_set (T := TX5) (N := 3) rfl (o5 (j6_141 hb)) (ltN hH (by decide)) u_187 rfl rfl (Nat.le_of_ble_eq_true rfl) dX6_stood_32 ?_
    rintro v9 M3 ⟨rfl, h⟩
    show V X 35 _ [] M3
    refine V_iconst C 0 dX6_stood_35 (by decide) ?_
    refine V_istore_n (lv' := [(2, .int 0), (0, vR X b), (1, .int p1)]) C (ltN hN (by decide)) dX6_stood_36 rfl ?_
    refine V_sub [1, 2, 0] rfl ?_
    exact Loop.sound (s0 := ((0 : Int32), M3)) (P := fun s => V X 37 [(0, vR X b), (1, .int p1), (2, .int (s.1))] [] (s.2)) h (fun ag hag s hs => s_X6_stood_F37 C hH hN hQ hb  hag hs)
  · have h := h.2 hc
    refine V_aload_n C 0 dX6_stood_9 rfl ?_
    refine V_bipush C (-2) dX6_stood_10 (by decide) ?_
    refine V_callV (As := [.int (-2)]) (st := []) C (c_X6_told hb h) Y_X6_told Z_X6_told (T := TX6) (N := 12) rfl (o6 hb) (ltN hH (by decide)) u_147 rfl rfl (Nat.le_of_ble_eq_true rfl) dX6_stood_12 ?_
    rintro v9 M13 ⟨r14, rfl, h⟩
    show V X 15 _ [.int r14] M13
    exact V_iret C dX6_stood_15 (hQ _ _ h)
set_option maxRecDepth 20000 in
set_option maxHeartbeats 1000000 in
theorem c_X6_stood {w : wU} {l : Launch} {b : Nat} {p1 : Int32} {M : mM} {Q : Int32 → mM → Prop} (hb : isC w 6 b) (h : p_X6_stood b p1 M Q) : CT w l 5 yX6_stood cX6_stood 3 (some .int) [.ref (uA w b), .int p1] M (piI Q) := by
  refine CT.of (by decide +kernel) (Nat.le_of_ble_eq_true rfl) (fun X hw hH hl hP hN C => ?_)
  subst hw
  exact s_X6_stood C hH hN (fun r M1 q => by rw [hP]; exact ⟨r, rfl, q⟩) hb h
set_option maxRecDepth 20000 in
set_option maxHeartbeats 1000000 in
theorem s_X6_allHemsCanBe_F10 {X : wX} (C : CX X cX6_allHemsCanBe RX6 (some .boolean)) (hH : xH X = 4) (hN : xN X = 3) {b : Nat} {p1 : Nat} {M : mM} {Q : Int32 → mM → Prop} (hQ : ∀ r M, Q r M → xPo X (some (.int r)) M) (hb : isC (xW X) 6 b) (h1 : isC (xW X) 2 p1) {v2 : Int32} {ag10 : (Int32 × mM) → Prop} (hag10 : ∀ s, ag10 s → V X 10 [(0, vR X b), (1, vR X p1), (2, .int (s.1))] [] (s.2)) (h : p_X6_allHemsCanBe_F10 b p1  Q  ag10 v2 M) : V X 10 [(0, vR X b), (1, vR X p1), (2, .int v2)] [] M := by
  refine V_iload_n C 2 dX6_allHemsCanBe_10 rfl ?_
  refine V_bipush C 6 dX6_allHemsCanBe_11 (by decide) ?_
  refine V_icmp_ge (tgt := 48) C dX6_allHemsCanBe_13 (by decide) (fun hc => ?_) (fun hc => ?_)
  · have h := h.1 hc
    refine V_iconst C 1 dX6_allHemsCanBe_48 (by decide) ?_
    exact V_zret C rfl (by decide) dX6_allHemsCanBe_49 (hQ _ _ h)
  · have h := h.2 hc
    refine V_aload_n C 0 dX6_allHemsCanBe_16 rfl ?_
    refine V_getR C FL_RX6_44 (f6_6 hb) dX6_allHemsCanBe_17 ?_
    refine V_aload_n C 1 dX6_allHemsCanBe_20 rfl ?_
    refine V_aload_n C 0 dX6_allHemsCanBe_21 rfl ?_
    refine V_getR C FL_RX6_37 (f6_5 hb) dX6_allHemsCanBe_22 ?_
    refine V_iload_n C 2 dX6_allHemsCanBe_25 rfl ?_
    refine V_callV (As := [vR X p1, vR X (b + 54), .int v2]) (st := []) C (c_X1_look (j6_70 hb) h1 (j6_54 hb) h) Y_X1_look Z_X1_look (T := TX1) (N := 17) rfl (o1 (j6_70 hb)) (ltN hH (by decide)) u_170 rfl rfl (Nat.le_of_ble_eq_true rfl) dX6_allHemsCanBe_26 ?_
    rintro v9 M2 ⟨rfl, h⟩
    show V X 29 _ [] M2
    refine V_aload_n C 0 dX6_allHemsCanBe_29 rfl ?_
    refine V_getR C FL_RX6_44 (f6_6 hb) dX6_allHemsCanBe_30 ?_
    refine V_iconst C 0 dX6_allHemsCanBe_33 (by decide) ?_
    refine V_callV (As := [.int 0]) (st := []) C (c_X1_canBe (j6_70 hb) h) Y_X1_canBe Z_X1_canBe (T := TX1) (N := 17) rfl (o1 (j6_70 hb)) (ltN hH (by decide)) u_181 rfl rfl (Nat.le_of_ble_eq_true rfl) dX6_allHemsCanBe_34 ?_
    rintro v9 M3 ⟨r4, rfl, h⟩
    show V X 37 _ [.int r4] M3
    refine V_if_ne (tgt := 42) C dX6_allHemsCanBe_37 (by decide) (fun hc => ?_) (fun hc => ?_)
    · have h := h.1 hc
      refine V_iinc (v := (v2 + 1)) (lv' := [(2, .int (v2 + 1)), (0, vR X b), (1, vR X p1)]) C 2 (ltN hN (by decide)) dX6_allHemsCanBe_42 rfl rfl rfl ?_
      refine V_goto (tgt := 10) C dX6_allHemsCanBe_45 (by decide) ?_
      exact V_sub [1, 2, 0] rfl (hag10 ((v2 + 1), M3) h)
    · have h := h.2 hc
      refine V_iconst C 0 dX6_allHemsCanBe_40 (by decide) ?_
      exact V_zret C rfl (by decide) dX6_allHemsCanBe_41 (hQ _ _ h)
set_option maxRecDepth 20000 in
set_option maxHeartbeats 1000000 in
theorem s_X6_allHemsCanBe {X : wX} (C : CX X cX6_allHemsCanBe RX6 (some .boolean)) (hH : xH X = 4) (hN : xN X = 3) {b : Nat} {p1 : Nat} {M : mM} {Q : Int32 → mM → Prop} (hQ : ∀ r M, Q r M → xPo X (some (.int r)) M) (hb : isC (xW X) 6 b) (h1 : isC (xW X) 2 p1)   (h : p_X6_allHemsCanBe b p1 M Q) : V X 0 [(0, vR X b), (1, vR X p1)] [] M := by
  refine V_aload_n C 0 dX6_allHemsCanBe_0 rfl ?_
  refine V_getR C FL_RX6_37 (f6_5 hb) dX6_allHemsCanBe_1 ?_
  refine V_aload_n C 1 dX6_allHemsCanBe_4 rfl ?_
  refine V_callV (As := [vR X p1]) (st := []) C (c_X4_take (j6_54 hb) h1 h) Y_X4_take Z_X4_take (T := TX4) (N := 3) rfl (o4 (j6_54 hb)) (ltN hH (by decide)) u_171 rfl rfl (Nat.le_of_ble_eq_true rfl) dX6_allHemsCanBe_5 ?_
  rintro v9 M1 ⟨rfl, h⟩
  show V X 8 _ [] M1
  refine V_iconst C 0 dX6_allHemsCanBe_8 (by decide) ?_
  refine V_istore_n (lv' := [(2, .int 0), (0, vR X b), (1, vR X p1)]) C (ltN hN (by decide)) dX6_allHemsCanBe_9 rfl ?_
  refine V_sub [1, 2, 0] rfl ?_
  exact Loop.sound (s0 := ((0 : Int32), M1)) (P := fun s => V X 10 [(0, vR X b), (1, vR X p1), (2, .int (s.1))] [] (s.2)) h (fun ag hag s hs => s_X6_allHemsCanBe_F10 C hH hN hQ hb h1  hag hs)
set_option maxRecDepth 20000 in
set_option maxHeartbeats 1000000 in
theorem c_X6_allHemsCanBe {w : wU} {l : Launch} {b : Nat} {p1 : Nat} {M : mM} {Q : Int32 → mM → Prop} (hb : isC w 6 b) (h1 : isC w 2 p1) (h : p_X6_allHemsCanBe b p1 M Q) : CT w l 4 yX6_allHemsCanBe cX6_allHemsCanBe 3 (some .boolean) [.ref (uA w b), .ref (uA w p1)] M (piI Q) := by
  refine CT.of (by decide +kernel) (Nat.le_of_ble_eq_true rfl) (fun X hw hH hl hP hN C => ?_)
  subst hw
  exact s_X6_allHemsCanBe C hH hN (fun r M1 q => by rw [hP]; exact ⟨r, rfl, q⟩) hb h1 h
set_option maxRecDepth 20000 in
set_option maxHeartbeats 1000000 in
theorem s_X6_span_J60 {X : wX} (C : CX X cX6_span RX6 (some .int)) (hH : xH X = 5) (hN : xN X = 5) {b : Nat} {p1 : Int32} {p2 : Int32} {M : mM} {Q : Int32 → mM → Prop} (hQ : ∀ r M, Q r M → xPo X (some (.int r)) M) (hb : isC (xW X) 6 b) {v3 : Int32} {s0 : Int32} {ag40 : (Int32 × mM) → Prop} (hag40 : ∀ s, ag40 s → V X 40 [(0, vR X b), (1, .int p1), (2, .int p2), (3, .int (s.1))] [] (s.2)) (h : p_X6_span_J60 b p1 p2 Q ag40 v3 s0 M) : V X 60 [(0, vR X b), (1, .int p1), (2, .int p2), (3, .int v3)] [.int s0] M := by
  refine V_istore (lv' := [(4, .int s0), (0, vR X b), (1, .int p1), (2, .int p2), (3, .int v3)]) C (ltN hN (by decide)) dX6_span_60 rfl ?_
  refine V_aload_n C 1 dX6_span_62 rfl ?_
  refine V_getR C FL_RX6_16 (f6_1 hb) dX6_span_63 ?_
  refine V_getR C FL_RX6_200 (f2_0 (j6_13 hb)) dX6_span_66 ?_
  refine V_iload_n C 2 dX6_span_69 rfl ?_
  refine V_iload C 0 dX6_span_70 rfl ?_
  obtain ⟨b7, h⟩ := h
  refine V_iast C (k2_1 (j6_13 hb)) b7 dX6_span_72 ?_
  refine V_nmM (fun M6 e_M6 => ?_)
  have h := h M6 e_M6
  refine V_aload_n C 1 dX6_span_73 rfl ?_
  refine V_aload_n C 1 dX6_span_74 rfl ?_
  refine V_getR C FL_RX6_16 (f6_1 hb) dX6_span_75 ?_
  refine V_callV (As := [vR X (b + 13)]) (st := []) C (c_X6_allHemsCanBe hb (j6_13 hb) h) Y_X6_allHemsCanBe Z_X6_allHemsCanBe (T := TX6) (N := 12) rfl (o6 hb) (ltN hH (by decide)) u_195 rfl rfl (Nat.le_of_ble_eq_true rfl) dX6_span_78 ?_
  rintro v9 M8 ⟨r9, rfl, h⟩
  show V X 81 _ [.int r9] M8
  refine V_if_eq (tgt := 87) C dX6_span_81 (by decide) (fun hc => ?_) (fun hc => ?_)
  · have h := h.1 hc
    refine V_iinc (v := (v3 + 1)) (lv' := [(3, .int (v3 + 1)), (4, .int s0), (0, vR X b), (1, .int p1), (2, .int p2)]) C 4 (ltN hN (by decide)) dX6_span_87 rfl rfl rfl ?_
    refine V_goto (tgt := 40) C dX6_span_90 (by decide) ?_
    exact V_sub [2, 3, 4, 0] rfl (hag40 ((v3 + 1), M8) h)
  · have h := h.2 hc
    refine V_iload C 0 dX6_span_84 rfl ?_
    exact V_iret C dX6_span_86 (hQ _ _ h)
set_option maxRecDepth 20000 in
set_option maxHeartbeats 1000000 in
theorem s_X6_span_F40 {X : wX} (C : CX X cX6_span RX6 (some .int)) (hH : xH X = 5) (hN : xN X = 5) {b : Nat} {p1 : Int32} {p2 : Int32} {M : mM} {Q : Int32 → mM → Prop} (hQ : ∀ r M, Q r M → xPo X (some (.int r)) M) (hb : isC (xW X) 6 b) {v3 : Int32} {ag40 : (Int32 × mM) → Prop} (hag40 : ∀ s, ag40 s → V X 40 [(0, vR X b), (1, .int p1), (2, .int p2), (3, .int (s.1))] [] (s.2)) (h : p_X6_span_F40 b p1 p2  Q  ag40 v3 M) : V X 40 [(0, vR X b), (1, .int p1), (2, .int p2), (3, .int v3)] [] M := by
  refine V_iload_n C 3 dX6_span_40 rfl ?_
  refine V_bipush C 60 dX6_span_41 (by decide) ?_
  refine V_icmp_ge (tgt := 93) C dX6_span_43 (by decide) (fun hc => ?_) (fun hc => ?_)
  · have h := h.1 hc
    refine V_iconst C (-1) dX6_span_93 (by decide) ?_
    exact V_iret C dX6_span_94 (hQ _ _ h)
  · have h := h.2 hc
    refine V_iload_n C 2 dX6_span_46 rfl ?_
    refine V_if_ne (tgt := 56) C dX6_span_47 (by decide) (fun hc => ?_) (fun hc => ?_)
    · have h := h.1 hc
      refine V_bipush C 60 dX6_span_56 (by decide) ?_
      refine V_iload_n C 3 dX6_span_58 rfl ?_
      refine V_isub C dX6_span_59 ?_
      exact V_sub [0, 1, 2, 3] rfl (s_X6_span_J60 C hH hN hQ hb hag40  h)
    · have h := h.2 hc
      refine V_iconst C 1 dX6_span_50 (by decide) ?_
      refine V_iload_n C 3 dX6_span_51 rfl ?_
      refine V_iadd C dX6_span_52 ?_
      refine V_goto (tgt := 60) C dX6_span_53 (by decide) ?_
      exact V_sub [0, 1, 2, 3] rfl (s_X6_span_J60 C hH hN hQ hb hag40  h)
set_option maxRecDepth 20000 in
set_option maxHeartbeats 1000000 in
theorem s_X6_span {X : wX} (C : CX X cX6_span RX6 (some .int)) (hH : xH X = 5) (hN : xN X = 5) {b : Nat} {p1 : Int32} {p2 : Int32} {M : mM} {Q : Int32 → mM → Prop} (hQ : ∀ r M, Q r M → xPo X (some (.int r)) M) (hb : isC (xW X) 6 b)   (h : p_X6_span b p1 p2 M Q) : V X 0 [(0, vR X b), (1, .int p1), (2, .int p2)] [] M := by
  refine V_aload_n C 0 dX6_span_0 rfl ?_
  refine V_getR C FL_RX6_10 (f6_0 hb) dX6_span_1 ?_
  refine V_iload_n C 1 dX6_span_4 rfl ?_
  refine V_callV (As := [.int p1]) (st := []) C (c_X2_isStuff (j6_1 hb) h) Y_X2_isStuff Z_X2_isStuff (T := TX2) (N := 13) rfl (o2 (j6_1 hb)) (ltN hH (by decide)) u_196 rfl rfl (Nat.le_of_ble_eq_true rfl) dX6_span_5 ?_
  rintro v9 M9 ⟨rfl, r1, rfl, h⟩
  show V X 8 _ [.int r1] M
  refine V_if_eq (tgt := 20) C dX6_span_8 (by decide) (fun hc => ?_) (fun hc => ?_)
  · have h := h.1 hc
    refine V_aload_n C 0 dX6_span_20 rfl ?_
    refine V_bipush C (-2) dX6_span_21 (by decide) ?_
    refine V_callV (As := [.int (-2)]) (st := []) C (c_X6_told hb h) Y_X6_told Z_X6_told (T := TX6) (N := 12) rfl (o6 hb) (ltN hH (by decide)) u_147 rfl rfl (Nat.le_of_ble_eq_true rfl) dX6_span_23 ?_
    rintro v9 M2 ⟨r3, rfl, h⟩
    show V X 26 _ [.int r3] M2
    exact V_iret C dX6_span_26 (hQ _ _ h)
  · have h := h.2 hc
    refine V_iload_n C 2 dX6_span_11 rfl ?_
    refine V_iconst C 0 dX6_span_12 (by decide) ?_
    refine V_iconst C 1 dX6_span_13 (by decide) ?_
    refine V_callS (As := [.int p2, .int 0, .int 1]) (st := []) C (c_X6_within  h) Y_X6_within Z_X6_within (ltN hH (by decide)) u_101 rfl rfl (Nat.le_of_ble_eq_true rfl) dX6_span_14 ?_
    rintro v9 M9 ⟨rfl, r4, rfl, h⟩
    show V X 17 _ [.int r4] M
    refine V_if_ne (tgt := 27) C dX6_span_17 (by decide) (fun hc => ?_) (fun hc => ?_)
    · have h := h.1 hc
      refine V_aload_n C 0 dX6_span_27 rfl ?_
      refine V_getR C FL_RX6_16 (f6_1 hb) dX6_span_28 ?_
      refine V_aload_n C 0 dX6_span_31 rfl ?_
      refine V_getR C FL_RX6_10 (f6_0 hb) dX6_span_32 ?_
      refine V_callV (As := [vR X (b + 1)]) (st := []) C (c_X2_become (j6_13 hb) (j6_1 hb) h) Y_X2_become Z_X2_become (T := TX2) (N := 13) rfl (o2 (j6_13 hb)) (ltN hH (by decide)) u_158 rfl rfl (Nat.le_of_ble_eq_true rfl) dX6_span_35 ?_
      rintro v9 M5 ⟨rfl, h⟩
      show V X 38 _ [] M5
      refine V_iconst C 0 dX6_span_38 (by decide) ?_
      refine V_istore_n (lv' := [(3, .int 0), (0, vR X b), (1, .int p1), (2, .int p2)]) C (ltN hN (by decide)) dX6_span_39 rfl ?_
      refine V_sub [1, 2, 3, 0] rfl ?_
      exact Loop.sound (s0 := ((0 : Int32), M5)) (P := fun s => V X 40 [(0, vR X b), (1, .int p1), (2, .int p2), (3, .int (s.1))] [] (s.2)) h (fun ag hag s hs => s_X6_span_F40 C hH hN hQ hb  hag hs)
    · have h := h.2 hc
      refine V_aload_n C 0 dX6_span_20 rfl ?_
      refine V_bipush C (-2) dX6_span_21 (by decide) ?_
      refine V_callV (As := [.int (-2)]) (st := []) C (c_X6_told hb h) Y_X6_told Z_X6_told (T := TX6) (N := 12) rfl (o6 hb) (ltN hH (by decide)) u_147 rfl rfl (Nat.le_of_ble_eq_true rfl) dX6_span_23 ?_
      rintro v9 M10 ⟨r11, rfl, h⟩
      show V X 26 _ [.int r11] M10
      exact V_iret C dX6_span_26 (hQ _ _ h)
set_option maxRecDepth 20000 in
set_option maxHeartbeats 1000000 in
theorem c_X6_span {w : wU} {l : Launch} {b : Nat} {p1 : Int32} {p2 : Int32} {M : mM} {Q : Int32 → mM → Prop} (hb : isC w 6 b) (h : p_X6_span b p1 p2 M Q) : CT w l 5 yX6_span cX6_span 5 (some .int) [.ref (uA w b), .int p1, .int p2] M (piI Q) := by
  refine CT.of (by decide +kernel) (Nat.le_of_ble_eq_true rfl) (fun X hw hH hl hP hN C => ?_)
  subst hw
  exact s_X6_span C hH hN (fun r M1 q => by rw [hP]; exact ⟨r, rfl, q⟩) hb h
