set_option maxRecDepth 20000 in
set_option maxHeartbeats 1000000 in
theorem s_X1_laterOf_F94 {X : wX} (C : CX X cX1_laterOf RX1 (some .int)) (hH : xH X = 3) (hN : xN X = 8) {b : Nat} {p1 : Int32} {M : mM} {Q : Int32 → mM → Prop} (hQ : ∀ r M, Q r M → xPo X (some (.int r)) M) (hb : isC (xW X) 1 b) {v2 : Int32} {v3 : Int32} {v4 : Int32} {v5 : Int32} {v6 : Int32} {ag2 : (Int32 × mM) → Prop} {ag39 : (Int32 × mM) → Prop} {ag94 : (Int32 × mM) → Prop} (hag2 : ∀ s, ag2 s → V X 2 [(0, vR X b), (1, .int p1), (2, .int (s.1))] [] (s.2)) (hag39 : ∀ s, ag39 s → V X 39 [(0, vR X b), (1, .int p1), (2, .int v2), (3, .int v3), (4, .int (s.1))] [] (s.2)) (hag94 : ∀ s, ag94 s → V X 94 [(0, vR X b), (1, .int p1), (2, .int v2), (3, .int v3), (4, .int v4), (5, .int v5), (6, .int (s.1))] [] (s.2)) (h : p_X1_laterOf_F94 b p1 v2 v3 v4 v5 Q ag2 ag39 ag94 v6 M) : V X 94 [(0, vR X b), (1, .int p1), (2, .int v2), (3, .int v3), (4, .int v4), (5, .int v5), (6, .int v6)] [] M := by
  refine V_iload C 6 dX1_laterOf_94 rfl ?_
  refine V_iload C 4 dX1_laterOf_96 rfl ?_
  refine V_icmp_ge (tgt := 155) C dX1_laterOf_98 (by decide) (fun hc => ?_) (fun hc => ?_)
  · have h := h.1 hc
    refine V_iinc (v := (v4 + 1)) (lv' := [(4, .int (v4 + 1)), (0, vR X b), (1, .int p1), (2, .int v2), (3, .int v3), (5, .int v5), (6, .int v6)]) C 4 (ltN hN (by decide)) dX1_laterOf_155 rfl rfl rfl ?_
    refine V_goto (tgt := 39) C dX1_laterOf_158 (by decide) ?_
    exact V_sub [1, 2, 3, 4, 0] rfl (hag39 ((v4 + 1), M) h)
  · have h := h.2 hc
    refine V_iload C 5 dX1_laterOf_101 rfl ?_
    refine V_if_eq (tgt := 155) C dX1_laterOf_103 (by decide) (fun hc => ?_) (fun hc => ?_)
    · have h := h.1 hc
      refine V_iinc (v := (v4 + 1)) (lv' := [(4, .int (v4 + 1)), (0, vR X b), (1, .int p1), (2, .int v2), (3, .int v3), (5, .int v5), (6, .int v6)]) C 4 (ltN hN (by decide)) dX1_laterOf_155 rfl rfl rfl ?_
      refine V_goto (tgt := 39) C dX1_laterOf_158 (by decide) ?_
      exact V_sub [1, 2, 3, 4, 0] rfl (hag39 ((v4 + 1), M) h)
    · have h := h.2 hc
      refine V_iload_n C 1 dX1_laterOf_106 rfl ?_
      refine V_iconst C 2 dX1_laterOf_107 (by decide) ?_
      refine V_icmp_le (tgt := 155) C dX1_laterOf_108 (by decide) (fun hc => ?_) (fun hc => ?_)
      · have h := h.1 hc
        refine V_iinc (v := (v4 + 1)) (lv' := [(4, .int (v4 + 1)), (0, vR X b), (1, .int p1), (2, .int v2), (3, .int v3), (5, .int v5), (6, .int v6)]) C 4 (ltN hN (by decide)) dX1_laterOf_155 rfl rfl rfl ?_
        refine V_goto (tgt := 39) C dX1_laterOf_158 (by decide) ?_
        exact V_sub [1, 2, 3, 4, 0] rfl (hag39 ((v4 + 1), M) h)
      · have h := h.2 hc
        refine V_aload_n C 0 dX1_laterOf_111 rfl ?_
        refine V_getI C FL_RX1_74 (f1_16 hb) dX1_laterOf_112 ?_
        refine V_iconst C 1 dX1_laterOf_115 (by decide) ?_
        refine V_iload C 6 dX1_laterOf_116 rfl ?_
        refine V_ishl C dX1_laterOf_118 ?_
        refine V_iand C dX1_laterOf_119 ?_
        refine V_nmI (fun x3 e_x3 => ?_)
        have h := h x3 e_x3
        refine V_istore (lv' := [(7, .int x3), (0, vR X b), (1, .int p1), (2, .int v2), (3, .int v3), (4, .int v4), (5, .int v5), (6, .int v6)]) C (ltN hN (by decide)) dX1_laterOf_120 rfl ?_
        refine V_iload C 0 dX1_laterOf_122 rfl ?_
        refine V_if_eq (tgt := 149) C dX1_laterOf_124 (by decide) (fun hc => ?_) (fun hc => ?_)
        · have h := h.1 hc
          refine V_iinc (v := (v6 + 1)) (lv' := [(6, .int (v6 + 1)), (7, .int x3), (0, vR X b), (1, .int p1), (2, .int v2), (3, .int v3), (4, .int v4), (5, .int v5)]) C 7 (ltN hN (by decide)) dX1_laterOf_149 rfl rfl rfl ?_
          refine V_goto (tgt := 94) C dX1_laterOf_152 (by decide) ?_
          exact V_sub [2, 3, 4, 5, 6, 7, 0] rfl (hag94 ((v6 + 1), M) h)
        · have h := h.2 hc
          refine V_aload_n C 1 dX1_laterOf_127 rfl ?_
          refine V_iload_n C 4 dX1_laterOf_128 rfl ?_
          refine V_iload C 6 dX1_laterOf_129 rfl ?_
          refine V_ior C dX1_laterOf_131 ?_
          refine V_iload C 0 dX1_laterOf_132 rfl ?_
          refine V_ior C dX1_laterOf_134 ?_
          refine V_callV (As := [.int ((v3 ||| v5) ||| x3)]) (st := []) C (c_X1_canBe hb h) Y_X1_canBe Z_X1_canBe (T := TX1) (N := 17) rfl (o1 hb) (ltN hH (by decide)) u_62 rfl rfl (Nat.le_of_ble_eq_true rfl) dX1_laterOf_135 ?_
          rintro v9 M4 ⟨r5, rfl, h⟩
          show V X 138 _ [.int r5] M4
          refine V_if_eq (tgt := 149) C dX1_laterOf_138 (by decide) (fun hc => ?_) (fun hc => ?_)
          · have h := h.1 hc
            refine V_iinc (v := (v6 + 1)) (lv' := [(6, .int (v6 + 1)), (7, .int x3), (0, vR X b), (1, .int p1), (2, .int v2), (3, .int v3), (4, .int v4), (5, .int v5)]) C 7 (ltN hN (by decide)) dX1_laterOf_149 rfl rfl rfl ?_
            refine V_goto (tgt := 94) C dX1_laterOf_152 (by decide) ?_
            exact V_sub [2, 3, 4, 5, 6, 7, 0] rfl (hag94 ((v6 + 1), M4) h)
          · have h := h.2 hc
            refine V_iload_n C 4 dX1_laterOf_141 rfl ?_
            refine V_iload C 6 dX1_laterOf_142 rfl ?_
            refine V_ior C dX1_laterOf_144 ?_
            refine V_iload C 0 dX1_laterOf_145 rfl ?_
            refine V_ior C dX1_laterOf_147 ?_
            exact V_iret C dX1_laterOf_148 (hQ _ _ h)
set_option maxRecDepth 20000 in
set_option maxHeartbeats 1000000 in
theorem s_X1_laterOf_F39 {X : wX} (C : CX X cX1_laterOf RX1 (some .int)) (hH : xH X = 3) (hN : xN X = 8) {b : Nat} {p1 : Int32} {M : mM} {Q : Int32 → mM → Prop} (hQ : ∀ r M, Q r M → xPo X (some (.int r)) M) (hb : isC (xW X) 1 b) {v2 : Int32} {v3 : Int32} {v4 : Int32} {ag2 : (Int32 × mM) → Prop} {ag39 : (Int32 × mM) → Prop} (hag2 : ∀ s, ag2 s → V X 2 [(0, vR X b), (1, .int p1), (2, .int (s.1))] [] (s.2)) (hag39 : ∀ s, ag39 s → V X 39 [(0, vR X b), (1, .int p1), (2, .int v2), (3, .int v3), (4, .int (s.1))] [] (s.2)) (h : p_X1_laterOf_F39 b p1 v2 v3 Q ag2 ag39 v4 M) : V X 39 [(0, vR X b), (1, .int p1), (2, .int v2), (3, .int v3), (4, .int v4)] [] M := by
  refine V_iload C 4 dX1_laterOf_39 rfl ?_
  refine V_iload_n C 2 dX1_laterOf_41 rfl ?_
  refine V_icmp_ge (tgt := 161) C dX1_laterOf_42 (by decide) (fun hc => ?_) (fun hc => ?_)
  · have h := h.1 hc
    refine V_iinc (v := (v2 + 1)) (lv' := [(2, .int (v2 + 1)), (0, vR X b), (1, .int p1), (3, .int v3), (4, .int v4)]) C 2 (ltN hN (by decide)) dX1_laterOf_161 rfl rfl rfl ?_
    refine V_goto (tgt := 2) C dX1_laterOf_164 (by decide) ?_
    exact V_sub [1, 2, 0] rfl (hag2 ((v2 + 1), M) h)
  · have h := h.2 hc
    refine V_iload_n C 3 dX1_laterOf_45 rfl ?_
    refine V_if_eq (tgt := 161) C dX1_laterOf_46 (by decide) (fun hc => ?_) (fun hc => ?_)
    · have h := h.1 hc
      refine V_iinc (v := (v2 + 1)) (lv' := [(2, .int (v2 + 1)), (0, vR X b), (1, .int p1), (3, .int v3), (4, .int v4)]) C 2 (ltN hN (by decide)) dX1_laterOf_161 rfl rfl rfl ?_
      refine V_goto (tgt := 2) C dX1_laterOf_164 (by decide) ?_
      exact V_sub [1, 2, 0] rfl (hag2 ((v2 + 1), M) h)
    · have h := h.2 hc
      refine V_iload_n C 1 dX1_laterOf_49 rfl ?_
      refine V_iconst C 1 dX1_laterOf_50 (by decide) ?_
      refine V_icmp_le (tgt := 161) C dX1_laterOf_51 (by decide) (fun hc => ?_) (fun hc => ?_)
      · have h := h.1 hc
        refine V_iinc (v := (v2 + 1)) (lv' := [(2, .int (v2 + 1)), (0, vR X b), (1, .int p1), (3, .int v3), (4, .int v4)]) C 2 (ltN hN (by decide)) dX1_laterOf_161 rfl rfl rfl ?_
        refine V_goto (tgt := 2) C dX1_laterOf_164 (by decide) ?_
        exact V_sub [1, 2, 0] rfl (hag2 ((v2 + 1), M) h)
      · have h := h.2 hc
        refine V_aload_n C 0 dX1_laterOf_54 rfl ?_
        refine V_getI C FL_RX1_74 (f1_16 hb) dX1_laterOf_55 ?_
        refine V_iconst C 1 dX1_laterOf_58 (by decide) ?_
        refine V_iload C 4 dX1_laterOf_59 rfl ?_
        refine V_ishl C dX1_laterOf_61 ?_
        refine V_iand C dX1_laterOf_62 ?_
        refine V_nmI (fun x2 e_x2 => ?_)
        have h := h x2 e_x2
        refine V_istore (lv' := [(5, .int x2), (0, vR X b), (1, .int p1), (2, .int v2), (3, .int v3), (4, .int v4)]) C (ltN hN (by decide)) dX1_laterOf_63 rfl ?_
        refine V_iload C 0 dX1_laterOf_65 rfl ?_
        refine V_if_eq (tgt := 91) C dX1_laterOf_67 (by decide) (fun hc => ?_) (fun hc => ?_)
        · have h := h.1 hc
          refine V_iconst C 0 dX1_laterOf_91 (by decide) ?_
          refine V_istore (lv' := [(6, .int 0), (5, .int x2), (0, vR X b), (1, .int p1), (2, .int v2), (3, .int v3), (4, .int v4)]) C (ltN hN (by decide)) dX1_laterOf_92 rfl ?_
          refine V_sub [2, 3, 4, 5, 6, 1, 0] rfl ?_
          exact Loop.sound (s0 := ((0 : Int32), M)) (P := fun s => V X 94 [(0, vR X b), (1, .int p1), (2, .int v2), (3, .int v3), (4, .int v4), (5, .int x2), (6, .int (s.1))] [] (s.2)) h (fun ag hag s hs => s_X1_laterOf_F94 C hH hN hQ hb hag2 hag39 hag hs)
        · have h := h.2 hc
          refine V_iload_n C 2 dX1_laterOf_70 rfl ?_
          refine V_iconst C 2 dX1_laterOf_71 (by decide) ?_
          refine V_icmp_ne (tgt := 91) C dX1_laterOf_72 (by decide) (fun hc => ?_) (fun hc => ?_)
          · have h := h.1 hc
            refine V_iconst C 0 dX1_laterOf_91 (by decide) ?_
            refine V_istore (lv' := [(6, .int 0), (5, .int x2), (0, vR X b), (1, .int p1), (2, .int v2), (3, .int v3), (4, .int v4)]) C (ltN hN (by decide)) dX1_laterOf_92 rfl ?_
            refine V_sub [2, 3, 4, 5, 6, 1, 0] rfl ?_
            exact Loop.sound (s0 := ((0 : Int32), M)) (P := fun s => V X 94 [(0, vR X b), (1, .int p1), (2, .int v2), (3, .int v3), (4, .int v4), (5, .int x2), (6, .int (s.1))] [] (s.2)) h (fun ag hag s hs => s_X1_laterOf_F94 C hH hN hQ hb hag2 hag39 hag hs)
          · have h := h.2 hc
            refine V_aload_n C 1 dX1_laterOf_75 rfl ?_
            refine V_iload_n C 4 dX1_laterOf_76 rfl ?_
            refine V_iload C 0 dX1_laterOf_77 rfl ?_
            refine V_ior C dX1_laterOf_79 ?_
            refine V_callV (As := [.int (v3 ||| x2)]) (st := []) C (c_X1_canBe hb h) Y_X1_canBe Z_X1_canBe (T := TX1) (N := 17) rfl (o1 hb) (ltN hH (by decide)) u_62 rfl rfl (Nat.le_of_ble_eq_true rfl) dX1_laterOf_80 ?_
            rintro v9 M6 ⟨r7, rfl, h⟩
            show V X 83 _ [.int r7] M6
            refine V_if_eq (tgt := 91) C dX1_laterOf_83 (by decide) (fun hc => ?_) (fun hc => ?_)
            · have h := h.1 hc
              refine V_iconst C 0 dX1_laterOf_91 (by decide) ?_
              refine V_istore (lv' := [(6, .int 0), (5, .int x2), (0, vR X b), (1, .int p1), (2, .int v2), (3, .int v3), (4, .int v4)]) C (ltN hN (by decide)) dX1_laterOf_92 rfl ?_
              refine V_sub [2, 3, 4, 5, 6, 1, 0] rfl ?_
              exact Loop.sound (s0 := ((0 : Int32), M6)) (P := fun s => V X 94 [(0, vR X b), (1, .int p1), (2, .int v2), (3, .int v3), (4, .int v4), (5, .int x2), (6, .int (s.1))] [] (s.2)) h (fun ag hag s hs => s_X1_laterOf_F94 C hH hN hQ hb hag2 hag39 hag hs)
            · have h := h.2 hc
              refine V_iload_n C 4 dX1_laterOf_86 rfl ?_
              refine V_iload C 0 dX1_laterOf_87 rfl ?_
              refine V_ior C dX1_laterOf_89 ?_
              exact V_iret C dX1_laterOf_90 (hQ _ _ h)
set_option maxRecDepth 20000 in
set_option maxHeartbeats 1000000 in
theorem s_X1_laterOf_F2 {X : wX} (C : CX X cX1_laterOf RX1 (some .int)) (hH : xH X = 3) (hN : xN X = 8) {b : Nat} {p1 : Int32} {M : mM} {Q : Int32 → mM → Prop} (hQ : ∀ r M, Q r M → xPo X (some (.int r)) M) (hb : isC (xW X) 1 b) {v2 : Int32} {ag2 : (Int32 × mM) → Prop} (hag2 : ∀ s, ag2 s → V X 2 [(0, vR X b), (1, .int p1), (2, .int (s.1))] [] (s.2)) (h : p_X1_laterOf_F2 b p1  Q  ag2 v2 M) : V X 2 [(0, vR X b), (1, .int p1), (2, .int v2)] [] M := by
  refine V_iload_n C 2 dX1_laterOf_2 rfl ?_
  refine V_bipush C 20 dX1_laterOf_3 (by decide) ?_
  refine V_icmp_ge (tgt := 167) C dX1_laterOf_5 (by decide) (fun hc => ?_) (fun hc => ?_)
  · have h := h.1 hc
    refine V_iconst C 0 dX1_laterOf_167 (by decide) ?_
    exact V_iret C dX1_laterOf_168 (hQ _ _ h)
  · have h := h.2 hc
    refine V_aload_n C 0 dX1_laterOf_8 rfl ?_
    refine V_getI C FL_RX1_74 (f1_16 hb) dX1_laterOf_9 ?_
    refine V_iconst C 1 dX1_laterOf_12 (by decide) ?_
    refine V_iload_n C 2 dX1_laterOf_13 rfl ?_
    refine V_ishl C dX1_laterOf_14 ?_
    refine V_iand C dX1_laterOf_15 ?_
    refine V_nmI (fun x1 e_x1 => ?_)
    have h := h x1 e_x1
    refine V_istore_n (lv' := [(3, .int x1), (0, vR X b), (1, .int p1), (2, .int v2)]) C (ltN hN (by decide)) dX1_laterOf_16 rfl ?_
    refine V_iload_n C 0 dX1_laterOf_17 rfl ?_
    refine V_if_eq (tgt := 36) C dX1_laterOf_18 (by decide) (fun hc => ?_) (fun hc => ?_)
    · have h := h.1 hc
      refine V_iconst C 0 dX1_laterOf_36 (by decide) ?_
      refine V_istore (lv' := [(4, .int 0), (3, .int x1), (0, vR X b), (1, .int p1), (2, .int v2)]) C (ltN hN (by decide)) dX1_laterOf_37 rfl ?_
      refine V_sub [2, 3, 4, 1, 0] rfl ?_
      exact Loop.sound (s0 := ((0 : Int32), M)) (P := fun s => V X 39 [(0, vR X b), (1, .int p1), (2, .int v2), (3, .int x1), (4, .int (s.1))] [] (s.2)) h (fun ag hag s hs => s_X1_laterOf_F39 C hH hN hQ hb hag2 hag hs)
    · have h := h.2 hc
      refine V_iload_n C 2 dX1_laterOf_21 rfl ?_
      refine V_iconst C 1 dX1_laterOf_22 (by decide) ?_
      refine V_icmp_ne (tgt := 36) C dX1_laterOf_23 (by decide) (fun hc => ?_) (fun hc => ?_)
      · have h := h.1 hc
        refine V_iconst C 0 dX1_laterOf_36 (by decide) ?_
        refine V_istore (lv' := [(4, .int 0), (3, .int x1), (0, vR X b), (1, .int p1), (2, .int v2)]) C (ltN hN (by decide)) dX1_laterOf_37 rfl ?_
        refine V_sub [2, 3, 4, 1, 0] rfl ?_
        exact Loop.sound (s0 := ((0 : Int32), M)) (P := fun s => V X 39 [(0, vR X b), (1, .int p1), (2, .int v2), (3, .int x1), (4, .int (s.1))] [] (s.2)) h (fun ag hag s hs => s_X1_laterOf_F39 C hH hN hQ hb hag2 hag hs)
      · have h := h.2 hc
        refine V_aload_n C 1 dX1_laterOf_26 rfl ?_
        refine V_iload_n C 0 dX1_laterOf_27 rfl ?_
        refine V_callV (As := [.int x1]) (st := []) C (c_X1_canBe hb h) Y_X1_canBe Z_X1_canBe (T := TX1) (N := 17) rfl (o1 hb) (ltN hH (by decide)) u_62 rfl rfl (Nat.le_of_ble_eq_true rfl) dX1_laterOf_28 ?_
        rintro v9 M8 ⟨r9, rfl, h⟩
        show V X 31 _ [.int r9] M8
        refine V_if_eq (tgt := 36) C dX1_laterOf_31 (by decide) (fun hc => ?_) (fun hc => ?_)
        · have h := h.1 hc
          refine V_iconst C 0 dX1_laterOf_36 (by decide) ?_
          refine V_istore (lv' := [(4, .int 0), (3, .int x1), (0, vR X b), (1, .int p1), (2, .int v2)]) C (ltN hN (by decide)) dX1_laterOf_37 rfl ?_
          refine V_sub [2, 3, 4, 1, 0] rfl ?_
          exact Loop.sound (s0 := ((0 : Int32), M8)) (P := fun s => V X 39 [(0, vR X b), (1, .int p1), (2, .int v2), (3, .int x1), (4, .int (s.1))] [] (s.2)) h (fun ag hag s hs => s_X1_laterOf_F39 C hH hN hQ hb hag2 hag hs)
        · have h := h.2 hc
          refine V_iload_n C 0 dX1_laterOf_34 rfl ?_
          exact V_iret C dX1_laterOf_35 (hQ _ _ h)
set_option maxRecDepth 20000 in
set_option maxHeartbeats 1000000 in
theorem s_X1_laterOf {X : wX} (C : CX X cX1_laterOf RX1 (some .int)) (hH : xH X = 3) (hN : xN X = 8) {b : Nat} {p1 : Int32} {M : mM} {Q : Int32 → mM → Prop} (hQ : ∀ r M, Q r M → xPo X (some (.int r)) M) (hb : isC (xW X) 1 b)   (h : p_X1_laterOf b p1 M Q) : V X 0 [(0, vR X b), (1, .int p1)] [] M := by
  refine V_iconst C 0 dX1_laterOf_0 (by decide) ?_
  refine V_istore_n (lv' := [(2, .int 0), (0, vR X b), (1, .int p1)]) C (ltN hN (by decide)) dX1_laterOf_1 rfl ?_
  refine V_sub [1, 2, 0] rfl ?_
  exact Loop.sound (s0 := ((0 : Int32), M)) (P := fun s => V X 2 [(0, vR X b), (1, .int p1), (2, .int (s.1))] [] (s.2)) h (fun ag hag s hs => s_X1_laterOf_F2 C hH hN hQ hb  hag hs)
set_option maxRecDepth 20000 in
set_option maxHeartbeats 1000000 in
theorem c_X1_laterOf {w : wU} {l : Launch} {b : Nat} {p1 : Int32} {M : mM} {Q : Int32 → mM → Prop} (hb : isC w 1 b) (h : p_X1_laterOf b p1 M Q) : CT w l 3 yX1_laterOf cX1_laterOf 8 (some .int) [.ref (uA w b), .int p1] M (piI Q) := by
  refine CT.of (by decide +kernel) (Nat.le_of_ble_eq_true rfl) (fun X hw hH hl hP hN C => ?_)
  subst hw
  exact s_X1_laterOf C hH hN (fun r M1 q => by rw [hP]; exact ⟨r, rfl, q⟩) hb h
set_option maxRecDepth 20000 in
set_option maxHeartbeats 1000000 in
theorem s_X1_fewestLater_F12 {X : wX} (C : CX X cX1_fewestLater RX1 (some .int)) (hH : xH X = 4) (hN : xN X = 3) {b : Nat} {M : mM} {Q : Int32 → mM → Prop} (hQ : ∀ r M, Q r M → xPo X (some (.int r)) M) (hb : isC (xW X) 1 b) {v1 : Int32} {ag12 : (Int32 × mM) → Prop} (hag12 : ∀ s, ag12 s → V X 12 [(0, vR X b), (1, .int (s.1))] [] (s.2)) (h : p_X1_fewestLater_F12 b  Q  ag12 v1 M) : V X 12 [(0, vR X b), (1, .int v1)] [] M := by
  refine V_iload_n C 1 dX1_fewestLater_12 rfl ?_
  refine V_iconst C 3 dX1_fewestLater_13 (by decide) ?_
  refine V_icmp_gt (tgt := 35) C dX1_fewestLater_14 (by decide) (fun hc => ?_) (fun hc => ?_)
  · have h := h.1 hc
    refine V_bipush C (-5) dX1_fewestLater_35 (by decide) ?_
    exact V_iret C dX1_fewestLater_37 (hQ _ _ h)
  · have h := h.2 hc
    refine V_aload_n C 0 dX1_fewestLater_17 rfl ?_
    refine V_iload_n C 1 dX1_fewestLater_18 rfl ?_
    refine V_callV (As := [.int v1]) (st := []) C (c_X1_laterOf hb h) Y_X1_laterOf Z_X1_laterOf (T := TX1) (N := 17) rfl (o1 hb) (ltN hH (by decide)) u_63 rfl rfl (Nat.le_of_ble_eq_true rfl) dX1_fewestLater_19 ?_
    rintro v9 M3 ⟨r4, rfl, h⟩
    show V X 22 _ [.int r4] M3
    refine V_istore_n (lv' := [(2, .int r4), (0, vR X b), (1, .int v1)]) C (ltN hN (by decide)) dX1_fewestLater_22 rfl ?_
    refine V_iload_n C 0 dX1_fewestLater_23 rfl ?_
    refine V_if_eq (tgt := 29) C dX1_fewestLater_24 (by decide) (fun hc => ?_) (fun hc => ?_)
    · have h := h.1 hc
      refine V_iinc (v := (v1 + 1)) (lv' := [(1, .int (v1 + 1)), (2, .int r4), (0, vR X b)]) C 2 (ltN hN (by decide)) dX1_fewestLater_29 rfl rfl rfl ?_
      refine V_goto (tgt := 12) C dX1_fewestLater_32 (by decide) ?_
      exact V_sub [2, 0] rfl (hag12 ((v1 + 1), M3) h)
    · have h := h.2 hc
      refine V_iload_n C 0 dX1_fewestLater_27 rfl ?_
      exact V_iret C dX1_fewestLater_28 (hQ _ _ h)
set_option maxRecDepth 20000 in
set_option maxHeartbeats 1000000 in
theorem s_X1_fewestLater {X : wX} (C : CX X cX1_fewestLater RX1 (some .int)) (hH : xH X = 4) (hN : xN X = 3) {b : Nat} {M : mM} {Q : Int32 → mM → Prop} (hQ : ∀ r M, Q r M → xPo X (some (.int r)) M) (hb : isC (xW X) 1 b)   (h : p_X1_fewestLater b M Q) : V X 0 [(0, vR X b)] [] M := by
  refine V_aload_n C 0 dX1_fewestLater_0 rfl ?_
  refine V_iconst C 0 dX1_fewestLater_1 (by decide) ?_
  refine V_callV (As := [.int 0]) (st := []) C (c_X1_canBe hb h) Y_X1_canBe Z_X1_canBe (T := TX1) (N := 17) rfl (o1 hb) (ltN hH (by decide)) u_62 rfl rfl (Nat.le_of_ble_eq_true rfl) dX1_fewestLater_2 ?_
  rintro v9 M1 ⟨r2, rfl, h⟩
  show V X 5 _ [.int r2] M1
  refine V_if_eq (tgt := 10) C dX1_fewestLater_5 (by decide) (fun hc => ?_) (fun hc => ?_)
  · have h := h.1 hc
    refine V_iconst C 1 dX1_fewestLater_10 (by decide) ?_
    refine V_istore_n (lv' := [(1, .int 1), (0, vR X b)]) C (ltN hN (by decide)) dX1_fewestLater_11 rfl ?_
    refine V_sub [1, 0] rfl ?_
    exact Loop.sound (s0 := ((1 : Int32), M1)) (P := fun s => V X 12 [(0, vR X b), (1, .int (s.1))] [] (s.2)) h (fun ag hag s hs => s_X1_fewestLater_F12 C hH hN hQ hb  hag hs)
  · have h := h.2 hc
    refine V_iconst C 0 dX1_fewestLater_8 (by decide) ?_
    exact V_iret C dX1_fewestLater_9 (hQ _ _ h)
set_option maxRecDepth 20000 in
set_option maxHeartbeats 1000000 in
theorem c_X1_fewestLater {w : wU} {l : Launch} {b : Nat} {M : mM} {Q : Int32 → mM → Prop} (hb : isC w 1 b) (h : p_X1_fewestLater b M Q) : CT w l 4 yX1_fewestLater cX1_fewestLater 3 (some .int) [.ref (uA w b)] M (piI Q) := by
  refine CT.of (by decide +kernel) (Nat.le_of_ble_eq_true rfl) (fun X hw hH hl hP hN C => ?_)
  subst hw
  exact s_X1_fewestLater C hH hN (fun r M1 q => by rw [hP]; exact ⟨r, rfl, q⟩) hb h
set_option maxRecDepth 20000 in
set_option maxHeartbeats 1000000 in
theorem s_X1_weighParts_J44 {X : wX} (C : CX X cX1_weighParts RX1 (none)) (hH : xH X = 0) (hN : xN X = 4) {b : Nat} {p1 : Int32} {p2 : Nat} {p2n : Nat} {M : mM} {Q : mM → Prop} (hQ : ∀ M, Q M → xPo X none M) (hb : isC (xW X) 1 b) (h2 : AK (xW X) p2 (kL 1 p2n)) {v3 : Int32} {s0 : Int64} {s1 : Int32} {ag7 : (Int32 × mM) → Prop} (hag7 : ∀ s, ag7 s → V X 7 [(0, vR X b), (1, .int p1), (2, vR X p2), (3, .int (s.1))] [] (s.2)) (h : p_X1_weighParts_J44 b p1 p2 p2n Q ag7 v3 s0 s1 M) : V X 44 [(0, vR X b), (1, .int p1), (2, vR X p2), (3, .int v3)] [.long s0, .int s1, vR X (b + 50)] M := by
  obtain ⟨b5, h⟩ := h
  refine V_last C (k1_50 hb) b5 dX1_weighParts_44 ?_
  refine V_nmM (fun M4 e_M4 => ?_)
  have h := h M4 e_M4
  refine V_aload_n C 0 dX1_weighParts_45 rfl ?_
  refine V_dup C dX1_weighParts_46 rfl ?_
  refine V_getL C FL_RX1_135 (f1_11 hb) dX1_weighParts_47 ?_
  refine V_aload_n C 0 dX1_weighParts_50 rfl ?_
  refine V_getR C FL_RX1_43 (f1_9 hb) dX1_weighParts_51 ?_
  refine V_iload_n C 3 dX1_weighParts_54 rfl ?_
  obtain ⟨b6, h⟩ := h
  refine V_lald C (k1_50 hb) b6 dX1_weighParts_55 ?_
  refine V_ladd C dX1_weighParts_56 ?_
  refine V_putL C FW_RX1_135 (f1_11 hb) dX1_weighParts_57 ?_
  refine V_nmM (fun M7 e_M7 => ?_)
  have h := h M7 e_M7
  refine V_iinc (v := (v3 + 1)) (lv' := [(3, .int (v3 + 1)), (0, vR X b), (1, .int p1), (2, vR X p2)]) C 3 (ltN hN (by decide)) dX1_weighParts_60 rfl rfl rfl ?_
  refine V_goto (tgt := 7) C dX1_weighParts_63 (by decide) ?_
  exact V_sub [1, 2, 3, 0] rfl (hag7 ((v3 + 1), M7) h)
set_option maxRecDepth 20000 in
set_option maxHeartbeats 1000000 in
theorem s_X1_weighParts_F7 {X : wX} (C : CX X cX1_weighParts RX1 (none)) (hH : xH X = 0) (hN : xN X = 4) {b : Nat} {p1 : Int32} {p2 : Nat} {p2n : Nat} {M : mM} {Q : mM → Prop} (hQ : ∀ M, Q M → xPo X none M) (hb : isC (xW X) 1 b) (h2 : AK (xW X) p2 (kL 1 p2n)) {v3 : Int32} {ag7 : (Int32 × mM) → Prop} (hag7 : ∀ s, ag7 s → V X 7 [(0, vR X b), (1, .int p1), (2, vR X p2), (3, .int (s.1))] [] (s.2)) (h : p_X1_weighParts_F7 b p1 p2 p2n  Q  ag7 v3 M) : V X 7 [(0, vR X b), (1, .int p1), (2, vR X p2), (3, .int v3)] [] M := by
  refine V_iload_n C 3 dX1_weighParts_7 rfl ?_
  refine V_bipush C 21 dX1_weighParts_8 (by decide) ?_
  refine V_icmp_ge (tgt := 66) C dX1_weighParts_10 (by decide) (fun hc => ?_) (fun hc => ?_)
  · have h := h.1 hc
    exact V_vret C dX1_weighParts_66 (hQ _ h)
  · have h := h.2 hc
    refine V_aload_n C 0 dX1_weighParts_13 rfl ?_
    refine V_getR C FL_RX1_43 (f1_9 hb) dX1_weighParts_14 ?_
    refine V_iload_n C 3 dX1_weighParts_17 rfl ?_
    refine V_aload_n C 0 dX1_weighParts_18 rfl ?_
    refine V_getR C FL_RX1_17 (f1_1 hb) dX1_weighParts_19 ?_
    refine V_iload_n C 1 dX1_weighParts_22 rfl ?_
    obtain ⟨b2, h⟩ := h
    refine V_aald5 C (k1_2 hb) b2 dX1_weighParts_23 ?_
    refine V_iload_n C 3 dX1_weighParts_24 rfl ?_
    obtain ⟨b3, h⟩ := h
    refine V_iald C (r1_2 hb b2) b3 dX1_weighParts_25 ?_
    refine V_if_ne (tgt := 43) C dX1_weighParts_26 (by decide) (fun hc => ?_) (fun hc => ?_)
    · have h := h.1 hc
      refine V_lconst C 0 dX1_weighParts_43 (by decide) ?_
      exact V_sub [0, 1, 2, 3] rfl (s_X1_weighParts_J44 C hH hN hQ hb h2 hag7  h)
    · have h := h.2 hc
      refine V_aload_n C 0 dX1_weighParts_29 rfl ?_
      refine V_getR C FL_RX1_9 (f1_0 hb) dX1_weighParts_30 ?_
      refine V_iload_n C 3 dX1_weighParts_33 rfl ?_
      obtain ⟨b8, h⟩ := h
      refine V_iald C (k1_1 hb) b8 dX1_weighParts_34 ?_
      refine V_i2l C dX1_weighParts_35 ?_
      refine V_aload_n C 2 dX1_weighParts_36 rfl ?_
      refine V_iload_n C 3 dX1_weighParts_37 rfl ?_
      obtain ⟨b9, h⟩ := h
      refine V_lald C h2 b9 dX1_weighParts_38 ?_
      refine V_lmul C dX1_weighParts_39 ?_
      refine V_goto (tgt := 44) C dX1_weighParts_40 (by decide) ?_
      exact V_sub [0, 1, 2, 3] rfl (s_X1_weighParts_J44 C hH hN hQ hb h2 hag7  h)
set_option maxRecDepth 20000 in
set_option maxHeartbeats 1000000 in
theorem s_X1_weighParts {X : wX} (C : CX X cX1_weighParts RX1 (none)) (hH : xH X = 0) (hN : xN X = 4) {b : Nat} {p1 : Int32} {p2 : Nat} {p2n : Nat} {M : mM} {Q : mM → Prop} (hQ : ∀ M, Q M → xPo X none M) (hb : isC (xW X) 1 b) (h2 : AK (xW X) p2 (kL 1 p2n))   (h : p_X1_weighParts b p1 p2 p2n M Q) : V X 0 [(0, vR X b), (1, .int p1), (2, vR X p2)] [] M := by
  refine V_aload_n C 0 dX1_weighParts_0 rfl ?_
  refine V_lconst C 0 dX1_weighParts_1 (by decide) ?_
  refine V_putL C FW_RX1_135 (f1_11 hb) dX1_weighParts_2 ?_
  refine V_nmM (fun M1 e_M1 => ?_)
  have h := h M1 e_M1
  refine V_iconst C 0 dX1_weighParts_5 (by decide) ?_
  refine V_istore_n (lv' := [(3, .int 0), (0, vR X b), (1, .int p1), (2, vR X p2)]) C (ltN hN (by decide)) dX1_weighParts_6 rfl ?_
  refine V_sub [1, 2, 3, 0] rfl ?_
  exact Loop.sound (s0 := ((0 : Int32), M1)) (P := fun s => V X 7 [(0, vR X b), (1, .int p1), (2, vR X p2), (3, .int (s.1))] [] (s.2)) h (fun ag hag s hs => s_X1_weighParts_F7 C hH hN hQ hb h2  hag hs)
set_option maxRecDepth 20000 in
set_option maxHeartbeats 1000000 in
theorem c_X1_weighParts {w : wU} {l : Launch} {b : Nat} {p1 : Int32} {p2 : Nat} {p2n : Nat} {M : mM} {Q : mM → Prop} (hb : isC w 1 b) (h2 : AK w p2 (kL 1 p2n)) (h : p_X1_weighParts b p1 p2 p2n M Q) : CT w l 0 yX1_weighParts cX1_weighParts 4 (none) [.ref (uA w b), .int p1, .ref (uA w p2)] M (piV Q) := by
  refine CT.of (by decide +kernel) (Nat.le_of_ble_eq_true rfl) (fun X hw hH hl hP hN C => ?_)
  subst hw
  exact s_X1_weighParts C hH hN (fun M1 q => by rw [hP]; exact ⟨rfl, q⟩) hb h2 h
set_option maxRecDepth 20000 in
set_option maxHeartbeats 1000000 in
theorem s_X1_joint_J47 {X : wX} (C : CX X cX1_joint RX1 (some .int)) (hH : xH X = 0) (hN : xN X = 4) {b : Nat} {p1 : Int32} {p2 : Int32} {p3 : Int32} {M : mM} {Q : Int32 → Prop} (hQ : ∀ r, Q r → xPo X (some (.int r)) M) (hb : isC (xW X) 1 b)   (h : p_X1_joint_J47 b p1 p2 p3 Q   M) : V X 47 [(0, vR X b), (2, .int p2), (3, .int p3)] [] M := by
  refine V_iload_n C 1 dX1_joint_47 rfl ?_
  refine V_iload_n C 2 dX1_joint_48 rfl ?_
  refine V_icmp_ne (tgt := 59) C dX1_joint_49 (by decide) (fun hc => ?_) (fun hc => ?_)
  · have h := h.1 hc
    refine V_iconst C 1 dX1_joint_59 (by decide) ?_
    exact V_iret C dX1_joint_60 (hQ _ h)
  · have h := h.2 hc
    refine V_aload_n C 0 dX1_joint_52 rfl ?_
    refine V_getI C FL_RX1_55 (f1_15 hb) dX1_joint_53 ?_
    refine V_goto (tgt := 60) C dX1_joint_56 (by decide) ?_
    exact V_iret C dX1_joint_60 (hQ _ h)
set_option maxRecDepth 20000 in
set_option maxHeartbeats 1000000 in
theorem s_X1_joint {X : wX} (C : CX X cX1_joint RX1 (some .int)) (hH : xH X = 0) (hN : xN X = 4) {b : Nat} {p1 : Int32} {p2 : Int32} {p3 : Int32} {M : mM} {Q : Int32 → Prop} (hQ : ∀ r, Q r → xPo X (some (.int r)) M) (hb : isC (xW X) 1 b)   (h : p_X1_joint b p1 p2 p3 M Q) : V X 0 [(0, vR X b), (1, .int p1), (2, .int p2), (3, .int p3)] [] M := by
  refine V_iload_n C 1 dX1_joint_0 rfl ?_
  refine V_iconst C 1 dX1_joint_1 (by decide) ?_
  refine V_iadd C dX1_joint_2 ?_
  refine V_bipush C 8 dX1_joint_3 (by decide) ?_
  refine V_icmp_ge (tgt := 47) C dX1_joint_5 (by decide) (fun hc => ?_) (fun hc => ?_)
  · have h := h.1 hc
    exact V_sub [0, 2, 3] rfl (s_X1_joint_J47 C hH hN hQ hb   h)
  · have h := h.2 hc
    refine V_aload_n C 0 dX1_joint_8 rfl ?_
    refine V_getR C FL_RX1_29 (f1_5 hb) dX1_joint_9 ?_
    refine V_iload_n C 1 dX1_joint_12 rfl ?_
    obtain ⟨b1, h⟩ := h
    refine V_iald C (k1_22 hb) b1 dX1_joint_13 ?_
    refine V_if_eq (tgt := 47) C dX1_joint_14 (by decide) (fun hc => ?_) (fun hc => ?_)
    · have h := h.1 hc
      exact V_sub [0, 2, 3] rfl (s_X1_joint_J47 C hH hN hQ hb   h)
    · have h := h.2 hc
      refine V_aload_n C 0 dX1_joint_17 rfl ?_
      refine V_getR C FL_RX1_20 (f1_2 hb) dX1_joint_18 ?_
      refine V_iload_n C 1 dX1_joint_21 rfl ?_
      refine V_iconst C 1 dX1_joint_22 (by decide) ?_
      refine V_iadd C dX1_joint_23 ?_
      obtain ⟨b2, h⟩ := h
      refine V_aald5 C (k1_11 hb) b2 dX1_joint_24 ?_
      refine V_iload_n C 3 dX1_joint_25 rfl ?_
      obtain ⟨b3, h⟩ := h
      refine V_iald C (r1_11 hb b2) b3 dX1_joint_26 ?_
      refine V_aload_n C 0 dX1_joint_27 rfl ?_
      refine V_getR C FL_RX1_20 (f1_2 hb) dX1_joint_28 ?_
      refine V_iload_n C 1 dX1_joint_31 rfl ?_
      obtain ⟨b4, h⟩ := h
      refine V_aald5 C (k1_11 hb) b4 dX1_joint_32 ?_
      refine V_iload_n C 2 dX1_joint_33 rfl ?_
      obtain ⟨b5, h⟩ := h
      refine V_iald C (r1_11 hb b4) b5 dX1_joint_34 ?_
      refine V_isub C dX1_joint_35 ?_
      refine V_aload_n C 0 dX1_joint_36 rfl ?_
      refine V_getR C FL_RX1_29 (f1_5 hb) dX1_joint_37 ?_
      refine V_iload_n C 1 dX1_joint_40 rfl ?_
      obtain ⟨b6, h⟩ := h
      refine V_iald C (k1_22 hb) b6 dX1_joint_41 ?_
      refine V_icmp_ge (tgt := 47) C dX1_joint_42 (by decide) (fun hc => ?_) (fun hc => ?_)
      · have h := h.1 hc
        exact V_sub [0, 2, 3] rfl (s_X1_joint_J47 C hH hN hQ hb   h)
      · have h := h.2 hc
        refine V_iconst C 0 dX1_joint_45 (by decide) ?_
        exact V_iret C dX1_joint_46 (hQ _ h)
set_option maxRecDepth 20000 in
set_option maxHeartbeats 1000000 in
theorem c_X1_joint {w : wU} {l : Launch} {b : Nat} {p1 : Int32} {p2 : Int32} {p3 : Int32} {M : mM} {Q : Int32 → Prop} (hb : isC w 1 b) (h : p_X1_joint b p1 p2 p3 M Q) : CT w l 0 yX1_joint cX1_joint 4 (some .int) [.ref (uA w b), .int p1, .int p2, .int p3] M (poI M Q) := by
  refine CT.of (by decide +kernel) (Nat.le_of_ble_eq_true rfl) (fun X hw hH hl hP hN C => ?_)
  subst hw
  exact s_X1_joint C hH hN (fun r q => by rw [hP]; exact ⟨rfl, r, rfl, q⟩) hb h
set_option maxRecDepth 20000 in
set_option maxHeartbeats 1000000 in
theorem s_X1_partsBeside_F35 {X : wX} (C : CX X cX1_partsBeside RX1 (some .long)) (hH : xH X = 1) (hN : xN X = 7) {b : Nat} {p1 : Int32} {p2 : Int32} {p3 : Int32} {M : mM} {Q : Int64 → Prop} (hQ : ∀ r, Q r → xPo X (some (.long r)) M) (hb : isC (xW X) 1 b) {v4 : Int64} {v6 : Int32} {ag35 : (Int64 × Int32) → Prop} (hag35 : ∀ s, ag35 s → V X 35 [(0, vR X b), (1, .int p1), (2, .int p2), (3, .int p3), (4, .long (s.1)), (6, .int (s.2))] [] M) (h : p_X1_partsBeside_F35 b p1 p2 p3  M Q  ag35 v4 v6) : V X 35 [(0, vR X b), (1, .int p1), (2, .int p2), (3, .int p3), (4, .long v4), (6, .int v6)] [] M := by
  refine V_iload C 5 dX1_partsBeside_35 rfl ?_
  refine V_bipush C 21 dX1_partsBeside_37 (by decide) ?_
  refine V_icmp_ge (tgt := 85) C dX1_partsBeside_39 (by decide) (fun hc => ?_) (fun hc => ?_)
  · have h := h.1 hc
    refine V_lload C 4 dX1_partsBeside_85 rfl ?_
    exact V_lret C dX1_partsBeside_87 (hQ _ h)
  · have h := h.2 hc
    refine V_lload C 4 dX1_partsBeside_42 rfl ?_
    refine V_aload_n C 0 dX1_partsBeside_44 rfl ?_
    refine V_getR C FL_RX1_43 (f1_9 hb) dX1_partsBeside_45 ?_
    refine V_iload C 5 dX1_partsBeside_48 rfl ?_
    obtain ⟨b2, h⟩ := h
    refine V_lald C (k1_50 hb) b2 dX1_partsBeside_50 ?_
    refine V_iload_n C 3 dX1_partsBeside_51 rfl ?_
    refine V_if_eq (tgt := 66) C dX1_partsBeside_52 (by decide) (fun hc => ?_) (fun hc => ?_)
    · have h := h.1 hc
      refine V_aload_n C 0 dX1_partsBeside_66 rfl ?_
      refine V_iload_n C 2 dX1_partsBeside_67 rfl ?_
      refine V_iload_n C 1 dX1_partsBeside_68 rfl ?_
      refine V_iload C 5 dX1_partsBeside_69 rfl ?_
      refine V_callV (As := [.int p2, .int p1, .int v6]) (st := [.long (M.2 (b + 50) v6.toNatClampNeg), .long v4]) C (c_X1_joint hb h) Y_X1_joint Z_X1_joint (T := TX1) (N := 17) rfl (o1 hb) (ltN hH (by decide)) u_66 rfl rfl (Nat.le_of_ble_eq_true rfl) dX1_partsBeside_71 ?_
      rintro v9 M9 ⟨rfl, r3, rfl, h⟩
      show V X 74 _ [.int r3, .long (M.2 (b + 50) v6.toNatClampNeg), .long v4] M
      refine V_i2l C dX1_partsBeside_74 ?_
      refine V_lmul C dX1_partsBeside_75 ?_
      refine V_ladd C dX1_partsBeside_76 ?_
      refine V_nmL (fun x4 e_x4 => ?_)
      have h := h x4 e_x4
      refine V_lstore (lv' := [(4, .long x4), (0, vR X b), (1, .int p1), (2, .int p2), (3, .int p3), (6, .int v6)]) C (ltN hN (by decide)) dX1_partsBeside_77 rfl ?_
      refine V_iinc (v := (v6 + 1)) (lv' := [(6, .int (v6 + 1)), (4, .long x4), (0, vR X b), (1, .int p1), (2, .int p2), (3, .int p3)]) C 5 (ltN hN (by decide)) dX1_partsBeside_79 rfl rfl rfl ?_
      refine V_goto (tgt := 35) C dX1_partsBeside_82 (by decide) ?_
      exact V_sub [2, 3, 4, 5, 1, 0] rfl (hag35 (x4, (v6 + 1)) h)
    · have h := h.2 hc
      refine V_aload_n C 0 dX1_partsBeside_55 rfl ?_
      refine V_iload_n C 2 dX1_partsBeside_56 rfl ?_
      refine V_iload C 5 dX1_partsBeside_57 rfl ?_
      refine V_iload_n C 1 dX1_partsBeside_59 rfl ?_
      refine V_callV (As := [.int p2, .int v6, .int p1]) (st := [.long (M.2 (b + 50) v6.toNatClampNeg), .long v4]) C (c_X1_joint hb h) Y_X1_joint Z_X1_joint (T := TX1) (N := 17) rfl (o1 hb) (ltN hH (by decide)) u_66 rfl rfl (Nat.le_of_ble_eq_true rfl) dX1_partsBeside_60 ?_
      rintro v9 M9 ⟨rfl, r5, rfl, h⟩
      show V X 63 _ [.int r5, .long (M.2 (b + 50) v6.toNatClampNeg), .long v4] M
      refine V_goto (tgt := 74) C dX1_partsBeside_63 (by decide) ?_
      refine V_i2l C dX1_partsBeside_74 ?_
      refine V_lmul C dX1_partsBeside_75 ?_
      refine V_ladd C dX1_partsBeside_76 ?_
      refine V_nmL (fun x6 e_x6 => ?_)
      have h := h x6 e_x6
      refine V_lstore (lv' := [(4, .long x6), (0, vR X b), (1, .int p1), (2, .int p2), (3, .int p3), (6, .int v6)]) C (ltN hN (by decide)) dX1_partsBeside_77 rfl ?_
      refine V_iinc (v := (v6 + 1)) (lv' := [(6, .int (v6 + 1)), (4, .long x6), (0, vR X b), (1, .int p1), (2, .int p2), (3, .int p3)]) C 5 (ltN hN (by decide)) dX1_partsBeside_79 rfl rfl rfl ?_
      refine V_goto (tgt := 35) C dX1_partsBeside_82 (by decide) ?_
      exact V_sub [2, 3, 4, 5, 1, 0] rfl (hag35 (x6, (v6 + 1)) h)
set_option maxRecDepth 20000 in
set_option maxHeartbeats 1000000 in
theorem s_X1_partsBeside {X : wX} (C : CX X cX1_partsBeside RX1 (some .long)) (hH : xH X = 1) (hN : xN X = 7) {b : Nat} {p1 : Int32} {p2 : Int32} {p3 : Int32} {M : mM} {Q : Int64 → Prop} (hQ : ∀ r, Q r → xPo X (some (.long r)) M) (hb : isC (xW X) 1 b)   (h : p_X1_partsBeside b p1 p2 p3 M Q) : V X 0 [(0, vR X b), (1, .int p1), (2, .int p2), (3, .int p3)] [] M := by
  refine V_aload_n C 0 dX1_partsBeside_0 rfl ?_
  refine V_getR C FL_RX1_29 (f1_5 hb) dX1_partsBeside_1 ?_
  refine V_iload_n C 2 dX1_partsBeside_4 rfl ?_
  obtain ⟨b1, h⟩ := h
  refine V_iald C (k1_22 hb) b1 dX1_partsBeside_5 ?_
  refine V_if_ne (tgt := 29) C dX1_partsBeside_6 (by decide) (fun hc => ?_) (fun hc => ?_)
  · have h := h.1 hc
    refine V_lconst C 0 dX1_partsBeside_29 (by decide) ?_
    refine V_lstore (lv' := [(4, .long 0), (0, vR X b), (1, .int p1), (2, .int p2), (3, .int p3)]) C (ltN hN (by decide)) dX1_partsBeside_30 rfl ?_
    refine V_iconst C 0 dX1_partsBeside_32 (by decide) ?_
    refine V_istore (lv' := [(6, .int 0), (4, .long 0), (0, vR X b), (1, .int p1), (2, .int p2), (3, .int p3)]) C (ltN hN (by decide)) dX1_partsBeside_33 rfl ?_
    refine V_sub [2, 3, 4, 5, 1, 0] rfl ?_
    exact Loop.sound (s0 := ((0 : Int64), (0 : Int32))) (P := fun s => V X 35 [(0, vR X b), (1, .int p1), (2, .int p2), (3, .int p3), (4, .long (s.1)), (6, .int (s.2))] [] M) h (fun ag hag s hs => s_X1_partsBeside_F35 C hH hN hQ hb  hag hs)
  · have h := h.2 hc
    refine V_aload_n C 0 dX1_partsBeside_9 rfl ?_
    refine V_getL C FL_RX1_135 (f1_11 hb) dX1_partsBeside_10 ?_
    refine V_aload_n C 0 dX1_partsBeside_13 rfl ?_
    refine V_getI C FL_RX1_55 (f1_15 hb) dX1_partsBeside_14 ?_
    refine V_iconst C 1 dX1_partsBeside_17 (by decide) ?_
    refine V_isub C dX1_partsBeside_18 ?_
    refine V_i2l C dX1_partsBeside_19 ?_
    refine V_aload_n C 0 dX1_partsBeside_20 rfl ?_
    refine V_getR C FL_RX1_43 (f1_9 hb) dX1_partsBeside_21 ?_
    refine V_iload_n C 1 dX1_partsBeside_24 rfl ?_
    obtain ⟨b7, h⟩ := h
    refine V_lald C (k1_50 hb) b7 dX1_partsBeside_25 ?_
    refine V_lmul C dX1_partsBeside_26 ?_
    refine V_ladd C dX1_partsBeside_27 ?_
    exact V_lret C dX1_partsBeside_28 (hQ _ h)
set_option maxRecDepth 20000 in
set_option maxHeartbeats 1000000 in
theorem c_X1_partsBeside {w : wU} {l : Launch} {b : Nat} {p1 : Int32} {p2 : Int32} {p3 : Int32} {M : mM} {Q : Int64 → Prop} (hb : isC w 1 b) (h : p_X1_partsBeside b p1 p2 p3 M Q) : CT w l 1 yX1_partsBeside cX1_partsBeside 7 (some .long) [.ref (uA w b), .int p1, .int p2, .int p3] M (poL M Q) := by
  refine CT.of (by decide +kernel) (Nat.le_of_ble_eq_true rfl) (fun X hw hH hl hP hN C => ?_)
  subst hw
  exact s_X1_partsBeside C hH hN (fun r q => by rw [hP]; exact ⟨rfl, r, rfl, q⟩) hb h
set_option maxRecDepth 20000 in
set_option maxHeartbeats 1000000 in
theorem s_X1_reckonAhead_F48 {X : wX} (C : CX X cX1_reckonAhead RX1 (none)) (hH : xH X = 2) (hN : xN X = 3) {b : Nat} {M : mM} {Q : mM → Prop} (hQ : ∀ M, Q M → xPo X none M) (hb : isC (xW X) 1 b) {v1 : Int32} {v2 : Int32} {ag25 : (Int32 × mM) → Prop} {ag48 : (Int32 × mM) → Prop} (hag25 : ∀ s, ag25 s → V X 25 [(0, vR X b), (1, .int (s.1))] [] (s.2)) (hag48 : ∀ s, ag48 s → V X 48 [(0, vR X b), (1, .int v1), (2, .int (s.1))] [] (s.2)) (h : p_X1_reckonAhead_F48 b v1 Q ag25 ag48 v2 M) : V X 48 [(0, vR X b), (1, .int v1), (2, .int v2)] [] M := by
  refine V_iload_n C 2 dX1_reckonAhead_48 rfl ?_
  refine V_bipush C 21 dX1_reckonAhead_49 (by decide) ?_
  refine V_icmp_ge (tgt := 77) C dX1_reckonAhead_51 (by decide) (fun hc => ?_) (fun hc => ?_)
  · have h := h.1 hc
    refine V_iinc (v := (v1 + 1)) (lv' := [(1, .int (v1 + 1)), (0, vR X b), (2, .int v2)]) C 1 (ltN hN (by decide)) dX1_reckonAhead_77 rfl rfl rfl ?_
    refine V_goto (tgt := 25) C dX1_reckonAhead_80 (by decide) ?_
    exact V_sub [1, 0] rfl (hag25 ((v1 + 1), M) h)
  · have h := h.2 hc
    refine V_aload_n C 0 dX1_reckonAhead_54 rfl ?_
    refine V_getR C FL_RX1_34 (f1_6 hb) dX1_reckonAhead_55 ?_
    refine V_iload_n C 1 dX1_reckonAhead_58 rfl ?_
    obtain ⟨b5, h⟩ := h
    refine V_aald6 C (k1_23 hb) b5 dX1_reckonAhead_59 ?_
    refine V_iload_n C 2 dX1_reckonAhead_60 rfl ?_
    refine V_aload_n C 0 dX1_reckonAhead_61 rfl ?_
    refine V_iload_n C 2 dX1_reckonAhead_62 rfl ?_
    refine V_iload_n C 1 dX1_reckonAhead_63 rfl ?_
    refine V_iconst C 1 dX1_reckonAhead_64 (by decide) ?_
    refine V_isub C dX1_reckonAhead_65 ?_
    refine V_iconst C 1 dX1_reckonAhead_66 (by decide) ?_
    refine V_callV (As := [.int v2, .int (v1 - 1), .int 1]) (st := [.int v2, vR X (b + 24 + v1.toNatClampNeg)]) C (c_X1_partsBeside hb h) Y_X1_partsBeside Z_X1_partsBeside (T := TX1) (N := 17) rfl (o1 hb) (ltN hH (by decide)) u_70 rfl rfl (Nat.le_of_ble_eq_true rfl) dX1_reckonAhead_67 ?_
    rintro v9 M9 ⟨rfl, r6, rfl, h⟩
    show V X 70 _ [.long r6, .int v2, vR X (b + 24 + v1.toNatClampNeg)] M
    obtain ⟨b8, h⟩ := h
    refine V_last C (r1_23 hb b5) b8 dX1_reckonAhead_70 ?_
    refine V_nmM (fun M7 e_M7 => ?_)
    have h := h M7 e_M7
    refine V_iinc (v := (v2 + 1)) (lv' := [(2, .int (v2 + 1)), (0, vR X b), (1, .int v1)]) C 2 (ltN hN (by decide)) dX1_reckonAhead_71 rfl rfl rfl ?_
    refine V_goto (tgt := 48) C dX1_reckonAhead_74 (by decide) ?_
    exact V_sub [1, 2, 0] rfl (hag48 ((v2 + 1), M7) h)
set_option maxRecDepth 20000 in
set_option maxHeartbeats 1000000 in
theorem s_X1_reckonAhead_F25 {X : wX} (C : CX X cX1_reckonAhead RX1 (none)) (hH : xH X = 2) (hN : xN X = 3) {b : Nat} {M : mM} {Q : mM → Prop} (hQ : ∀ M, Q M → xPo X none M) (hb : isC (xW X) 1 b) {v1 : Int32} {ag25 : (Int32 × mM) → Prop} (hag25 : ∀ s, ag25 s → V X 25 [(0, vR X b), (1, .int (s.1))] [] (s.2)) (h : p_X1_reckonAhead_F25 b  Q  ag25 v1 M) : V X 25 [(0, vR X b), (1, .int v1)] [] M := by
  refine V_iload_n C 1 dX1_reckonAhead_25 rfl ?_
  refine V_bipush C 8 dX1_reckonAhead_26 (by decide) ?_
  refine V_icmp_ge (tgt := 83) C dX1_reckonAhead_28 (by decide) (fun hc => ?_) (fun hc => ?_)
  · have h := h.1 hc
    refine V_aload_n C 0 dX1_reckonAhead_83 rfl ?_
    refine V_bipush C 7 dX1_reckonAhead_84 (by decide) ?_
    refine V_aload_n C 0 dX1_reckonAhead_86 rfl ?_
    refine V_getR C FL_RX1_34 (f1_6 hb) dX1_reckonAhead_87 ?_
    refine V_bipush C 7 dX1_reckonAhead_90 (by decide) ?_
    refine V_aald6 C (k1_23 hb) (vp_lit (by decide)) dX1_reckonAhead_92 ?_
    refine V_callV (As := [.int 7, vR X (b + 24 + (7 : Int32).toNatClampNeg)]) (st := []) C (c_X1_weighParts hb (r1_23 hb (vp_lit (by decide))) h) Y_X1_weighParts Z_X1_weighParts (T := TX1) (N := 17) rfl (o1 hb) (ltN hH (by decide)) u_69 rfl rfl (Nat.le_of_ble_eq_true rfl) dX1_reckonAhead_93 ?_
    rintro v9 M1 ⟨rfl, h⟩
    show V X 96 _ [] M1
    refine V_aload_n C 0 dX1_reckonAhead_96 rfl ?_
    refine V_aload_n C 0 dX1_reckonAhead_97 rfl ?_
    refine V_getL C FL_RX1_135 (f1_11 hb) dX1_reckonAhead_98 ?_
    refine V_putL C FW_RX1_139 (f1_12 hb) dX1_reckonAhead_101 ?_
    refine V_nmM (fun M2 e_M2 => ?_)
    have h := h M2 e_M2
    exact V_vret C dX1_reckonAhead_104 (hQ _ h)
  · have h := h.2 hc
    refine V_aload_n C 0 dX1_reckonAhead_31 rfl ?_
    refine V_iload_n C 1 dX1_reckonAhead_32 rfl ?_
    refine V_iconst C 1 dX1_reckonAhead_33 (by decide) ?_
    refine V_isub C dX1_reckonAhead_34 ?_
    refine V_aload_n C 0 dX1_reckonAhead_35 rfl ?_
    refine V_getR C FL_RX1_34 (f1_6 hb) dX1_reckonAhead_36 ?_
    refine V_iload_n C 1 dX1_reckonAhead_39 rfl ?_
    refine V_iconst C 1 dX1_reckonAhead_40 (by decide) ?_
    refine V_isub C dX1_reckonAhead_41 ?_
    obtain ⟨b3, h⟩ := h
    refine V_aald6 C (k1_23 hb) b3 dX1_reckonAhead_42 ?_
    refine V_callV (As := [.int (v1 - 1), vR X (b + 24 + (v1 - 1).toNatClampNeg)]) (st := []) C (c_X1_weighParts hb (r1_23 hb b3) h) Y_X1_weighParts Z_X1_weighParts (T := TX1) (N := 17) rfl (o1 hb) (ltN hH (by decide)) u_69 rfl rfl (Nat.le_of_ble_eq_true rfl) dX1_reckonAhead_43 ?_
    rintro v9 M4 ⟨rfl, h⟩
    show V X 46 _ [] M4
    refine V_iconst C 0 dX1_reckonAhead_46 (by decide) ?_
    refine V_istore_n (lv' := [(2, .int 0), (0, vR X b), (1, .int v1)]) C (ltN hN (by decide)) dX1_reckonAhead_47 rfl ?_
    refine V_sub [1, 2, 0] rfl ?_
    exact Loop.sound (s0 := ((0 : Int32), M4)) (P := fun s => V X 48 [(0, vR X b), (1, .int v1), (2, .int (s.1))] [] (s.2)) h (fun ag hag s hs => s_X1_reckonAhead_F48 C hH hN hQ hb hag25 hag hs)
set_option maxRecDepth 20000 in
set_option maxHeartbeats 1000000 in
theorem s_X1_reckonAhead_F2 {X : wX} (C : CX X cX1_reckonAhead RX1 (none)) (hH : xH X = 2) (hN : xN X = 3) {b : Nat} {M : mM} {Q : mM → Prop} (hQ : ∀ M, Q M → xPo X none M) (hb : isC (xW X) 1 b) {v1 : Int32} {ag2 : (Int32 × mM) → Prop} (hag2 : ∀ s, ag2 s → V X 2 [(0, vR X b), (1, .int (s.1))] [] (s.2)) (h : p_X1_reckonAhead_F2 b  Q  ag2 v1 M) : V X 2 [(0, vR X b), (1, .int v1)] [] M := by
  refine V_iload_n C 1 dX1_reckonAhead_2 rfl ?_
  refine V_bipush C 21 dX1_reckonAhead_3 (by decide) ?_
  refine V_icmp_ge (tgt := 23) C dX1_reckonAhead_5 (by decide) (fun hc => ?_) (fun hc => ?_)
  · have h := h.1 hc
    refine V_iconst C 1 dX1_reckonAhead_23 (by decide) ?_
    refine V_istore_n (lv' := [(1, .int 1), (0, vR X b)]) C (ltN hN (by decide)) dX1_reckonAhead_24 rfl ?_
    refine V_sub [1, 0] rfl ?_
    exact Loop.sound (s0 := ((1 : Int32), M)) (P := fun s => V X 25 [(0, vR X b), (1, .int (s.1))] [] (s.2)) h (fun ag hag s hs => s_X1_reckonAhead_F25 C hH hN hQ hb  hag hs)
  · have h := h.2 hc
    refine V_aload_n C 0 dX1_reckonAhead_8 rfl ?_
    refine V_getR C FL_RX1_34 (f1_6 hb) dX1_reckonAhead_9 ?_
    refine V_iconst C 0 dX1_reckonAhead_12 (by decide) ?_
    refine V_aald6 C (k1_23 hb) (vp_lit (by decide)) dX1_reckonAhead_13 ?_
    refine V_iload_n C 1 dX1_reckonAhead_14 rfl ?_
    refine V_lconst C 1 dX1_reckonAhead_15 (by decide) ?_
    obtain ⟨b10, h⟩ := h
    refine V_last C (r1_23 hb (vp_lit (by decide))) b10 dX1_reckonAhead_16 ?_
    refine V_nmM (fun M9 e_M9 => ?_)
    have h := h M9 e_M9
    refine V_iinc (v := (v1 + 1)) (lv' := [(1, .int (v1 + 1)), (0, vR X b)]) C 1 (ltN hN (by decide)) dX1_reckonAhead_17 rfl rfl rfl ?_
    refine V_goto (tgt := 2) C dX1_reckonAhead_20 (by decide) ?_
    exact V_sub [1, 0] rfl (hag2 ((v1 + 1), M9) h)
set_option maxRecDepth 20000 in
set_option maxHeartbeats 1000000 in
theorem s_X1_reckonAhead {X : wX} (C : CX X cX1_reckonAhead RX1 (none)) (hH : xH X = 2) (hN : xN X = 3) {b : Nat} {M : mM} {Q : mM → Prop} (hQ : ∀ M, Q M → xPo X none M) (hb : isC (xW X) 1 b)   (h : p_X1_reckonAhead b M Q) : V X 0 [(0, vR X b)] [] M := by
  refine V_iconst C 0 dX1_reckonAhead_0 (by decide) ?_
  refine V_istore_n (lv' := [(1, .int 0), (0, vR X b)]) C (ltN hN (by decide)) dX1_reckonAhead_1 rfl ?_
  refine V_sub [1, 0] rfl ?_
  exact Loop.sound (s0 := ((0 : Int32), M)) (P := fun s => V X 2 [(0, vR X b), (1, .int (s.1))] [] (s.2)) h (fun ag hag s hs => s_X1_reckonAhead_F2 C hH hN hQ hb  hag hs)
set_option maxRecDepth 20000 in
set_option maxHeartbeats 1000000 in
theorem c_X1_reckonAhead {w : wU} {l : Launch} {b : Nat} {M : mM} {Q : mM → Prop} (hb : isC w 1 b) (h : p_X1_reckonAhead b M Q) : CT w l 2 yX1_reckonAhead cX1_reckonAhead 3 (none) [.ref (uA w b)] M (piV Q) := by
  refine CT.of (by decide +kernel) (Nat.le_of_ble_eq_true rfl) (fun X hw hH hl hP hN C => ?_)
  subst hw
  exact s_X1_reckonAhead C hH hN (fun M1 q => by rw [hP]; exact ⟨rfl, q⟩) hb h
set_option maxRecDepth 20000 in
set_option maxHeartbeats 1000000 in
theorem s_X1_reckonBehind_F48 {X : wX} (C : CX X cX1_reckonBehind RX1 (none)) (hH : xH X = 2) (hN : xN X = 3) {b : Nat} {M : mM} {Q : mM → Prop} (hQ : ∀ M, Q M → xPo X none M) (hb : isC (xW X) 1 b) {v1 : Int32} {v2 : Int32} {ag27 : (Int32 × mM) → Prop} {ag48 : (Int32 × mM) → Prop} (hag27 : ∀ s, ag27 s → V X 27 [(0, vR X b), (1, .int (s.1))] [] (s.2)) (hag48 : ∀ s, ag48 s → V X 48 [(0, vR X b), (1, .int v1), (2, .int (s.1))] [] (s.2)) (h : p_X1_reckonBehind_F48 b v1 Q ag27 ag48 v2 M) : V X 48 [(0, vR X b), (1, .int v1), (2, .int v2)] [] M := by
  refine V_iload_n C 2 dX1_reckonBehind_48 rfl ?_
  refine V_bipush C 21 dX1_reckonBehind_49 (by decide) ?_
  refine V_icmp_ge (tgt := 75) C dX1_reckonBehind_51 (by decide) (fun hc => ?_) (fun hc => ?_)
  · have h := h.1 hc
    refine V_iinc (v := (v1 + (-1))) (lv' := [(1, .int (v1 + (-1))), (0, vR X b), (2, .int v2)]) C 1 (ltN hN (by decide)) dX1_reckonBehind_75 rfl rfl rfl ?_
    refine V_goto (tgt := 27) C dX1_reckonBehind_78 (by decide) ?_
    exact V_sub [1, 0] rfl (hag27 ((v1 + (-1)), M) h)
  · have h := h.2 hc
    refine V_aload_n C 0 dX1_reckonBehind_54 rfl ?_
    refine V_getR C FL_RX1_37 (f1_7 hb) dX1_reckonBehind_55 ?_
    refine V_iload_n C 1 dX1_reckonBehind_58 rfl ?_
    obtain ⟨b3, h⟩ := h
    refine V_aald6 C (k1_32 hb) b3 dX1_reckonBehind_59 ?_
    refine V_iload_n C 2 dX1_reckonBehind_60 rfl ?_
    refine V_aload_n C 0 dX1_reckonBehind_61 rfl ?_
    refine V_iload_n C 2 dX1_reckonBehind_62 rfl ?_
    refine V_iload_n C 1 dX1_reckonBehind_63 rfl ?_
    refine V_iconst C 0 dX1_reckonBehind_64 (by decide) ?_
    refine V_callV (As := [.int v2, .int v1, .int 0]) (st := [.int v2, vR X (b + 33 + v1.toNatClampNeg)]) C (c_X1_partsBeside hb h) Y_X1_partsBeside Z_X1_partsBeside (T := TX1) (N := 17) rfl (o1 hb) (ltN hH (by decide)) u_70 rfl rfl (Nat.le_of_ble_eq_true rfl) dX1_reckonBehind_65 ?_
    rintro v9 M9 ⟨rfl, r4, rfl, h⟩
    show V X 68 _ [.long r4, .int v2, vR X (b + 33 + v1.toNatClampNeg)] M
    obtain ⟨b6, h⟩ := h
    refine V_last C (r1_32 hb b3) b6 dX1_reckonBehind_68 ?_
    refine V_nmM (fun M5 e_M5 => ?_)
    have h := h M5 e_M5
    refine V_iinc (v := (v2 + 1)) (lv' := [(2, .int (v2 + 1)), (0, vR X b), (1, .int v1)]) C 2 (ltN hN (by decide)) dX1_reckonBehind_69 rfl rfl rfl ?_
    refine V_goto (tgt := 48) C dX1_reckonBehind_72 (by decide) ?_
    exact V_sub [1, 2, 0] rfl (hag48 ((v2 + 1), M5) h)
set_option maxRecDepth 20000 in
set_option maxHeartbeats 1000000 in
theorem s_X1_reckonBehind_F27 {X : wX} (C : CX X cX1_reckonBehind RX1 (none)) (hH : xH X = 2) (hN : xN X = 3) {b : Nat} {M : mM} {Q : mM → Prop} (hQ : ∀ M, Q M → xPo X none M) (hb : isC (xW X) 1 b) {v1 : Int32} {ag27 : (Int32 × mM) → Prop} (hag27 : ∀ s, ag27 s → V X 27 [(0, vR X b), (1, .int (s.1))] [] (s.2)) (h : p_X1_reckonBehind_F27 b  Q  ag27 v1 M) : V X 27 [(0, vR X b), (1, .int v1)] [] M := by
  refine V_iload_n C 1 dX1_reckonBehind_27 rfl ?_
  refine V_if_lt (tgt := 81) C dX1_reckonBehind_28 (by decide) (fun hc => ?_) (fun hc => ?_)
  · have h := h.1 hc
    exact V_vret C dX1_reckonBehind_81 (hQ _ h)
  · have h := h.2 hc
    refine V_aload_n C 0 dX1_reckonBehind_31 rfl ?_
    refine V_iload_n C 1 dX1_reckonBehind_32 rfl ?_
    refine V_iconst C 1 dX1_reckonBehind_33 (by decide) ?_
    refine V_iadd C dX1_reckonBehind_34 ?_
    refine V_aload_n C 0 dX1_reckonBehind_35 rfl ?_
    refine V_getR C FL_RX1_37 (f1_7 hb) dX1_reckonBehind_36 ?_
    refine V_iload_n C 1 dX1_reckonBehind_39 rfl ?_
    refine V_iconst C 1 dX1_reckonBehind_40 (by decide) ?_
    refine V_iadd C dX1_reckonBehind_41 ?_
    obtain ⟨b1, h⟩ := h
    refine V_aald6 C (k1_32 hb) b1 dX1_reckonBehind_42 ?_
    refine V_callV (As := [.int (v1 + 1), vR X (b + 33 + (v1 + 1).toNatClampNeg)]) (st := []) C (c_X1_weighParts hb (r1_32 hb b1) h) Y_X1_weighParts Z_X1_weighParts (T := TX1) (N := 17) rfl (o1 hb) (ltN hH (by decide)) u_69 rfl rfl (Nat.le_of_ble_eq_true rfl) dX1_reckonBehind_43 ?_
    rintro v9 M2 ⟨rfl, h⟩
    show V X 46 _ [] M2
    refine V_iconst C 0 dX1_reckonBehind_46 (by decide) ?_
    refine V_istore_n (lv' := [(2, .int 0), (0, vR X b), (1, .int v1)]) C (ltN hN (by decide)) dX1_reckonBehind_47 rfl ?_
    refine V_sub [1, 2, 0] rfl ?_
    exact Loop.sound (s0 := ((0 : Int32), M2)) (P := fun s => V X 48 [(0, vR X b), (1, .int v1), (2, .int (s.1))] [] (s.2)) h (fun ag hag s hs => s_X1_reckonBehind_F48 C hH hN hQ hb hag27 hag hs)
set_option maxRecDepth 20000 in
set_option maxHeartbeats 1000000 in
theorem s_X1_reckonBehind_F2 {X : wX} (C : CX X cX1_reckonBehind RX1 (none)) (hH : xH X = 2) (hN : xN X = 3) {b : Nat} {M : mM} {Q : mM → Prop} (hQ : ∀ M, Q M → xPo X none M) (hb : isC (xW X) 1 b) {v1 : Int32} {ag2 : (Int32 × mM) → Prop} (hag2 : ∀ s, ag2 s → V X 2 [(0, vR X b), (1, .int (s.1))] [] (s.2)) (h : p_X1_reckonBehind_F2 b  Q  ag2 v1 M) : V X 2 [(0, vR X b), (1, .int v1)] [] M := by
  refine V_iload_n C 1 dX1_reckonBehind_2 rfl ?_
  refine V_bipush C 21 dX1_reckonBehind_3 (by decide) ?_
  refine V_icmp_ge (tgt := 24) C dX1_reckonBehind_5 (by decide) (fun hc => ?_) (fun hc => ?_)
  · have h := h.1 hc
    refine V_bipush C 6 dX1_reckonBehind_24 (by decide) ?_
    refine V_istore_n (lv' := [(1, .int 6), (0, vR X b)]) C (ltN hN (by decide)) dX1_reckonBehind_26 rfl ?_
    refine V_sub [1, 0] rfl ?_
    exact Loop.sound (s0 := ((6 : Int32), M)) (P := fun s => V X 27 [(0, vR X b), (1, .int (s.1))] [] (s.2)) h (fun ag hag s hs => s_X1_reckonBehind_F27 C hH hN hQ hb  hag hs)
  · have h := h.2 hc
    refine V_aload_n C 0 dX1_reckonBehind_8 rfl ?_
    refine V_getR C FL_RX1_37 (f1_7 hb) dX1_reckonBehind_9 ?_
    refine V_bipush C 7 dX1_reckonBehind_12 (by decide) ?_
    refine V_aald6 C (k1_32 hb) (vp_lit (by decide)) dX1_reckonBehind_14 ?_
    refine V_iload_n C 1 dX1_reckonBehind_15 rfl ?_
    refine V_lconst C 1 dX1_reckonBehind_16 (by decide) ?_
    obtain ⟨b8, h⟩ := h
    refine V_last C (r1_32 hb (vp_lit (by decide))) b8 dX1_reckonBehind_17 ?_
    refine V_nmM (fun M7 e_M7 => ?_)
    have h := h M7 e_M7
    refine V_iinc (v := (v1 + 1)) (lv' := [(1, .int (v1 + 1)), (0, vR X b)]) C 1 (ltN hN (by decide)) dX1_reckonBehind_18 rfl rfl rfl ?_
    refine V_goto (tgt := 2) C dX1_reckonBehind_21 (by decide) ?_
    exact V_sub [1, 0] rfl (hag2 ((v1 + 1), M7) h)
set_option maxRecDepth 20000 in
set_option maxHeartbeats 1000000 in
theorem s_X1_reckonBehind {X : wX} (C : CX X cX1_reckonBehind RX1 (none)) (hH : xH X = 2) (hN : xN X = 3) {b : Nat} {M : mM} {Q : mM → Prop} (hQ : ∀ M, Q M → xPo X none M) (hb : isC (xW X) 1 b)   (h : p_X1_reckonBehind b M Q) : V X 0 [(0, vR X b)] [] M := by
  refine V_iconst C 0 dX1_reckonBehind_0 (by decide) ?_
  refine V_istore_n (lv' := [(1, .int 0), (0, vR X b)]) C (ltN hN (by decide)) dX1_reckonBehind_1 rfl ?_
  refine V_sub [1, 0] rfl ?_
  exact Loop.sound (s0 := ((0 : Int32), M)) (P := fun s => V X 2 [(0, vR X b), (1, .int (s.1))] [] (s.2)) h (fun ag hag s hs => s_X1_reckonBehind_F2 C hH hN hQ hb  hag hs)
set_option maxRecDepth 20000 in
set_option maxHeartbeats 1000000 in
theorem c_X1_reckonBehind {w : wU} {l : Launch} {b : Nat} {M : mM} {Q : mM → Prop} (hb : isC w 1 b) (h : p_X1_reckonBehind b M Q) : CT w l 2 yX1_reckonBehind cX1_reckonBehind 3 (none) [.ref (uA w b)] M (piV Q) := by
  refine CT.of (by decide +kernel) (Nat.le_of_ble_eq_true rfl) (fun X hw hH hl hP hN C => ?_)
  subst hw
  exact s_X1_reckonBehind C hH hN (fun M1 q => by rw [hP]; exact ⟨rfl, q⟩) hb h
set_option maxRecDepth 20000 in
set_option maxHeartbeats 1000000 in
theorem s_X1_reckon {X : wX} (C : CX X cX1_reckon RX1 (none)) (hH : xH X = 3) (hN : xN X = 1) {b : Nat} {M : mM} {Q : mM → Prop} (hQ : ∀ M, Q M → xPo X none M) (hb : isC (xW X) 1 b)   (h : p_X1_reckon b M Q) : V X 0 [(0, vR X b)] [] M := by
  refine V_aload_n C 0 dX1_reckon_0 rfl ?_
  refine V_callV (As := []) (st := []) C (c_X1_reckonAhead hb h) Y_X1_reckonAhead Z_X1_reckonAhead (T := TX1) (N := 17) rfl (o1 hb) (ltN hH (by decide)) u_73 rfl rfl (Nat.le_of_ble_eq_true rfl) dX1_reckon_1 ?_
  rintro v9 M1 ⟨rfl, h⟩
  show V X 4 _ [] M1
  refine V_aload_n C 0 dX1_reckon_4 rfl ?_
  refine V_callV (As := []) (st := []) C (c_X1_reckonBehind hb h) Y_X1_reckonBehind Z_X1_reckonBehind (T := TX1) (N := 17) rfl (o1 hb) (ltN hH (by decide)) u_72 rfl rfl (Nat.le_of_ble_eq_true rfl) dX1_reckon_5 ?_
  rintro v9 M2 ⟨rfl, h⟩
  show V X 8 _ [] M2
  exact V_vret C dX1_reckon_8 (hQ _ h)
set_option maxRecDepth 20000 in
set_option maxHeartbeats 1000000 in
theorem c_X1_reckon {w : wU} {l : Launch} {b : Nat} {M : mM} {Q : mM → Prop} (hb : isC w 1 b) (h : p_X1_reckon b M Q) : CT w l 3 yX1_reckon cX1_reckon 1 (none) [.ref (uA w b)] M (piV Q) := by
  refine CT.of (by decide +kernel) (Nat.le_of_ble_eq_true rfl) (fun X hw hH hl hP hN C => ?_)
  subst hw
  exact s_X1_reckon C hH hN (fun M1 q => by rw [hP]; exact ⟨rfl, q⟩) hb h
set_option maxRecDepth 20000 in
set_option maxHeartbeats 1000000 in
theorem s_X1_weightOf {X : wX} (C : CX X cX1_weightOf RX1 (some .long)) (hH : xH X = 0) (hN : xN X = 3) {b : Nat} {p1 : Int32} {p2 : Int32} {M : mM} {Q : Int64 → Prop} (hQ : ∀ r, Q r → xPo X (some (.long r)) M) (hb : isC (xW X) 1 b)   (h : p_X1_weightOf b p1 p2 M Q) : V X 0 [(0, vR X b), (1, .int p1), (2, .int p2)] [] M := by
  refine V_aload_n C 0 dX1_weightOf_0 rfl ?_
  refine V_getR C FL_RX1_17 (f1_1 hb) dX1_weightOf_1 ?_
  refine V_iload_n C 1 dX1_weightOf_4 rfl ?_
  obtain ⟨b1, h⟩ := h
  refine V_aald5 C (k1_2 hb) b1 dX1_weightOf_5 ?_
  refine V_iload_n C 2 dX1_weightOf_6 rfl ?_
  obtain ⟨b2, h⟩ := h
  refine V_iald C (r1_2 hb b1) b2 dX1_weightOf_7 ?_
  refine V_if_eq (tgt := 13) C dX1_weightOf_8 (by decide) (fun hc => ?_) (fun hc => ?_)
  · have h := h.1 hc
    refine V_aload_n C 0 dX1_weightOf_13 rfl ?_
    refine V_getR C FL_RX1_34 (f1_6 hb) dX1_weightOf_14 ?_
    refine V_iload_n C 1 dX1_weightOf_17 rfl ?_
    obtain ⟨b3, h⟩ := h
    refine V_aald6 C (k1_23 hb) b3 dX1_weightOf_18 ?_
    refine V_iload_n C 2 dX1_weightOf_19 rfl ?_
    obtain ⟨b4, h⟩ := h
    refine V_lald C (r1_23 hb b3) b4 dX1_weightOf_20 ?_
    refine V_aload_n C 0 dX1_weightOf_21 rfl ?_
    refine V_getR C FL_RX1_9 (f1_0 hb) dX1_weightOf_22 ?_
    refine V_iload_n C 2 dX1_weightOf_25 rfl ?_
    obtain ⟨b5, h⟩ := h
    refine V_iald C (k1_1 hb) b5 dX1_weightOf_26 ?_
    refine V_i2l C dX1_weightOf_27 ?_
    refine V_lmul C dX1_weightOf_28 ?_
    refine V_aload_n C 0 dX1_weightOf_29 rfl ?_
    refine V_getR C FL_RX1_37 (f1_7 hb) dX1_weightOf_30 ?_
    refine V_iload_n C 1 dX1_weightOf_33 rfl ?_
    obtain ⟨b6, h⟩ := h
    refine V_aald6 C (k1_32 hb) b6 dX1_weightOf_34 ?_
    refine V_iload_n C 2 dX1_weightOf_35 rfl ?_
    obtain ⟨b7, h⟩ := h
    refine V_lald C (r1_32 hb b6) b7 dX1_weightOf_36 ?_
    refine V_lmul C dX1_weightOf_37 ?_
    exact V_lret C dX1_weightOf_38 (hQ _ h)
  · have h := h.2 hc
    refine V_lconst C 0 dX1_weightOf_11 (by decide) ?_
    exact V_lret C dX1_weightOf_12 (hQ _ h)
set_option maxRecDepth 20000 in
set_option maxHeartbeats 1000000 in
theorem c_X1_weightOf {w : wU} {l : Launch} {b : Nat} {p1 : Int32} {p2 : Int32} {M : mM} {Q : Int64 → Prop} (hb : isC w 1 b) (h : p_X1_weightOf b p1 p2 M Q) : CT w l 0 yX1_weightOf cX1_weightOf 3 (some .long) [.ref (uA w b), .int p1, .int p2] M (poL M Q) := by
  refine CT.of (by decide +kernel) (Nat.le_of_ble_eq_true rfl) (fun X hw hH hl hP hN C => ?_)
  subst hw
  exact s_X1_weightOf C hH hN (fun r q => by rw [hP]; exact ⟨rfl, r, rfl, q⟩) hb h
set_option maxRecDepth 20000 in
set_option maxHeartbeats 1000000 in
theorem s_X1_mostNext {X : wX} (C : CX X cX1_mostNext RX1 (some .long)) (hH : xH X = 1) (hN : xN X = 4) {b : Nat} {p1 : Int32} {p2 : Int32} {p3 : Int32} {M : mM} {Q : Int64 → Prop} (hQ : ∀ r, Q r → xPo X (some (.long r)) M) (hb : isC (xW X) 1 b)   (h : p_X1_mostNext b p1 p2 p3 M Q) : V X 0 [(0, vR X b), (1, .int p1), (2, .int p2), (3, .int p3)] [] M := by
  refine V_iload_n C 1 dX1_mostNext_0 rfl ?_
  refine V_if_eq (tgt := 9) C dX1_mostNext_1 (by decide) (fun hc => ?_) (fun hc => ?_)
  · have h := h.1 hc
    refine V_aload_n C 0 dX1_mostNext_9 rfl ?_
    refine V_getR C FL_RX1_40 (f1_8 hb) dX1_mostNext_10 ?_
    refine V_iload_n C 1 dX1_mostNext_13 rfl ?_
    obtain ⟨b1, h⟩ := h
    refine V_aald6 C (k1_41 hb) b1 dX1_mostNext_14 ?_
    refine V_iload_n C 2 dX1_mostNext_15 rfl ?_
    obtain ⟨b2, h⟩ := h
    refine V_lald C (r1_41 hb b1) b2 dX1_mostNext_16 ?_
    exact V_lret C dX1_mostNext_17 (hQ _ h)
  · have h := h.2 hc
    refine V_iload_n C 3 dX1_mostNext_4 rfl ?_
    refine V_iconst C (-1) dX1_mostNext_5 (by decide) ?_
    refine V_icmp_ne (tgt := 18) C dX1_mostNext_6 (by decide) (fun hc => ?_) (fun hc => ?_)
    · have h := h.1 hc
      refine V_aload_n C 0 dX1_mostNext_18 rfl ?_
      refine V_getR C FL_RX1_40 (f1_8 hb) dX1_mostNext_19 ?_
      refine V_iload_n C 1 dX1_mostNext_22 rfl ?_
      obtain ⟨b3, h⟩ := h
      refine V_aald6 C (k1_41 hb) b3 dX1_mostNext_23 ?_
      refine V_iload_n C 2 dX1_mostNext_24 rfl ?_
      obtain ⟨b4, h⟩ := h
      refine V_lald C (r1_41 hb b3) b4 dX1_mostNext_25 ?_
      refine V_aload_n C 0 dX1_mostNext_26 rfl ?_
      refine V_iload_n C 1 dX1_mostNext_27 rfl ?_
      refine V_iconst C 1 dX1_mostNext_28 (by decide) ?_
      refine V_isub C dX1_mostNext_29 ?_
      refine V_iload_n C 3 dX1_mostNext_30 rfl ?_
      refine V_iload_n C 2 dX1_mostNext_31 rfl ?_
      refine V_callV (As := [.int (p1 - 1), .int p3, .int p2]) (st := [.long (M.2 (b + 42 + p1.toNatClampNeg) p2.toNatClampNeg)]) C (c_X1_joint hb h) Y_X1_joint Z_X1_joint (T := TX1) (N := 17) rfl (o1 hb) (ltN hH (by decide)) u_66 rfl rfl (Nat.le_of_ble_eq_true rfl) dX1_mostNext_32 ?_
      rintro v9 M9 ⟨rfl, r5, rfl, h⟩
      show V X 35 _ [.int r5, .long (M.2 (b + 42 + p1.toNatClampNeg) p2.toNatClampNeg)] M
      refine V_i2l C dX1_mostNext_35 ?_
      refine V_lmul C dX1_mostNext_36 ?_
      exact V_lret C dX1_mostNext_37 (hQ _ h)
    · have h := h.2 hc
      refine V_aload_n C 0 dX1_mostNext_9 rfl ?_
      refine V_getR C FL_RX1_40 (f1_8 hb) dX1_mostNext_10 ?_
      refine V_iload_n C 1 dX1_mostNext_13 rfl ?_
      obtain ⟨b6, h⟩ := h
      refine V_aald6 C (k1_41 hb) b6 dX1_mostNext_14 ?_
      refine V_iload_n C 2 dX1_mostNext_15 rfl ?_
      obtain ⟨b7, h⟩ := h
      refine V_lald C (r1_41 hb b6) b7 dX1_mostNext_16 ?_
      exact V_lret C dX1_mostNext_17 (hQ _ h)
set_option maxRecDepth 20000 in
set_option maxHeartbeats 1000000 in
theorem c_X1_mostNext {w : wU} {l : Launch} {b : Nat} {p1 : Int32} {p2 : Int32} {p3 : Int32} {M : mM} {Q : Int64 → Prop} (hb : isC w 1 b) (h : p_X1_mostNext b p1 p2 p3 M Q) : CT w l 1 yX1_mostNext cX1_mostNext 4 (some .long) [.ref (uA w b), .int p1, .int p2, .int p3] M (poL M Q) := by
  refine CT.of (by decide +kernel) (Nat.le_of_ble_eq_true rfl) (fun X hw hH hl hP hN C => ?_)
  subst hw
  exact s_X1_mostNext C hH hN (fun r q => by rw [hP]; exact ⟨rfl, r, rfl, q⟩) hb h
set_option maxRecDepth 20000 in
set_option maxHeartbeats 1000000 in
theorem s_X1_bestNext_F5 {X : wX} (C : CX X cX1_bestNext RX1 (some .int)) (hH : xH X = 2) (hN : xN X = 5) {b : Nat} {p1 : Int32} {p2 : Int32} {M : mM} {Q : Int32 → Prop} (hQ : ∀ r, Q r → xPo X (some (.int r)) M) (hb : isC (xW X) 1 b) {v3 : Int32} {v4 : Int32} {ag5 : (Int32 × Int32) → Prop} (hag5 : ∀ s, ag5 s → V X 5 [(0, vR X b), (1, .int p1), (2, .int p2), (3, .int (s.1)), (4, .int (s.2))] [] M) (h : p_X1_bestNext_F5 b p1 p2  M Q  ag5 v3 v4) : V X 5 [(0, vR X b), (1, .int p1), (2, .int p2), (3, .int v3), (4, .int v4)] [] M := by
  refine V_iload C 4 dX1_bestNext_5 rfl ?_
  refine V_bipush C 21 dX1_bestNext_7 (by decide) ?_
  refine V_icmp_ge (tgt := 40) C dX1_bestNext_9 (by decide) (fun hc => ?_) (fun hc => ?_)
  · have h := h.1 hc
    refine V_iload_n C 3 dX1_bestNext_40 rfl ?_
    exact V_iret C dX1_bestNext_41 (hQ _ h)
  · have h := h.2 hc
    refine V_aload_n C 0 dX1_bestNext_12 rfl ?_
    refine V_iload_n C 1 dX1_bestNext_13 rfl ?_
    refine V_iload C 4 dX1_bestNext_14 rfl ?_
    refine V_iload_n C 2 dX1_bestNext_16 rfl ?_
    refine V_callV (As := [.int p1, .int v4, .int p2]) (st := []) C (c_X1_mostNext hb h) Y_X1_mostNext Z_X1_mostNext (T := TX1) (N := 17) rfl (o1 hb) (ltN hH (by decide)) u_75 rfl rfl (Nat.le_of_ble_eq_true rfl) dX1_bestNext_17 ?_
    rintro v9 M9 ⟨rfl, r1, rfl, h⟩
    show V X 20 _ [.long r1] M
    refine V_aload_n C 0 dX1_bestNext_20 rfl ?_
    refine V_iload_n C 1 dX1_bestNext_21 rfl ?_
    refine V_iload_n C 3 dX1_bestNext_22 rfl ?_
    refine V_iload_n C 2 dX1_bestNext_23 rfl ?_
    refine V_callV (As := [.int p1, .int v3, .int p2]) (st := [.long r1]) C (c_X1_mostNext hb h) Y_X1_mostNext Z_X1_mostNext (T := TX1) (N := 17) rfl (o1 hb) (ltN hH (by decide)) u_75 rfl rfl (Nat.le_of_ble_eq_true rfl) dX1_bestNext_24 ?_
    rintro v9 M9 ⟨rfl, r2, rfl, h⟩
    show V X 27 _ [.long r2, .long r1] M
    refine V_lcmp C dX1_bestNext_27 ?_
    refine V_if_le (tgt := 34) C dX1_bestNext_28 (by decide) (fun hc => ?_) (fun hc => ?_)
    · have h := h.1 (lgc_le.mp hc)
      refine V_iinc (v := (v4 + 1)) (lv' := [(4, .int (v4 + 1)), (0, vR X b), (1, .int p1), (2, .int p2), (3, .int v3)]) C 4 (ltN hN (by decide)) dX1_bestNext_34 rfl rfl rfl ?_
      refine V_goto (tgt := 5) C dX1_bestNext_37 (by decide) ?_
      exact V_sub [1, 2, 3, 4, 0] rfl (hag5 (v3, (v4 + 1)) h)
    · have h := h.2 (lgc_nle.mp hc)
      refine V_iload C 4 dX1_bestNext_31 rfl ?_
      refine V_istore_n (lv' := [(3, .int v4), (0, vR X b), (1, .int p1), (2, .int p2), (4, .int v4)]) C (ltN hN (by decide)) dX1_bestNext_33 rfl ?_
      refine V_iinc (v := (v4 + 1)) (lv' := [(4, .int (v4 + 1)), (3, .int v4), (0, vR X b), (1, .int p1), (2, .int p2)]) C 4 (ltN hN (by decide)) dX1_bestNext_34 rfl rfl rfl ?_
      refine V_goto (tgt := 5) C dX1_bestNext_37 (by decide) ?_
      exact V_sub [2, 3, 4, 1, 0] rfl (hag5 (v4, (v4 + 1)) h)
set_option maxRecDepth 20000 in
set_option maxHeartbeats 1000000 in
theorem s_X1_bestNext {X : wX} (C : CX X cX1_bestNext RX1 (some .int)) (hH : xH X = 2) (hN : xN X = 5) {b : Nat} {p1 : Int32} {p2 : Int32} {M : mM} {Q : Int32 → Prop} (hQ : ∀ r, Q r → xPo X (some (.int r)) M) (hb : isC (xW X) 1 b)   (h : p_X1_bestNext b p1 p2 M Q) : V X 0 [(0, vR X b), (1, .int p1), (2, .int p2)] [] M := by
  refine V_iconst C 0 dX1_bestNext_0 (by decide) ?_
  refine V_istore_n (lv' := [(3, .int 0), (0, vR X b), (1, .int p1), (2, .int p2)]) C (ltN hN (by decide)) dX1_bestNext_1 rfl ?_
  refine V_iconst C 1 dX1_bestNext_2 (by decide) ?_
  refine V_istore (lv' := [(4, .int 1), (3, .int 0), (0, vR X b), (1, .int p1), (2, .int p2)]) C (ltN hN (by decide)) dX1_bestNext_3 rfl ?_
  refine V_sub [2, 3, 4, 1, 0] rfl ?_
  exact Loop.sound (s0 := ((0 : Int32), (1 : Int32))) (P := fun s => V X 5 [(0, vR X b), (1, .int p1), (2, .int p2), (3, .int (s.1)), (4, .int (s.2))] [] M) h (fun ag hag s hs => s_X1_bestNext_F5 C hH hN hQ hb  hag hs)
set_option maxRecDepth 20000 in
set_option maxHeartbeats 1000000 in
theorem c_X1_bestNext {w : wU} {l : Launch} {b : Nat} {p1 : Int32} {p2 : Int32} {M : mM} {Q : Int32 → Prop} (hb : isC w 1 b) (h : p_X1_bestNext b p1 p2 M Q) : CT w l 2 yX1_bestNext cX1_bestNext 5 (some .int) [.ref (uA w b), .int p1, .int p2] M (poI M Q) := by
  refine CT.of (by decide +kernel) (Nat.le_of_ble_eq_true rfl) (fun X hw hH hl hP hN C => ?_)
  subst hw
  exact s_X1_bestNext C hH hN (fun r q => by rw [hP]; exact ⟨rfl, r, rfl, q⟩) hb h
set_option maxRecDepth 20000 in
set_option maxHeartbeats 1000000 in
theorem s_X1_reckonMost_J41 {X : wX} (C : CX X cX1_reckonMost RX1 (none)) (hH : xH X = 3) (hN : xN X = 5) {b : Nat} {M : mM} {Q : mM → Prop} (hQ : ∀ M, Q M → xPo X none M) (hb : isC (xW X) 1 b) {v1 : Int32} {v2 : Int32} {s0 : Int64} {ag3 : (Int32 × mM) → Prop} {ag9 : (Int32 × mM) → Prop} (hag3 : ∀ s, ag3 s → V X 3 [(0, vR X b), (1, .int (s.1))] [] (s.2)) (hag9 : ∀ s, ag9 s → V X 9 [(0, vR X b), (1, .int v1), (2, .int (s.1))] [] (s.2)) (h : p_X1_reckonMost_J41 b Q ag3 ag9 v1 v2 s0 M) : V X 41 [(0, vR X b), (1, .int v1), (2, .int v2)] [.long s0] M := by
  refine V_lstore_n (lv' := [(3, .long s0), (0, vR X b), (1, .int v1), (2, .int v2)]) C (ltN hN (by decide)) dX1_reckonMost_41 rfl ?_
  refine V_aload_n C 1 dX1_reckonMost_42 rfl ?_
  refine V_getR C FL_RX1_40 (f1_8 hb) dX1_reckonMost_43 ?_
  refine V_iload_n C 2 dX1_reckonMost_46 rfl ?_
  obtain ⟨b3, h⟩ := h
  refine V_aald6 C (k1_41 hb) b3 dX1_reckonMost_47 ?_
  refine V_iload_n C 3 dX1_reckonMost_48 rfl ?_
  refine V_aload_n C 1 dX1_reckonMost_49 rfl ?_
  refine V_getR C FL_RX1_17 (f1_1 hb) dX1_reckonMost_50 ?_
  refine V_iload_n C 2 dX1_reckonMost_53 rfl ?_
  obtain ⟨b4, h⟩ := h
  refine V_aald5 C (k1_2 hb) b4 dX1_reckonMost_54 ?_
  refine V_iload_n C 3 dX1_reckonMost_55 rfl ?_
  obtain ⟨b5, h⟩ := h
  refine V_iald C (r1_2 hb b4) b5 dX1_reckonMost_56 ?_
  refine V_if_ne (tgt := 72) C dX1_reckonMost_57 (by decide) (fun hc => ?_) (fun hc => ?_)
  · have h := h.1 hc
    refine V_lconst C 0 dX1_reckonMost_72 (by decide) ?_
    obtain ⟨b7, h⟩ := h
    refine V_last C (r1_41 hb b3) b7 dX1_reckonMost_73 ?_
    refine V_nmM (fun M6 e_M6 => ?_)
    have h := h M6 e_M6
    refine V_iinc (v := (v2 + 1)) (lv' := [(2, .int (v2 + 1)), (3, .long s0), (0, vR X b), (1, .int v1)]) C 3 (ltN hN (by decide)) dX1_reckonMost_74 rfl rfl rfl ?_
    refine V_goto (tgt := 9) C dX1_reckonMost_77 (by decide) ?_
    exact V_sub [2, 3, 0] rfl (hag9 ((v2 + 1), M6) h)
  · have h := h.2 hc
    refine V_aload_n C 1 dX1_reckonMost_60 rfl ?_
    refine V_getR C FL_RX1_9 (f1_0 hb) dX1_reckonMost_61 ?_
    refine V_iload_n C 3 dX1_reckonMost_64 rfl ?_
    obtain ⟨b8, h⟩ := h
    refine V_iald C (k1_1 hb) b8 dX1_reckonMost_65 ?_
    refine V_i2l C dX1_reckonMost_66 ?_
    refine V_lload_n C 0 dX1_reckonMost_67 rfl ?_
    refine V_lmul C dX1_reckonMost_68 ?_
    refine V_goto (tgt := 73) C dX1_reckonMost_69 (by decide) ?_
    obtain ⟨b10, h⟩ := h
    refine V_last C (r1_41 hb b3) b10 dX1_reckonMost_73 ?_
    refine V_nmM (fun M9 e_M9 => ?_)
    have h := h M9 e_M9
    refine V_iinc (v := (v2 + 1)) (lv' := [(2, .int (v2 + 1)), (3, .long s0), (0, vR X b), (1, .int v1)]) C 3 (ltN hN (by decide)) dX1_reckonMost_74 rfl rfl rfl ?_
    refine V_goto (tgt := 9) C dX1_reckonMost_77 (by decide) ?_
    exact V_sub [2, 3, 0] rfl (hag9 ((v2 + 1), M9) h)
set_option maxRecDepth 20000 in
set_option maxHeartbeats 1000000 in
theorem s_X1_reckonMost_F9 {X : wX} (C : CX X cX1_reckonMost RX1 (none)) (hH : xH X = 3) (hN : xN X = 5) {b : Nat} {M : mM} {Q : mM → Prop} (hQ : ∀ M, Q M → xPo X none M) (hb : isC (xW X) 1 b) {v1 : Int32} {v2 : Int32} {ag3 : (Int32 × mM) → Prop} {ag9 : (Int32 × mM) → Prop} (hag3 : ∀ s, ag3 s → V X 3 [(0, vR X b), (1, .int (s.1))] [] (s.2)) (hag9 : ∀ s, ag9 s → V X 9 [(0, vR X b), (1, .int v1), (2, .int (s.1))] [] (s.2)) (h : p_X1_reckonMost_F9 b v1 Q ag3 ag9 v2 M) : V X 9 [(0, vR X b), (1, .int v1), (2, .int v2)] [] M := by
  refine V_iload_n C 2 dX1_reckonMost_9 rfl ?_
  refine V_bipush C 21 dX1_reckonMost_10 (by decide) ?_
  refine V_icmp_ge (tgt := 80) C dX1_reckonMost_12 (by decide) (fun hc => ?_) (fun hc => ?_)
  · have h := h.1 hc
    refine V_iinc (v := (v1 + (-1))) (lv' := [(1, .int (v1 + (-1))), (0, vR X b), (2, .int v2)]) C 1 (ltN hN (by decide)) dX1_reckonMost_80 rfl rfl rfl ?_
    refine V_goto (tgt := 3) C dX1_reckonMost_83 (by decide) ?_
    exact V_sub [1, 0] rfl (hag3 ((v1 + (-1)), M) h)
  · have h := h.2 hc
    refine V_iload_n C 1 dX1_reckonMost_15 rfl ?_
    refine V_bipush C 7 dX1_reckonMost_16 (by decide) ?_
    refine V_icmp_ne (tgt := 25) C dX1_reckonMost_18 (by decide) (fun hc => ?_) (fun hc => ?_)
    · have h := h.1 hc
      refine V_aload_n C 0 dX1_reckonMost_25 rfl ?_
      refine V_iload_n C 1 dX1_reckonMost_26 rfl ?_
      refine V_iconst C 1 dX1_reckonMost_27 (by decide) ?_
      refine V_iadd C dX1_reckonMost_28 ?_
      refine V_aload_n C 0 dX1_reckonMost_29 rfl ?_
      refine V_iload_n C 1 dX1_reckonMost_30 rfl ?_
      refine V_iconst C 1 dX1_reckonMost_31 (by decide) ?_
      refine V_iadd C dX1_reckonMost_32 ?_
      refine V_iload_n C 2 dX1_reckonMost_33 rfl ?_
      refine V_callV (As := [.int (v1 + 1), .int v2]) (st := [.int (v1 + 1), vR X b]) C (c_X1_bestNext hb h) Y_X1_bestNext Z_X1_bestNext (T := TX1) (N := 17) rfl (o1 hb) (ltN hH (by decide)) u_76 rfl rfl (Nat.le_of_ble_eq_true rfl) dX1_reckonMost_34 ?_
      rintro v9 M9 ⟨rfl, r1, rfl, h⟩
      show V X 37 _ [.int r1, .int (v1 + 1), vR X b] M
      refine V_iload_n C 2 dX1_reckonMost_37 rfl ?_
      refine V_callV (As := [.int (v1 + 1), .int r1, .int v2]) (st := []) C (c_X1_mostNext hb h) Y_X1_mostNext Z_X1_mostNext (T := TX1) (N := 17) rfl (o1 hb) (ltN hH (by decide)) u_75 rfl rfl (Nat.le_of_ble_eq_true rfl) dX1_reckonMost_38 ?_
      rintro v9 M9 ⟨rfl, r2, rfl, h⟩
      show V X 41 _ [.long r2] M
      exact V_sub [0, 1, 2] rfl (s_X1_reckonMost_J41 C hH hN hQ hb hag3 hag9  h)
    · have h := h.2 hc
      refine V_lconst C 1 dX1_reckonMost_21 (by decide) ?_
      refine V_goto (tgt := 41) C dX1_reckonMost_22 (by decide) ?_
      exact V_sub [0, 1, 2] rfl (s_X1_reckonMost_J41 C hH hN hQ hb hag3 hag9  h)
set_option maxRecDepth 20000 in
set_option maxHeartbeats 1000000 in
theorem s_X1_reckonMost_F3 {X : wX} (C : CX X cX1_reckonMost RX1 (none)) (hH : xH X = 3) (hN : xN X = 5) {b : Nat} {M : mM} {Q : mM → Prop} (hQ : ∀ M, Q M → xPo X none M) (hb : isC (xW X) 1 b) {v1 : Int32} {ag3 : (Int32 × mM) → Prop} (hag3 : ∀ s, ag3 s → V X 3 [(0, vR X b), (1, .int (s.1))] [] (s.2)) (h : p_X1_reckonMost_F3 b  Q  ag3 v1 M) : V X 3 [(0, vR X b), (1, .int v1)] [] M := by
  refine V_iload_n C 1 dX1_reckonMost_3 rfl ?_
  refine V_if_lt (tgt := 86) C dX1_reckonMost_4 (by decide) (fun hc => ?_) (fun hc => ?_)
  · have h := h.1 hc
    exact V_vret C dX1_reckonMost_86 (hQ _ h)
  · have h := h.2 hc
    refine V_iconst C 0 dX1_reckonMost_7 (by decide) ?_
    refine V_istore_n (lv' := [(2, .int 0), (0, vR X b), (1, .int v1)]) C (ltN hN (by decide)) dX1_reckonMost_8 rfl ?_
    refine V_sub [1, 2, 0] rfl ?_
    exact Loop.sound (s0 := ((0 : Int32), M)) (P := fun s => V X 9 [(0, vR X b), (1, .int v1), (2, .int (s.1))] [] (s.2)) h (fun ag hag s hs => s_X1_reckonMost_F9 C hH hN hQ hb hag3 hag hs)
set_option maxRecDepth 20000 in
set_option maxHeartbeats 1000000 in
theorem s_X1_reckonMost {X : wX} (C : CX X cX1_reckonMost RX1 (none)) (hH : xH X = 3) (hN : xN X = 5) {b : Nat} {M : mM} {Q : mM → Prop} (hQ : ∀ M, Q M → xPo X none M) (hb : isC (xW X) 1 b)   (h : p_X1_reckonMost b M Q) : V X 0 [(0, vR X b)] [] M := by
  refine V_bipush C 7 dX1_reckonMost_0 (by decide) ?_
  refine V_istore_n (lv' := [(1, .int 7), (0, vR X b)]) C (ltN hN (by decide)) dX1_reckonMost_2 rfl ?_
  refine V_sub [1, 0] rfl ?_
  exact Loop.sound (s0 := ((7 : Int32), M)) (P := fun s => V X 3 [(0, vR X b), (1, .int (s.1))] [] (s.2)) h (fun ag hag s hs => s_X1_reckonMost_F3 C hH hN hQ hb  hag hs)
set_option maxRecDepth 20000 in
set_option maxHeartbeats 1000000 in
theorem c_X1_reckonMost {w : wU} {l : Launch} {b : Nat} {M : mM} {Q : mM → Prop} (hb : isC w 1 b) (h : p_X1_reckonMost b M Q) : CT w l 3 yX1_reckonMost cX1_reckonMost 5 (none) [.ref (uA w b)] M (piV Q) := by
  refine CT.of (by decide +kernel) (Nat.le_of_ble_eq_true rfl) (fun X hw hH hl hP hN C => ?_)
  subst hw
  exact s_X1_reckonMost C hH hN (fun M1 q => by rw [hP]; exact ⟨rfl, q⟩) hb h
set_option maxRecDepth 20000 in
set_option maxHeartbeats 1000000 in
theorem s_X1_likeliestAt_F8 {X : wX} (C : CX X cX1_likeliestAt RX1 (some .int)) (hH : xH X = 4) (hN : xN X = 4) {b : Nat} {p1 : Int32} {M : mM} {Q : Int32 → mM → Prop} (hQ : ∀ r M, Q r M → xPo X (some (.int r)) M) (hb : isC (xW X) 1 b) {v2 : Int32} {v3 : Int32} {ag8 : (Int32 × Int32) → Prop} (hag8 : ∀ s, ag8 s → V X 8 [(0, vR X b), (1, .int p1), (2, .int (s.1)), (3, .int (s.2))] [] M) (h : p_X1_likeliestAt_F8 b p1  M Q  ag8 v2 v3) : V X 8 [(0, vR X b), (1, .int p1), (2, .int v2), (3, .int v3)] [] M := by
  refine V_iload_n C 3 dX1_likeliestAt_8 rfl ?_
  refine V_iload_n C 1 dX1_likeliestAt_9 rfl ?_
  refine V_icmp_gt (tgt := 32) C dX1_likeliestAt_10 (by decide) (fun hc => ?_) (fun hc => ?_)
  · have h := h.1 hc
    refine V_iload_n C 2 dX1_likeliestAt_32 rfl ?_
    exact V_iret C dX1_likeliestAt_33 (hQ _ _ h)
  · have h := h.2 hc
    refine V_iload_n C 3 dX1_likeliestAt_13 rfl ?_
    refine V_bipush C 8 dX1_likeliestAt_14 (by decide) ?_
    refine V_icmp_ge (tgt := 32) C dX1_likeliestAt_16 (by decide) (fun hc => ?_) (fun hc => ?_)
    · have h := h.1 hc
      refine V_iload_n C 2 dX1_likeliestAt_32 rfl ?_
      exact V_iret C dX1_likeliestAt_33 (hQ _ _ h)
    · have h := h.2 hc
      refine V_aload_n C 0 dX1_likeliestAt_19 rfl ?_
      refine V_iload_n C 3 dX1_likeliestAt_20 rfl ?_
      refine V_iload_n C 2 dX1_likeliestAt_21 rfl ?_
      refine V_callV (As := [.int v3, .int v2]) (st := []) C (c_X1_bestNext hb h) Y_X1_bestNext Z_X1_bestNext (T := TX1) (N := 17) rfl (o1 hb) (ltN hH (by decide)) u_76 rfl rfl (Nat.le_of_ble_eq_true rfl) dX1_likeliestAt_22 ?_
      rintro v9 M9 ⟨rfl, r2, rfl, h⟩
      show V X 25 _ [.int r2] M
      refine V_istore_n (lv' := [(2, .int r2), (0, vR X b), (1, .int p1), (3, .int v3)]) C (ltN hN (by decide)) dX1_likeliestAt_25 rfl ?_
      refine V_iinc (v := (v3 + 1)) (lv' := [(3, .int (v3 + 1)), (2, .int r2), (0, vR X b), (1, .int p1)]) C 3 (ltN hN (by decide)) dX1_likeliestAt_26 rfl rfl rfl ?_
      refine V_goto (tgt := 8) C dX1_likeliestAt_29 (by decide) ?_
      exact V_sub [2, 3, 1, 0] rfl (hag8 (r2, (v3 + 1)) h)
set_option maxRecDepth 20000 in
set_option maxHeartbeats 1000000 in
theorem s_X1_likeliestAt {X : wX} (C : CX X cX1_likeliestAt RX1 (some .int)) (hH : xH X = 4) (hN : xN X = 4) {b : Nat} {p1 : Int32} {M : mM} {Q : Int32 → mM → Prop} (hQ : ∀ r M, Q r M → xPo X (some (.int r)) M) (hb : isC (xW X) 1 b)   (h : p_X1_likeliestAt b p1 M Q) : V X 0 [(0, vR X b), (1, .int p1)] [] M := by
  refine V_aload_n C 0 dX1_likeliestAt_0 rfl ?_
  refine V_callV (As := []) (st := []) C (c_X1_reckonMost hb h) Y_X1_reckonMost Z_X1_reckonMost (T := TX1) (N := 17) rfl (o1 hb) (ltN hH (by decide)) u_77 rfl rfl (Nat.le_of_ble_eq_true rfl) dX1_likeliestAt_1 ?_
  rintro v9 M1 ⟨rfl, h⟩
  show V X 4 _ [] M1
  refine V_iconst C (-1) dX1_likeliestAt_4 (by decide) ?_
  refine V_istore_n (lv' := [(2, .int (-1)), (0, vR X b), (1, .int p1)]) C (ltN hN (by decide)) dX1_likeliestAt_5 rfl ?_
  refine V_iconst C 0 dX1_likeliestAt_6 (by decide) ?_
  refine V_istore_n (lv' := [(3, .int 0), (2, .int (-1)), (0, vR X b), (1, .int p1)]) C (ltN hN (by decide)) dX1_likeliestAt_7 rfl ?_
  refine V_sub [2, 3, 1, 0] rfl ?_
  exact Loop.sound (s0 := ((-1 : Int32), (0 : Int32))) (P := fun s => V X 8 [(0, vR X b), (1, .int p1), (2, .int (s.1)), (3, .int (s.2))] [] M1) h (fun ag hag s hs => s_X1_likeliestAt_F8 C hH hN hQ hb  hag hs)
set_option maxRecDepth 20000 in
set_option maxHeartbeats 1000000 in
theorem c_X1_likeliestAt {w : wU} {l : Launch} {b : Nat} {p1 : Int32} {M : mM} {Q : Int32 → mM → Prop} (hb : isC w 1 b) (h : p_X1_likeliestAt b p1 M Q) : CT w l 4 yX1_likeliestAt cX1_likeliestAt 4 (some .int) [.ref (uA w b), .int p1] M (piI Q) := by
  refine CT.of (by decide +kernel) (Nat.le_of_ble_eq_true rfl) (fun X hw hH hl hP hN C => ?_)
  subst hw
  exact s_X1_likeliestAt C hH hN (fun r M1 q => by rw [hP]; exact ⟨r, rfl, q⟩) hb h
set_option maxRecDepth 20000 in
set_option maxHeartbeats 1000000 in
theorem s_X1_weighLamps_F52 {X : wX} (C : CX X cX1_weighLamps RX1 (none)) (hH : xH X = 1) (hN : xN X = 8) {b : Nat} {p1 : Nat} {p2 : Int32} {M : mM} {Q : mM → Prop} (hQ : ∀ M, Q M → xPo X none M) (hb : isC (xW X) 1 b) (h1 : isC (xW X) 4 p1) {v3 : Int32} {v4 : Int64} {v6 : Int32} {v7 : Int32} {ag22 : (Int32 × mM) → Prop} {ag52 : (Int32 × mM) → Prop} (hag22 : ∀ s, ag22 s → V X 22 [(0, vR X b), (1, vR X p1), (2, .int p2), (3, .int (s.1))] [] (s.2)) (hag52 : ∀ s, ag52 s → V X 52 [(0, vR X b), (1, vR X p1), (2, .int p2), (3, .int v3), (4, .long v4), (6, .int v6), (7, .int (s.1))] [] (s.2)) (h : p_X1_weighLamps_F52 b p1 p2 v3 v4 v6 Q ag22 ag52 v7 M) : V X 52 [(0, vR X b), (1, vR X p1), (2, .int p2), (3, .int v3), (4, .long v4), (6, .int v6), (7, .int v7)] [] M := by
  refine V_iload C 6 dX1_weighLamps_52 rfl ?_
  refine V_iconst C 4 dX1_weighLamps_54 (by decide) ?_
  refine V_icmp_ge (tgt := 85) C dX1_weighLamps_55 (by decide) (fun hc => ?_) (fun hc => ?_)
  · have h := h.1 hc
    refine V_iinc (v := (v3 + 1)) (lv' := [(3, .int (v3 + 1)), (0, vR X b), (1, vR X p1), (2, .int p2), (4, .long v4), (6, .int v6), (7, .int v7)]) C 3 (ltN hN (by decide)) dX1_weighLamps_85 rfl rfl rfl ?_
    refine V_goto (tgt := 22) C dX1_weighLamps_88 (by decide) ?_
    exact V_sub [1, 2, 3, 0] rfl (hag22 ((v3 + 1), M) h)
  · have h := h.2 hc
    refine V_aload_n C 0 dX1_weighLamps_58 rfl ?_
    refine V_getR C FL_RX1_47 (f1_10 hb) dX1_weighLamps_59 ?_
    refine V_iload C 6 dX1_weighLamps_62 rfl ?_
    refine V_dup2_1 C dX1_weighLamps_64 rfl rfl ?_
    obtain ⟨b6, h⟩ := h
    refine V_lald C (k1_51 hb) b6 dX1_weighLamps_65 ?_
    refine V_iload C 5 dX1_weighLamps_66 rfl ?_
    refine V_iload C 6 dX1_weighLamps_68 rfl ?_
    refine V_ishr C dX1_weighLamps_70 ?_
    refine V_iconst C 1 dX1_weighLamps_71 (by decide) ?_
    refine V_iand C dX1_weighLamps_72 ?_
    refine V_i2l C dX1_weighLamps_73 ?_
    refine V_lload C 4 dX1_weighLamps_74 rfl ?_
    refine V_lmul C dX1_weighLamps_76 ?_
    refine V_ladd C dX1_weighLamps_77 ?_
    obtain ⟨b8, h⟩ := h
    refine V_last C (k1_51 hb) b8 dX1_weighLamps_78 ?_
    refine V_nmM (fun M7 e_M7 => ?_)
    have h := h M7 e_M7
    refine V_iinc (v := (v7 + 1)) (lv' := [(7, .int (v7 + 1)), (0, vR X b), (1, vR X p1), (2, .int p2), (3, .int v3), (4, .long v4), (6, .int v6)]) C 6 (ltN hN (by decide)) dX1_weighLamps_79 rfl rfl rfl ?_
    refine V_goto (tgt := 52) C dX1_weighLamps_82 (by decide) ?_
    exact V_sub [1, 2, 3, 4, 5, 6, 0] rfl (hag52 ((v7 + 1), M7) h)
set_option maxRecDepth 20000 in
set_option maxHeartbeats 1000000 in
theorem s_X1_weighLamps_F22 {X : wX} (C : CX X cX1_weighLamps RX1 (none)) (hH : xH X = 1) (hN : xN X = 8) {b : Nat} {p1 : Nat} {p2 : Int32} {M : mM} {Q : mM → Prop} (hQ : ∀ M, Q M → xPo X none M) (hb : isC (xW X) 1 b) (h1 : isC (xW X) 4 p1) {v3 : Int32} {ag22 : (Int32 × mM) → Prop} (hag22 : ∀ s, ag22 s → V X 22 [(0, vR X b), (1, vR X p1), (2, .int p2), (3, .int (s.1))] [] (s.2)) (h : p_X1_weighLamps_F22 b p1 p2  Q  ag22 v3 M) : V X 22 [(0, vR X b), (1, vR X p1), (2, .int p2), (3, .int v3)] [] M := by
  refine V_iload_n C 3 dX1_weighLamps_22 rfl ?_
  refine V_bipush C 21 dX1_weighLamps_23 (by decide) ?_
  refine V_icmp_ge (tgt := 91) C dX1_weighLamps_25 (by decide) (fun hc => ?_) (fun hc => ?_)
  · have h := h.1 hc
    exact V_vret C dX1_weighLamps_91 (hQ _ h)
  · have h := h.2 hc
    refine V_aload_n C 0 dX1_weighLamps_28 rfl ?_
    refine V_iload_n C 2 dX1_weighLamps_29 rfl ?_
    refine V_iload_n C 3 dX1_weighLamps_30 rfl ?_
    refine V_callV (As := [.int p2, .int v3]) (st := []) C (c_X1_weightOf hb h) Y_X1_weightOf Z_X1_weightOf (T := TX1) (N := 17) rfl (o1 hb) (ltN hH (by decide)) u_80 rfl rfl (Nat.le_of_ble_eq_true rfl) dX1_weighLamps_31 ?_
    rintro v9 M9 ⟨rfl, r1, rfl, h⟩
    show V X 34 _ [.long r1] M
    refine V_lstore (lv' := [(4, .long r1), (0, vR X b), (1, vR X p1), (2, .int p2), (3, .int v3)]) C (ltN hN (by decide)) dX1_weighLamps_34 rfl ?_
    refine V_aload_n C 2 dX1_weighLamps_36 rfl ?_
    refine V_getR C FL_RX1_174 (f4_1 h1) dX1_weighLamps_37 ?_
    refine V_iload_n C 3 dX1_weighLamps_40 rfl ?_
    refine V_callN (As := [.int p2]) (st := [vR X (p1 + 6)]) C (c_X6_sideOf  h) Y_X6_sideOf Z_X6_sideOf (ltN hH (by decide)) (List.mem_of_getElem? (i := 2) rfl) rfl rfl (Nat.le_of_ble_eq_true rfl) dX1_weighLamps_41 ?_
    rintro v9 M9 ⟨rfl, r2, rfl, h⟩
    show V X 44 _ [.int r2, vR X (p1 + 6)] M
    obtain ⟨b3, h⟩ := h
    refine V_aald5 C (k4_6 h1) b3 dX1_weighLamps_44 ?_
    refine V_iload_n C 4 dX1_weighLamps_45 rfl ?_
    obtain ⟨b4, h⟩ := h
    refine V_iald C (r4_6 h1 b3) b4 dX1_weighLamps_46 ?_
    refine V_nmI (fun x5 e_x5 => ?_)
    have h := h x5 e_x5
    refine V_istore (lv' := [(6, .int x5), (4, .long r1), (0, vR X b), (1, vR X p1), (2, .int p2), (3, .int v3)]) C (ltN hN (by decide)) dX1_weighLamps_47 rfl ?_
    refine V_iconst C 0 dX1_weighLamps_49 (by decide) ?_
    refine V_istore (lv' := [(7, .int 0), (6, .int x5), (4, .long r1), (0, vR X b), (1, vR X p1), (2, .int p2), (3, .int v3)]) C (ltN hN (by decide)) dX1_weighLamps_50 rfl ?_
    refine V_sub [3, 4, 5, 6, 2, 1, 0] rfl ?_
    exact Loop.sound (s0 := ((0 : Int32), M)) (P := fun s => V X 52 [(0, vR X b), (1, vR X p1), (2, .int p2), (3, .int v3), (4, .long r1), (6, .int x5), (7, .int (s.1))] [] (s.2)) h (fun ag hag s hs => s_X1_weighLamps_F52 C hH hN hQ hb h1 hag22 hag hs)
set_option maxRecDepth 20000 in
set_option maxHeartbeats 1000000 in
theorem s_X1_weighLamps_F2 {X : wX} (C : CX X cX1_weighLamps RX1 (none)) (hH : xH X = 1) (hN : xN X = 8) {b : Nat} {p1 : Nat} {p2 : Int32} {M : mM} {Q : mM → Prop} (hQ : ∀ M, Q M → xPo X none M) (hb : isC (xW X) 1 b) (h1 : isC (xW X) 4 p1) {v3 : Int32} {ag2 : (Int32 × mM) → Prop} (hag2 : ∀ s, ag2 s → V X 2 [(0, vR X b), (1, vR X p1), (2, .int p2), (3, .int (s.1))] [] (s.2)) (h : p_X1_weighLamps_F2 b p1 p2  Q  ag2 v3 M) : V X 2 [(0, vR X b), (1, vR X p1), (2, .int p2), (3, .int v3)] [] M := by
  refine V_iload_n C 3 dX1_weighLamps_2 rfl ?_
  refine V_iconst C 4 dX1_weighLamps_3 (by decide) ?_
  refine V_icmp_ge (tgt := 20) C dX1_weighLamps_4 (by decide) (fun hc => ?_) (fun hc => ?_)
  · have h := h.1 hc
    refine V_iconst C 0 dX1_weighLamps_20 (by decide) ?_
    refine V_istore_n (lv' := [(3, .int 0), (0, vR X b), (1, vR X p1), (2, .int p2)]) C (ltN hN (by decide)) dX1_weighLamps_21 rfl ?_
    refine V_sub [1, 2, 3, 0] rfl ?_
    exact Loop.sound (s0 := ((0 : Int32), M)) (P := fun s => V X 22 [(0, vR X b), (1, vR X p1), (2, .int p2), (3, .int (s.1))] [] (s.2)) h (fun ag hag s hs => s_X1_weighLamps_F22 C hH hN hQ hb h1  hag hs)
  · have h := h.2 hc
    refine V_aload_n C 0 dX1_weighLamps_7 rfl ?_
    refine V_getR C FL_RX1_47 (f1_10 hb) dX1_weighLamps_8 ?_
    refine V_iload_n C 3 dX1_weighLamps_11 rfl ?_
    refine V_lconst C 0 dX1_weighLamps_12 (by decide) ?_
    obtain ⟨b10, h⟩ := h
    refine V_last C (k1_51 hb) b10 dX1_weighLamps_13 ?_
    refine V_nmM (fun M9 e_M9 => ?_)
    have h := h M9 e_M9
    refine V_iinc (v := (v3 + 1)) (lv' := [(3, .int (v3 + 1)), (0, vR X b), (1, vR X p1), (2, .int p2)]) C 3 (ltN hN (by decide)) dX1_weighLamps_14 rfl rfl rfl ?_
    refine V_goto (tgt := 2) C dX1_weighLamps_17 (by decide) ?_
    exact V_sub [1, 2, 3, 0] rfl (hag2 ((v3 + 1), M9) h)
set_option maxRecDepth 20000 in
set_option maxHeartbeats 1000000 in
theorem s_X1_weighLamps {X : wX} (C : CX X cX1_weighLamps RX1 (none)) (hH : xH X = 1) (hN : xN X = 8) {b : Nat} {p1 : Nat} {p2 : Int32} {M : mM} {Q : mM → Prop} (hQ : ∀ M, Q M → xPo X none M) (hb : isC (xW X) 1 b) (h1 : isC (xW X) 4 p1)   (h : p_X1_weighLamps b p1 p2 M Q) : V X 0 [(0, vR X b), (1, vR X p1), (2, .int p2)] [] M := by
  refine V_iconst C 0 dX1_weighLamps_0 (by decide) ?_
  refine V_istore_n (lv' := [(3, .int 0), (0, vR X b), (1, vR X p1), (2, .int p2)]) C (ltN hN (by decide)) dX1_weighLamps_1 rfl ?_
  refine V_sub [1, 2, 3, 0] rfl ?_
  exact Loop.sound (s0 := ((0 : Int32), M)) (P := fun s => V X 2 [(0, vR X b), (1, vR X p1), (2, .int p2), (3, .int (s.1))] [] (s.2)) h (fun ag hag s hs => s_X1_weighLamps_F2 C hH hN hQ hb h1  hag hs)
set_option maxRecDepth 20000 in
set_option maxHeartbeats 1000000 in
theorem c_X1_weighLamps {w : wU} {l : Launch} {b : Nat} {p1 : Nat} {p2 : Int32} {M : mM} {Q : mM → Prop} (hb : isC w 1 b) (h1 : isC w 4 p1) (h : p_X1_weighLamps b p1 p2 M Q) : CT w l 1 yX1_weighLamps cX1_weighLamps 8 (none) [.ref (uA w b), .ref (uA w p1), .int p2] M (piV Q) := by
  refine CT.of (by decide +kernel) (Nat.le_of_ble_eq_true rfl) (fun X hw hH hl hP hN C => ?_)
  subst hw
  exact s_X1_weighLamps C hH hN (fun M1 q => by rw [hP]; exact ⟨rfl, q⟩) hb h1 h
set_option maxRecDepth 20000 in
set_option maxHeartbeats 1000000 in
theorem s_X6_isLess {X : wX} (C : CX X cX6_isLess RX6 (some .boolean)) (hH : xH X = 0) (hN : xN X = 4) {p1 : Int64} {p2 : Int64} {M : mM} {Q : Int32 → Prop} (hQ : ∀ r, Q r → xPo X (some (.int r)) M)    (h : p_X6_isLess p1 p2 M Q) : V X 0 [(0, .long p1), (2, .long p2)] [] M := by
  refine V_lload_n C 0 dX6_isLess_0 rfl ?_
  refine V_ldc2 C u_81 dX6_isLess_1 ?_
  refine V_lxor C dX6_isLess_4 ?_
  refine V_lload_n C 1 dX6_isLess_5 rfl ?_
  refine V_ldc2 C u_81 dX6_isLess_6 ?_
  refine V_lxor C dX6_isLess_9 ?_
  refine V_lcmp C dX6_isLess_10 ?_
  refine V_if_ge (tgt := 18) C dX6_isLess_11 (by decide) (fun hc => ?_) (fun hc => ?_)
  · have h := h.1 (lgc_ge.mp hc)
    refine V_iconst C 0 dX6_isLess_18 (by decide) ?_
    exact V_zret C rfl (by decide) dX6_isLess_19 (hQ _ h)
  · have h := h.2 (lgc_nge.mp hc)
    refine V_iconst C 1 dX6_isLess_14 (by decide) ?_
    refine V_goto (tgt := 19) C dX6_isLess_15 (by decide) ?_
    exact V_zret C rfl (by decide) dX6_isLess_19 (hQ _ h)
set_option maxRecDepth 20000 in
set_option maxHeartbeats 1000000 in
theorem c_X6_isLess {w : wU} {l : Launch} {p1 : Int64} {p2 : Int64} {M : mM} {Q : Int32 → Prop}  (h : p_X6_isLess p1 p2 M Q) : CT w l 0 yX6_isLess cX6_isLess 4 (some .boolean) [.long p1, .long p2] M (poI M Q) := by
  refine CT.of (by decide +kernel) (Nat.le_of_ble_eq_true rfl) (fun X hw hH hl hP hN C => ?_)
  subst hw
  exact s_X6_isLess C hH hN (fun r q => by rw [hP]; exact ⟨rfl, r, rfl, q⟩)  h
set_option maxRecDepth 20000 in
set_option maxHeartbeats 1000000 in
theorem s_X1_seekHalf_J88 {X : wX} (C : CX X cX1_seekHalf RX1 (none)) (hH : xH X = 2) (hN : xN X = 10) {b : Nat} {p1 : Nat} {M : mM} {Q : mM → Prop} (hQ : ∀ M, Q M → xPo X none M) (hb : isC (xW X) 1 b) (h1 : isC (xW X) 4 p1) {v2 : Int32} {v3 : Int32} {v8 : Int64} {ag7 : (Int32 × mM) → Prop} {ag21 : (Int32 × mM) → Prop} (hag7 : ∀ s, ag7 s → V X 7 [(0, vR X b), (1, vR X p1), (2, .int (s.1))] [] (s.2)) (hag21 : ∀ s, ag21 s → V X 21 [(0, vR X b), (1, vR X p1), (2, .int v2), (3, .int (s.1))] [] (s.2)) (h : p_X1_seekHalf_J88 b p1 Q ag7 ag21 v2 v3 v8 M) : V X 88 [(0, vR X b), (1, vR X p1), (2, .int v2), (3, .int v3), (8, .long v8)] [] M := by
  refine V_aload_n C 0 dX1_seekHalf_88 rfl ?_
  refine V_bipush C 10 dX1_seekHalf_89 (by decide) ?_
  refine V_iload_n C 2 dX1_seekHalf_91 rfl ?_
  refine V_imul C dX1_seekHalf_92 ?_
  refine V_iload_n C 3 dX1_seekHalf_93 rfl ?_
  refine V_iadd C dX1_seekHalf_94 ?_
  refine V_putI C FW_RX1_156 (f1_14 hb) rfl rfl dX1_seekHalf_95 ?_
  refine V_nmM (fun M6 e_M6 => ?_)
  have h := h M6 e_M6
  refine V_aload_n C 0 dX1_seekHalf_98 rfl ?_
  refine V_lload C 4 dX1_seekHalf_99 rfl ?_
  refine V_putL C FW_RX1_167 (f1_13 hb) dX1_seekHalf_101 ?_
  refine V_nmM (fun M7 e_M7 => ?_)
  have h := h M7 e_M7
  refine V_iinc (v := (v3 + 1)) (lv' := [(3, .int (v3 + 1)), (0, vR X b), (1, vR X p1), (2, .int v2), (8, .long v8)]) C 3 (ltN hN (by decide)) dX1_seekHalf_104 rfl rfl rfl ?_
  refine V_goto (tgt := 21) C dX1_seekHalf_107 (by decide) ?_
  exact V_sub [1, 2, 3, 0] rfl (hag21 ((v3 + 1), M7) h)
set_option maxRecDepth 20000 in
set_option maxHeartbeats 1000000 in
theorem s_X1_seekHalf_J66 {X : wX} (C : CX X cX1_seekHalf RX1 (none)) (hH : xH X = 2) (hN : xN X = 10) {b : Nat} {p1 : Nat} {M : mM} {Q : mM → Prop} (hQ : ∀ M, Q M → xPo X none M) (hb : isC (xW X) 1 b) (h1 : isC (xW X) 4 p1) {v2 : Int32} {v3 : Int32} {s0 : Int64} {ag7 : (Int32 × mM) → Prop} {ag21 : (Int32 × mM) → Prop} (hag7 : ∀ s, ag7 s → V X 7 [(0, vR X b), (1, vR X p1), (2, .int (s.1))] [] (s.2)) (hag21 : ∀ s, ag21 s → V X 21 [(0, vR X b), (1, vR X p1), (2, .int v2), (3, .int (s.1))] [] (s.2)) (h : p_X1_seekHalf_J66 b p1 Q ag7 ag21 v2 v3 s0 M) : V X 66 [(0, vR X b), (1, vR X p1), (2, .int v2), (3, .int v3)] [.long s0] M := by
  refine V_lstore (lv' := [(8, .long s0), (0, vR X b), (1, vR X p1), (2, .int v2), (3, .int v3)]) C (ltN hN (by decide)) dX1_seekHalf_66 rfl ?_
  refine V_aload_n C 1 dX1_seekHalf_68 rfl ?_
  refine V_getI C FL_RX1_156 (f1_14 hb) dX1_seekHalf_69 ?_
  refine V_iconst C (-1) dX1_seekHalf_72 (by decide) ?_
  refine V_icmp_eq (tgt := 88) C dX1_seekHalf_73 (by decide) (fun hc => ?_) (fun hc => ?_)
  · have h := h.1 hc
    exact V_sub [1, 2, 3, 4, 0] rfl (s_X1_seekHalf_J88 C hH hN hQ hb h1 hag7 hag21  h)
  · have h := h.2 hc
    refine V_lload C 0 dX1_seekHalf_76 rfl ?_
    refine V_aload_n C 1 dX1_seekHalf_78 rfl ?_
    refine V_getL C FL_RX1_167 (f1_13 hb) dX1_seekHalf_79 ?_
    refine V_callN (As := [.long s0, .long (M.2 b 13)]) (st := []) C (c_X6_isLess  h) Y_X6_isLess Z_X6_isLess (ltN hH (by decide)) (List.mem_of_getElem? (i := 1) rfl) rfl rfl (Nat.le_of_ble_eq_true rfl) dX1_seekHalf_82 ?_
    rintro v9 M9 ⟨rfl, r8, rfl, h⟩
    show V X 85 _ [.int r8] M
    refine V_if_eq (tgt := 104) C dX1_seekHalf_85 (by decide) (fun hc => ?_) (fun hc => ?_)
    · have h := h.1 hc
      refine V_iinc (v := (v3 + 1)) (lv' := [(3, .int (v3 + 1)), (8, .long s0), (0, vR X b), (1, vR X p1), (2, .int v2)]) C 4 (ltN hN (by decide)) dX1_seekHalf_104 rfl rfl rfl ?_
      refine V_goto (tgt := 21) C dX1_seekHalf_107 (by decide) ?_
      exact V_sub [2, 3, 4, 0] rfl (hag21 ((v3 + 1), M) h)
    · have h := h.2 hc
      exact V_sub [1, 2, 3, 4, 0] rfl (s_X1_seekHalf_J88 C hH hN hQ hb h1 hag7 hag21  h)
set_option maxRecDepth 20000 in
set_option maxHeartbeats 1000000 in
theorem s_X1_seekHalf_F21 {X : wX} (C : CX X cX1_seekHalf RX1 (none)) (hH : xH X = 2) (hN : xN X = 10) {b : Nat} {p1 : Nat} {M : mM} {Q : mM → Prop} (hQ : ∀ M, Q M → xPo X none M) (hb : isC (xW X) 1 b) (h1 : isC (xW X) 4 p1) {v2 : Int32} {v3 : Int32} {ag7 : (Int32 × mM) → Prop} {ag21 : (Int32 × mM) → Prop} (hag7 : ∀ s, ag7 s → V X 7 [(0, vR X b), (1, vR X p1), (2, .int (s.1))] [] (s.2)) (hag21 : ∀ s, ag21 s → V X 21 [(0, vR X b), (1, vR X p1), (2, .int v2), (3, .int (s.1))] [] (s.2)) (h : p_X1_seekHalf_F21 b p1 v2 Q ag7 ag21 v3 M) : V X 21 [(0, vR X b), (1, vR X p1), (2, .int v2), (3, .int v3)] [] M := by
  refine V_iload_n C 3 dX1_seekHalf_21 rfl ?_
  refine V_iconst C 4 dX1_seekHalf_22 (by decide) ?_
  refine V_icmp_ge (tgt := 110) C dX1_seekHalf_23 (by decide) (fun hc => ?_) (fun hc => ?_)
  · have h := h.1 hc
    refine V_iinc (v := (v2 + 1)) (lv' := [(2, .int (v2 + 1)), (0, vR X b), (1, vR X p1), (3, .int v3)]) C 2 (ltN hN (by decide)) dX1_seekHalf_110 rfl rfl rfl ?_
    refine V_goto (tgt := 7) C dX1_seekHalf_113 (by decide) ?_
    exact V_sub [1, 2, 0] rfl (hag7 ((v2 + 1), M) h)
  · have h := h.2 hc
    refine V_aload_n C 0 dX1_seekHalf_26 rfl ?_
    refine V_getR C FL_RX1_47 (f1_10 hb) dX1_seekHalf_27 ?_
    refine V_iload_n C 3 dX1_seekHalf_30 rfl ?_
    obtain ⟨b3, h⟩ := h
    refine V_lald C (k1_51 hb) b3 dX1_seekHalf_31 ?_
    refine V_nmL (fun x4 e_x4 => ?_)
    have h := h x4 e_x4
    refine V_lstore (lv' := [(4, .long x4), (0, vR X b), (1, vR X p1), (2, .int v2), (3, .int v3)]) C (ltN hN (by decide)) dX1_seekHalf_32 rfl ?_
    refine V_aload_n C 1 dX1_seekHalf_34 rfl ?_
    refine V_getL C FL_RX1_139 (f1_12 hb) dX1_seekHalf_35 ?_
    refine V_lload C 0 dX1_seekHalf_38 rfl ?_
    refine V_lsub C dX1_seekHalf_40 ?_
    refine V_lstore (lv' := [(6, .long ((M.2 b 12) - x4)), (4, .long x4), (0, vR X b), (1, vR X p1), (2, .int v2), (3, .int v3)]) C (ltN hN (by decide)) dX1_seekHalf_41 rfl ?_
    refine V_lload C 1 dX1_seekHalf_43 rfl ?_
    refine V_lload C 0 dX1_seekHalf_45 rfl ?_
    refine V_callN (As := [.long x4, .long ((M.2 b 12) - x4)]) (st := []) C (c_X6_isLess  h) Y_X6_isLess Z_X6_isLess (ltN hH (by decide)) (List.mem_of_getElem? (i := 1) rfl) rfl rfl (Nat.le_of_ble_eq_true rfl) dX1_seekHalf_47 ?_
    rintro v9 M9 ⟨rfl, r5, rfl, h⟩
    show V X 50 _ [.int r5] M
    refine V_if_eq (tgt := 61) C dX1_seekHalf_50 (by decide) (fun hc => ?_) (fun hc => ?_)
    · have h := h.1 hc
      refine V_lload C 1 dX1_seekHalf_61 rfl ?_
      refine V_lload C 0 dX1_seekHalf_63 rfl ?_
      refine V_lsub C dX1_seekHalf_65 ?_
      exact V_sub [2, 3, 4, 5] rfl (s_X1_seekHalf_J66 C hH hN hQ hb h1 hag7 hag21  h)
    · have h := h.2 hc
      refine V_lload C 0 dX1_seekHalf_53 rfl ?_
      refine V_lload C 1 dX1_seekHalf_55 rfl ?_
      refine V_lsub C dX1_seekHalf_57 ?_
      refine V_goto (tgt := 66) C dX1_seekHalf_58 (by decide) ?_
      exact V_sub [2, 3, 4, 5] rfl (s_X1_seekHalf_J66 C hH hN hQ hb h1 hag7 hag21  h)
set_option maxRecDepth 20000 in
set_option maxHeartbeats 1000000 in
theorem s_X1_seekHalf_F7 {X : wX} (C : CX X cX1_seekHalf RX1 (none)) (hH : xH X = 2) (hN : xN X = 10) {b : Nat} {p1 : Nat} {M : mM} {Q : mM → Prop} (hQ : ∀ M, Q M → xPo X none M) (hb : isC (xW X) 1 b) (h1 : isC (xW X) 4 p1) {v2 : Int32} {ag7 : (Int32 × mM) → Prop} (hag7 : ∀ s, ag7 s → V X 7 [(0, vR X b), (1, vR X p1), (2, .int (s.1))] [] (s.2)) (h : p_X1_seekHalf_F7 b p1  Q  ag7 v2 M) : V X 7 [(0, vR X b), (1, vR X p1), (2, .int v2)] [] M := by
  refine V_iload_n C 2 dX1_seekHalf_7 rfl ?_
  refine V_bipush C 8 dX1_seekHalf_8 (by decide) ?_
  refine V_icmp_ge (tgt := 116) C dX1_seekHalf_10 (by decide) (fun hc => ?_) (fun hc => ?_)
  · have h := h.1 hc
    exact V_vret C dX1_seekHalf_116 (hQ _ h)
  · have h := h.2 hc
    refine V_aload_n C 0 dX1_seekHalf_13 rfl ?_
    refine V_aload_n C 1 dX1_seekHalf_14 rfl ?_
    refine V_iload_n C 2 dX1_seekHalf_15 rfl ?_
    refine V_callV (As := [vR X p1, .int v2]) (st := []) C (c_X1_weighLamps hb h1 h) Y_X1_weighLamps Z_X1_weighLamps (T := TX1) (N := 17) rfl (o1 hb) (ltN hH (by decide)) u_84 rfl rfl (Nat.le_of_ble_eq_true rfl) dX1_seekHalf_16 ?_
    rintro v9 M2 ⟨rfl, h⟩
    show V X 19 _ [] M2
    refine V_iconst C 0 dX1_seekHalf_19 (by decide) ?_
    refine V_istore_n (lv' := [(3, .int 0), (0, vR X b), (1, vR X p1), (2, .int v2)]) C (ltN hN (by decide)) dX1_seekHalf_20 rfl ?_
    refine V_sub [1, 2, 3, 0] rfl ?_
    exact Loop.sound (s0 := ((0 : Int32), M2)) (P := fun s => V X 21 [(0, vR X b), (1, vR X p1), (2, .int v2), (3, .int (s.1))] [] (s.2)) h (fun ag hag s hs => s_X1_seekHalf_F21 C hH hN hQ hb h1 hag7 hag hs)
set_option maxRecDepth 20000 in
set_option maxHeartbeats 1000000 in
theorem s_X1_seekHalf {X : wX} (C : CX X cX1_seekHalf RX1 (none)) (hH : xH X = 2) (hN : xN X = 10) {b : Nat} {p1 : Nat} {M : mM} {Q : mM → Prop} (hQ : ∀ M, Q M → xPo X none M) (hb : isC (xW X) 1 b) (h1 : isC (xW X) 4 p1)   (h : p_X1_seekHalf b p1 M Q) : V X 0 [(0, vR X b), (1, vR X p1)] [] M := by
  refine V_aload_n C 0 dX1_seekHalf_0 rfl ?_
  refine V_iconst C (-1) dX1_seekHalf_1 (by decide) ?_
  refine V_putI C FW_RX1_156 (f1_14 hb) rfl rfl dX1_seekHalf_2 ?_
  refine V_nmM (fun M1 e_M1 => ?_)
  have h := h M1 e_M1
  refine V_iconst C 0 dX1_seekHalf_5 (by decide) ?_
  refine V_istore_n (lv' := [(2, .int 0), (0, vR X b), (1, vR X p1)]) C (ltN hN (by decide)) dX1_seekHalf_6 rfl ?_
  refine V_sub [1, 2, 0] rfl ?_
  exact Loop.sound (s0 := ((0 : Int32), M1)) (P := fun s => V X 7 [(0, vR X b), (1, vR X p1), (2, .int (s.1))] [] (s.2)) h (fun ag hag s hs => s_X1_seekHalf_F7 C hH hN hQ hb h1  hag hs)
set_option maxRecDepth 20000 in
set_option maxHeartbeats 1000000 in
theorem c_X1_seekHalf {w : wU} {l : Launch} {b : Nat} {p1 : Nat} {M : mM} {Q : mM → Prop} (hb : isC w 1 b) (h1 : isC w 4 p1) (h : p_X1_seekHalf b p1 M Q) : CT w l 2 yX1_seekHalf cX1_seekHalf 10 (none) [.ref (uA w b), .ref (uA w p1)] M (piV Q) := by
  refine CT.of (by decide +kernel) (Nat.le_of_ble_eq_true rfl) (fun X hw hH hl hP hN C => ?_)
  subst hw
  exact s_X1_seekHalf C hH hN (fun M1 q => by rw [hP]; exact ⟨rfl, q⟩) hb h1 h
set_option maxRecDepth 20000 in
set_option maxHeartbeats 1000000 in
theorem s_X2_beAtFirst_F47 {X : wX} (C : CX X cX2_beAtFirst RX2 (none)) (hH : xH X = 1) (hN : xN X = 2) {b : Nat} {M : mM} {Q : mM → Prop} (hQ : ∀ M, Q M → xPo X none M) (hb : isC (xW X) 2 b) {v1 : Int32} {ag47 : (Int32 × mM) → Prop} (hag47 : ∀ s, ag47 s → V X 47 [(0, vR X b), (1, .int (s.1))] [] (s.2)) (h : p_X2_beAtFirst_F47 b  Q  ag47 v1 M) : V X 47 [(0, vR X b), (1, .int v1)] [] M := by
  refine V_iload_n C 1 dX2_beAtFirst_47 rfl ?_
  refine V_bipush C 48 dX2_beAtFirst_48 (by decide) ?_
  refine V_icmp_ge (tgt := 66) C dX2_beAtFirst_50 (by decide) (fun hc => ?_) (fun hc => ?_)
  · have h := h.1 hc
    exact V_vret C dX2_beAtFirst_66 (hQ _ h)
  · have h := h.2 hc
    refine V_aload_n C 0 dX2_beAtFirst_53 rfl ?_
    refine V_getR C FL_RX2_42 (f2_10 hb) dX2_beAtFirst_54 ?_
    refine V_iload_n C 1 dX2_beAtFirst_57 rfl ?_
    refine V_iconst C (-1) dX2_beAtFirst_58 (by decide) ?_
    obtain ⟨b5, h⟩ := h
    refine V_iast C (k2_11 hb) b5 dX2_beAtFirst_59 ?_
    refine V_nmM (fun M4 e_M4 => ?_)
    have h := h M4 e_M4
    refine V_iinc (v := (v1 + 1)) (lv' := [(1, .int (v1 + 1)), (0, vR X b)]) C 1 (ltN hN (by decide)) dX2_beAtFirst_60 rfl rfl rfl ?_
    refine V_goto (tgt := 47) C dX2_beAtFirst_63 (by decide) ?_
    exact V_sub [1, 0] rfl (hag47 ((v1 + 1), M4) h)
set_option maxRecDepth 20000 in
set_option maxHeartbeats 1000000 in
theorem s_X2_beAtFirst_F26 {X : wX} (C : CX X cX2_beAtFirst RX2 (none)) (hH : xH X = 1) (hN : xN X = 2) {b : Nat} {M : mM} {Q : mM → Prop} (hQ : ∀ M, Q M → xPo X none M) (hb : isC (xW X) 2 b) {v1 : Int32} {ag26 : (Int32 × mM) → Prop} (hag26 : ∀ s, ag26 s → V X 26 [(0, vR X b), (1, .int (s.1))] [] (s.2)) (h : p_X2_beAtFirst_F26 b  Q  ag26 v1 M) : V X 26 [(0, vR X b), (1, .int v1)] [] M := by
  refine V_iload_n C 1 dX2_beAtFirst_26 rfl ?_
  refine V_bipush C 21 dX2_beAtFirst_27 (by decide) ?_
  refine V_icmp_ge (tgt := 45) C dX2_beAtFirst_29 (by decide) (fun hc => ?_) (fun hc => ?_)
  · have h := h.1 hc
    refine V_iconst C 0 dX2_beAtFirst_45 (by decide) ?_
    refine V_istore_n (lv' := [(1, .int 0), (0, vR X b)]) C (ltN hN (by decide)) dX2_beAtFirst_46 rfl ?_
    refine V_sub [1, 0] rfl ?_
    exact Loop.sound (s0 := ((0 : Int32), M)) (P := fun s => V X 47 [(0, vR X b), (1, .int (s.1))] [] (s.2)) h (fun ag hag s hs => s_X2_beAtFirst_F47 C hH hN hQ hb  hag hs)
  · have h := h.2 hc
    refine V_aload_n C 0 dX2_beAtFirst_32 rfl ?_
    refine V_getR C FL_RX2_27 (f2_5 hb) dX2_beAtFirst_33 ?_
    refine V_iload_n C 1 dX2_beAtFirst_36 rfl ?_
    refine V_iconst C 1 dX2_beAtFirst_37 (by decide) ?_
    obtain ⟨b7, h⟩ := h
    refine V_iast C (k2_6 hb) b7 dX2_beAtFirst_38 ?_
    refine V_nmM (fun M6 e_M6 => ?_)
    have h := h M6 e_M6
    refine V_iinc (v := (v1 + 1)) (lv' := [(1, .int (v1 + 1)), (0, vR X b)]) C 1 (ltN hN (by decide)) dX2_beAtFirst_39 rfl rfl rfl ?_
    refine V_goto (tgt := 26) C dX2_beAtFirst_42 (by decide) ?_
    exact V_sub [1, 0] rfl (hag26 ((v1 + 1), M6) h)
set_option maxRecDepth 20000 in
set_option maxHeartbeats 1000000 in
theorem s_X2_beAtFirst {X : wX} (C : CX X cX2_beAtFirst RX2 (none)) (hH : xH X = 1) (hN : xN X = 2) {b : Nat} {M : mM} {Q : mM → Prop} (hQ : ∀ M, Q M → xPo X none M) (hb : isC (xW X) 2 b)   (h : p_X2_beAtFirst b M Q) : V X 0 [(0, vR X b)] [] M := by
  refine V_aload_n C 0 dX2_beAtFirst_0 rfl ?_
  refine V_iconst C 0 dX2_beAtFirst_1 (by decide) ?_
  refine V_putI C FW_RX2_48 (f2_11 hb) rfl rfl dX2_beAtFirst_2 ?_
  refine V_nmM (fun M1 e_M1 => ?_)
  have h := h M1 e_M1
  refine V_aload_n C 0 dX2_beAtFirst_5 rfl ?_
  refine V_iconst C 0 dX2_beAtFirst_6 (by decide) ?_
  refine V_putI C FW_RX2_52 (f2_12 hb) rfl rfl dX2_beAtFirst_7 ?_
  refine V_nmM (fun M2 e_M2 => ?_)
  have h := h M2 e_M2
  refine V_gets C 2 (by decide) u_86 dX2_beAtFirst_10 ?_
  refine V_iconst C 0 dX2_beAtFirst_13 (by decide) ?_
  refine V_aload_n C 0 dX2_beAtFirst_14 rfl ?_
  refine V_getR C FL_RX2_24 (f2_4 hb) dX2_beAtFirst_15 ?_
  refine V_iconst C 0 dX2_beAtFirst_18 (by decide) ?_
  refine V_bipush C 7 dX2_beAtFirst_19 (by decide) ?_
  refine V_copyS C (by decide) (k2_5 hb) (ltN hH (by decide)) u_88 ⟨u_10, u_11, u_12⟩ (by decide) (by decide) (by decide) (by decide) (by decide) (Nat.le_of_ble_eq_true rfl) dX2_beAtFirst_21 ?_
  refine V_nmM (fun M3 e_M3 => ?_)
  have h := h M3 e_M3
  refine V_iconst C 0 dX2_beAtFirst_24 (by decide) ?_
  refine V_istore_n (lv' := [(1, .int 0), (0, vR X b)]) C (ltN hN (by decide)) dX2_beAtFirst_25 rfl ?_
  refine V_sub [1, 0] rfl ?_
  exact Loop.sound (s0 := ((0 : Int32), M3)) (P := fun s => V X 26 [(0, vR X b), (1, .int (s.1))] [] (s.2)) h (fun ag hag s hs => s_X2_beAtFirst_F26 C hH hN hQ hb  hag hs)
set_option maxRecDepth 20000 in
set_option maxHeartbeats 1000000 in
theorem c_X2_beAtFirst {w : wU} {l : Launch} {b : Nat} {M : mM} {Q : mM → Prop} (hb : isC w 2 b) (h : p_X2_beAtFirst b M Q) : CT w l 1 yX2_beAtFirst cX2_beAtFirst 2 (none) [.ref (uA w b)] M (piV Q) := by
  refine CT.of (by decide +kernel) (Nat.le_of_ble_eq_true rfl) (fun X hw hH hl hP hN C => ?_)
  subst hw
  exact s_X2_beAtFirst C hH hN (fun M1 q => by rw [hP]; exact ⟨rfl, q⟩) hb h
set_option maxRecDepth 20000 in
set_option maxHeartbeats 1000000 in
theorem s_X2_become {X : wX} (C : CX X cX2_become RX2 (none)) (hH : xH X = 1) (hN : xN X = 2) {b : Nat} {p1 : Nat} {M : mM} {Q : mM → Prop} (hQ : ∀ M, Q M → xPo X none M) (hb : isC (xW X) 2 b) (h1 : isC (xW X) 2 p1)   (h : p_X2_become b p1 M Q) : V X 0 [(0, vR X b), (1, vR X p1)] [] M := by
  refine V_aload_n C 0 dX2_become_0 rfl ?_
  refine V_aload_n C 1 dX2_become_1 rfl ?_
  refine V_getI C FL_RX2_48 (f2_11 h1) dX2_become_2 ?_
  refine V_putI C FW_RX2_48 (f2_11 hb) rfl rfl dX2_become_5 ?_
  refine V_nmM (fun M1 e_M1 => ?_)
  have h := h M1 e_M1
  refine V_aload_n C 0 dX2_become_8 rfl ?_
  refine V_aload_n C 1 dX2_become_9 rfl ?_
  refine V_getI C FL_RX2_52 (f2_12 h1) dX2_become_10 ?_
  refine V_putI C FW_RX2_52 (f2_12 hb) rfl rfl dX2_become_13 ?_
  refine V_nmM (fun M2 e_M2 => ?_)
  have h := h M2 e_M2
  refine V_aload_n C 1 dX2_become_16 rfl ?_
  refine V_getR C FL_RX2_9 (f2_0 h1) dX2_become_17 ?_
  refine V_iconst C 0 dX2_become_20 (by decide) ?_
  refine V_aload_n C 0 dX2_become_21 rfl ?_
  refine V_getR C FL_RX2_9 (f2_0 hb) dX2_become_22 ?_
  refine V_iconst C 0 dX2_become_25 (by decide) ?_
  refine V_iconst C 4 dX2_become_26 (by decide) ?_
  refine V_copy C (k2_1 h1) (k2_1 hb) (ltN hH (by decide)) u_88 ⟨u_10, u_11, u_12⟩ (by decide) (by decide) (by decide) (by decide) (by decide) (Nat.le_of_ble_eq_true rfl) dX2_become_27 ?_
  refine V_nmM (fun M3 e_M3 => ?_)
  have h := h M3 e_M3
  refine V_aload_n C 1 dX2_become_30 rfl ?_
  refine V_getR C FL_RX2_15 (f2_1 h1) dX2_become_31 ?_
  refine V_iconst C 0 dX2_become_34 (by decide) ?_
  refine V_aload_n C 0 dX2_become_35 rfl ?_
  refine V_getR C FL_RX2_15 (f2_1 hb) dX2_become_36 ?_
  refine V_iconst C 0 dX2_become_39 (by decide) ?_
  refine V_iconst C 4 dX2_become_40 (by decide) ?_
  refine V_copy C (k2_2 h1) (k2_2 hb) (ltN hH (by decide)) u_88 ⟨u_10, u_11, u_12⟩ (by decide) (by decide) (by decide) (by decide) (by decide) (Nat.le_of_ble_eq_true rfl) dX2_become_41 ?_
  refine V_nmM (fun M4 e_M4 => ?_)
  have h := h M4 e_M4
  refine V_aload_n C 1 dX2_become_44 rfl ?_
  refine V_getR C FL_RX2_18 (f2_2 h1) dX2_become_45 ?_
  refine V_iconst C 0 dX2_become_48 (by decide) ?_
  refine V_aload_n C 0 dX2_become_49 rfl ?_
  refine V_getR C FL_RX2_18 (f2_2 hb) dX2_become_50 ?_
  refine V_iconst C 0 dX2_become_53 (by decide) ?_
  refine V_iconst C 4 dX2_become_54 (by decide) ?_
  refine V_copy C (k2_3 h1) (k2_3 hb) (ltN hH (by decide)) u_88 ⟨u_10, u_11, u_12⟩ (by decide) (by decide) (by decide) (by decide) (by decide) (Nat.le_of_ble_eq_true rfl) dX2_become_55 ?_
  refine V_nmM (fun M5 e_M5 => ?_)
  have h := h M5 e_M5
  refine V_aload_n C 1 dX2_become_58 rfl ?_
  refine V_getR C FL_RX2_21 (f2_3 h1) dX2_become_59 ?_
  refine V_iconst C 0 dX2_become_62 (by decide) ?_
  refine V_aload_n C 0 dX2_become_63 rfl ?_
  refine V_getR C FL_RX2_21 (f2_3 hb) dX2_become_64 ?_
  refine V_iconst C 0 dX2_become_67 (by decide) ?_
  refine V_iconst C 4 dX2_become_68 (by decide) ?_
  refine V_copy C (k2_4 h1) (k2_4 hb) (ltN hH (by decide)) u_88 ⟨u_10, u_11, u_12⟩ (by decide) (by decide) (by decide) (by decide) (by decide) (Nat.le_of_ble_eq_true rfl) dX2_become_69 ?_
  refine V_nmM (fun M6 e_M6 => ?_)
  have h := h M6 e_M6
  refine V_aload_n C 1 dX2_become_72 rfl ?_
  refine V_getR C FL_RX2_24 (f2_4 h1) dX2_become_73 ?_
  refine V_iconst C 0 dX2_become_76 (by decide) ?_
  refine V_aload_n C 0 dX2_become_77 rfl ?_
  refine V_getR C FL_RX2_24 (f2_4 hb) dX2_become_78 ?_
  refine V_iconst C 0 dX2_become_81 (by decide) ?_
  refine V_bipush C 7 dX2_become_82 (by decide) ?_
  refine V_copy C (k2_5 h1) (k2_5 hb) (ltN hH (by decide)) u_88 ⟨u_10, u_11, u_12⟩ (by decide) (by decide) (by decide) (by decide) (by decide) (Nat.le_of_ble_eq_true rfl) dX2_become_84 ?_
  refine V_nmM (fun M7 e_M7 => ?_)
  have h := h M7 e_M7
  refine V_aload_n C 1 dX2_become_87 rfl ?_
  refine V_getR C FL_RX2_27 (f2_5 h1) dX2_become_88 ?_
  refine V_iconst C 0 dX2_become_91 (by decide) ?_
  refine V_aload_n C 0 dX2_become_92 rfl ?_
  refine V_getR C FL_RX2_27 (f2_5 hb) dX2_become_93 ?_
  refine V_iconst C 0 dX2_become_96 (by decide) ?_
  refine V_bipush C 21 dX2_become_97 (by decide) ?_
  refine V_copy C (k2_6 h1) (k2_6 hb) (ltN hH (by decide)) u_88 ⟨u_10, u_11, u_12⟩ (by decide) (by decide) (by decide) (by decide) (by decide) (Nat.le_of_ble_eq_true rfl) dX2_become_99 ?_
  refine V_nmM (fun M8 e_M8 => ?_)
  have h := h M8 e_M8
  refine V_aload_n C 1 dX2_become_102 rfl ?_
  refine V_getR C FL_RX2_30 (f2_6 h1) dX2_become_103 ?_
  refine V_iconst C 0 dX2_become_106 (by decide) ?_
  refine V_aload_n C 0 dX2_become_107 rfl ?_
  refine V_getR C FL_RX2_30 (f2_6 hb) dX2_become_108 ?_
  refine V_iconst C 0 dX2_become_111 (by decide) ?_
  refine V_bipush C 20 dX2_become_112 (by decide) ?_
  refine V_copy C (k2_7 h1) (k2_7 hb) (ltN hH (by decide)) u_88 ⟨u_10, u_11, u_12⟩ (by decide) (by decide) (by decide) (by decide) (by decide) (Nat.le_of_ble_eq_true rfl) dX2_become_114 ?_
  refine V_nmM (fun M9 e_M9 => ?_)
  have h := h M9 e_M9
  refine V_aload_n C 1 dX2_become_117 rfl ?_
  refine V_getR C FL_RX2_33 (f2_7 h1) dX2_become_118 ?_
  refine V_iconst C 0 dX2_become_121 (by decide) ?_
  refine V_aload_n C 0 dX2_become_122 rfl ?_
  refine V_getR C FL_RX2_33 (f2_7 hb) dX2_become_123 ?_
  refine V_iconst C 0 dX2_become_126 (by decide) ?_
  refine V_bipush C 20 dX2_become_127 (by decide) ?_
  refine V_copy C (k2_8 h1) (k2_8 hb) (ltN hH (by decide)) u_88 ⟨u_10, u_11, u_12⟩ (by decide) (by decide) (by decide) (by decide) (by decide) (Nat.le_of_ble_eq_true rfl) dX2_become_129 ?_
  refine V_nmM (fun M10 e_M10 => ?_)
  have h := h M10 e_M10
  refine V_aload_n C 1 dX2_become_132 rfl ?_
  refine V_getR C FL_RX2_36 (f2_8 h1) dX2_become_133 ?_
  refine V_iconst C 0 dX2_become_136 (by decide) ?_
  refine V_aload_n C 0 dX2_become_137 rfl ?_
  refine V_getR C FL_RX2_36 (f2_8 hb) dX2_become_138 ?_
  refine V_iconst C 0 dX2_become_141 (by decide) ?_
  refine V_bipush C 20 dX2_become_142 (by decide) ?_
  refine V_copy C (k2_9 h1) (k2_9 hb) (ltN hH (by decide)) u_88 ⟨u_10, u_11, u_12⟩ (by decide) (by decide) (by decide) (by decide) (by decide) (Nat.le_of_ble_eq_true rfl) dX2_become_144 ?_
  refine V_nmM (fun M11 e_M11 => ?_)
  have h := h M11 e_M11
  refine V_aload_n C 1 dX2_become_147 rfl ?_
  refine V_getR C FL_RX2_39 (f2_9 h1) dX2_become_148 ?_
  refine V_iconst C 0 dX2_become_151 (by decide) ?_
  refine V_aload_n C 0 dX2_become_152 rfl ?_
  refine V_getR C FL_RX2_39 (f2_9 hb) dX2_become_153 ?_
  refine V_iconst C 0 dX2_become_156 (by decide) ?_
  refine V_bipush C 20 dX2_become_157 (by decide) ?_
  refine V_copy C (k2_10 h1) (k2_10 hb) (ltN hH (by decide)) u_88 ⟨u_10, u_11, u_12⟩ (by decide) (by decide) (by decide) (by decide) (by decide) (Nat.le_of_ble_eq_true rfl) dX2_become_159 ?_
  refine V_nmM (fun M12 e_M12 => ?_)
  have h := h M12 e_M12
  refine V_aload_n C 1 dX2_become_162 rfl ?_
  refine V_getR C FL_RX2_42 (f2_10 h1) dX2_become_163 ?_
  refine V_iconst C 0 dX2_become_166 (by decide) ?_
  refine V_aload_n C 0 dX2_become_167 rfl ?_
  refine V_getR C FL_RX2_42 (f2_10 hb) dX2_become_168 ?_
  refine V_iconst C 0 dX2_become_171 (by decide) ?_
  refine V_bipush C 48 dX2_become_172 (by decide) ?_
  refine V_copy C (k2_11 h1) (k2_11 hb) (ltN hH (by decide)) u_88 ⟨u_10, u_11, u_12⟩ (by decide) (by decide) (by decide) (by decide) (by decide) (Nat.le_of_ble_eq_true rfl) dX2_become_174 ?_
  refine V_nmM (fun M13 e_M13 => ?_)
  have h := h M13 e_M13
  exact V_vret C dX2_become_177 (hQ _ h)
set_option maxRecDepth 20000 in
set_option maxHeartbeats 1000000 in
theorem c_X2_become {w : wU} {l : Launch} {b : Nat} {p1 : Nat} {M : mM} {Q : mM → Prop} (hb : isC w 2 b) (h1 : isC w 2 p1) (h : p_X2_become b p1 M Q) : CT w l 1 yX2_become cX2_become 2 (none) [.ref (uA w b), .ref (uA w p1)] M (piV Q) := by
  refine CT.of (by decide +kernel) (Nat.le_of_ble_eq_true rfl) (fun X hw hH hl hP hN C => ?_)
  subst hw
  exact s_X2_become C hH hN (fun M1 q => by rw [hP]; exact ⟨rfl, q⟩) hb h1 h
set_option maxRecDepth 20000 in
set_option maxHeartbeats 1000000 in
theorem s_X2_addStuff {X : wX} (C : CX X cX2_addStuff RX2 (some .int)) (hH : xH X = 1) (hN : xN X = 5) {b : Nat} {p1 : Int32} {p2 : Int32} {p3 : Int32} {p4 : Int32} {M : mM} {Q : Int32 → mM → Prop} (hQ : ∀ r M, Q r M → xPo X (some (.int r)) M) (hb : isC (xW X) 2 b)   (h : p_X2_addStuff b p1 p2 p3 p4 M Q) : V X 0 [(0, vR X b), (1, .int p1), (2, .int p2), (3, .int p3), (4, .int p4)] [] M := by
  refine V_iload_n C 1 dX2_addStuff_0 rfl ?_
  refine V_iconst C 1 dX2_addStuff_1 (by decide) ?_
  refine V_bipush C 60 dX2_addStuff_2 (by decide) ?_
  refine V_callN (As := [.int p1, .int 1, .int 60]) (st := []) C (c_X6_within  h) Y_X6_within Z_X6_within (ltN hH (by decide)) (List.mem_of_getElem? (i := 4) rfl) rfl rfl (Nat.le_of_ble_eq_true rfl) dX2_addStuff_4 ?_
  rintro v9 M9 ⟨rfl, r1, rfl, h⟩
  show V X 7 _ [.int r1] M
  refine V_if_eq (tgt := 41) C dX2_addStuff_7 (by decide) (fun hc => ?_) (fun hc => ?_)
  · have h := h.1 hc
    refine V_bipush C (-2) dX2_addStuff_41 (by decide) ?_
    exact V_iret C dX2_addStuff_43 (hQ _ _ h)
  · have h := h.2 hc
    refine V_iload_n C 2 dX2_addStuff_10 rfl ?_
    refine V_iconst C 0 dX2_addStuff_11 (by decide) ?_
    refine V_bipush C 9 dX2_addStuff_12 (by decide) ?_
    refine V_callN (As := [.int p2, .int 0, .int 9]) (st := []) C (c_X6_within  h) Y_X6_within Z_X6_within (ltN hH (by decide)) (List.mem_of_getElem? (i := 4) rfl) rfl rfl (Nat.le_of_ble_eq_true rfl) dX2_addStuff_14 ?_
    rintro v9 M9 ⟨rfl, r2, rfl, h⟩
    show V X 17 _ [.int r2] M
    refine V_if_eq (tgt := 41) C dX2_addStuff_17 (by decide) (fun hc => ?_) (fun hc => ?_)
    · have h := h.1 hc
      refine V_bipush C (-2) dX2_addStuff_41 (by decide) ?_
      exact V_iret C dX2_addStuff_43 (hQ _ _ h)
    · have h := h.2 hc
      refine V_iload_n C 3 dX2_addStuff_20 rfl ?_
      refine V_iconst C 0 dX2_addStuff_21 (by decide) ?_
      refine V_bipush C 15 dX2_addStuff_22 (by decide) ?_
      refine V_callN (As := [.int p3, .int 0, .int 15]) (st := []) C (c_X6_within  h) Y_X6_within Z_X6_within (ltN hH (by decide)) (List.mem_of_getElem? (i := 4) rfl) rfl rfl (Nat.le_of_ble_eq_true rfl) dX2_addStuff_24 ?_
      rintro v9 M9 ⟨rfl, r3, rfl, h⟩
      show V X 27 _ [.int r3] M
      refine V_if_eq (tgt := 41) C dX2_addStuff_27 (by decide) (fun hc => ?_) (fun hc => ?_)
      · have h := h.1 hc
        refine V_bipush C (-2) dX2_addStuff_41 (by decide) ?_
        exact V_iret C dX2_addStuff_43 (hQ _ _ h)
      · have h := h.2 hc
        refine V_iload C 4 dX2_addStuff_30 rfl ?_
        refine V_iconst C 1 dX2_addStuff_32 (by decide) ?_
        refine V_bipush C 9 dX2_addStuff_33 (by decide) ?_
        refine V_callN (As := [.int p4, .int 1, .int 9]) (st := []) C (c_X6_within  h) Y_X6_within Z_X6_within (ltN hH (by decide)) (List.mem_of_getElem? (i := 4) rfl) rfl rfl (Nat.le_of_ble_eq_true rfl) dX2_addStuff_35 ?_
        rintro v9 M9 ⟨rfl, r4, rfl, h⟩
        show V X 38 _ [.int r4] M
        refine V_if_ne (tgt := 44) C dX2_addStuff_38 (by decide) (fun hc => ?_) (fun hc => ?_)
        · have h := h.1 hc
          refine V_aload_n C 0 dX2_addStuff_44 rfl ?_
          refine V_getI C FL_RX2_48 (f2_11 hb) dX2_addStuff_45 ?_
          refine V_iconst C 4 dX2_addStuff_48 (by decide) ?_
          refine V_icmp_lt (tgt := 55) C dX2_addStuff_49 (by decide) (fun hc => ?_) (fun hc => ?_)
          · have h := h.1 hc
            refine V_aload_n C 0 dX2_addStuff_55 rfl ?_
            refine V_getR C FL_RX2_9 (f2_0 hb) dX2_addStuff_56 ?_
            refine V_aload_n C 0 dX2_addStuff_59 rfl ?_
            refine V_getI C FL_RX2_48 (f2_11 hb) dX2_addStuff_60 ?_
            refine V_iload_n C 1 dX2_addStuff_63 rfl ?_
            obtain ⟨b6, h⟩ := h
            refine V_iast C (k2_1 hb) b6 dX2_addStuff_64 ?_
            refine V_nmM (fun M5 e_M5 => ?_)
            have h := h M5 e_M5
            refine V_aload_n C 0 dX2_addStuff_65 rfl ?_
            refine V_getR C FL_RX2_15 (f2_1 hb) dX2_addStuff_66 ?_
            refine V_aload_n C 0 dX2_addStuff_69 rfl ?_
            refine V_getI C FL_RX2_48 (f2_11 hb) dX2_addStuff_70 ?_
            refine V_iload_n C 2 dX2_addStuff_73 rfl ?_
            obtain ⟨b8, h⟩ := h
            refine V_iast C (k2_2 hb) b8 dX2_addStuff_74 ?_
            refine V_nmM (fun M7 e_M7 => ?_)
            have h := h M7 e_M7
            refine V_aload_n C 0 dX2_addStuff_75 rfl ?_
            refine V_getR C FL_RX2_18 (f2_2 hb) dX2_addStuff_76 ?_
            refine V_aload_n C 0 dX2_addStuff_79 rfl ?_
            refine V_getI C FL_RX2_48 (f2_11 hb) dX2_addStuff_80 ?_
            refine V_iload_n C 3 dX2_addStuff_83 rfl ?_
            obtain ⟨b10, h⟩ := h
            refine V_iast C (k2_3 hb) b10 dX2_addStuff_84 ?_
            refine V_nmM (fun M9 e_M9 => ?_)
            have h := h M9 e_M9
            refine V_aload_n C 0 dX2_addStuff_85 rfl ?_
            refine V_getR C FL_RX2_21 (f2_3 hb) dX2_addStuff_86 ?_
            refine V_aload_n C 0 dX2_addStuff_89 rfl ?_
            refine V_getI C FL_RX2_48 (f2_11 hb) dX2_addStuff_90 ?_
            refine V_iload C 4 dX2_addStuff_93 rfl ?_
            obtain ⟨b12, h⟩ := h
            refine V_iast C (k2_4 hb) b12 dX2_addStuff_95 ?_
            refine V_nmM (fun M11 e_M11 => ?_)
            have h := h M11 e_M11
            refine V_aload_n C 0 dX2_addStuff_96 rfl ?_
            refine V_dup C dX2_addStuff_97 rfl ?_
            refine V_getI C FL_RX2_48 (f2_11 hb) dX2_addStuff_98 ?_
            refine V_dup_x1 C dX2_addStuff_101 rfl rfl ?_
            refine V_iconst C 1 dX2_addStuff_102 (by decide) ?_
            refine V_iadd C dX2_addStuff_103 ?_
            refine V_putI C FW_RX2_48 (f2_11 hb) rfl rfl dX2_addStuff_104 ?_
            refine V_nmM (fun M13 e_M13 => ?_)
            have h := h M13 e_M13
            exact V_iret C dX2_addStuff_107 (hQ _ _ h)
          · have h := h.2 hc
            refine V_bipush C (-4) dX2_addStuff_52 (by decide) ?_
            exact V_iret C dX2_addStuff_54 (hQ _ _ h)
        · have h := h.2 hc
          refine V_bipush C (-2) dX2_addStuff_41 (by decide) ?_
          exact V_iret C dX2_addStuff_43 (hQ _ _ h)
set_option maxRecDepth 20000 in
set_option maxHeartbeats 1000000 in
theorem c_X2_addStuff {w : wU} {l : Launch} {b : Nat} {p1 : Int32} {p2 : Int32} {p3 : Int32} {p4 : Int32} {M : mM} {Q : Int32 → mM → Prop} (hb : isC w 2 b) (h : p_X2_addStuff b p1 p2 p3 p4 M Q) : CT w l 1 yX2_addStuff cX2_addStuff 5 (some .int) [.ref (uA w b), .int p1, .int p2, .int p3, .int p4] M (piI Q) := by
  refine CT.of (by decide +kernel) (Nat.le_of_ble_eq_true rfl) (fun X hw hH hl hP hN C => ?_)
  subst hw
  exact s_X2_addStuff C hH hN (fun r M1 q => by rw [hP]; exact ⟨r, rfl, q⟩) hb h
set_option maxRecDepth 20000 in
set_option maxHeartbeats 1000000 in
theorem s_X2_set {X : wX} (C : CX X cX2_set RX2 (some .int)) (hH : xH X = 1) (hN : xN X = 4) {b : Nat} {p1 : Int32} {p2 : Int32} {M : mM} {Q : Int32 → mM → Prop} (hQ : ∀ r M, Q r M → xPo X (some (.int r)) M) (hb : isC (xW X) 2 b)   (h : p_X2_set b p1 p2 M Q) : V X 0 [(0, vR X b), (1, .int p1), (2, .int p2)] [] M := by
  refine V_iload_n C 1 dX2_set_0 rfl ?_
  refine V_iconst C 0 dX2_set_1 (by decide) ?_
  refine V_bipush C 6 dX2_set_2 (by decide) ?_
  refine V_callN (As := [.int p1, .int 0, .int 6]) (st := []) C (c_X6_within  h) Y_X6_within Z_X6_within (ltN hH (by decide)) (List.mem_of_getElem? (i := 4) rfl) rfl rfl (Nat.le_of_ble_eq_true rfl) dX2_set_4 ?_
  rintro v9 M9 ⟨rfl, r1, rfl, h⟩
  show V X 7 _ [.int r1] M
  refine V_if_eq (tgt := 27) C dX2_set_7 (by decide) (fun hc => ?_) (fun hc => ?_)
  · have h := h.1 hc
    refine V_bipush C (-2) dX2_set_27 (by decide) ?_
    exact V_iret C dX2_set_29 (hQ _ _ h)
  · have h := h.2 hc
    refine V_iload_n C 2 dX2_set_10 rfl ?_
    refine V_gets C 0 (by decide) u_99 dX2_set_11 ?_
    refine V_iload_n C 1 dX2_set_14 rfl ?_
    obtain ⟨b2, h⟩ := h
    refine V_sald C (by decide) b2 dX2_set_15 ?_
    refine V_gets C 1 (by decide) u_100 dX2_set_16 ?_
    refine V_iload_n C 1 dX2_set_19 rfl ?_
    obtain ⟨b3, h⟩ := h
    refine V_sald C (by decide) b3 dX2_set_20 ?_
    refine V_callN (As := [.int p2, .int (zF 0 p1.toNatClampNeg), .int (zF 1 p1.toNatClampNeg)]) (st := []) C (c_X6_within  h) Y_X6_within Z_X6_within (ltN hH (by decide)) (List.mem_of_getElem? (i := 4) rfl) rfl rfl (Nat.le_of_ble_eq_true rfl) dX2_set_21 ?_
    rintro v9 M9 ⟨rfl, r4, rfl, h⟩
    show V X 24 _ [.int r4] M
    refine V_if_ne (tgt := 30) C dX2_set_24 (by decide) (fun hc => ?_) (fun hc => ?_)
    · have h := h.1 hc
      refine V_aload_n C 0 dX2_set_30 rfl ?_
      refine V_getR C FL_RX2_24 (f2_4 hb) dX2_set_31 ?_
      refine V_iload_n C 1 dX2_set_34 rfl ?_
      obtain ⟨b5, h⟩ := h
      refine V_iald C (k2_5 hb) b5 dX2_set_35 ?_
      refine V_nmI (fun x6 e_x6 => ?_)
      have h := h x6 e_x6
      refine V_istore_n (lv' := [(3, .int x6), (0, vR X b), (1, .int p1), (2, .int p2)]) C (ltN hN (by decide)) dX2_set_36 rfl ?_
      refine V_aload_n C 1 dX2_set_37 rfl ?_
      refine V_getR C FL_RX2_24 (f2_4 hb) dX2_set_38 ?_
      refine V_iload_n C 2 dX2_set_41 rfl ?_
      refine V_iload_n C 3 dX2_set_42 rfl ?_
      obtain ⟨b8, h⟩ := h
      refine V_iast C (k2_5 hb) b8 dX2_set_43 ?_
      refine V_nmM (fun M7 e_M7 => ?_)
      have h := h M7 e_M7
      refine V_iload_n C 0 dX2_set_44 rfl ?_
      exact V_iret C dX2_set_45 (hQ _ _ h)
    · have h := h.2 hc
      refine V_bipush C (-2) dX2_set_27 (by decide) ?_
      exact V_iret C dX2_set_29 (hQ _ _ h)
set_option maxRecDepth 20000 in
set_option maxHeartbeats 1000000 in
theorem c_X2_set {w : wU} {l : Launch} {b : Nat} {p1 : Int32} {p2 : Int32} {M : mM} {Q : Int32 → mM → Prop} (hb : isC w 2 b) (h : p_X2_set b p1 p2 M Q) : CT w l 1 yX2_set cX2_set 4 (some .int) [.ref (uA w b), .int p1, .int p2] M (piI Q) := by
  refine CT.of (by decide +kernel) (Nat.le_of_ble_eq_true rfl) (fun X hw hH hl hP hN C => ?_)
  subst hw
  exact s_X2_set C hH hN (fun r M1 q => by rw [hP]; exact ⟨r, rfl, q⟩) hb h
set_option maxRecDepth 20000 in
set_option maxHeartbeats 1000000 in
theorem s_X2_setHabit {X : wX} (C : CX X cX2_setHabit RX2 (some .int)) (hH : xH X = 1) (hN : xN X = 4) {b : Nat} {p1 : Int32} {p2 : Int32} {M : mM} {Q : Int32 → mM → Prop} (hQ : ∀ r M, Q r M → xPo X (some (.int r)) M) (hb : isC (xW X) 2 b)   (h : p_X2_setHabit b p1 p2 M Q) : V X 0 [(0, vR X b), (1, .int p1), (2, .int p2)] [] M := by
  refine V_iload_n C 1 dX2_setHabit_0 rfl ?_
  refine V_iconst C 0 dX2_setHabit_1 (by decide) ?_
  refine V_bipush C 20 dX2_setHabit_2 (by decide) ?_
  refine V_callN (As := [.int p1, .int 0, .int 20]) (st := []) C (c_X6_within  h) Y_X6_within Z_X6_within (ltN hH (by decide)) (List.mem_of_getElem? (i := 4) rfl) rfl rfl (Nat.le_of_ble_eq_true rfl) dX2_setHabit_4 ?_
  rintro v9 M9 ⟨rfl, r1, rfl, h⟩
  show V X 7 _ [.int r1] M
  refine V_if_eq (tgt := 20) C dX2_setHabit_7 (by decide) (fun hc => ?_) (fun hc => ?_)
  · have h := h.1 hc
    refine V_bipush C (-2) dX2_setHabit_20 (by decide) ?_
    exact V_iret C dX2_setHabit_22 (hQ _ _ h)
  · have h := h.2 hc
    refine V_iload_n C 2 dX2_setHabit_10 rfl ?_
    refine V_iconst C 0 dX2_setHabit_11 (by decide) ?_
    refine V_bipush C 9 dX2_setHabit_12 (by decide) ?_
    refine V_callN (As := [.int p2, .int 0, .int 9]) (st := []) C (c_X6_within  h) Y_X6_within Z_X6_within (ltN hH (by decide)) (List.mem_of_getElem? (i := 4) rfl) rfl rfl (Nat.le_of_ble_eq_true rfl) dX2_setHabit_14 ?_
    rintro v9 M9 ⟨rfl, r2, rfl, h⟩
    show V X 17 _ [.int r2] M
    refine V_if_ne (tgt := 23) C dX2_setHabit_17 (by decide) (fun hc => ?_) (fun hc => ?_)
    · have h := h.1 hc
      refine V_aload_n C 0 dX2_setHabit_23 rfl ?_
      refine V_getR C FL_RX2_27 (f2_5 hb) dX2_setHabit_24 ?_
      refine V_iload_n C 1 dX2_setHabit_27 rfl ?_
      obtain ⟨b3, h⟩ := h
      refine V_iald C (k2_6 hb) b3 dX2_setHabit_28 ?_
      refine V_nmI (fun x4 e_x4 => ?_)
      have h := h x4 e_x4
      refine V_istore_n (lv' := [(3, .int x4), (0, vR X b), (1, .int p1), (2, .int p2)]) C (ltN hN (by decide)) dX2_setHabit_29 rfl ?_
      refine V_aload_n C 1 dX2_setHabit_30 rfl ?_
      refine V_getR C FL_RX2_27 (f2_5 hb) dX2_setHabit_31 ?_
      refine V_iload_n C 2 dX2_setHabit_34 rfl ?_
      refine V_iload_n C 3 dX2_setHabit_35 rfl ?_
      obtain ⟨b6, h⟩ := h
      refine V_iast C (k2_6 hb) b6 dX2_setHabit_36 ?_
      refine V_nmM (fun M5 e_M5 => ?_)
      have h := h M5 e_M5
      refine V_iload_n C 0 dX2_setHabit_37 rfl ?_
      exact V_iret C dX2_setHabit_38 (hQ _ _ h)
    · have h := h.2 hc
      refine V_bipush C (-2) dX2_setHabit_20 (by decide) ?_
      exact V_iret C dX2_setHabit_22 (hQ _ _ h)
set_option maxRecDepth 20000 in
set_option maxHeartbeats 1000000 in
theorem c_X2_setHabit {w : wU} {l : Launch} {b : Nat} {p1 : Int32} {p2 : Int32} {M : mM} {Q : Int32 → mM → Prop} (hb : isC w 2 b) (h : p_X2_setHabit b p1 p2 M Q) : CT w l 1 yX2_setHabit cX2_setHabit 4 (some .int) [.ref (uA w b), .int p1, .int p2] M (piI Q) := by
  refine CT.of (by decide +kernel) (Nat.le_of_ble_eq_true rfl) (fun X hw hH hl hP hN C => ?_)
  subst hw
  exact s_X2_setHabit C hH hN (fun r M1 q => by rw [hP]; exact ⟨r, rfl, q⟩) hb h
