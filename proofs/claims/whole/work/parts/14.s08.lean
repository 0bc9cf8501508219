set_option maxRecDepth 20000 in
set_option maxHeartbeats 1000000 in
theorem s_X7_next_J202 {X : wX} (C : CX X cX7_next RX7 (some .int)) (hH : xH X = 9) (hN : xN X = 6) {b : Nat} {M : mM} {Q : Int32 → mM → Prop} (hQ : ∀ r M, Q r M → xPo X (some (.int r)) M) (hb : isC (xW X) 7 b) {v1 : Int32} {v2 : Int32} {v3 : Int32} {v4 : Int32} {v5 : Int32} {ag4 : (Int32 × Int32 × mM) → Prop} {ag20 : (Int32 × Int32 × mM) → Prop} (hag4 : ∀ s, ag4 s → V X 4 [(0, vR X b), (1, .int (s.1)), (2, .int (s.2.1))] [] (s.2.2)) (hag20 : ∀ s, ag20 s → V X 20 [(0, vR X b), (1, .int (s.1)), (2, .int v2), (3, .int (s.2.1))] [] (s.2.2)) (h : p_X7_next_J202 b Q ag4 ag20 v1 v2 v3 v4 v5 M) : V X 202 [(0, vR X b), (1, .int v1), (2, .int v2), (3, .int v3), (4, .int v4), (5, .int v5)] [] M := by
  refine V_iload C 5 dX7_next_202 rfl ?_
  refine V_if_eq (tgt := 232) C dX7_next_204 (by decide) (fun hc => ?_) (fun hc => ?_)
  · have h := h.1 hc
    refine V_iinc (v := (v3 + 1)) (lv' := [(3, .int (v3 + 1)), (0, vR X b), (1, .int v1), (2, .int v2), (4, .int v4), (5, .int v5)]) C 3 (ltN hN (by decide)) dX7_next_232 rfl rfl rfl ?_
    refine V_goto (tgt := 20) C dX7_next_235 (by decide) ?_
    exact V_sub [1, 2, 3, 0] rfl (hag20 (v1, (v3 + 1), M) h)
  · have h := h.2 hc
    refine V_bipush C 10 dX7_next_207 (by decide) ?_
    refine V_iload C 4 dX7_next_209 rfl ?_
    refine V_imul C dX7_next_211 ?_
    refine V_iload_n C 3 dX7_next_212 rfl ?_
    refine V_iconst C 4 dX7_next_213 (by decide) ?_
    refine V_irem C dX7_next_214 (by decide) ?_
    refine V_iadd C dX7_next_215 ?_
    refine V_nmI (fun x11 e_x11 => ?_)
    have h := h x11 e_x11
    refine V_istore_n (lv' := [(1, .int x11), (0, vR X b), (2, .int v2), (3, .int v3), (4, .int v4), (5, .int v5)]) C (ltN hN (by decide)) dX7_next_216 rfl ?_
    refine V_aload_n C 1 dX7_next_217 rfl ?_
    refine V_bipush C 12 dX7_next_218 (by decide) ?_
    refine V_bipush C 14 dX7_next_220 (by decide) ?_
    refine V_callV (As := [.int 12, .int 14]) (st := []) C (c_X7_copies hb h) Y_X7_copies Z_X7_copies (T := TX7) (N := 21) rfl (o7 hb) (ltN hH (by decide)) u_234 rfl rfl (Nat.le_of_ble_eq_true rfl) dX7_next_222 ?_
    rintro v9 M12 ⟨rfl, h⟩
    show V X 225 _ [] M12
    refine V_aload_n C 1 dX7_next_225 rfl ?_
    refine V_bipush C 13 dX7_next_226 (by decide) ?_
    refine V_iconst C 5 dX7_next_228 (by decide) ?_
    refine V_callV (As := [.int 13, .int 5]) (st := []) C (c_X7_copies hb h) Y_X7_copies Z_X7_copies (T := TX7) (N := 21) rfl (o7 hb) (ltN hH (by decide)) u_234 rfl rfl (Nat.le_of_ble_eq_true rfl) dX7_next_229 ?_
    rintro v9 M13 ⟨rfl, h⟩
    show V X 232 _ [] M13
    refine V_iinc (v := (v3 + 1)) (lv' := [(3, .int (v3 + 1)), (1, .int x11), (0, vR X b), (2, .int v2), (4, .int v4), (5, .int v5)]) C 3 (ltN hN (by decide)) dX7_next_232 rfl rfl rfl ?_
    refine V_goto (tgt := 20) C dX7_next_235 (by decide) ?_
    exact V_sub [2, 1, 3, 0] rfl (hag20 (x11, (v3 + 1), M13) h)
set_option maxRecDepth 20000 in
set_option maxHeartbeats 1000000 in
theorem s_X7_next_J200 {X : wX} (C : CX X cX7_next RX7 (some .int)) (hH : xH X = 9) (hN : xN X = 6) {b : Nat} {M : mM} {Q : Int32 → mM → Prop} (hQ : ∀ r M, Q r M → xPo X (some (.int r)) M) (hb : isC (xW X) 7 b) {v1 : Int32} {v2 : Int32} {v3 : Int32} {v4 : Int32} {s0 : Int32} {ag4 : (Int32 × Int32 × mM) → Prop} {ag20 : (Int32 × Int32 × mM) → Prop} (hag4 : ∀ s, ag4 s → V X 4 [(0, vR X b), (1, .int (s.1)), (2, .int (s.2.1))] [] (s.2.2)) (hag20 : ∀ s, ag20 s → V X 20 [(0, vR X b), (1, .int (s.1)), (2, .int v2), (3, .int (s.2.1))] [] (s.2.2)) (h : p_X7_next_J200 b Q ag4 ag20 v1 v2 v3 v4 s0 M) : V X 200 [(0, vR X b), (1, .int v1), (2, .int v2), (3, .int v3), (4, .int v4)] [.int s0] M := by
  refine V_istore (lv' := [(5, .int s0), (0, vR X b), (1, .int v1), (2, .int v2), (3, .int v3), (4, .int v4)]) C (ltN hN (by decide)) dX7_next_200 rfl ?_
  exact V_sub [1, 2, 3, 4, 5, 0] rfl (s_X7_next_J202 C hH hN hQ hb hag4 hag20  h)
set_option maxRecDepth 20000 in
set_option maxHeartbeats 1000000 in
theorem s_X7_next_J152 {X : wX} (C : CX X cX7_next RX7 (some .int)) (hH : xH X = 9) (hN : xN X = 6) {b : Nat} {M : mM} {Q : Int32 → mM → Prop} (hQ : ∀ r M, Q r M → xPo X (some (.int r)) M) (hb : isC (xW X) 7 b) {v1 : Int32} {v2 : Int32} {v3 : Int32} {v4 : Int32} {s0 : Int32} {ag4 : (Int32 × Int32 × mM) → Prop} {ag20 : (Int32 × Int32 × mM) → Prop} (hag4 : ∀ s, ag4 s → V X 4 [(0, vR X b), (1, .int (s.1)), (2, .int (s.2.1))] [] (s.2.2)) (hag20 : ∀ s, ag20 s → V X 20 [(0, vR X b), (1, .int (s.1)), (2, .int v2), (3, .int (s.2.1))] [] (s.2.2)) (h : p_X7_next_J152 b Q ag4 ag20 v1 v2 v3 v4 s0 M) : V X 152 [(0, vR X b), (1, .int v1), (2, .int v2), (3, .int v3), (4, .int v4)] [.int s0] M := by
  refine V_istore (lv' := [(5, .int s0), (0, vR X b), (1, .int v1), (2, .int v2), (3, .int v3), (4, .int v4)]) C (ltN hN (by decide)) dX7_next_152 rfl ?_
  refine V_iload C 0 dX7_next_154 rfl ?_
  refine V_if_ne (tgt := 202) C dX7_next_156 (by decide) (fun hc => ?_) (fun hc => ?_)
  · have h := h.1 hc
    exact V_sub [1, 2, 3, 4, 5, 0] rfl (s_X7_next_J202 C hH hN hQ hb hag4 hag20  h)
  · have h := h.2 hc
    refine V_aload_n C 1 dX7_next_159 rfl ?_
    refine V_iconst C 2 dX7_next_160 (by decide) ?_
    refine V_bipush C 14 dX7_next_161 (by decide) ?_
    refine V_callV (As := [.int 2, .int 14]) (st := []) C (c_X7_copies hb h) Y_X7_copies Z_X7_copies (T := TX7) (N := 21) rfl (o7 hb) (ltN hH (by decide)) u_234 rfl rfl (Nat.le_of_ble_eq_true rfl) dX7_next_163 ?_
    rintro v9 M14 ⟨rfl, h⟩
    show V X 166 _ [] M14
    refine V_aload_n C 1 dX7_next_166 rfl ?_
    refine V_iconst C 2 dX7_next_167 (by decide) ?_
    refine V_bipush C 13 dX7_next_168 (by decide) ?_
    refine V_callV (As := [.int 2, .int 13]) (st := []) C (c_X7_multiplies hb h) Y_X7_multiplies Z_X7_multiplies (T := TX7) (N := 21) rfl (o7 hb) (ltN hH (by decide)) u_321 rfl rfl (Nat.le_of_ble_eq_true rfl) dX7_next_170 ?_
    rintro v9 M15 ⟨rfl, h⟩
    show V X 173 _ [] M15
    refine V_aload_n C 1 dX7_next_173 rfl ?_
    refine V_iconst C 3 dX7_next_174 (by decide) ?_
    refine V_bipush C 12 dX7_next_175 (by decide) ?_
    refine V_callV (As := [.int 3, .int 12]) (st := []) C (c_X7_copies hb h) Y_X7_copies Z_X7_copies (T := TX7) (N := 21) rfl (o7 hb) (ltN hH (by decide)) u_234 rfl rfl (Nat.le_of_ble_eq_true rfl) dX7_next_177 ?_
    rintro v9 M16 ⟨rfl, h⟩
    show V X 180 _ [] M16
    refine V_aload_n C 1 dX7_next_180 rfl ?_
    refine V_iconst C 3 dX7_next_181 (by decide) ?_
    refine V_iconst C 5 dX7_next_182 (by decide) ?_
    refine V_callV (As := [.int 3, .int 5]) (st := []) C (c_X7_multiplies hb h) Y_X7_multiplies Z_X7_multiplies (T := TX7) (N := 21) rfl (o7 hb) (ltN hH (by decide)) u_321 rfl rfl (Nat.le_of_ble_eq_true rfl) dX7_next_183 ?_
    rintro v9 M17 ⟨rfl, h⟩
    show V X 186 _ [] M17
    refine V_aload_n C 1 dX7_next_186 rfl ?_
    refine V_iconst C 2 dX7_next_187 (by decide) ?_
    refine V_iconst C 3 dX7_next_188 (by decide) ?_
    refine V_callV (As := [.int 2, .int 3]) (st := []) C (c_X7_against hb h) Y_X7_against Z_X7_against (T := TX7) (N := 21) rfl (o7 hb) (ltN hH (by decide)) u_239 rfl rfl (Nat.le_of_ble_eq_true rfl) dX7_next_189 ?_
    rintro v9 M9 ⟨rfl, r18, rfl, h⟩
    show V X 192 _ [.int r18] M17
    refine V_if_ge (tgt := 199) C dX7_next_192 (by decide) (fun hc => ?_) (fun hc => ?_)
    · have h := h.1 hc
      refine V_iconst C 0 dX7_next_199 (by decide) ?_
      exact V_sub [1, 2, 3, 4, 5] rfl (s_X7_next_J200 C hH hN hQ hb hag4 hag20  h)
    · have h := h.2 hc
      refine V_iconst C 1 dX7_next_195 (by decide) ?_
      refine V_goto (tgt := 200) C dX7_next_196 (by decide) ?_
      exact V_sub [1, 2, 3, 4, 5] rfl (s_X7_next_J200 C hH hN hQ hb hag4 hag20  h)
set_option maxRecDepth 20000 in
set_option maxHeartbeats 1000000 in
theorem s_X7_next_J139 {X : wX} (C : CX X cX7_next RX7 (some .int)) (hH : xH X = 9) (hN : xN X = 6) {b : Nat} {M : mM} {Q : Int32 → mM → Prop} (hQ : ∀ r M, Q r M → xPo X (some (.int r)) M) (hb : isC (xW X) 7 b) {v1 : Int32} {v2 : Int32} {v3 : Int32} {v4 : Int32} {s0 : Int32} {s1 : Int32} {ag4 : (Int32 × Int32 × mM) → Prop} {ag20 : (Int32 × Int32 × mM) → Prop} (hag4 : ∀ s, ag4 s → V X 4 [(0, vR X b), (1, .int (s.1)), (2, .int (s.2.1))] [] (s.2.2)) (hag20 : ∀ s, ag20 s → V X 20 [(0, vR X b), (1, .int (s.1)), (2, .int v2), (3, .int (s.2.1))] [] (s.2.2)) (h : p_X7_next_J139 b Q ag4 ag20 v1 v2 v3 v4 s0 s1 M) : V X 139 [(0, vR X b), (1, .int v1), (2, .int v2), (3, .int v3), (4, .int v4)] [.int s0, .int s1, vR X b] M := by
  refine V_callV (As := [.int s1, .int s0]) (st := []) C (c_X7_lessens hb h) Y_X7_lessens Z_X7_lessens (T := TX7) (N := 21) rfl (o7 hb) (ltN hH (by decide)) u_238 rfl rfl (Nat.le_of_ble_eq_true rfl) dX7_next_139 ?_
  rintro v9 M10 ⟨rfl, h⟩
  show V X 142 _ [] M10
  refine V_iload_n C 1 dX7_next_142 rfl ?_
  refine V_iconst C (-1) dX7_next_143 (by decide) ?_
  refine V_icmp_ne (tgt := 151) C dX7_next_144 (by decide) (fun hc => ?_) (fun hc => ?_)
  · have h := h.1 hc
    refine V_iconst C 0 dX7_next_151 (by decide) ?_
    exact V_sub [0, 1, 2, 3, 4] rfl (s_X7_next_J152 C hH hN hQ hb hag4 hag20  h)
  · have h := h.2 hc
    refine V_iconst C 1 dX7_next_147 (by decide) ?_
    refine V_goto (tgt := 152) C dX7_next_148 (by decide) ?_
    exact V_sub [0, 1, 2, 3, 4] rfl (s_X7_next_J152 C hH hN hQ hb hag4 hag20  h)
set_option maxRecDepth 20000 in
set_option maxHeartbeats 1000000 in
theorem s_X7_next_J117 {X : wX} (C : CX X cX7_next RX7 (some .int)) (hH : xH X = 9) (hN : xN X = 6) {b : Nat} {M : mM} {Q : Int32 → mM → Prop} (hQ : ∀ r M, Q r M → xPo X (some (.int r)) M) (hb : isC (xW X) 7 b) {v1 : Int32} {v2 : Int32} {v3 : Int32} {v4 : Int32} {s0 : Int32} {s1 : Int32} {ag4 : (Int32 × Int32 × mM) → Prop} {ag20 : (Int32 × Int32 × mM) → Prop} (hag4 : ∀ s, ag4 s → V X 4 [(0, vR X b), (1, .int (s.1)), (2, .int (s.2.1))] [] (s.2.2)) (hag20 : ∀ s, ag20 s → V X 20 [(0, vR X b), (1, .int (s.1)), (2, .int v2), (3, .int (s.2.1))] [] (s.2.2)) (h : p_X7_next_J117 b Q ag4 ag20 v1 v2 v3 v4 s0 s1 M) : V X 117 [(0, vR X b), (1, .int v1), (2, .int v2), (3, .int v3), (4, .int v4)] [.int s0, .int s1, vR X b] M := by
  refine V_callV (As := [.int s1, .int s0]) (st := []) C (c_X7_copies hb h) Y_X7_copies Z_X7_copies (T := TX7) (N := 21) rfl (o7 hb) (ltN hH (by decide)) u_234 rfl rfl (Nat.le_of_ble_eq_true rfl) dX7_next_117 ?_
  rintro v9 M8 ⟨rfl, h⟩
  show V X 120 _ [] M8
  refine V_aload_n C 0 dX7_next_120 rfl ?_
  refine V_bipush C 14 dX7_next_121 (by decide) ?_
  refine V_aload_n C 0 dX7_next_123 rfl ?_
  refine V_bipush C 7 dX7_next_124 (by decide) ?_
  refine V_iconst C 5 dX7_next_126 (by decide) ?_
  refine V_callV (As := [.int 7, .int 5]) (st := [.int 14, vR X b]) C (c_X7_against hb h) Y_X7_against Z_X7_against (T := TX7) (N := 21) rfl (o7 hb) (ltN hH (by decide)) u_239 rfl rfl (Nat.le_of_ble_eq_true rfl) dX7_next_127 ?_
  rintro v9 M9 ⟨rfl, r9, rfl, h⟩
  show V X 130 _ [.int r9, .int 14, vR X b] M8
  refine V_if_ge (tgt := 138) C dX7_next_130 (by decide) (fun hc => ?_) (fun hc => ?_)
  · have h := h.1 hc
    refine V_iconst C 5 dX7_next_138 (by decide) ?_
    exact V_sub [0, 1, 2, 3, 4] rfl (s_X7_next_J139 C hH hN hQ hb hag4 hag20  h)
  · have h := h.2 hc
    refine V_bipush C 7 dX7_next_133 (by decide) ?_
    refine V_goto (tgt := 139) C dX7_next_135 (by decide) ?_
    exact V_sub [0, 1, 2, 3, 4] rfl (s_X7_next_J139 C hH hN hQ hb hag4 hag20  h)
set_option maxRecDepth 20000 in
set_option maxHeartbeats 1000000 in
theorem s_X7_next_F46 {X : wX} (C : CX X cX7_next RX7 (some .int)) (hH : xH X = 9) (hN : xN X = 6) {b : Nat} {M : mM} {Q : Int32 → mM → Prop} (hQ : ∀ r M, Q r M → xPo X (some (.int r)) M) (hb : isC (xW X) 7 b) {v1 : Int32} {v2 : Int32} {v3 : Int32} {v4 : Int32} {v5 : Int32} {ag4 : (Int32 × Int32 × mM) → Prop} {ag20 : (Int32 × Int32 × mM) → Prop} {ag46 : (Int32 × mM) → Prop} (hag4 : ∀ s, ag4 s → V X 4 [(0, vR X b), (1, .int (s.1)), (2, .int (s.2.1))] [] (s.2.2)) (hag20 : ∀ s, ag20 s → V X 20 [(0, vR X b), (1, .int (s.1)), (2, .int v2), (3, .int (s.2.1))] [] (s.2.2)) (hag46 : ∀ s, ag46 s → V X 46 [(0, vR X b), (1, .int v1), (2, .int v2), (3, .int v3), (4, .int v4), (5, .int (s.1))] [] (s.2)) (h : p_X7_next_F46 b v1 v2 v3 v4 Q ag4 ag20 ag46 v5 M) : V X 46 [(0, vR X b), (1, .int v1), (2, .int v2), (3, .int v3), (4, .int v4), (5, .int v5)] [] M := by
  refine V_iload C 5 dX7_next_46 rfl ?_
  refine V_bipush C 21 dX7_next_48 (by decide) ?_
  refine V_icmp_ge (tgt := 91) C dX7_next_50 (by decide) (fun hc => ?_) (fun hc => ?_)
  · have h := h.1 hc
    refine V_aload_n C 0 dX7_next_91 rfl ?_
    refine V_bipush C 7 dX7_next_92 (by decide) ?_
    refine V_iconst C 2 dX7_next_94 (by decide) ?_
    refine V_callV (As := [.int 7, .int 2]) (st := []) C (c_X7_times hb h) Y_X7_times Z_X7_times (T := TX7) (N := 21) rfl (o7 hb) (ltN hH (by decide)) u_318 rfl rfl (Nat.le_of_ble_eq_true rfl) dX7_next_95 ?_
    rintro v9 M6 ⟨rfl, h⟩
    show V X 98 _ [] M6
    refine V_aload_n C 0 dX7_next_98 rfl ?_
    refine V_bipush C 14 dX7_next_99 (by decide) ?_
    refine V_aload_n C 0 dX7_next_101 rfl ?_
    refine V_bipush C 7 dX7_next_102 (by decide) ?_
    refine V_iconst C 5 dX7_next_104 (by decide) ?_
    refine V_callV (As := [.int 7, .int 5]) (st := [.int 14, vR X b]) C (c_X7_against hb h) Y_X7_against Z_X7_against (T := TX7) (N := 21) rfl (o7 hb) (ltN hH (by decide)) u_239 rfl rfl (Nat.le_of_ble_eq_true rfl) dX7_next_105 ?_
    rintro v9 M9 ⟨rfl, r7, rfl, h⟩
    show V X 108 _ [.int r7, .int 14, vR X b] M6
    refine V_if_ge (tgt := 115) C dX7_next_108 (by decide) (fun hc => ?_) (fun hc => ?_)
    · have h := h.1 hc
      refine V_bipush C 7 dX7_next_115 (by decide) ?_
      exact V_sub [0, 1, 2, 3, 4] rfl (s_X7_next_J117 C hH hN hQ hb hag4 hag20  h)
    · have h := h.2 hc
      refine V_iconst C 5 dX7_next_111 (by decide) ?_
      refine V_goto (tgt := 117) C dX7_next_112 (by decide) ?_
      exact V_sub [0, 1, 2, 3, 4] rfl (s_X7_next_J117 C hH hN hQ hb hag4 hag20  h)
  · have h := h.2 hc
    refine V_aload_n C 0 dX7_next_53 rfl ?_
    refine V_iload C 5 dX7_next_54 rfl ?_
    refine V_callV (As := [.int v5]) (st := []) C (c_X7_isStack hb h) Y_X7_isStack Z_X7_isStack (T := TX7) (N := 21) rfl (o7 hb) (ltN hH (by decide)) u_308 rfl rfl (Nat.le_of_ble_eq_true rfl) dX7_next_56 ?_
    rintro v9 M9 ⟨rfl, r19, rfl, h⟩
    show V X 59 _ [.int r19] M
    refine V_if_eq (tgt := 85) C dX7_next_59 (by decide) (fun hc => ?_) (fun hc => ?_)
    · have h := h.1 hc
      refine V_iinc (v := (v5 + 1)) (lv' := [(5, .int (v5 + 1)), (0, vR X b), (1, .int v1), (2, .int v2), (3, .int v3), (4, .int v4)]) C 5 (ltN hN (by decide)) dX7_next_85 rfl rfl rfl ?_
      refine V_goto (tgt := 46) C dX7_next_88 (by decide) ?_
      exact V_sub [1, 2, 3, 4, 5, 0] rfl (hag46 ((v5 + 1), M) h)
    · have h := h.2 hc
      refine V_aload_n C 0 dX7_next_62 rfl ?_
      refine V_iload C 4 dX7_next_63 rfl ?_
      refine V_iload C 5 dX7_next_65 rfl ?_
      refine V_iload_n C 3 dX7_next_67 rfl ?_
      refine V_iconst C 4 dX7_next_68 (by decide) ?_
      refine V_irem C dX7_next_69 (by decide) ?_
      refine V_callV (As := [.int v4, .int v5, .int (v3 - v3 / 4 * 4)]) (st := []) C (c_X7_isBright hb h) Y_X7_isBright Z_X7_isBright (T := TX7) (N := 21) rfl (o7 hb) (ltN hH (by decide)) u_305 rfl rfl (Nat.le_of_ble_eq_true rfl) dX7_next_70 ?_
      rintro v9 M9 ⟨rfl, r20, rfl, h⟩
      show V X 73 _ [.int r20] M
      refine V_if_eq (tgt := 85) C dX7_next_73 (by decide) (fun hc => ?_) (fun hc => ?_)
      · have h := h.1 hc
        refine V_iinc (v := (v5 + 1)) (lv' := [(5, .int (v5 + 1)), (0, vR X b), (1, .int v1), (2, .int v2), (3, .int v3), (4, .int v4)]) C 5 (ltN hN (by decide)) dX7_next_85 rfl rfl rfl ?_
        refine V_goto (tgt := 46) C dX7_next_88 (by decide) ?_
        exact V_sub [1, 2, 3, 4, 5, 0] rfl (hag46 ((v5 + 1), M) h)
      · have h := h.2 hc
        refine V_aload_n C 0 dX7_next_76 rfl ?_
        refine V_iload_n C 3 dX7_next_77 rfl ?_
        refine V_iconst C 4 dX7_next_78 (by decide) ?_
        refine V_idiv C dX7_next_79 (by decide) ?_
        refine V_iload C 5 dX7_next_80 rfl ?_
        refine V_callV (As := [.int (v3 / 4), .int v5]) (st := []) C (c_X7_addsRows hb h) Y_X7_addsRows Z_X7_addsRows (T := TX7) (N := 21) rfl (o7 hb) (ltN hH (by decide)) u_324 rfl rfl (Nat.le_of_ble_eq_true rfl) dX7_next_82 ?_
        rintro v9 M21 ⟨rfl, h⟩
        show V X 85 _ [] M21
        refine V_iinc (v := (v5 + 1)) (lv' := [(5, .int (v5 + 1)), (0, vR X b), (1, .int v1), (2, .int v2), (3, .int v3), (4, .int v4)]) C 5 (ltN hN (by decide)) dX7_next_85 rfl rfl rfl ?_
        refine V_goto (tgt := 46) C dX7_next_88 (by decide) ?_
        exact V_sub [1, 2, 3, 4, 5, 0] rfl (hag46 ((v5 + 1), M21) h)
set_option maxRecDepth 20000 in
set_option maxHeartbeats 1000000 in
theorem s_X7_next_F20 {X : wX} (C : CX X cX7_next RX7 (some .int)) (hH : xH X = 9) (hN : xN X = 6) {b : Nat} {M : mM} {Q : Int32 → mM → Prop} (hQ : ∀ r M, Q r M → xPo X (some (.int r)) M) (hb : isC (xW X) 7 b) {v2 : Int32} {v1 : Int32} {v3 : Int32} {ag4 : (Int32 × Int32 × mM) → Prop} {ag20 : (Int32 × Int32 × mM) → Prop} (hag4 : ∀ s, ag4 s → V X 4 [(0, vR X b), (1, .int (s.1)), (2, .int (s.2.1))] [] (s.2.2)) (hag20 : ∀ s, ag20 s → V X 20 [(0, vR X b), (1, .int (s.1)), (2, .int v2), (3, .int (s.2.1))] [] (s.2.2)) (h : p_X7_next_F20 b v2 Q ag4 ag20 v1 v3 M) : V X 20 [(0, vR X b), (1, .int v1), (2, .int v2), (3, .int v3)] [] M := by
  refine V_iload_n C 3 dX7_next_20 rfl ?_
  refine V_bipush C 32 dX7_next_21 (by decide) ?_
  refine V_icmp_ge (tgt := 238) C dX7_next_23 (by decide) (fun hc => ?_) (fun hc => ?_)
  · have h := h.1 hc
    refine V_iinc (v := (v2 + 1)) (lv' := [(2, .int (v2 + 1)), (0, vR X b), (1, .int v1), (3, .int v3)]) C 2 (ltN hN (by decide)) dX7_next_238 rfl rfl rfl ?_
    refine V_goto (tgt := 4) C dX7_next_241 (by decide) ?_
    exact V_sub [1, 2, 0] rfl (hag4 (v1, (v2 + 1), M) h)
  · have h := h.2 hc
    refine V_bipush C 8 dX7_next_26 (by decide) ?_
    refine V_iload_n C 2 dX7_next_28 rfl ?_
    refine V_imul C dX7_next_29 ?_
    refine V_iload_n C 3 dX7_next_30 rfl ?_
    refine V_iconst C 4 dX7_next_31 (by decide) ?_
    refine V_idiv C dX7_next_32 (by decide) ?_
    refine V_iadd C dX7_next_33 ?_
    refine V_istore (lv' := [(4, .int ((8 * v2) + (v3 / 4))), (0, vR X b), (1, .int v1), (2, .int v2), (3, .int v3)]) C (ltN hN (by decide)) dX7_next_34 rfl ?_
    refine V_aload_n C 1 dX7_next_36 rfl ?_
    refine V_bipush C 7 dX7_next_37 (by decide) ?_
    refine V_lconst C 0 dX7_next_39 (by decide) ?_
    refine V_callV (As := [.int 7, .long 0]) (st := []) C (c_X7_sets hb h) Y_X7_sets Z_X7_sets (T := TX7) (N := 21) rfl (o7 hb) (ltN hH (by decide)) u_235 rfl rfl (Nat.le_of_ble_eq_true rfl) dX7_next_40 ?_
    rintro v9 M5 ⟨rfl, h⟩
    show V X 43 _ [] M5
    refine V_iconst C 0 dX7_next_43 (by decide) ?_
    refine V_istore (lv' := [(5, .int 0), (4, .int ((8 * v2) + (v3 / 4))), (0, vR X b), (1, .int v1), (2, .int v2), (3, .int v3)]) C (ltN hN (by decide)) dX7_next_44 rfl ?_
    refine V_sub [2, 3, 4, 5, 1, 0] rfl ?_
    exact Loop.sound (s0 := ((0 : Int32), M5)) (P := fun s => V X 46 [(0, vR X b), (1, .int v1), (2, .int v2), (3, .int v3), (4, .int ((8 * v2) + (v3 / 4))), (5, .int (s.1))] [] (s.2)) h (fun ag hag s hs => s_X7_next_F46 C hH hN hQ hb hag4 hag20 hag hs)
set_option maxRecDepth 20000 in
set_option maxHeartbeats 1000000 in
theorem s_X7_next_F4 {X : wX} (C : CX X cX7_next RX7 (some .int)) (hH : xH X = 9) (hN : xN X = 6) {b : Nat} {M : mM} {Q : Int32 → mM → Prop} (hQ : ∀ r M, Q r M → xPo X (some (.int r)) M) (hb : isC (xW X) 7 b) {v1 : Int32} {v2 : Int32} {ag4 : (Int32 × Int32 × mM) → Prop} (hag4 : ∀ s, ag4 s → V X 4 [(0, vR X b), (1, .int (s.1)), (2, .int (s.2.1))] [] (s.2.2)) (h : p_X7_next_F4 b  Q  ag4 v1 v2 M) : V X 4 [(0, vR X b), (1, .int v1), (2, .int v2)] [] M := by
  refine V_iload_n C 2 dX7_next_4 rfl ?_
  refine V_bipush C 6 dX7_next_5 (by decide) ?_
  refine V_icmp_ge (tgt := 244) C dX7_next_7 (by decide) (fun hc => ?_) (fun hc => ?_)
  · have h := h.1 hc
    refine V_iload_n C 1 dX7_next_244 rfl ?_
    refine V_iconst C (-1) dX7_next_245 (by decide) ?_
    refine V_icmp_ne (tgt := 256) C dX7_next_246 (by decide) (fun hc => ?_) (fun hc => ?_)
    · have h := h.1 hc
      refine V_iload_n C 1 dX7_next_256 rfl ?_
      exact V_iret C dX7_next_257 (hQ _ _ h)
    · have h := h.2 hc
      refine V_aload_n C 0 dX7_next_249 rfl ?_
      refine V_callV (As := []) (st := []) C (c_X7_no hb h) Y_X7_no Z_X7_no (T := TX7) (N := 21) rfl (o7 hb) (ltN hH (by decide)) u_257 rfl rfl (Nat.le_of_ble_eq_true rfl) dX7_next_250 ?_
      rintro v9 M1 ⟨r2, rfl, h⟩
      show V X 253 _ [.int r2] M1
      refine V_goto (tgt := 257) C dX7_next_253 (by decide) ?_
      exact V_iret C dX7_next_257 (hQ _ _ h)
  · have h := h.2 hc
    refine V_aload_n C 0 dX7_next_10 rfl ?_
    refine V_iload_n C 2 dX7_next_11 rfl ?_
    refine V_callV (As := [.int v2]) (st := []) C (c_X7_rows hb h) Y_X7_rows Z_X7_rows (T := TX7) (N := 21) rfl (o7 hb) (ltN hH (by decide)) u_325 rfl rfl (Nat.le_of_ble_eq_true rfl) dX7_next_12 ?_
    rintro v9 M3 ⟨r4, rfl, h⟩
    show V X 15 _ [.int r4] M3
    refine V_if_eq (tgt := 238) C dX7_next_15 (by decide) (fun hc => ?_) (fun hc => ?_)
    · have h := h.1 hc
      refine V_iinc (v := (v2 + 1)) (lv' := [(2, .int (v2 + 1)), (0, vR X b), (1, .int v1)]) C 2 (ltN hN (by decide)) dX7_next_238 rfl rfl rfl ?_
      refine V_goto (tgt := 4) C dX7_next_241 (by decide) ?_
      exact V_sub [1, 2, 0] rfl (hag4 (v1, (v2 + 1), M3) h)
    · have h := h.2 hc
      refine V_iconst C 0 dX7_next_18 (by decide) ?_
      refine V_istore_n (lv' := [(3, .int 0), (0, vR X b), (1, .int v1), (2, .int v2)]) C (ltN hN (by decide)) dX7_next_19 rfl ?_
      refine V_sub [1, 2, 3, 0] rfl ?_
      exact Loop.sound (s0 := (v1, (0 : Int32), M3)) (P := fun s => V X 20 [(0, vR X b), (1, .int (s.1)), (2, .int v2), (3, .int (s.2.1))] [] (s.2.2)) h (fun ag hag s hs => s_X7_next_F20 C hH hN hQ hb hag4 hag hs)
set_option maxRecDepth 20000 in
set_option maxHeartbeats 1000000 in
theorem s_X7_next {X : wX} (C : CX X cX7_next RX7 (some .int)) (hH : xH X = 9) (hN : xN X = 6) {b : Nat} {M : mM} {Q : Int32 → mM → Prop} (hQ : ∀ r M, Q r M → xPo X (some (.int r)) M) (hb : isC (xW X) 7 b)   (h : p_X7_next b M Q) : V X 0 [(0, vR X b)] [] M := by
  refine V_iconst C (-1) dX7_next_0 (by decide) ?_
  refine V_istore_n (lv' := [(1, .int (-1)), (0, vR X b)]) C (ltN hN (by decide)) dX7_next_1 rfl ?_
  refine V_iconst C 0 dX7_next_2 (by decide) ?_
  refine V_istore_n (lv' := [(2, .int 0), (1, .int (-1)), (0, vR X b)]) C (ltN hN (by decide)) dX7_next_3 rfl ?_
  refine V_sub [2, 1, 0] rfl ?_
  exact Loop.sound (s0 := ((-1 : Int32), (0 : Int32), M)) (P := fun s => V X 4 [(0, vR X b), (1, .int (s.1)), (2, .int (s.2.1))] [] (s.2.2)) h (fun ag hag s hs => s_X7_next_F4 C hH hN hQ hb  hag hs)
set_option maxRecDepth 20000 in
set_option maxHeartbeats 1000000 in
theorem c_X7_next {w : wU} {l : Launch} {b : Nat} {M : mM} {Q : Int32 → mM → Prop} (hb : isC w 7 b) (h : p_X7_next b M Q) : CT w l 9 yX7_next cX7_next 6 (some .int) [.ref (uA w b)] M (piI Q) := by
  refine CT.of (by decide +kernel) (Nat.le_of_ble_eq_true rfl) (fun X hw hH hl hP hN C => ?_)
  subst hw
  exact s_X7_next C hH hN (fun r M1 q => by rw [hP]; exact ⟨r, rfl, q⟩) hb h
set_option maxRecDepth 20000 in
set_option maxHeartbeats 1000000 in
theorem s_X7_topOf {X : wX} (C : CX X cX7_topOf RX7 (some .int)) (hH : xH X = 1) (hN : xN X = 1) {p1 : Int32} {M : mM} {Q : Int32 → Prop} (hQ : ∀ r, Q r → xPo X (some (.int r)) M)    (h : p_X7_topOf p1 M Q) : V X 0 [(0, .int p1)] [] M := by
  refine V_iload_n C 0 dX7_topOf_0 rfl ?_
  refine V_iconst C 5 dX7_topOf_1 (by decide) ?_
  refine V_icmp_ge (tgt := 12) C dX7_topOf_2 (by decide) (fun hc => ?_) (fun hc => ?_)
  · have h := h.1 hc
    refine V_iload_n C 0 dX7_topOf_12 rfl ?_
    refine V_callS (As := [.int p1]) (st := []) C (c_X7_overOf  h) Y_X7_overOf Z_X7_overOf (ltN hH (by decide)) u_299 rfl rfl (Nat.le_of_ble_eq_true rfl) dX7_topOf_13 ?_
    rintro v9 M9 ⟨rfl, r1, rfl, h⟩
    show V X 16 _ [.int r1] M
    exact V_iret C dX7_topOf_16 (hQ _ h)
  · have h := h.2 hc
    refine V_iload_n C 0 dX7_topOf_5 rfl ?_
    refine V_callS (As := [.int p1]) (st := []) C (c_X7_groundOf  h) Y_X7_groundOf Z_X7_groundOf (ltN hH (by decide)) u_300 rfl rfl (Nat.le_of_ble_eq_true rfl) dX7_topOf_6 ?_
    rintro v9 M9 ⟨rfl, r2, rfl, h⟩
    show V X 9 _ [.int r2] M
    refine V_goto (tgt := 16) C dX7_topOf_9 (by decide) ?_
    exact V_iret C dX7_topOf_16 (hQ _ h)
set_option maxRecDepth 20000 in
set_option maxHeartbeats 1000000 in
theorem c_X7_topOf {w : wU} {l : Launch} {p1 : Int32} {M : mM} {Q : Int32 → Prop}  (h : p_X7_topOf p1 M Q) : CT w l 1 yX7_topOf cX7_topOf 1 (some .int) [.int p1] M (poI M Q) := by
  refine CT.of (by decide +kernel) (Nat.le_of_ble_eq_true rfl) (fun X hw hH hl hP hN C => ?_)
  subst hw
  exact s_X7_topOf C hH hN (fun r q => by rw [hP]; exact ⟨rfl, r, rfl, q⟩)  h
set_option maxRecDepth 20000 in
set_option maxHeartbeats 1000000 in
theorem s_X7_restsAt_F9 {X : wX} (C : CX X cX7_restsAt RX7 (some .int)) (hH : xH X = 4) (hN : xN X = 3) {b : Nat} {p1 : Int32} {M : mM} {Q : Int32 → mM → Prop} (hQ : ∀ r M, Q r M → xPo X (some (.int r)) M) (hb : isC (xW X) 7 b) {v2 : Int32} {ag9 : (Int32 × mM) → Prop} (hag9 : ∀ s, ag9 s → V X 9 [(0, vR X b), (1, .int p1), (2, .int (s.1))] [] (s.2)) (h : p_X7_restsAt_F9 b p1  Q  ag9 v2 M) : V X 9 [(0, vR X b), (1, .int p1), (2, .int v2)] [] M := by
  refine V_iload_n C 2 dX7_restsAt_9 rfl ?_
  refine V_bipush C 21 dX7_restsAt_10 (by decide) ?_
  refine V_icmp_ge (tgt := 55) C dX7_restsAt_12 (by decide) (fun hc => ?_) (fun hc => ?_)
  · have h := h.1 hc
    refine V_aload_n C 0 dX7_restsAt_55 rfl ?_
    refine V_bipush C 7 dX7_restsAt_56 (by decide) ?_
    refine V_iconst C 5 dX7_restsAt_58 (by decide) ?_
    refine V_callV (As := [.int 7, .int 5]) (st := []) C (c_X7_against hb h) Y_X7_against Z_X7_against (T := TX7) (N := 21) rfl (o7 hb) (ltN hH (by decide)) u_239 rfl rfl (Nat.le_of_ble_eq_true rfl) dX7_restsAt_59 ?_
    rintro v9 M9 ⟨rfl, r2, rfl, h⟩
    show V X 62 _ [.int r2] M
    refine V_if_ne (tgt := 67) C dX7_restsAt_62 (by decide) (fun hc => ?_) (fun hc => ?_)
    · have h := h.1 hc
      refine V_aload_n C 0 dX7_restsAt_67 rfl ?_
      refine V_getR C FL_RX7_29 (f7_7 hb) dX7_restsAt_68 ?_
      refine V_bipush C 7 dX7_restsAt_71 (by decide) ?_
      refine V_iald C (k7_7 hb) (vp_lit (by decide)) dX7_restsAt_73 ?_
      refine V_if_ne (tgt := 79) C dX7_restsAt_74 (by decide) (fun hc => ?_) (fun hc => ?_)
      · have h := h.1 hc
        refine V_aload_n C 0 dX7_restsAt_79 rfl ?_
        refine V_bipush C 7 dX7_restsAt_80 (by decide) ?_
        refine V_iconst C 2 dX7_restsAt_82 (by decide) ?_
        refine V_callV (As := [.int 7, .int 2]) (st := []) C (c_X7_times hb h) Y_X7_times Z_X7_times (T := TX7) (N := 21) rfl (o7 hb) (ltN hH (by decide)) u_318 rfl rfl (Nat.le_of_ble_eq_true rfl) dX7_restsAt_83 ?_
        rintro v9 M3 ⟨rfl, h⟩
        show V X 86 _ [] M3
        refine V_aload_n C 0 dX7_restsAt_86 rfl ?_
        refine V_bipush C 7 dX7_restsAt_87 (by decide) ?_
        refine V_iconst C 5 dX7_restsAt_89 (by decide) ?_
        refine V_callV (As := [.int 7, .int 5]) (st := []) C (c_X7_against hb h) Y_X7_against Z_X7_against (T := TX7) (N := 21) rfl (o7 hb) (ltN hH (by decide)) u_239 rfl rfl (Nat.le_of_ble_eq_true rfl) dX7_restsAt_90 ?_
        rintro v9 M9 ⟨rfl, r4, rfl, h⟩
        show V X 93 _ [.int r4] M3
        refine V_if_le (tgt := 100) C dX7_restsAt_93 (by decide) (fun hc => ?_) (fun hc => ?_)
        · have h := h.1 hc
          refine V_iconst C 2 dX7_restsAt_100 (by decide) ?_
          exact V_iret C dX7_restsAt_101 (hQ _ _ h)
        · have h := h.2 hc
          refine V_iconst C 1 dX7_restsAt_96 (by decide) ?_
          refine V_goto (tgt := 101) C dX7_restsAt_97 (by decide) ?_
          exact V_iret C dX7_restsAt_101 (hQ _ _ h)
      · have h := h.2 hc
        refine V_iconst C 3 dX7_restsAt_77 (by decide) ?_
        exact V_iret C dX7_restsAt_78 (hQ _ _ h)
    · have h := h.2 hc
      refine V_iconst C 0 dX7_restsAt_65 (by decide) ?_
      exact V_iret C dX7_restsAt_66 (hQ _ _ h)
  · have h := h.2 hc
    refine V_aload_n C 0 dX7_restsAt_15 rfl ?_
    refine V_iload_n C 2 dX7_restsAt_16 rfl ?_
    refine V_callV (As := [.int v2]) (st := []) C (c_X7_isStack hb h) Y_X7_isStack Z_X7_isStack (T := TX7) (N := 21) rfl (o7 hb) (ltN hH (by decide)) u_308 rfl rfl (Nat.le_of_ble_eq_true rfl) dX7_restsAt_17 ?_
    rintro v9 M9 ⟨rfl, r5, rfl, h⟩
    show V X 20 _ [.int r5] M
    refine V_if_eq (tgt := 49) C dX7_restsAt_20 (by decide) (fun hc => ?_) (fun hc => ?_)
    · have h := h.1 hc
      refine V_iinc (v := (v2 + 1)) (lv' := [(2, .int (v2 + 1)), (0, vR X b), (1, .int p1)]) C 2 (ltN hN (by decide)) dX7_restsAt_49 rfl rfl rfl ?_
      refine V_goto (tgt := 9) C dX7_restsAt_52 (by decide) ?_
      exact V_sub [1, 2, 0] rfl (hag9 ((v2 + 1), M) h)
    · have h := h.2 hc
      refine V_iload_n C 2 dX7_restsAt_23 rfl ?_
      refine V_callS (As := [.int v2]) (st := []) C (c_X7_topOf  h) Y_X7_topOf Z_X7_topOf (ltN hH (by decide)) u_331 rfl rfl (Nat.le_of_ble_eq_true rfl) dX7_restsAt_24 ?_
      rintro v9 M9 ⟨rfl, r6, rfl, h⟩
      show V X 27 _ [.int r6] M
      refine V_aload_n C 0 dX7_restsAt_27 rfl ?_
      refine V_getR C FL_RX7_7 (f7_0 hb) dX7_restsAt_28 ?_
      refine V_sipush C 150 dX7_restsAt_31 (by decide) ?_
      refine V_iload_n C 1 dX7_restsAt_34 rfl ?_
      refine V_iadd C dX7_restsAt_35 ?_
      obtain ⟨b7, h⟩ := h
      refine V_iald C (k7_1 hb) b7 dX7_restsAt_36 ?_
      refine V_icmp_ne (tgt := 49) C dX7_restsAt_37 (by decide) (fun hc => ?_) (fun hc => ?_)
      · have h := h.1 hc
        refine V_iinc (v := (v2 + 1)) (lv' := [(2, .int (v2 + 1)), (0, vR X b), (1, .int p1)]) C 2 (ltN hN (by decide)) dX7_restsAt_49 rfl rfl rfl ?_
        refine V_goto (tgt := 9) C dX7_restsAt_52 (by decide) ?_
        exact V_sub [1, 2, 0] rfl (hag9 ((v2 + 1), M) h)
      · have h := h.2 hc
        refine V_aload_n C 0 dX7_restsAt_40 rfl ?_
        refine V_iload_n C 1 dX7_restsAt_41 rfl ?_
        refine V_bipush C 8 dX7_restsAt_42 (by decide) ?_
        refine V_irem C dX7_restsAt_44 (by decide) ?_
        refine V_iload_n C 2 dX7_restsAt_45 rfl ?_
        refine V_callV (As := [.int (p1 - p1 / 8 * 8), .int v2]) (st := []) C (c_X7_addsRows hb h) Y_X7_addsRows Z_X7_addsRows (T := TX7) (N := 21) rfl (o7 hb) (ltN hH (by decide)) u_324 rfl rfl (Nat.le_of_ble_eq_true rfl) dX7_restsAt_46 ?_
        rintro v9 M8 ⟨rfl, h⟩
        show V X 49 _ [] M8
        refine V_iinc (v := (v2 + 1)) (lv' := [(2, .int (v2 + 1)), (0, vR X b), (1, .int p1)]) C 2 (ltN hN (by decide)) dX7_restsAt_49 rfl rfl rfl ?_
        refine V_goto (tgt := 9) C dX7_restsAt_52 (by decide) ?_
        exact V_sub [1, 2, 0] rfl (hag9 ((v2 + 1), M8) h)
set_option maxRecDepth 20000 in
set_option maxHeartbeats 1000000 in
theorem s_X7_restsAt {X : wX} (C : CX X cX7_restsAt RX7 (some .int)) (hH : xH X = 4) (hN : xN X = 3) {b : Nat} {p1 : Int32} {M : mM} {Q : Int32 → mM → Prop} (hQ : ∀ r M, Q r M → xPo X (some (.int r)) M) (hb : isC (xW X) 7 b)   (h : p_X7_restsAt b p1 M Q) : V X 0 [(0, vR X b), (1, .int p1)] [] M := by
  refine V_aload_n C 0 dX7_restsAt_0 rfl ?_
  refine V_bipush C 7 dX7_restsAt_1 (by decide) ?_
  refine V_lconst C 0 dX7_restsAt_3 (by decide) ?_
  refine V_callV (As := [.int 7, .long 0]) (st := []) C (c_X7_sets hb h) Y_X7_sets Z_X7_sets (T := TX7) (N := 21) rfl (o7 hb) (ltN hH (by decide)) u_235 rfl rfl (Nat.le_of_ble_eq_true rfl) dX7_restsAt_4 ?_
  rintro v9 M1 ⟨rfl, h⟩
  show V X 7 _ [] M1
  refine V_iconst C 0 dX7_restsAt_7 (by decide) ?_
  refine V_istore_n (lv' := [(2, .int 0), (0, vR X b), (1, .int p1)]) C (ltN hN (by decide)) dX7_restsAt_8 rfl ?_
  refine V_sub [1, 2, 0] rfl ?_
  exact Loop.sound (s0 := ((0 : Int32), M1)) (P := fun s => V X 9 [(0, vR X b), (1, .int p1), (2, .int (s.1))] [] (s.2)) h (fun ag hag s hs => s_X7_restsAt_F9 C hH hN hQ hb  hag hs)
set_option maxRecDepth 20000 in
set_option maxHeartbeats 1000000 in
theorem c_X7_restsAt {w : wU} {l : Launch} {b : Nat} {p1 : Int32} {M : mM} {Q : Int32 → mM → Prop} (hb : isC w 7 b) (h : p_X7_restsAt b p1 M Q) : CT w l 4 yX7_restsAt cX7_restsAt 3 (some .int) [.ref (uA w b), .int p1] M (piI Q) := by
  refine CT.of (by decide +kernel) (Nat.le_of_ble_eq_true rfl) (fun X hw hH hl hP hN C => ?_)
  subst hw
  exact s_X7_restsAt C hH hN (fun r M1 q => by rw [hP]; exact ⟨r, rfl, q⟩) hb h
set_option maxRecDepth 20000 in
set_option maxHeartbeats 1000000 in
theorem s_X7_rests {X : wX} (C : CX X cX7_rests RX7 (some .int)) (hH : xH X = 9) (hN : xN X = 2) {b : Nat} {p1 : Int32} {M : mM} {Q : Int32 → mM → Prop} (hQ : ∀ r M, Q r M → xPo X (some (.int r)) M) (hb : isC (xW X) 7 b)   (h : p_X7_rests b p1 M Q) : V X 0 [(0, vR X b), (1, .int p1)] [] M := by
  refine V_iload_n C 1 dX7_rests_0 rfl ?_
  refine V_callS (As := [.int p1]) (st := []) C (c_X7_isCell  h) Y_X7_isCell Z_X7_isCell (ltN hH (by decide)) u_256 rfl rfl (Nat.le_of_ble_eq_true rfl) dX7_rests_1 ?_
  rintro v9 M9 ⟨rfl, r1, rfl, h⟩
  show V X 4 _ [.int r1] M
  refine V_if_ne (tgt := 12) C dX7_rests_4 (by decide) (fun hc => ?_) (fun hc => ?_)
  · have h := h.1 hc
    refine V_aload_n C 0 dX7_rests_12 rfl ?_
    refine V_iload_n C 1 dX7_rests_13 rfl ?_
    refine V_bipush C 8 dX7_rests_14 (by decide) ?_
    refine V_idiv C dX7_rests_16 (by decide) ?_
    refine V_callV (As := [.int (p1 / 8)]) (st := []) C (c_X7_rows hb h) Y_X7_rows Z_X7_rows (T := TX7) (N := 21) rfl (o7 hb) (ltN hH (by decide)) u_325 rfl rfl (Nat.le_of_ble_eq_true rfl) dX7_rests_17 ?_
    rintro v9 M2 ⟨r3, rfl, h⟩
    show V X 20 _ [.int r3] M2
    refine V_if_eq (tgt := 31) C dX7_rests_20 (by decide) (fun hc => ?_) (fun hc => ?_)
    · have h := h.1 hc
      refine V_aload_n C 0 dX7_rests_31 rfl ?_
      refine V_callV (As := []) (st := []) C (c_X7_no hb h) Y_X7_no Z_X7_no (T := TX7) (N := 21) rfl (o7 hb) (ltN hH (by decide)) u_257 rfl rfl (Nat.le_of_ble_eq_true rfl) dX7_rests_32 ?_
      rintro v9 M4 ⟨r5, rfl, h⟩
      show V X 35 _ [.int r5] M4
      exact V_iret C dX7_rests_35 (hQ _ _ h)
    · have h := h.2 hc
      refine V_aload_n C 0 dX7_rests_23 rfl ?_
      refine V_iload_n C 1 dX7_rests_24 rfl ?_
      refine V_callV (As := [.int p1]) (st := []) C (c_X7_restsAt hb h) Y_X7_restsAt Z_X7_restsAt (T := TX7) (N := 21) rfl (o7 hb) (ltN hH (by decide)) u_332 rfl rfl (Nat.le_of_ble_eq_true rfl) dX7_rests_25 ?_
      rintro v9 M6 ⟨r7, rfl, h⟩
      show V X 28 _ [.int r7] M6
      refine V_goto (tgt := 35) C dX7_rests_28 (by decide) ?_
      exact V_iret C dX7_rests_35 (hQ _ _ h)
  · have h := h.2 hc
    refine V_aload_n C 0 dX7_rests_7 rfl ?_
    refine V_callV (As := []) (st := []) C (c_X7_bad hb h) Y_X7_bad Z_X7_bad (T := TX7) (N := 21) rfl (o7 hb) (ltN hH (by decide)) u_242 rfl rfl (Nat.le_of_ble_eq_true rfl) dX7_rests_8 ?_
    rintro v9 M8 ⟨r9, rfl, h⟩
    show V X 11 _ [.int r9] M8
    exact V_iret C dX7_rests_11 (hQ _ _ h)
set_option maxRecDepth 20000 in
set_option maxHeartbeats 1000000 in
theorem c_X7_rests {w : wU} {l : Launch} {b : Nat} {p1 : Int32} {M : mM} {Q : Int32 → mM → Prop} (hb : isC w 7 b) (h : p_X7_rests b p1 M Q) : CT w l 9 yX7_rests cX7_rests 2 (some .int) [.ref (uA w b), .int p1] M (piI Q) := by
  refine CT.of (by decide +kernel) (Nat.le_of_ble_eq_true rfl) (fun X hw hH hl hP hN C => ?_)
  subst hw
  exact s_X7_rests C hH hN (fun r M1 q => by rw [hP]; exact ⟨r, rfl, q⟩) hb h
set_option maxRecDepth 20000 in
set_option maxHeartbeats 1000000 in
theorem s_X7_resting_F47 {X : wX} (C : CX X cX7_resting RX7 (some .int)) (hH : xH X = 9) (hN : xN X = 5) {b : Nat} {p1 : Int32} {p2 : Int32} {M : mM} {Q : Int32 → mM → Prop} (hQ : ∀ r M, Q r M → xPo X (some (.int r)) M) (hb : isC (xW X) 7 b) {v3 : Int32} {v4 : Int32} {ag47 : (Int32 × Int32 × mM) → Prop} (hag47 : ∀ s, ag47 s → V X 47 [(0, vR X b), (1, .int p1), (2, .int p2), (3, .int (s.1)), (4, .int (s.2.1))] [] (s.2.2)) (h : p_X7_resting_F47 b p1 p2  Q  ag47 v3 v4 M) : V X 47 [(0, vR X b), (1, .int p1), (2, .int p2), (3, .int v3), (4, .int v4)] [] M := by
  refine V_iload C 4 dX7_resting_47 rfl ?_
  refine V_bipush C 8 dX7_resting_49 (by decide) ?_
  refine V_icmp_ge (tgt := 83) C dX7_resting_51 (by decide) (fun hc => ?_) (fun hc => ?_)
  · have h := h.1 hc
    refine V_iload_n C 3 dX7_resting_83 rfl ?_
    exact V_iret C dX7_resting_84 (hQ _ _ h)
  · have h := h.2 hc
    refine V_iload_n C 3 dX7_resting_54 rfl ?_
    refine V_aload_n C 0 dX7_resting_55 rfl ?_
    refine V_bipush C 8 dX7_resting_56 (by decide) ?_
    refine V_iload_n C 1 dX7_resting_58 rfl ?_
    refine V_imul C dX7_resting_59 ?_
    refine V_iload C 4 dX7_resting_60 rfl ?_
    refine V_iadd C dX7_resting_62 ?_
    refine V_callV (As := [.int ((8 * p1) + v4)]) (st := [.int v3]) C (c_X7_restsAt hb h) Y_X7_restsAt Z_X7_restsAt (T := TX7) (N := 21) rfl (o7 hb) (ltN hH (by decide)) u_332 rfl rfl (Nat.le_of_ble_eq_true rfl) dX7_resting_63 ?_
    rintro v9 M7 ⟨r8, rfl, h⟩
    show V X 66 _ [.int r8, .int v3] M7
    refine V_iload_n C 2 dX7_resting_66 rfl ?_
    refine V_icmp_ne (tgt := 74) C dX7_resting_67 (by decide) (fun hc => ?_) (fun hc => ?_)
    · have h := h.1 hc
      refine V_iconst C 0 dX7_resting_74 (by decide) ?_
      refine V_iadd C dX7_resting_75 ?_
      refine V_istore_n (lv' := [(3, .int (v3 + 0)), (0, vR X b), (1, .int p1), (2, .int p2), (4, .int v4)]) C (ltN hN (by decide)) dX7_resting_76 rfl ?_
      refine V_iinc (v := (v4 + 1)) (lv' := [(4, .int (v4 + 1)), (3, .int (v3 + 0)), (0, vR X b), (1, .int p1), (2, .int p2)]) C 4 (ltN hN (by decide)) dX7_resting_77 rfl rfl rfl ?_
      refine V_goto (tgt := 47) C dX7_resting_80 (by decide) ?_
      exact V_sub [2, 3, 4, 1, 0] rfl (hag47 ((v3 + 0), (v4 + 1), M7) h)
    · have h := h.2 hc
      refine V_iconst C 1 dX7_resting_70 (by decide) ?_
      refine V_goto (tgt := 75) C dX7_resting_71 (by decide) ?_
      refine V_iadd C dX7_resting_75 ?_
      refine V_istore_n (lv' := [(3, .int (v3 + 1)), (0, vR X b), (1, .int p1), (2, .int p2), (4, .int v4)]) C (ltN hN (by decide)) dX7_resting_76 rfl ?_
      refine V_iinc (v := (v4 + 1)) (lv' := [(4, .int (v4 + 1)), (3, .int (v3 + 1)), (0, vR X b), (1, .int p1), (2, .int p2)]) C 4 (ltN hN (by decide)) dX7_resting_77 rfl rfl rfl ?_
      refine V_goto (tgt := 47) C dX7_resting_80 (by decide) ?_
      exact V_sub [2, 3, 4, 1, 0] rfl (hag47 ((v3 + 1), (v4 + 1), M7) h)
set_option maxRecDepth 20000 in
set_option maxHeartbeats 1000000 in
theorem s_X7_resting {X : wX} (C : CX X cX7_resting RX7 (some .int)) (hH : xH X = 9) (hN : xN X = 5) {b : Nat} {p1 : Int32} {p2 : Int32} {M : mM} {Q : Int32 → mM → Prop} (hQ : ∀ r M, Q r M → xPo X (some (.int r)) M) (hb : isC (xW X) 7 b)   (h : p_X7_resting b p1 p2 M Q) : V X 0 [(0, vR X b), (1, .int p1), (2, .int p2)] [] M := by
  refine V_iload_n C 1 dX7_resting_0 rfl ?_
  refine V_i2l C dX7_resting_1 ?_
  refine V_lconst C 0 dX7_resting_2 (by decide) ?_
  refine V_ldc2 C u_251 dX7_resting_3 ?_
  refine V_callS (As := [.long (p1.toInt64), .long 0, .long 5]) (st := []) C (c_X7_in  h) Y_X7_in Z_X7_in (ltN hH (by decide)) u_243 rfl rfl (Nat.le_of_ble_eq_true rfl) dX7_resting_6 ?_
  rintro v9 M9 ⟨rfl, r1, rfl, h⟩
  show V X 9 _ [.int r1] M
  refine V_if_eq (tgt := 24) C dX7_resting_9 (by decide) (fun hc => ?_) (fun hc => ?_)
  · have h := h.1 hc
    refine V_aload_n C 0 dX7_resting_24 rfl ?_
    refine V_callV (As := []) (st := []) C (c_X7_bad hb h) Y_X7_bad Z_X7_bad (T := TX7) (N := 21) rfl (o7 hb) (ltN hH (by decide)) u_242 rfl rfl (Nat.le_of_ble_eq_true rfl) dX7_resting_25 ?_
    rintro v9 M2 ⟨r3, rfl, h⟩
    show V X 28 _ [.int r3] M2
    exact V_iret C dX7_resting_28 (hQ _ _ h)
  · have h := h.2 hc
    refine V_iload_n C 2 dX7_resting_12 rfl ?_
    refine V_i2l C dX7_resting_13 ?_
    refine V_lconst C 0 dX7_resting_14 (by decide) ?_
    refine V_ldc2 C u_249 dX7_resting_15 ?_
    refine V_callS (As := [.long (p2.toInt64), .long 0, .long 3]) (st := []) C (c_X7_in  h) Y_X7_in Z_X7_in (ltN hH (by decide)) u_243 rfl rfl (Nat.le_of_ble_eq_true rfl) dX7_resting_18 ?_
    rintro v9 M9 ⟨rfl, r4, rfl, h⟩
    show V X 21 _ [.int r4] M
    refine V_if_ne (tgt := 29) C dX7_resting_21 (by decide) (fun hc => ?_) (fun hc => ?_)
    · have h := h.1 hc
      refine V_aload_n C 0 dX7_resting_29 rfl ?_
      refine V_iload_n C 1 dX7_resting_30 rfl ?_
      refine V_callV (As := [.int p1]) (st := []) C (c_X7_rows hb h) Y_X7_rows Z_X7_rows (T := TX7) (N := 21) rfl (o7 hb) (ltN hH (by decide)) u_325 rfl rfl (Nat.le_of_ble_eq_true rfl) dX7_resting_31 ?_
      rintro v9 M5 ⟨r6, rfl, h⟩
      show V X 34 _ [.int r6] M5
      refine V_if_ne (tgt := 42) C dX7_resting_34 (by decide) (fun hc => ?_) (fun hc => ?_)
      · have h := h.1 hc
        refine V_iconst C 0 dX7_resting_42 (by decide) ?_
        refine V_istore_n (lv' := [(3, .int 0), (0, vR X b), (1, .int p1), (2, .int p2)]) C (ltN hN (by decide)) dX7_resting_43 rfl ?_
        refine V_iconst C 0 dX7_resting_44 (by decide) ?_
        refine V_istore (lv' := [(4, .int 0), (3, .int 0), (0, vR X b), (1, .int p1), (2, .int p2)]) C (ltN hN (by decide)) dX7_resting_45 rfl ?_
        refine V_sub [2, 3, 4, 1, 0] rfl ?_
        exact Loop.sound (s0 := ((0 : Int32), (0 : Int32), M5)) (P := fun s => V X 47 [(0, vR X b), (1, .int p1), (2, .int p2), (3, .int (s.1)), (4, .int (s.2.1))] [] (s.2.2)) h (fun ag hag s hs => s_X7_resting_F47 C hH hN hQ hb  hag hs)
      · have h := h.2 hc
        refine V_aload_n C 0 dX7_resting_37 rfl ?_
        refine V_callV (As := []) (st := []) C (c_X7_no hb h) Y_X7_no Z_X7_no (T := TX7) (N := 21) rfl (o7 hb) (ltN hH (by decide)) u_257 rfl rfl (Nat.le_of_ble_eq_true rfl) dX7_resting_38 ?_
        rintro v9 M9 ⟨r10, rfl, h⟩
        show V X 41 _ [.int r10] M9
        exact V_iret C dX7_resting_41 (hQ _ _ h)
    · have h := h.2 hc
      refine V_aload_n C 0 dX7_resting_24 rfl ?_
      refine V_callV (As := []) (st := []) C (c_X7_bad hb h) Y_X7_bad Z_X7_bad (T := TX7) (N := 21) rfl (o7 hb) (ltN hH (by decide)) u_242 rfl rfl (Nat.le_of_ble_eq_true rfl) dX7_resting_25 ?_
      rintro v9 M11 ⟨r12, rfl, h⟩
      show V X 28 _ [.int r12] M11
      exact V_iret C dX7_resting_28 (hQ _ _ h)
set_option maxRecDepth 20000 in
set_option maxHeartbeats 1000000 in
theorem c_X7_resting {w : wU} {l : Launch} {b : Nat} {p1 : Int32} {p2 : Int32} {M : mM} {Q : Int32 → mM → Prop} (hb : isC w 7 b) (h : p_X7_resting b p1 p2 M Q) : CT w l 9 yX7_resting cX7_resting 5 (some .int) [.ref (uA w b), .int p1, .int p2] M (piI Q) := by
  refine CT.of (by decide +kernel) (Nat.le_of_ble_eq_true rfl) (fun X hw hH hl hP hN C => ?_)
  subst hw
  exact s_X7_resting C hH hN (fun r M1 q => by rw [hP]; exact ⟨r, rfl, q⟩) hb h
set_option maxRecDepth 20000 in
set_option maxHeartbeats 1000000 in
theorem s_X7_bright_J140 {X : wX} (C : CX X cX7_bright RX7 (some .int)) (hH : xH X = 9) (hN : xN X = 7) {b : Nat} {p1 : Int32} {p2 : Int32} {M : mM} {Q : Int32 → mM → Prop} (hQ : ∀ r M, Q r M → xPo X (some (.int r)) M) (hb : isC (xW X) 7 b) {v3 : Int32} {v5 : Int32} {v6 : Int32} {s0 : Int32} {ag57 : (Int32 × Int32 × Int32 × mM) → Prop} (hag57 : ∀ s, ag57 s → V X 57 [(0, vR X b), (1, .int p1), (2, .int p2), (3, .int (s.1)), (4, .int (s.2.1)), (5, .int (s.2.2.1))] [] (s.2.2.2)) (h : p_X7_bright_J140 b p1 p2 Q ag57 v3 v5 v6 s0 M) : V X 140 [(0, vR X b), (1, .int p1), (2, .int p2), (3, .int v3), (5, .int v5), (6, .int v6)] [.int s0] M := by
  refine V_istore (lv' := [(4, .int s0), (0, vR X b), (1, .int p1), (2, .int p2), (3, .int v3), (5, .int v5), (6, .int v6)]) C (ltN hN (by decide)) dX7_bright_140 rfl ?_
  refine V_aload_n C 1 dX7_bright_142 rfl ?_
  refine V_bipush C 7 dX7_bright_143 (by decide) ?_
  refine V_iload C 6 dX7_bright_145 rfl ?_
  refine V_callV (As := [.int 7, .int v6]) (st := []) C (c_X7_times hb h) Y_X7_times Z_X7_times (T := TX7) (N := 21) rfl (o7 hb) (ltN hH (by decide)) u_318 rfl rfl (Nat.le_of_ble_eq_true rfl) dX7_bright_147 ?_
  rintro v9 M15 ⟨rfl, h⟩
  show V X 150 _ [] M15
  refine V_aload_n C 1 dX7_bright_150 rfl ?_
  refine V_bipush C 14 dX7_bright_151 (by decide) ?_
  refine V_bipush C 7 dX7_bright_153 (by decide) ?_
  refine V_callV (As := [.int 14, .int 7]) (st := []) C (c_X7_adds hb h) Y_X7_adds Z_X7_adds (T := TX7) (N := 21) rfl (o7 hb) (ltN hH (by decide)) u_317 rfl rfl (Nat.le_of_ble_eq_true rfl) dX7_bright_155 ?_
  rintro v9 M16 ⟨rfl, h⟩
  show V X 158 _ [] M16
  refine V_iinc (v := (v5 + 1)) (lv' := [(5, .int (v5 + 1)), (4, .int s0), (0, vR X b), (1, .int p1), (2, .int p2), (3, .int v3), (6, .int v6)]) C 5 (ltN hN (by decide)) dX7_bright_158 rfl rfl rfl ?_
  refine V_goto (tgt := 57) C dX7_bright_161 (by decide) ?_
  exact V_sub [2, 3, 4, 5, 1, 0] rfl (hag57 (v3, s0, (v5 + 1), M16) h)
set_option maxRecDepth 20000 in
set_option maxHeartbeats 1000000 in
theorem s_X7_bright_J125 {X : wX} (C : CX X cX7_bright RX7 (some .int)) (hH : xH X = 9) (hN : xN X = 7) {b : Nat} {p1 : Int32} {p2 : Int32} {M : mM} {Q : Int32 → mM → Prop} (hQ : ∀ r M, Q r M → xPo X (some (.int r)) M) (hb : isC (xW X) 7 b) {v4 : Int32} {v5 : Int32} {v6 : Int32} {s0 : Int32} {ag57 : (Int32 × Int32 × Int32 × mM) → Prop} (hag57 : ∀ s, ag57 s → V X 57 [(0, vR X b), (1, .int p1), (2, .int p2), (3, .int (s.1)), (4, .int (s.2.1)), (5, .int (s.2.2.1))] [] (s.2.2.2)) (h : p_X7_bright_J125 b p1 p2 Q ag57 v4 v5 v6 s0 M) : V X 125 [(0, vR X b), (1, .int p1), (2, .int p2), (4, .int v4), (5, .int v5), (6, .int v6)] [.int s0] M := by
  refine V_istore_n (lv' := [(3, .int s0), (0, vR X b), (1, .int p1), (2, .int p2), (4, .int v4), (5, .int v5), (6, .int v6)]) C (ltN hN (by decide)) dX7_bright_125 rfl ?_
  refine V_iload C 6 dX7_bright_126 rfl ?_
  refine V_iload C 4 dX7_bright_128 rfl ?_
  refine V_icmp_le (tgt := 138) C dX7_bright_130 (by decide) (fun hc => ?_) (fun hc => ?_)
  · have h := h.1 hc
    refine V_iload C 4 dX7_bright_138 rfl ?_
    exact V_sub [1, 2, 3, 0, 5, 6] rfl (s_X7_bright_J140 C hH hN hQ hb hag57  h)
  · have h := h.2 hc
    refine V_iload C 6 dX7_bright_133 rfl ?_
    refine V_goto (tgt := 140) C dX7_bright_135 (by decide) ?_
    exact V_sub [1, 2, 3, 0, 5, 6] rfl (s_X7_bright_J140 C hH hN hQ hb hag57  h)
set_option maxRecDepth 20000 in
set_option maxHeartbeats 1000000 in
theorem s_X7_bright_J111 {X : wX} (C : CX X cX7_bright RX7 (some .int)) (hH : xH X = 9) (hN : xN X = 7) {b : Nat} {p1 : Int32} {p2 : Int32} {M : mM} {Q : Int32 → mM → Prop} (hQ : ∀ r M, Q r M → xPo X (some (.int r)) M) (hb : isC (xW X) 7 b) {v3 : Int32} {v4 : Int32} {v5 : Int32} {s0 : Int32} {ag57 : (Int32 × Int32 × Int32 × mM) → Prop} (hag57 : ∀ s, ag57 s → V X 57 [(0, vR X b), (1, .int p1), (2, .int p2), (3, .int (s.1)), (4, .int (s.2.1)), (5, .int (s.2.2.1))] [] (s.2.2.2)) (h : p_X7_bright_J111 b p1 p2 Q ag57 v3 v4 v5 s0 M) : V X 111 [(0, vR X b), (1, .int p1), (2, .int p2), (3, .int v3), (4, .int v4), (5, .int v5)] [.int s0] M := by
  refine V_istore (lv' := [(6, .int s0), (0, vR X b), (1, .int p1), (2, .int p2), (3, .int v3), (4, .int v4), (5, .int v5)]) C (ltN hN (by decide)) dX7_bright_111 rfl ?_
  refine V_iload C 0 dX7_bright_113 rfl ?_
  refine V_iload_n C 4 dX7_bright_115 rfl ?_
  refine V_icmp_ge (tgt := 124) C dX7_bright_116 (by decide) (fun hc => ?_) (fun hc => ?_)
  · have h := h.1 hc
    refine V_iload_n C 4 dX7_bright_124 rfl ?_
    exact V_sub [1, 2, 3, 5, 6, 0] rfl (s_X7_bright_J125 C hH hN hQ hb hag57  h)
  · have h := h.2 hc
    refine V_iload C 0 dX7_bright_119 rfl ?_
    refine V_goto (tgt := 125) C dX7_bright_121 (by decide) ?_
    exact V_sub [1, 2, 3, 5, 6, 0] rfl (s_X7_bright_J125 C hH hN hQ hb hag57  h)
set_option maxRecDepth 20000 in
set_option maxHeartbeats 1000000 in
theorem s_X7_bright_F57 {X : wX} (C : CX X cX7_bright RX7 (some .int)) (hH : xH X = 9) (hN : xN X = 7) {b : Nat} {p1 : Int32} {p2 : Int32} {M : mM} {Q : Int32 → mM → Prop} (hQ : ∀ r M, Q r M → xPo X (some (.int r)) M) (hb : isC (xW X) 7 b) {v3 : Int32} {v4 : Int32} {v5 : Int32} {ag57 : (Int32 × Int32 × Int32 × mM) → Prop} (hag57 : ∀ s, ag57 s → V X 57 [(0, vR X b), (1, .int p1), (2, .int p2), (3, .int (s.1)), (4, .int (s.2.1)), (5, .int (s.2.2.1))] [] (s.2.2.2)) (h : p_X7_bright_F57 b p1 p2  Q  ag57 v3 v4 v5 M) : V X 57 [(0, vR X b), (1, .int p1), (2, .int p2), (3, .int v3), (4, .int v4), (5, .int v5)] [] M := by
  refine V_iload C 5 dX7_bright_57 rfl ?_
  refine V_bipush C 21 dX7_bright_59 (by decide) ?_
  refine V_icmp_ge (tgt := 164) C dX7_bright_61 (by decide) (fun hc => ?_) (fun hc => ?_)
  · have h := h.1 hc
    refine V_aload_n C 0 dX7_bright_164 rfl ?_
    refine V_bipush C 7 dX7_bright_165 (by decide) ?_
    refine V_bipush C 14 dX7_bright_167 (by decide) ?_
    refine V_callV (As := [.int 7, .int 14]) (st := []) C (c_X7_copies hb h) Y_X7_copies Z_X7_copies (T := TX7) (N := 21) rfl (o7 hb) (ltN hH (by decide)) u_234 rfl rfl (Nat.le_of_ble_eq_true rfl) dX7_bright_169 ?_
    rintro v9 M8 ⟨rfl, h⟩
    show V X 172 _ [] M8
    refine V_iload_n C 2 dX7_bright_172 rfl ?_
    refine V_if_ne (tgt := 180) C dX7_bright_173 (by decide) (fun hc => ?_) (fun hc => ?_)
    · have h := h.1 hc
      refine V_iload_n C 2 dX7_bright_180 rfl ?_
      refine V_iconst C 1 dX7_bright_181 (by decide) ?_
      refine V_icmp_ne (tgt := 190) C dX7_bright_182 (by decide) (fun hc => ?_) (fun hc => ?_)
      · have h := h.1 hc
        refine V_aload_n C 0 dX7_bright_190 rfl ?_
        refine V_callV (As := []) (st := []) C (c_X7_tellsSum hb h) Y_X7_tellsSum Z_X7_tellsSum (T := TX7) (N := 21) rfl (o7 hb) (ltN hH (by decide)) u_323 rfl rfl (Nat.le_of_ble_eq_true rfl) dX7_bright_191 ?_
        rintro v9 M9 ⟨r10, rfl, h⟩
        show V X 194 _ [.int r10] M9
        exact V_iret C dX7_bright_194 (hQ _ _ h)
      · have h := h.2 hc
        refine V_iload C 4 dX7_bright_185 rfl ?_
        refine V_goto (tgt := 194) C dX7_bright_187 (by decide) ?_
        exact V_iret C dX7_bright_194 (hQ _ _ h)
    · have h := h.2 hc
      refine V_iload_n C 3 dX7_bright_176 rfl ?_
      refine V_goto (tgt := 194) C dX7_bright_177 (by decide) ?_
      exact V_iret C dX7_bright_194 (hQ _ _ h)
  · have h := h.2 hc
    refine V_aload_n C 0 dX7_bright_64 rfl ?_
    refine V_bipush C 7 dX7_bright_65 (by decide) ?_
    refine V_lconst C 0 dX7_bright_67 (by decide) ?_
    refine V_callV (As := [.int 7, .long 0]) (st := []) C (c_X7_sets hb h) Y_X7_sets Z_X7_sets (T := TX7) (N := 21) rfl (o7 hb) (ltN hH (by decide)) u_235 rfl rfl (Nat.le_of_ble_eq_true rfl) dX7_bright_68 ?_
    rintro v9 M11 ⟨rfl, h⟩
    show V X 71 _ [] M11
    refine V_aload_n C 0 dX7_bright_71 rfl ?_
    refine V_iload_n C 1 dX7_bright_72 rfl ?_
    refine V_bipush C 8 dX7_bright_73 (by decide) ?_
    refine V_irem C dX7_bright_75 (by decide) ?_
    refine V_iload C 5 dX7_bright_76 rfl ?_
    refine V_callV (As := [.int (p1 - p1 / 8 * 8), .int v5]) (st := []) C (c_X7_addsRows hb h) Y_X7_addsRows Z_X7_addsRows (T := TX7) (N := 21) rfl (o7 hb) (ltN hH (by decide)) u_324 rfl rfl (Nat.le_of_ble_eq_true rfl) dX7_bright_78 ?_
    rintro v9 M12 ⟨rfl, h⟩
    show V X 81 _ [] M12
    refine V_aload_n C 0 dX7_bright_81 rfl ?_
    refine V_getR C FL_RX7_29 (f7_7 hb) dX7_bright_82 ?_
    refine V_bipush C 7 dX7_bright_85 (by decide) ?_
    refine V_iald C (k7_7 hb) (vp_lit (by decide)) dX7_bright_87 ?_
    refine V_if_le (tgt := 158) C dX7_bright_88 (by decide) (fun hc => ?_) (fun hc => ?_)
    · have h := h.1 hc
      refine V_iinc (v := (v5 + 1)) (lv' := [(5, .int (v5 + 1)), (0, vR X b), (1, .int p1), (2, .int p2), (3, .int v3), (4, .int v4)]) C 5 (ltN hN (by decide)) dX7_bright_158 rfl rfl rfl ?_
      refine V_goto (tgt := 57) C dX7_bright_161 (by decide) ?_
      exact V_sub [1, 2, 3, 4, 5, 0] rfl (hag57 (v3, v4, (v5 + 1), M12) h)
    · have h := h.2 hc
      refine V_iload C 5 dX7_bright_91 rfl ?_
      refine V_if_ne (tgt := 101) C dX7_bright_93 (by decide) (fun hc => ?_) (fun hc => ?_)
      · have h := h.1 hc
        refine V_aload_n C 0 dX7_bright_101 rfl ?_
        refine V_iload C 5 dX7_bright_102 rfl ?_
        refine V_callS (As := [.int v5]) (st := [vR X b]) C (c_X7_topOf  h) Y_X7_topOf Z_X7_topOf (ltN hH (by decide)) u_331 rfl rfl (Nat.le_of_ble_eq_true rfl) dX7_bright_104 ?_
        rintro v9 M9 ⟨rfl, r13, rfl, h⟩
        show V X 107 _ [.int r13, vR X b] M12
        refine V_iconst C 1 dX7_bright_107 (by decide) ?_
        refine V_callV (As := [.int r13, .int 1]) (st := []) C (c_X7_ofStuff hb h) Y_X7_ofStuff Z_X7_ofStuff (T := TX7) (N := 21) rfl (o7 hb) (ltN hH (by decide)) u_301 rfl rfl (Nat.le_of_ble_eq_true rfl) dX7_bright_108 ?_
        rintro v9 M9 ⟨rfl, r14, rfl, h⟩
        show V X 111 _ [.int r14] M12
        exact V_sub [0, 1, 2, 3, 4, 5] rfl (s_X7_bright_J111 C hH hN hQ hb hag57  h)
      · have h := h.2 hc
        refine V_bipush C 9 dX7_bright_96 (by decide) ?_
        refine V_goto (tgt := 111) C dX7_bright_98 (by decide) ?_
        exact V_sub [0, 1, 2, 3, 4, 5] rfl (s_X7_bright_J111 C hH hN hQ hb hag57  h)
set_option maxRecDepth 20000 in
set_option maxHeartbeats 1000000 in
theorem s_X7_bright {X : wX} (C : CX X cX7_bright RX7 (some .int)) (hH : xH X = 9) (hN : xN X = 7) {b : Nat} {p1 : Int32} {p2 : Int32} {M : mM} {Q : Int32 → mM → Prop} (hQ : ∀ r M, Q r M → xPo X (some (.int r)) M) (hb : isC (xW X) 7 b)   (h : p_X7_bright b p1 p2 M Q) : V X 0 [(0, vR X b), (1, .int p1), (2, .int p2)] [] M := by
  refine V_iload_n C 1 dX7_bright_0 rfl ?_
  refine V_callS (As := [.int p1]) (st := []) C (c_X7_isCell  h) Y_X7_isCell Z_X7_isCell (ltN hH (by decide)) u_256 rfl rfl (Nat.le_of_ble_eq_true rfl) dX7_bright_1 ?_
  rintro v9 M9 ⟨rfl, r1, rfl, h⟩
  show V X 4 _ [.int r1] M
  refine V_if_eq (tgt := 19) C dX7_bright_4 (by decide) (fun hc => ?_) (fun hc => ?_)
  · have h := h.1 hc
    refine V_aload_n C 0 dX7_bright_19 rfl ?_
    refine V_callV (As := []) (st := []) C (c_X7_bad hb h) Y_X7_bad Z_X7_bad (T := TX7) (N := 21) rfl (o7 hb) (ltN hH (by decide)) u_242 rfl rfl (Nat.le_of_ble_eq_true rfl) dX7_bright_20 ?_
    rintro v9 M2 ⟨r3, rfl, h⟩
    show V X 23 _ [.int r3] M2
    exact V_iret C dX7_bright_23 (hQ _ _ h)
  · have h := h.2 hc
    refine V_iload_n C 2 dX7_bright_7 rfl ?_
    refine V_i2l C dX7_bright_8 ?_
    refine V_lconst C 0 dX7_bright_9 (by decide) ?_
    refine V_ldc2 C u_309 dX7_bright_10 ?_
    refine V_callS (As := [.long (p2.toInt64), .long 0, .long 2]) (st := []) C (c_X7_in  h) Y_X7_in Z_X7_in (ltN hH (by decide)) u_243 rfl rfl (Nat.le_of_ble_eq_true rfl) dX7_bright_13 ?_
    rintro v9 M9 ⟨rfl, r4, rfl, h⟩
    show V X 16 _ [.int r4] M
    refine V_if_ne (tgt := 24) C dX7_bright_16 (by decide) (fun hc => ?_) (fun hc => ?_)
    · have h := h.1 hc
      refine V_aload_n C 0 dX7_bright_24 rfl ?_
      refine V_iload_n C 1 dX7_bright_25 rfl ?_
      refine V_bipush C 8 dX7_bright_26 (by decide) ?_
      refine V_idiv C dX7_bright_28 (by decide) ?_
      refine V_callV (As := [.int (p1 / 8)]) (st := []) C (c_X7_rows hb h) Y_X7_rows Z_X7_rows (T := TX7) (N := 21) rfl (o7 hb) (ltN hH (by decide)) u_325 rfl rfl (Nat.le_of_ble_eq_true rfl) dX7_bright_29 ?_
      rintro v9 M5 ⟨r6, rfl, h⟩
      show V X 32 _ [.int r6] M5
      refine V_if_ne (tgt := 40) C dX7_bright_32 (by decide) (fun hc => ?_) (fun hc => ?_)
      · have h := h.1 hc
        refine V_ldcw C u_328 dX7_bright_40 ?_
        refine V_istore_n (lv' := [(3, .int 1000000), (0, vR X b), (1, .int p1), (2, .int p2)]) C (ltN hN (by decide)) dX7_bright_43 rfl ?_
        refine V_iconst C (-1) dX7_bright_44 (by decide) ?_
        refine V_istore (lv' := [(4, .int (-1)), (3, .int 1000000), (0, vR X b), (1, .int p1), (2, .int p2)]) C (ltN hN (by decide)) dX7_bright_45 rfl ?_
        refine V_aload_n C 2 dX7_bright_47 rfl ?_
        refine V_bipush C 14 dX7_bright_48 (by decide) ?_
        refine V_lconst C 0 dX7_bright_50 (by decide) ?_
        refine V_callV (As := [.int 14, .long 0]) (st := []) C (c_X7_sets hb h) Y_X7_sets Z_X7_sets (T := TX7) (N := 21) rfl (o7 hb) (ltN hH (by decide)) u_235 rfl rfl (Nat.le_of_ble_eq_true rfl) dX7_bright_51 ?_
        rintro v9 M7 ⟨rfl, h⟩
        show V X 54 _ [] M7
        refine V_iconst C 0 dX7_bright_54 (by decide) ?_
        refine V_istore (lv' := [(5, .int 0), (4, .int (-1)), (3, .int 1000000), (0, vR X b), (1, .int p1), (2, .int p2)]) C (ltN hN (by decide)) dX7_bright_55 rfl ?_
        refine V_sub [3, 4, 5, 2, 1, 0] rfl ?_
        exact Loop.sound (s0 := ((1000000 : Int32), (-1 : Int32), (0 : Int32), M7)) (P := fun s => V X 57 [(0, vR X b), (1, .int p1), (2, .int p2), (3, .int (s.1)), (4, .int (s.2.1)), (5, .int (s.2.2.1))] [] (s.2.2.2)) h (fun ag hag s hs => s_X7_bright_F57 C hH hN hQ hb  hag hs)
      · have h := h.2 hc
        refine V_aload_n C 0 dX7_bright_35 rfl ?_
        refine V_callV (As := []) (st := []) C (c_X7_no hb h) Y_X7_no Z_X7_no (T := TX7) (N := 21) rfl (o7 hb) (ltN hH (by decide)) u_257 rfl rfl (Nat.le_of_ble_eq_true rfl) dX7_bright_36 ?_
        rintro v9 M17 ⟨r18, rfl, h⟩
        show V X 39 _ [.int r18] M17
        exact V_iret C dX7_bright_39 (hQ _ _ h)
    · have h := h.2 hc
      refine V_aload_n C 0 dX7_bright_19 rfl ?_
      refine V_callV (As := []) (st := []) C (c_X7_bad hb h) Y_X7_bad Z_X7_bad (T := TX7) (N := 21) rfl (o7 hb) (ltN hH (by decide)) u_242 rfl rfl (Nat.le_of_ble_eq_true rfl) dX7_bright_20 ?_
      rintro v9 M19 ⟨r20, rfl, h⟩
      show V X 23 _ [.int r20] M19
      exact V_iret C dX7_bright_23 (hQ _ _ h)
set_option maxRecDepth 20000 in
set_option maxHeartbeats 1000000 in
theorem c_X7_bright {w : wU} {l : Launch} {b : Nat} {p1 : Int32} {p2 : Int32} {M : mM} {Q : Int32 → mM → Prop} (hb : isC w 7 b) (h : p_X7_bright b p1 p2 M Q) : CT w l 9 yX7_bright cX7_bright 7 (some .int) [.ref (uA w b), .int p1, .int p2] M (piI Q) := by
  refine CT.of (by decide +kernel) (Nat.le_of_ble_eq_true rfl) (fun X hw hH hl hP hN C => ?_)
  subst hw
  exact s_X7_bright C hH hN (fun r M1 q => by rw [hP]; exact ⟨r, rfl, q⟩) hb h
set_option maxRecDepth 20000 in
set_option maxHeartbeats 1000000 in
theorem s_X7_image_F17 {X : wX} (C : CX X cX7_image RX7 (some .int)) (hH : xH X = 2) (hN : xN X = 3) {b : Nat} {p1 : Int32} {M : mM} {Q : Int32 → mM → Prop} (hQ : ∀ r M, Q r M → xPo X (some (.int r)) M) (hb : isC (xW X) 7 b) {v2 : Int32} {ag17 : (Int32 × mM) → Prop} (hag17 : ∀ s, ag17 s → V X 17 [(0, vR X b), (1, .int p1), (2, .int (s.1))] [] (s.2)) (h : p_X7_image_F17 b p1  Q  ag17 v2 M) : V X 17 [(0, vR X b), (1, .int p1), (2, .int v2)] [] M := by
  refine V_iload_n C 2 dX7_image_17 rfl ?_
  refine V_sipush C 210 dX7_image_18 (by decide) ?_
  refine V_icmp_ge (tgt := 48) C dX7_image_21 (by decide) (fun hc => ?_) (fun hc => ?_)
  · have h := h.1 hc
    refine V_aload_n C 0 dX7_image_48 rfl ?_
    refine V_getR C FL_RX7_16 (f7_2 hb) dX7_image_49 ?_
    refine V_iload_n C 1 dX7_image_52 rfl ?_
    refine V_iconst C 1 dX7_image_53 (by decide) ?_
    obtain ⟨b3, h⟩ := h
    refine V_zast C (k7_3 hb) b3 dX7_image_54 ?_
    refine V_nmM (fun M2 e_M2 => ?_)
    have h := h M2 e_M2
    refine V_iconst C 1 dX7_image_55 (by decide) ?_
    exact V_iret C dX7_image_56 (hQ _ _ h)
  · have h := h.2 hc
    refine V_aload_n C 0 dX7_image_24 rfl ?_
    refine V_getR C FL_RX7_13 (f7_1 hb) dX7_image_25 ?_
    refine V_sipush C 210 dX7_image_28 (by decide) ?_
    refine V_iload_n C 1 dX7_image_31 rfl ?_
    refine V_imul C dX7_image_32 ?_
    refine V_iload_n C 2 dX7_image_33 rfl ?_
    refine V_iadd C dX7_image_34 ?_
    refine V_aload_n C 0 dX7_image_35 rfl ?_
    refine V_getR C FL_RX7_7 (f7_0 hb) dX7_image_36 ?_
    refine V_iload_n C 2 dX7_image_39 rfl ?_
    obtain ⟨b4, h⟩ := h
    refine V_iald C (k7_1 hb) b4 dX7_image_40 ?_
    obtain ⟨b6, h⟩ := h
    refine V_iast C (k7_2 hb) b6 dX7_image_41 ?_
    refine V_nmM (fun M5 e_M5 => ?_)
    have h := h M5 e_M5
    refine V_iinc (v := (v2 + 1)) (lv' := [(2, .int (v2 + 1)), (0, vR X b), (1, .int p1)]) C 2 (ltN hN (by decide)) dX7_image_42 rfl rfl rfl ?_
    refine V_goto (tgt := 17) C dX7_image_45 (by decide) ?_
    exact V_sub [1, 2, 0] rfl (hag17 ((v2 + 1), M5) h)
set_option maxRecDepth 20000 in
set_option maxHeartbeats 1000000 in
theorem s_X7_image {X : wX} (C : CX X cX7_image RX7 (some .int)) (hH : xH X = 2) (hN : xN X = 3) {b : Nat} {p1 : Int32} {M : mM} {Q : Int32 → mM → Prop} (hQ : ∀ r M, Q r M → xPo X (some (.int r)) M) (hb : isC (xW X) 7 b)   (h : p_X7_image b p1 M Q) : V X 0 [(0, vR X b), (1, .int p1)] [] M := by
  refine V_iload_n C 1 dX7_image_0 rfl ?_
  refine V_i2l C dX7_image_1 ?_
  refine V_lconst C 0 dX7_image_2 (by decide) ?_
  refine V_lconst C 1 dX7_image_3 (by decide) ?_
  refine V_callS (As := [.long (p1.toInt64), .long 0, .long 1]) (st := []) C (c_X7_in  h) Y_X7_in Z_X7_in (ltN hH (by decide)) u_243 rfl rfl (Nat.le_of_ble_eq_true rfl) dX7_image_4 ?_
  rintro v9 M9 ⟨rfl, r1, rfl, h⟩
  show V X 7 _ [.int r1] M
  refine V_if_ne (tgt := 15) C dX7_image_7 (by decide) (fun hc => ?_) (fun hc => ?_)
  · have h := h.1 hc
    refine V_iconst C 0 dX7_image_15 (by decide) ?_
    refine V_istore_n (lv' := [(2, .int 0), (0, vR X b), (1, .int p1)]) C (ltN hN (by decide)) dX7_image_16 rfl ?_
    refine V_sub [1, 2, 0] rfl ?_
    exact Loop.sound (s0 := ((0 : Int32), M)) (P := fun s => V X 17 [(0, vR X b), (1, .int p1), (2, .int (s.1))] [] (s.2)) h (fun ag hag s hs => s_X7_image_F17 C hH hN hQ hb  hag hs)
  · have h := h.2 hc
    refine V_aload_n C 0 dX7_image_10 rfl ?_
    refine V_callV (As := []) (st := []) C (c_X7_bad hb h) Y_X7_bad Z_X7_bad (T := TX7) (N := 21) rfl (o7 hb) (ltN hH (by decide)) u_242 rfl rfl (Nat.le_of_ble_eq_true rfl) dX7_image_11 ?_
    rintro v9 M7 ⟨r8, rfl, h⟩
    show V X 14 _ [.int r8] M7
    exact V_iret C dX7_image_14 (hQ _ _ h)
set_option maxRecDepth 20000 in
set_option maxHeartbeats 1000000 in
theorem c_X7_image {w : wU} {l : Launch} {b : Nat} {p1 : Int32} {M : mM} {Q : Int32 → mM → Prop} (hb : isC w 7 b) (h : p_X7_image b p1 M Q) : CT w l 2 yX7_image cX7_image 3 (some .int) [.ref (uA w b), .int p1] M (piI Q) := by
  refine CT.of (by decide +kernel) (Nat.le_of_ble_eq_true rfl) (fun X hw hH hl hP hN C => ?_)
  subst hw
  exact s_X7_image C hH hN (fun r M1 q => by rw [hP]; exact ⟨r, rfl, q⟩) hb h
set_option maxRecDepth 20000 in
set_option maxHeartbeats 1000000 in
theorem s_X7_from_F31 {X : wX} (C : CX X cX7_from RX7 (some .int)) (hH : xH X = 2) (hN : xN X = 3) {b : Nat} {p1 : Int32} {M : mM} {Q : Int32 → mM → Prop} (hQ : ∀ r M, Q r M → xPo X (some (.int r)) M) (hb : isC (xW X) 7 b) {v2 : Int32} {ag31 : (Int32 × mM) → Prop} (hag31 : ∀ s, ag31 s → V X 31 [(0, vR X b), (1, .int p1), (2, .int (s.1))] [] (s.2)) (h : p_X7_from_F31 b p1  Q  ag31 v2 M) : V X 31 [(0, vR X b), (1, .int p1), (2, .int v2)] [] M := by
  refine V_iload_n C 2 dX7_from_31 rfl ?_
  refine V_sipush C 210 dX7_from_32 (by decide) ?_
  refine V_icmp_ge (tgt := 62) C dX7_from_35 (by decide) (fun hc => ?_) (fun hc => ?_)
  · have h := h.1 hc
    refine V_iconst C 1 dX7_from_62 (by decide) ?_
    exact V_iret C dX7_from_63 (hQ _ _ h)
  · have h := h.2 hc
    refine V_aload_n C 0 dX7_from_38 rfl ?_
    refine V_getR C FL_RX7_7 (f7_0 hb) dX7_from_39 ?_
    refine V_iload_n C 2 dX7_from_42 rfl ?_
    refine V_aload_n C 0 dX7_from_43 rfl ?_
    refine V_getR C FL_RX7_13 (f7_1 hb) dX7_from_44 ?_
    refine V_sipush C 210 dX7_from_47 (by decide) ?_
    refine V_iload_n C 1 dX7_from_50 rfl ?_
    refine V_imul C dX7_from_51 ?_
    refine V_iload_n C 2 dX7_from_52 rfl ?_
    refine V_iadd C dX7_from_53 ?_
    obtain ⟨b3, h⟩ := h
    refine V_iald C (k7_2 hb) b3 dX7_from_54 ?_
    obtain ⟨b5, h⟩ := h
    refine V_iast C (k7_1 hb) b5 dX7_from_55 ?_
    refine V_nmM (fun M4 e_M4 => ?_)
    have h := h M4 e_M4
    refine V_iinc (v := (v2 + 1)) (lv' := [(2, .int (v2 + 1)), (0, vR X b), (1, .int p1)]) C 2 (ltN hN (by decide)) dX7_from_56 rfl rfl rfl ?_
    refine V_goto (tgt := 31) C dX7_from_59 (by decide) ?_
    exact V_sub [1, 2, 0] rfl (hag31 ((v2 + 1), M4) h)
set_option maxRecDepth 20000 in
set_option maxHeartbeats 1000000 in
theorem s_X7_from {X : wX} (C : CX X cX7_from RX7 (some .int)) (hH : xH X = 2) (hN : xN X = 3) {b : Nat} {p1 : Int32} {M : mM} {Q : Int32 → mM → Prop} (hQ : ∀ r M, Q r M → xPo X (some (.int r)) M) (hb : isC (xW X) 7 b)   (h : p_X7_from b p1 M Q) : V X 0 [(0, vR X b), (1, .int p1)] [] M := by
  refine V_iload_n C 1 dX7_from_0 rfl ?_
  refine V_i2l C dX7_from_1 ?_
  refine V_lconst C 0 dX7_from_2 (by decide) ?_
  refine V_lconst C 1 dX7_from_3 (by decide) ?_
  refine V_callS (As := [.long (p1.toInt64), .long 0, .long 1]) (st := []) C (c_X7_in  h) Y_X7_in Z_X7_in (ltN hH (by decide)) u_243 rfl rfl (Nat.le_of_ble_eq_true rfl) dX7_from_4 ?_
  rintro v9 M9 ⟨rfl, r1, rfl, h⟩
  show V X 7 _ [.int r1] M
  refine V_if_ne (tgt := 15) C dX7_from_7 (by decide) (fun hc => ?_) (fun hc => ?_)
  · have h := h.1 hc
    refine V_aload_n C 0 dX7_from_15 rfl ?_
    refine V_getR C FL_RX7_16 (f7_2 hb) dX7_from_16 ?_
    refine V_iload_n C 1 dX7_from_19 rfl ?_
    obtain ⟨b2, h⟩ := h
    refine V_zald C (k7_3 hb) b2 dX7_from_20 ?_
    refine V_if_ne (tgt := 29) C dX7_from_21 (by decide) (fun hc => ?_) (fun hc => ?_)
    · have h := h.1 hc
      refine V_iconst C 0 dX7_from_29 (by decide) ?_
      refine V_istore_n (lv' := [(2, .int 0), (0, vR X b), (1, .int p1)]) C (ltN hN (by decide)) dX7_from_30 rfl ?_
      refine V_sub [1, 2, 0] rfl ?_
      exact Loop.sound (s0 := ((0 : Int32), M)) (P := fun s => V X 31 [(0, vR X b), (1, .int p1), (2, .int (s.1))] [] (s.2)) h (fun ag hag s hs => s_X7_from_F31 C hH hN hQ hb  hag hs)
    · have h := h.2 hc
      refine V_aload_n C 0 dX7_from_24 rfl ?_
      refine V_callV (As := []) (st := []) C (c_X7_no hb h) Y_X7_no Z_X7_no (T := TX7) (N := 21) rfl (o7 hb) (ltN hH (by decide)) u_257 rfl rfl (Nat.le_of_ble_eq_true rfl) dX7_from_25 ?_
      rintro v9 M6 ⟨r7, rfl, h⟩
      show V X 28 _ [.int r7] M6
      exact V_iret C dX7_from_28 (hQ _ _ h)
  · have h := h.2 hc
    refine V_aload_n C 0 dX7_from_10 rfl ?_
    refine V_callV (As := []) (st := []) C (c_X7_bad hb h) Y_X7_bad Z_X7_bad (T := TX7) (N := 21) rfl (o7 hb) (ltN hH (by decide)) u_242 rfl rfl (Nat.le_of_ble_eq_true rfl) dX7_from_11 ?_
    rintro v9 M8 ⟨r9, rfl, h⟩
    show V X 14 _ [.int r9] M8
    exact V_iret C dX7_from_14 (hQ _ _ h)
set_option maxRecDepth 20000 in
set_option maxHeartbeats 1000000 in
theorem c_X7_from {w : wU} {l : Launch} {b : Nat} {p1 : Int32} {M : mM} {Q : Int32 → mM → Prop} (hb : isC w 7 b) (h : p_X7_from b p1 M Q) : CT w l 2 yX7_from cX7_from 3 (some .int) [.ref (uA w b), .int p1] M (piI Q) := by
  refine CT.of (by decide +kernel) (Nat.le_of_ble_eq_true rfl) (fun X hw hH hl hP hN C => ?_)
  subst hw
  exact s_X7_from C hH hN (fun r M1 q => by rw [hP]; exact ⟨r, rfl, q⟩) hb h
set_option maxRecDepth 20000 in
set_option maxHeartbeats 1000000 in
theorem s_X7_status {X : wX} (C : CX X cX7_status RX7 (some .int)) (hH : xH X = 1) (hN : xN X = 2) {b : Nat} {p1 : Int32} {M : mM} {Q : Int32 → mM → Prop} (hQ : ∀ r M, Q r M → xPo X (some (.int r)) M) (hb : isC (xW X) 7 b)   (h : p_X7_status b p1 M Q) : V X 0 [(0, vR X b), (1, .int p1)] [] M := by
  refine V_iload_n C 1 dX7_status_0 rfl ?_
  refine V_i2l C dX7_status_1 ?_
  refine V_lconst C 0 dX7_status_2 (by decide) ?_
  refine V_ldc2 C u_309 dX7_status_3 ?_
  refine V_callS (As := [.long (p1.toInt64), .long 0, .long 2]) (st := []) C (c_X7_in  h) Y_X7_in Z_X7_in (ltN hH (by decide)) u_243 rfl rfl (Nat.le_of_ble_eq_true rfl) dX7_status_6 ?_
  rintro v9 M9 ⟨rfl, r1, rfl, h⟩
  show V X 9 _ [.int r1] M
  refine V_if_eq (tgt := 21) C dX7_status_9 (by decide) (fun hc => ?_) (fun hc => ?_)
  · have h := h.1 hc
    refine V_aload_n C 0 dX7_status_21 rfl ?_
    refine V_iconst C 0 dX7_status_22 (by decide) ?_
    refine V_iconst C (-1) dX7_status_23 (by decide) ?_
    refine V_callV (As := [.int 0, .int (-1)]) (st := []) C (c_X7_refuses hb h) Y_X7_refuses Z_X7_refuses (T := TX7) (N := 21) rfl (o7 hb) (ltN hH (by decide)) u_229 rfl rfl (Nat.le_of_ble_eq_true rfl) dX7_status_24 ?_
    rintro v9 M2 ⟨r3, rfl, h⟩
    show V X 27 _ [.int r3] M2
    exact V_iret C dX7_status_27 (hQ _ _ h)
  · have h := h.2 hc
    refine V_aload_n C 0 dX7_status_12 rfl ?_
    refine V_getR C FL_RX7_23 (f7_4 hb) dX7_status_13 ?_
    refine V_iload_n C 1 dX7_status_16 rfl ?_
    obtain ⟨b4, h⟩ := h
    refine V_iald C (k7_5 hb) b4 dX7_status_17 ?_
    refine V_goto (tgt := 27) C dX7_status_18 (by decide) ?_
    exact V_iret C dX7_status_27 (hQ _ _ h)
set_option maxRecDepth 20000 in
set_option maxHeartbeats 1000000 in
theorem c_X7_status {w : wU} {l : Launch} {b : Nat} {p1 : Int32} {M : mM} {Q : Int32 → mM → Prop} (hb : isC w 7 b) (h : p_X7_status b p1 M Q) : CT w l 1 yX7_status cX7_status 2 (some .int) [.ref (uA w b), .int p1] M (piI Q) := by
  refine CT.of (by decide +kernel) (Nat.le_of_ble_eq_true rfl) (fun X hw hH hl hP hN C => ?_)
  subst hw
  exact s_X7_status C hH hN (fun r M1 q => by rw [hP]; exact ⟨r, rfl, q⟩) hb h
set_option maxRecDepth 20000 in
set_option maxHeartbeats 1000000 in
theorem s_X7_countOf_F4 {X : wX} (C : CX X cX7_countOf RX7 (some .int)) (hH : xH X = 1) (hN : xN X = 4) {b : Nat} {p1 : Int32} {M : mM} {Q : Int32 → Prop} (hQ : ∀ r, Q r → xPo X (some (.int r)) M) (hb : isC (xW X) 7 b) {v2 : Int32} {v3 : Int32} {ag4 : (Int32 × Int32) → Prop} (hag4 : ∀ s, ag4 s → V X 4 [(0, vR X b), (1, .int p1), (2, .int (s.1)), (3, .int (s.2))] [] M) (h : p_X7_countOf_F4 b p1  M Q  ag4 v2 v3) : V X 4 [(0, vR X b), (1, .int p1), (2, .int v2), (3, .int v3)] [] M := by
  refine V_iload_n C 3 dX7_countOf_4 rfl ?_
  refine V_aload_n C 0 dX7_countOf_5 rfl ?_
  refine V_getR C FL_RX7_7 (f7_0 hb) dX7_countOf_6 ?_
  refine V_iconst C 1 dX7_countOf_9 (by decide) ?_
  refine V_iald C (k7_1 hb) (vp_lit (by decide)) dX7_countOf_10 ?_
  refine V_icmp_ge (tgt := 29) C dX7_countOf_11 (by decide) (fun hc => ?_) (fun hc => ?_)
  · have h := h.1 hc
    refine V_iload_n C 1 dX7_countOf_29 rfl ?_
    refine V_iconst C 2 dX7_countOf_30 (by decide) ?_
    refine V_icmp_ge (tgt := 43) C dX7_countOf_31 (by decide) (fun hc => ?_) (fun hc => ?_)
    · have h := h.1 hc
      refine V_iload_n C 1 dX7_countOf_43 rfl ?_
      refine V_iconst C 2 dX7_countOf_44 (by decide) ?_
      refine V_icmp_ne (tgt := 52) C dX7_countOf_45 (by decide) (fun hc => ?_) (fun hc => ?_)
      · have h := h.1 hc
        refine V_aload_n C 0 dX7_countOf_52 rfl ?_
        refine V_getI C FL_RX7_146 (f7_9 hb) dX7_countOf_53 ?_
        exact V_iret C dX7_countOf_56 (hQ _ h)
      · have h := h.2 hc
        refine V_iload_n C 2 dX7_countOf_48 rfl ?_
        refine V_goto (tgt := 56) C dX7_countOf_49 (by decide) ?_
        exact V_iret C dX7_countOf_56 (hQ _ h)
    · have h := h.2 hc
      refine V_aload_n C 0 dX7_countOf_34 rfl ?_
      refine V_getR C FL_RX7_7 (f7_0 hb) dX7_countOf_35 ?_
      refine V_iload_n C 1 dX7_countOf_38 rfl ?_
      obtain ⟨b1, h⟩ := h
      refine V_iald C (k7_1 hb) b1 dX7_countOf_39 ?_
      refine V_goto (tgt := 56) C dX7_countOf_40 (by decide) ?_
      exact V_iret C dX7_countOf_56 (hQ _ h)
  · have h := h.2 hc
    refine V_iload_n C 2 dX7_countOf_14 rfl ?_
    refine V_aload_n C 0 dX7_countOf_15 rfl ?_
    refine V_iload_n C 3 dX7_countOf_16 rfl ?_
    refine V_iconst C 3 dX7_countOf_17 (by decide) ?_
    refine V_callV (As := [.int v3, .int 3]) (st := [.int v2]) C (c_X7_ofTrace hb h) Y_X7_ofTrace Z_X7_ofTrace (T := TX7) (N := 21) rfl (o7 hb) (ltN hH (by decide)) u_258 rfl rfl (Nat.le_of_ble_eq_true rfl) dX7_countOf_18 ?_
    rintro v9 M9 ⟨rfl, r2, rfl, h⟩
    show V X 21 _ [.int r2, .int v2] M
    refine V_iadd C dX7_countOf_21 ?_
    refine V_istore_n (lv' := [(2, .int (v2 + r2)), (0, vR X b), (1, .int p1), (3, .int v3)]) C (ltN hN (by decide)) dX7_countOf_22 rfl ?_
    refine V_iinc (v := (v3 + 1)) (lv' := [(3, .int (v3 + 1)), (2, .int (v2 + r2)), (0, vR X b), (1, .int p1)]) C 3 (ltN hN (by decide)) dX7_countOf_23 rfl rfl rfl ?_
    refine V_goto (tgt := 4) C dX7_countOf_26 (by decide) ?_
    exact V_sub [2, 3, 1, 0] rfl (hag4 ((v2 + r2), (v3 + 1)) h)
set_option maxRecDepth 20000 in
set_option maxHeartbeats 1000000 in
theorem s_X7_countOf {X : wX} (C : CX X cX7_countOf RX7 (some .int)) (hH : xH X = 1) (hN : xN X = 4) {b : Nat} {p1 : Int32} {M : mM} {Q : Int32 → Prop} (hQ : ∀ r, Q r → xPo X (some (.int r)) M) (hb : isC (xW X) 7 b)   (h : p_X7_countOf b p1 M Q) : V X 0 [(0, vR X b), (1, .int p1)] [] M := by
  refine V_iconst C 0 dX7_countOf_0 (by decide) ?_
  refine V_istore_n (lv' := [(2, .int 0), (0, vR X b), (1, .int p1)]) C (ltN hN (by decide)) dX7_countOf_1 rfl ?_
  refine V_iconst C 0 dX7_countOf_2 (by decide) ?_
  refine V_istore_n (lv' := [(3, .int 0), (2, .int 0), (0, vR X b), (1, .int p1)]) C (ltN hN (by decide)) dX7_countOf_3 rfl ?_
  refine V_sub [2, 3, 1, 0] rfl ?_
  exact Loop.sound (s0 := ((0 : Int32), (0 : Int32))) (P := fun s => V X 4 [(0, vR X b), (1, .int p1), (2, .int (s.1)), (3, .int (s.2))] [] M) h (fun ag hag s hs => s_X7_countOf_F4 C hH hN hQ hb  hag hs)
set_option maxRecDepth 20000 in
set_option maxHeartbeats 1000000 in
theorem c_X7_countOf {w : wU} {l : Launch} {b : Nat} {p1 : Int32} {M : mM} {Q : Int32 → Prop} (hb : isC w 7 b) (h : p_X7_countOf b p1 M Q) : CT w l 1 yX7_countOf cX7_countOf 4 (some .int) [.ref (uA w b), .int p1] M (poI M Q) := by
  refine CT.of (by decide +kernel) (Nat.le_of_ble_eq_true rfl) (fun X hw hH hl hP hN C => ?_)
  subst hw
  exact s_X7_countOf C hH hN (fun r q => by rw [hP]; exact ⟨rfl, r, rfl, q⟩) hb h
set_option maxRecDepth 20000 in
set_option maxHeartbeats 1000000 in
theorem s_X7_count {X : wX} (C : CX X cX7_count RX7 (some .int)) (hH : xH X = 2) (hN : xN X = 2) {b : Nat} {p1 : Int32} {M : mM} {Q : Int32 → mM → Prop} (hQ : ∀ r M, Q r M → xPo X (some (.int r)) M) (hb : isC (xW X) 7 b)   (h : p_X7_count b p1 M Q) : V X 0 [(0, vR X b), (1, .int p1)] [] M := by
  refine V_iload_n C 1 dX7_count_0 rfl ?_
  refine V_i2l C dX7_count_1 ?_
  refine V_lconst C 0 dX7_count_2 (by decide) ?_
  refine V_ldc2 C u_249 dX7_count_3 ?_
  refine V_callS (As := [.long (p1.toInt64), .long 0, .long 3]) (st := []) C (c_X7_in  h) Y_X7_in Z_X7_in (ltN hH (by decide)) u_243 rfl rfl (Nat.le_of_ble_eq_true rfl) dX7_count_6 ?_
  rintro v9 M9 ⟨rfl, r1, rfl, h⟩
  show V X 9 _ [.int r1] M
  refine V_if_eq (tgt := 20) C dX7_count_9 (by decide) (fun hc => ?_) (fun hc => ?_)
  · have h := h.1 hc
    refine V_aload_n C 0 dX7_count_20 rfl ?_
    refine V_callV (As := []) (st := []) C (c_X7_bad hb h) Y_X7_bad Z_X7_bad (T := TX7) (N := 21) rfl (o7 hb) (ltN hH (by decide)) u_242 rfl rfl (Nat.le_of_ble_eq_true rfl) dX7_count_21 ?_
    rintro v9 M2 ⟨r3, rfl, h⟩
    show V X 24 _ [.int r3] M2
    exact V_iret C dX7_count_24 (hQ _ _ h)
  · have h := h.2 hc
    refine V_aload_n C 0 dX7_count_12 rfl ?_
    refine V_iload_n C 1 dX7_count_13 rfl ?_
    refine V_callV (As := [.int p1]) (st := []) C (c_X7_countOf hb h) Y_X7_countOf Z_X7_countOf (T := TX7) (N := 21) rfl (o7 hb) (ltN hH (by decide)) u_335 rfl rfl (Nat.le_of_ble_eq_true rfl) dX7_count_14 ?_
    rintro v9 M9 ⟨rfl, r4, rfl, h⟩
    show V X 17 _ [.int r4] M
    refine V_goto (tgt := 24) C dX7_count_17 (by decide) ?_
    exact V_iret C dX7_count_24 (hQ _ _ h)
set_option maxRecDepth 20000 in
set_option maxHeartbeats 1000000 in
theorem c_X7_count {w : wU} {l : Launch} {b : Nat} {p1 : Int32} {M : mM} {Q : Int32 → mM → Prop} (hb : isC w 7 b) (h : p_X7_count b p1 M Q) : CT w l 2 yX7_count cX7_count 2 (some .int) [.ref (uA w b), .int p1] M (piI Q) := by
  refine CT.of (by decide +kernel) (Nat.le_of_ble_eq_true rfl) (fun X hw hH hl hP hN C => ?_)
  subst hw
  exact s_X7_count C hH hN (fun r M1 q => by rw [hP]; exact ⟨r, rfl, q⟩) hb h
set_option maxRecDepth 20000 in
set_option maxHeartbeats 1000000 in
theorem s_X7_mixed_F6 {X : wX} (C : CX X cX7_mixed RX7 (some .long)) (hH : xH X = 0) (hN : xN X = 8) {p1 : Int64} {p2 : Nat} {p2n : Nat} {p3 : Int32} {p4 : Int32} {M : mM} {Q : Int64 → Prop} (hQ : ∀ r, Q r → xPo X (some (.long r)) M) (h2 : AK (xW X) p2 (kI 0 p2n)) {v5 : Int64} {v7 : Int32} {ag6 : (Int64 × Int32) → Prop} (hag6 : ∀ s, ag6 s → V X 6 [(2, vR X p2), (3, .int p3), (4, .int p4), (5, .long (s.1)), (7, .int (s.2))] [] M) (h : p_X7_mixed_F6 p1 p2 p2n p3 p4  M Q  ag6 v5 v7) : V X 6 [(2, vR X p2), (3, .int p3), (4, .int p4), (5, .long v5), (7, .int v7)] [] M := by
  refine V_iload C 4 dX7_mixed_6 rfl ?_
  refine V_iload C 2 dX7_mixed_8 rfl ?_
  refine V_icmp_ge (tgt := 35) C dX7_mixed_10 (by decide) (fun hc => ?_) (fun hc => ?_)
  · have h := h.1 hc
    refine V_lload C 3 dX7_mixed_35 rfl ?_
    exact V_lret C dX7_mixed_37 (hQ _ h)
  · have h := h.2 hc
    refine V_ldc2 C u_336 dX7_mixed_13 ?_
    refine V_lload C 3 dX7_mixed_16 rfl ?_
    refine V_lmul C dX7_mixed_18 ?_
    refine V_aload_n C 0 dX7_mixed_19 rfl ?_
    refine V_iload_n C 1 dX7_mixed_20 rfl ?_
    refine V_iload C 4 dX7_mixed_21 rfl ?_
    refine V_iadd C dX7_mixed_23 ?_
    obtain ⟨b1, h⟩ := h
    refine V_iald C h2 b1 dX7_mixed_24 ?_
    refine V_i2l C dX7_mixed_25 ?_
    refine V_ladd C dX7_mixed_26 ?_
    refine V_nmL (fun x2 e_x2 => ?_)
    have h := h x2 e_x2
    refine V_lstore (lv' := [(5, .long x2), (2, vR X p2), (3, .int p3), (4, .int p4), (7, .int v7)]) C (ltN hN (by decide)) dX7_mixed_27 rfl ?_
    refine V_iinc (v := (v7 + 1)) (lv' := [(7, .int (v7 + 1)), (5, .long x2), (2, vR X p2), (3, .int p3), (4, .int p4)]) C 4 (ltN hN (by decide)) dX7_mixed_29 rfl rfl rfl ?_
    refine V_goto (tgt := 6) C dX7_mixed_32 (by decide) ?_
    exact V_sub [2, 3, 4, 1, 0] rfl (hag6 (x2, (v7 + 1)) h)
set_option maxRecDepth 20000 in
set_option maxHeartbeats 1000000 in
theorem s_X7_mixed {X : wX} (C : CX X cX7_mixed RX7 (some .long)) (hH : xH X = 0) (hN : xN X = 8) {p1 : Int64} {p2 : Nat} {p2n : Nat} {p3 : Int32} {p4 : Int32} {M : mM} {Q : Int64 → Prop} (hQ : ∀ r, Q r → xPo X (some (.long r)) M) (h2 : AK (xW X) p2 (kI 0 p2n))   (h : p_X7_mixed p1 p2 p2n p3 p4 M Q) : V X 0 [(0, .long p1), (2, vR X p2), (3, .int p3), (4, .int p4)] [] M := by
  refine V_lload_n C 0 dX7_mixed_0 rfl ?_
  refine V_lstore (lv' := [(5, .long p1), (0, .long p1), (2, vR X p2), (3, .int p3), (4, .int p4)]) C (ltN hN (by decide)) dX7_mixed_1 rfl ?_
  refine V_iconst C 0 dX7_mixed_3 (by decide) ?_
  refine V_istore (lv' := [(7, .int 0), (5, .long p1), (0, .long p1), (2, vR X p2), (3, .int p3), (4, .int p4)]) C (ltN hN (by decide)) dX7_mixed_4 rfl ?_
  refine V_sub [3, 4, 5, 1, 0] rfl ?_
  exact Loop.sound (s0 := (p1, (0 : Int32))) (P := fun s => V X 6 [(2, vR X p2), (3, .int p3), (4, .int p4), (5, .long (s.1)), (7, .int (s.2))] [] M) h (fun ag hag s hs => s_X7_mixed_F6 C hH hN hQ h2  hag hs)
set_option maxRecDepth 20000 in
set_option maxHeartbeats 1000000 in
theorem c_X7_mixed {w : wU} {l : Launch} {p1 : Int64} {p2 : Nat} {p2n : Nat} {p3 : Int32} {p4 : Int32} {M : mM} {Q : Int64 → Prop} (h2 : AK w p2 (kI 0 p2n)) (h : p_X7_mixed p1 p2 p2n p3 p4 M Q) : CT w l 0 yX7_mixed cX7_mixed 8 (some .long) [.long p1, .ref (uA w p2), .int p3, .int p4] M (poL M Q) := by
  refine CT.of (by decide +kernel) (Nat.le_of_ble_eq_true rfl) (fun X hw hH hl hP hN C => ?_)
  subst hw
  exact s_X7_mixed C hH hN (fun r q => by rw [hP]; exact ⟨rfl, r, rfl, q⟩) h2 h
set_option maxRecDepth 20000 in
set_option maxHeartbeats 1000000 in
theorem s_X7_digest_J126 {X : wX} (C : CX X cX7_digest RX7 (some .long)) (hH : xH X = 2) (hN : xN X = 4) {b : Nat} {M : mM} {Q : Int64 → Prop} (hQ : ∀ r, Q r → xPo X (some (.long r)) M) (hb : isC (xW X) 7 b) {s0 : Int32} {s1 : Int64}  (h : p_X7_digest_J126 b Q  s0 s1 M) : V X 126 [(0, vR X b)] [.int s0, .long s1] M := by
  refine V_i2l C dX7_digest_126 ?_
  refine V_ladd C dX7_digest_127 ?_
  refine V_lstore_n (lv' := [(1, .long (s1 + (s0.toInt64))), (0, vR X b)]) C (ltN hN (by decide)) dX7_digest_128 rfl ?_
  refine V_ldc2 C u_336 dX7_digest_129 ?_
  refine V_ldc2 C u_336 dX7_digest_132 ?_
  refine V_lload_n C 0 dX7_digest_135 rfl ?_
  refine V_lmul C dX7_digest_136 ?_
  refine V_aload_n C 1 dX7_digest_137 rfl ?_
  refine V_getR C FL_RX7_29 (f7_7 hb) dX7_digest_138 ?_
  refine V_iconst C 0 dX7_digest_141 (by decide) ?_
  refine V_iald C (k7_7 hb) (vp_lit (by decide)) dX7_digest_142 ?_
  refine V_i2l C dX7_digest_143 ?_
  refine V_ladd C dX7_digest_144 ?_
  refine V_lmul C dX7_digest_145 ?_
  refine V_aload_n C 1 dX7_digest_146 rfl ?_
  refine V_getR C FL_RX7_29 (f7_7 hb) dX7_digest_147 ?_
  refine V_iconst C 1 dX7_digest_150 (by decide) ?_
  refine V_iald C (k7_7 hb) (vp_lit (by decide)) dX7_digest_151 ?_
  refine V_i2l C dX7_digest_152 ?_
  refine V_ladd C dX7_digest_153 ?_
  refine V_nmL (fun x6 e_x6 => ?_)
  have h := h x6 e_x6
  refine V_lstore_n (lv' := [(1, .long x6), (0, vR X b)]) C (ltN hN (by decide)) dX7_digest_154 rfl ?_
  refine V_lload_n C 0 dX7_digest_155 rfl ?_
  refine V_aload_n C 1 dX7_digest_156 rfl ?_
  refine V_getR C FL_RX7_26 (f7_6 hb) dX7_digest_157 ?_
  refine V_iconst C 0 dX7_digest_160 (by decide) ?_
  refine V_aload_n C 1 dX7_digest_161 rfl ?_
  refine V_getR C FL_RX7_29 (f7_7 hb) dX7_digest_162 ?_
  refine V_iconst C 0 dX7_digest_165 (by decide) ?_
  refine V_iald C (k7_7 hb) (vp_lit (by decide)) dX7_digest_166 ?_
  refine V_callS (As := [.long x6, vR X (b + 6), .int 0, .int (M.1 (b + 7) (0 : Int32).toNatClampNeg)]) (st := []) C (c_X7_mixed (k7_6 hb) h) Y_X7_mixed Z_X7_mixed (ltN hH (by decide)) u_338 rfl rfl (Nat.le_of_ble_eq_true rfl) dX7_digest_167 ?_
  rintro v9 M9 ⟨rfl, r7, rfl, h⟩
  show V X 170 _ [.long r7] M
  refine V_lstore_n (lv' := [(1, .long r7), (0, vR X b)]) C (ltN hN (by decide)) dX7_digest_170 rfl ?_
  refine V_lload_n C 0 dX7_digest_171 rfl ?_
  refine V_aload_n C 1 dX7_digest_172 rfl ?_
  refine V_getR C FL_RX7_26 (f7_6 hb) dX7_digest_173 ?_
  refine V_bipush C 40 dX7_digest_176 (by decide) ?_
  refine V_aload_n C 1 dX7_digest_178 rfl ?_
  refine V_getR C FL_RX7_29 (f7_7 hb) dX7_digest_179 ?_
  refine V_iconst C 1 dX7_digest_182 (by decide) ?_
  refine V_iald C (k7_7 hb) (vp_lit (by decide)) dX7_digest_183 ?_
  refine V_callS (As := [.long r7, vR X (b + 6), .int 40, .int (M.1 (b + 7) (1 : Int32).toNatClampNeg)]) (st := []) C (c_X7_mixed (k7_6 hb) h) Y_X7_mixed Z_X7_mixed (ltN hH (by decide)) u_338 rfl rfl (Nat.le_of_ble_eq_true rfl) dX7_digest_184 ?_
  rintro v9 M9 ⟨rfl, r8, rfl, h⟩
  show V X 187 _ [.long r8] M
  exact V_lret C dX7_digest_187 (hQ _ h)
set_option maxRecDepth 20000 in
set_option maxHeartbeats 1000000 in
theorem s_X7_digest_F6 {X : wX} (C : CX X cX7_digest RX7 (some .long)) (hH : xH X = 2) (hN : xN X = 4) {b : Nat} {M : mM} {Q : Int64 → Prop} (hQ : ∀ r, Q r → xPo X (some (.long r)) M) (hb : isC (xW X) 7 b) {v1 : Int64} {v3 : Int32} {ag6 : (Int64 × Int32) → Prop} (hag6 : ∀ s, ag6 s → V X 6 [(0, vR X b), (1, .long (s.1)), (3, .int (s.2))] [] M) (h : p_X7_digest_F6 b  M Q  ag6 v1 v3) : V X 6 [(0, vR X b), (1, .long v1), (3, .int v3)] [] M := by
  refine V_iload_n C 2 dX7_digest_6 rfl ?_
  refine V_iconst C 4 dX7_digest_7 (by decide) ?_
  refine V_icmp_ge (tgt := 30) C dX7_digest_8 (by decide) (fun hc => ?_) (fun hc => ?_)
  · have h := h.1 hc
    refine V_lload_n C 1 dX7_digest_30 rfl ?_
    refine V_aload_n C 0 dX7_digest_31 rfl ?_
    refine V_getR C FL_RX7_7 (f7_0 hb) dX7_digest_32 ?_
    refine V_bipush C 40 dX7_digest_35 (by decide) ?_
    refine V_iconst C 4 dX7_digest_37 (by decide) ?_
    refine V_aload_n C 0 dX7_digest_38 rfl ?_
    refine V_getR C FL_RX7_7 (f7_0 hb) dX7_digest_39 ?_
    refine V_iconst C 0 dX7_digest_42 (by decide) ?_
    refine V_iald C (k7_1 hb) (vp_lit (by decide)) dX7_digest_43 ?_
    refine V_imul C dX7_digest_44 ?_
    refine V_callS (As := [.long v1, vR X (b + 1), .int 40, .int (4 * (M.1 (b + 1) (0 : Int32).toNatClampNeg))]) (st := []) C (c_X7_mixed (k7_1 hb) h) Y_X7_mixed Z_X7_mixed (ltN hH (by decide)) u_338 rfl rfl (Nat.le_of_ble_eq_true rfl) dX7_digest_45 ?_
    rintro v9 M9 ⟨rfl, r1, rfl, h⟩
    show V X 48 _ [.long r1] M
    refine V_lstore_n (lv' := [(1, .long r1), (0, vR X b), (3, .int v3)]) C (ltN hN (by decide)) dX7_digest_48 rfl ?_
    refine V_lload_n C 0 dX7_digest_49 rfl ?_
    refine V_aload_n C 1 dX7_digest_50 rfl ?_
    refine V_getR C FL_RX7_7 (f7_0 hb) dX7_digest_51 ?_
    refine V_iconst C 2 dX7_digest_54 (by decide) ?_
    refine V_bipush C 7 dX7_digest_55 (by decide) ?_
    refine V_callS (As := [.long r1, vR X (b + 1), .int 2, .int 7]) (st := []) C (c_X7_mixed (k7_1 hb) h) Y_X7_mixed Z_X7_mixed (ltN hH (by decide)) u_338 rfl rfl (Nat.le_of_ble_eq_true rfl) dX7_digest_57 ?_
    rintro v9 M9 ⟨rfl, r2, rfl, h⟩
    show V X 60 _ [.long r2] M
    refine V_lstore_n (lv' := [(1, .long r2), (0, vR X b), (3, .int v3)]) C (ltN hN (by decide)) dX7_digest_60 rfl ?_
    refine V_lload_n C 0 dX7_digest_61 rfl ?_
    refine V_aload_n C 1 dX7_digest_62 rfl ?_
    refine V_getR C FL_RX7_7 (f7_0 hb) dX7_digest_63 ?_
    refine V_bipush C 10 dX7_digest_66 (by decide) ?_
    refine V_bipush C 21 dX7_digest_68 (by decide) ?_
    refine V_callS (As := [.long r2, vR X (b + 1), .int 10, .int 21]) (st := []) C (c_X7_mixed (k7_1 hb) h) Y_X7_mixed Z_X7_mixed (ltN hH (by decide)) u_338 rfl rfl (Nat.le_of_ble_eq_true rfl) dX7_digest_70 ?_
    rintro v9 M9 ⟨rfl, r3, rfl, h⟩
    show V X 73 _ [.long r3] M
    refine V_lstore_n (lv' := [(1, .long r3), (0, vR X b), (3, .int v3)]) C (ltN hN (by decide)) dX7_digest_73 rfl ?_
    refine V_lload_n C 0 dX7_digest_74 rfl ?_
    refine V_aload_n C 1 dX7_digest_75 rfl ?_
    refine V_getR C FL_RX7_7 (f7_0 hb) dX7_digest_76 ?_
    refine V_bipush C 60 dX7_digest_79 (by decide) ?_
    refine V_iconst C 4 dX7_digest_81 (by decide) ?_
    refine V_aload_n C 1 dX7_digest_82 rfl ?_
    refine V_getR C FL_RX7_7 (f7_0 hb) dX7_digest_83 ?_
    refine V_iconst C 1 dX7_digest_86 (by decide) ?_
    refine V_iald C (k7_1 hb) (vp_lit (by decide)) dX7_digest_87 ?_
    refine V_imul C dX7_digest_88 ?_
    refine V_callS (As := [.long r3, vR X (b + 1), .int 60, .int (4 * (M.1 (b + 1) (1 : Int32).toNatClampNeg))]) (st := []) C (c_X7_mixed (k7_1 hb) h) Y_X7_mixed Z_X7_mixed (ltN hH (by decide)) u_338 rfl rfl (Nat.le_of_ble_eq_true rfl) dX7_digest_89 ?_
    rintro v9 M9 ⟨rfl, r4, rfl, h⟩
    show V X 92 _ [.long r4] M
    refine V_lstore_n (lv' := [(1, .long r4), (0, vR X b), (3, .int v3)]) C (ltN hN (by decide)) dX7_digest_92 rfl ?_
    refine V_lload_n C 0 dX7_digest_93 rfl ?_
    refine V_aload_n C 1 dX7_digest_94 rfl ?_
    refine V_getR C FL_RX7_7 (f7_0 hb) dX7_digest_95 ?_
    refine V_sipush C 150 dX7_digest_98 (by decide) ?_
    refine V_bipush C 48 dX7_digest_101 (by decide) ?_
    refine V_callS (As := [.long r4, vR X (b + 1), .int 150, .int 48]) (st := []) C (c_X7_mixed (k7_1 hb) h) Y_X7_mixed Z_X7_mixed (ltN hH (by decide)) u_338 rfl rfl (Nat.le_of_ble_eq_true rfl) dX7_digest_103 ?_
    rintro v9 M9 ⟨rfl, r5, rfl, h⟩
    show V X 106 _ [.long r5] M
    refine V_lstore_n (lv' := [(1, .long r5), (0, vR X b), (3, .int v3)]) C (ltN hN (by decide)) dX7_digest_106 rfl ?_
    refine V_ldc2 C u_336 dX7_digest_107 ?_
    refine V_lload_n C 0 dX7_digest_110 rfl ?_
    refine V_lmul C dX7_digest_111 ?_
    refine V_aload_n C 1 dX7_digest_112 rfl ?_
    refine V_getR C FL_RX7_29 (f7_7 hb) dX7_digest_113 ?_
    refine V_iconst C 0 dX7_digest_116 (by decide) ?_
    refine V_iald C (k7_7 hb) (vp_lit (by decide)) dX7_digest_117 ?_
    refine V_if_le (tgt := 125) C dX7_digest_118 (by decide) (fun hc => ?_) (fun hc => ?_)
    · have h := h.1 hc
      refine V_iconst C 0 dX7_digest_125 (by decide) ?_
      exact V_sub [1] rfl (s_X7_digest_J126 C hH hN hQ hb   h)
    · have h := h.2 hc
      refine V_iconst C 1 dX7_digest_121 (by decide) ?_
      refine V_goto (tgt := 126) C dX7_digest_122 (by decide) ?_
      exact V_sub [1] rfl (s_X7_digest_J126 C hH hN hQ hb   h)
  · have h := h.2 hc
    refine V_ldc2 C u_336 dX7_digest_11 ?_
    refine V_lload_n C 1 dX7_digest_14 rfl ?_
    refine V_lmul C dX7_digest_15 ?_
    refine V_aload_n C 0 dX7_digest_16 rfl ?_
    refine V_iload_n C 2 dX7_digest_17 rfl ?_
    refine V_callV (As := [.int v3]) (st := [.long (31 * v1)]) C (c_X7_countOf hb h) Y_X7_countOf Z_X7_countOf (T := TX7) (N := 21) rfl (o7 hb) (ltN hH (by decide)) u_335 rfl rfl (Nat.le_of_ble_eq_true rfl) dX7_digest_18 ?_
    rintro v9 M9 ⟨rfl, r9, rfl, h⟩
    show V X 21 _ [.int r9, .long (31 * v1)] M
    refine V_i2l C dX7_digest_21 ?_
    refine V_ladd C dX7_digest_22 ?_
    refine V_nmL (fun x10 e_x10 => ?_)
    have h := h x10 e_x10
    refine V_lstore_n (lv' := [(1, .long x10), (0, vR X b), (3, .int v3)]) C (ltN hN (by decide)) dX7_digest_23 rfl ?_
    refine V_iinc (v := (v3 + 1)) (lv' := [(3, .int (v3 + 1)), (1, .long x10), (0, vR X b)]) C 2 (ltN hN (by decide)) dX7_digest_24 rfl rfl rfl ?_
    refine V_goto (tgt := 6) C dX7_digest_27 (by decide) ?_
    exact V_sub [2, 1, 0] rfl (hag6 (x10, (v3 + 1)) h)
set_option maxRecDepth 20000 in
set_option maxHeartbeats 1000000 in
theorem s_X7_digest {X : wX} (C : CX X cX7_digest RX7 (some .long)) (hH : xH X = 2) (hN : xN X = 4) {b : Nat} {M : mM} {Q : Int64 → Prop} (hQ : ∀ r, Q r → xPo X (some (.long r)) M) (hb : isC (xW X) 7 b)   (h : p_X7_digest b M Q) : V X 0 [(0, vR X b)] [] M := by
  refine V_ldc2 C u_337 dX7_digest_0 ?_
  refine V_lstore_n (lv' := [(1, .long 557), (0, vR X b)]) C (ltN hN (by decide)) dX7_digest_3 rfl ?_
  refine V_iconst C 0 dX7_digest_4 (by decide) ?_
  refine V_istore_n (lv' := [(3, .int 0), (1, .long 557), (0, vR X b)]) C (ltN hN (by decide)) dX7_digest_5 rfl ?_
  refine V_sub [2, 1, 0] rfl ?_
  exact Loop.sound (s0 := ((557 : Int64), (0 : Int32))) (P := fun s => V X 6 [(0, vR X b), (1, .long (s.1)), (3, .int (s.2))] [] M) h (fun ag hag s hs => s_X7_digest_F6 C hH hN hQ hb  hag hs)
set_option maxRecDepth 20000 in
set_option maxHeartbeats 1000000 in
theorem c_X7_digest {w : wU} {l : Launch} {b : Nat} {M : mM} {Q : Int64 → Prop} (hb : isC w 7 b) (h : p_X7_digest b M Q) : CT w l 2 yX7_digest cX7_digest 4 (some .long) [.ref (uA w b)] M (poL M Q) := by
  refine CT.of (by decide +kernel) (Nat.le_of_ble_eq_true rfl) (fun X hw hH hl hP hN C => ?_)
  subst hw
  exact s_X7_digest C hH hN (fun r q => by rw [hP]; exact ⟨rfl, r, rfl, q⟩) hb h
