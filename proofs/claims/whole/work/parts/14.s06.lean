set_option maxRecDepth 20000 in
set_option maxHeartbeats 1000000 in
theorem s_X7_wordOf_J185 {X : wX} (C : CX X cX7_wordOf RX7 (some .int)) (hH : xH X = 0) (hN : xN X = 4) {p1 : Int64} {M : mM} {Q : Int32 → Prop} (hQ : ∀ r, Q r → xPo X (some (.int r)) M)  {v2 : Int32} {s0 : Int32}  (h : p_X7_wordOf_J185 p1 Q  v2 s0 M) : V X 185 [(2, .int v2)] [.int s0] M := by
  refine V_istore_n (lv' := [(3, .int s0), (2, .int v2)]) C (ltN hN (by decide)) dX7_wordOf_185 rfl ?_
  refine V_iload_n C 1 dX7_wordOf_186 rfl ?_
  refine V_iconst C 1 dX7_wordOf_187 (by decide) ?_
  refine V_icmp_eq (tgt := 195) C dX7_wordOf_188 (by decide) (fun hc => ?_) (fun hc => ?_)
  · have h := h.1 hc
    refine V_iload_n C 0 dX7_wordOf_195 rfl ?_
    exact V_iret C dX7_wordOf_196 (hQ _ h)
  · have h := h.2 hc
    refine V_iload_n C 1 dX7_wordOf_191 rfl ?_
    refine V_goto (tgt := 196) C dX7_wordOf_192 (by decide) ?_
    exact V_iret C dX7_wordOf_196 (hQ _ h)
set_option maxRecDepth 20000 in
set_option maxHeartbeats 1000000 in
theorem s_X7_wordOf_J92 {X : wX} (C : CX X cX7_wordOf RX7 (some .int)) (hH : xH X = 0) (hN : xN X = 4) {p1 : Int64} {M : mM} {Q : Int32 → Prop} (hQ : ∀ r, Q r → xPo X (some (.int r)) M)  {s0 : Int32}  (h : p_X7_wordOf_J92 p1 Q  s0 M) : V X 92 [(0, .long p1)] [.int s0] M := by
  refine V_istore_n (lv' := [(2, .int s0), (0, .long p1)]) C (ltN hN (by decide)) dX7_wordOf_92 rfl ?_
  refine V_lload_n C 1 dX7_wordOf_93 rfl ?_
  refine V_ldc2 C u_271 dX7_wordOf_94 ?_
  refine V_lcmp C dX7_wordOf_97 ?_
  refine V_if_ne (tgt := 106) C dX7_wordOf_98 (by decide) (fun hc => ?_) (fun hc => ?_)
  · have h := h.1 (lgc_ne.mp hc)
    refine V_lload_n C 1 dX7_wordOf_106 rfl ?_
    refine V_ldc2 C u_272 dX7_wordOf_107 ?_
    refine V_lcmp C dX7_wordOf_110 ?_
    refine V_if_ne (tgt := 119) C dX7_wordOf_111 (by decide) (fun hc => ?_) (fun hc => ?_)
    · have h := h.1 (lgc_ne.mp hc)
      refine V_lload_n C 1 dX7_wordOf_119 rfl ?_
      refine V_ldc2 C u_273 dX7_wordOf_120 ?_
      refine V_lcmp C dX7_wordOf_123 ?_
      refine V_if_ne (tgt := 132) C dX7_wordOf_124 (by decide) (fun hc => ?_) (fun hc => ?_)
      · have h := h.1 (lgc_ne.mp hc)
        refine V_lload_n C 1 dX7_wordOf_132 rfl ?_
        refine V_ldc2 C u_274 dX7_wordOf_133 ?_
        refine V_lcmp C dX7_wordOf_136 ?_
        refine V_if_ne (tgt := 145) C dX7_wordOf_137 (by decide) (fun hc => ?_) (fun hc => ?_)
        · have h := h.1 (lgc_ne.mp hc)
          refine V_lload_n C 1 dX7_wordOf_145 rfl ?_
          refine V_ldc2 C u_275 dX7_wordOf_146 ?_
          refine V_lcmp C dX7_wordOf_149 ?_
          refine V_if_ne (tgt := 158) C dX7_wordOf_150 (by decide) (fun hc => ?_) (fun hc => ?_)
          · have h := h.1 (lgc_ne.mp hc)
            refine V_lload_n C 1 dX7_wordOf_158 rfl ?_
            refine V_ldc2 C u_276 dX7_wordOf_159 ?_
            refine V_lcmp C dX7_wordOf_162 ?_
            refine V_if_ne (tgt := 171) C dX7_wordOf_163 (by decide) (fun hc => ?_) (fun hc => ?_)
            · have h := h.1 (lgc_ne.mp hc)
              refine V_lload_n C 1 dX7_wordOf_171 rfl ?_
              refine V_ldc2 C u_277 dX7_wordOf_172 ?_
              refine V_lcmp C dX7_wordOf_175 ?_
              refine V_if_ne (tgt := 184) C dX7_wordOf_176 (by decide) (fun hc => ?_) (fun hc => ?_)
              · have h := h.1 (lgc_ne.mp hc)
                refine V_iconst C 1 dX7_wordOf_184 (by decide) ?_
                exact V_sub [0] rfl (s_X7_wordOf_J185 C hH hN hQ    h)
              · have h := h.2 (lgc_eq.mp hc)
                refine V_bipush C 26 dX7_wordOf_179 (by decide) ?_
                refine V_goto (tgt := 185) C dX7_wordOf_181 (by decide) ?_
                exact V_sub [0] rfl (s_X7_wordOf_J185 C hH hN hQ    h)
            · have h := h.2 (lgc_eq.mp hc)
              refine V_bipush C 25 dX7_wordOf_166 (by decide) ?_
              refine V_goto (tgt := 185) C dX7_wordOf_168 (by decide) ?_
              exact V_sub [0] rfl (s_X7_wordOf_J185 C hH hN hQ    h)
          · have h := h.2 (lgc_eq.mp hc)
            refine V_bipush C 24 dX7_wordOf_153 (by decide) ?_
            refine V_goto (tgt := 185) C dX7_wordOf_155 (by decide) ?_
            exact V_sub [0] rfl (s_X7_wordOf_J185 C hH hN hQ    h)
        · have h := h.2 (lgc_eq.mp hc)
          refine V_bipush C 23 dX7_wordOf_140 (by decide) ?_
          refine V_goto (tgt := 185) C dX7_wordOf_142 (by decide) ?_
          exact V_sub [0] rfl (s_X7_wordOf_J185 C hH hN hQ    h)
      · have h := h.2 (lgc_eq.mp hc)
        refine V_bipush C 22 dX7_wordOf_127 (by decide) ?_
        refine V_goto (tgt := 185) C dX7_wordOf_129 (by decide) ?_
        exact V_sub [0] rfl (s_X7_wordOf_J185 C hH hN hQ    h)
    · have h := h.2 (lgc_eq.mp hc)
      refine V_bipush C 21 dX7_wordOf_114 (by decide) ?_
      refine V_goto (tgt := 185) C dX7_wordOf_116 (by decide) ?_
      exact V_sub [0] rfl (s_X7_wordOf_J185 C hH hN hQ    h)
  · have h := h.2 (lgc_eq.mp hc)
    refine V_bipush C 20 dX7_wordOf_101 (by decide) ?_
    refine V_goto (tgt := 185) C dX7_wordOf_103 (by decide) ?_
    exact V_sub [0] rfl (s_X7_wordOf_J185 C hH hN hQ    h)
set_option maxRecDepth 20000 in
set_option maxHeartbeats 1000000 in
theorem s_X7_wordOf {X : wX} (C : CX X cX7_wordOf RX7 (some .int)) (hH : xH X = 0) (hN : xN X = 4) {p1 : Int64} {M : mM} {Q : Int32 → Prop} (hQ : ∀ r, Q r → xPo X (some (.int r)) M)    (h : p_X7_wordOf p1 M Q) : V X 0 [(0, .long p1)] [] M := by
  refine V_lload_n C 0 dX7_wordOf_0 rfl ?_
  refine V_ldc2 C u_264 dX7_wordOf_1 ?_
  refine V_lcmp C dX7_wordOf_4 ?_
  refine V_if_ne (tgt := 13) C dX7_wordOf_5 (by decide) (fun hc => ?_) (fun hc => ?_)
  · have h := h.1 (lgc_ne.mp hc)
    refine V_lload_n C 0 dX7_wordOf_13 rfl ?_
    refine V_ldc2 C u_265 dX7_wordOf_14 ?_
    refine V_lcmp C dX7_wordOf_17 ?_
    refine V_if_ne (tgt := 26) C dX7_wordOf_18 (by decide) (fun hc => ?_) (fun hc => ?_)
    · have h := h.1 (lgc_ne.mp hc)
      refine V_lload_n C 0 dX7_wordOf_26 rfl ?_
      refine V_ldc2 C u_266 dX7_wordOf_27 ?_
      refine V_lcmp C dX7_wordOf_30 ?_
      refine V_if_ne (tgt := 39) C dX7_wordOf_31 (by decide) (fun hc => ?_) (fun hc => ?_)
      · have h := h.1 (lgc_ne.mp hc)
        refine V_lload_n C 0 dX7_wordOf_39 rfl ?_
        refine V_ldc2 C u_267 dX7_wordOf_40 ?_
        refine V_lcmp C dX7_wordOf_43 ?_
        refine V_if_ne (tgt := 52) C dX7_wordOf_44 (by decide) (fun hc => ?_) (fun hc => ?_)
        · have h := h.1 (lgc_ne.mp hc)
          refine V_lload_n C 0 dX7_wordOf_52 rfl ?_
          refine V_ldc2 C u_268 dX7_wordOf_53 ?_
          refine V_lcmp C dX7_wordOf_56 ?_
          refine V_if_ne (tgt := 65) C dX7_wordOf_57 (by decide) (fun hc => ?_) (fun hc => ?_)
          · have h := h.1 (lgc_ne.mp hc)
            refine V_lload_n C 0 dX7_wordOf_65 rfl ?_
            refine V_ldc2 C u_269 dX7_wordOf_66 ?_
            refine V_lcmp C dX7_wordOf_69 ?_
            refine V_if_ne (tgt := 78) C dX7_wordOf_70 (by decide) (fun hc => ?_) (fun hc => ?_)
            · have h := h.1 (lgc_ne.mp hc)
              refine V_lload_n C 0 dX7_wordOf_78 rfl ?_
              refine V_ldc2 C u_270 dX7_wordOf_79 ?_
              refine V_lcmp C dX7_wordOf_82 ?_
              refine V_if_ne (tgt := 91) C dX7_wordOf_83 (by decide) (fun hc => ?_) (fun hc => ?_)
              · have h := h.1 (lgc_ne.mp hc)
                refine V_iconst C 1 dX7_wordOf_91 (by decide) ?_
                exact V_sub [0] rfl (s_X7_wordOf_J92 C hH hN hQ    h)
              · have h := h.2 (lgc_eq.mp hc)
                refine V_bipush C 16 dX7_wordOf_86 (by decide) ?_
                refine V_goto (tgt := 92) C dX7_wordOf_88 (by decide) ?_
                exact V_sub [0] rfl (s_X7_wordOf_J92 C hH hN hQ    h)
            · have h := h.2 (lgc_eq.mp hc)
              refine V_bipush C 15 dX7_wordOf_73 (by decide) ?_
              refine V_goto (tgt := 92) C dX7_wordOf_75 (by decide) ?_
              exact V_sub [0] rfl (s_X7_wordOf_J92 C hH hN hQ    h)
          · have h := h.2 (lgc_eq.mp hc)
            refine V_bipush C 14 dX7_wordOf_60 (by decide) ?_
            refine V_goto (tgt := 92) C dX7_wordOf_62 (by decide) ?_
            exact V_sub [0] rfl (s_X7_wordOf_J92 C hH hN hQ    h)
        · have h := h.2 (lgc_eq.mp hc)
          refine V_bipush C 13 dX7_wordOf_47 (by decide) ?_
          refine V_goto (tgt := 92) C dX7_wordOf_49 (by decide) ?_
          exact V_sub [0] rfl (s_X7_wordOf_J92 C hH hN hQ    h)
      · have h := h.2 (lgc_eq.mp hc)
        refine V_bipush C 12 dX7_wordOf_34 (by decide) ?_
        refine V_goto (tgt := 92) C dX7_wordOf_36 (by decide) ?_
        exact V_sub [0] rfl (s_X7_wordOf_J92 C hH hN hQ    h)
    · have h := h.2 (lgc_eq.mp hc)
      refine V_bipush C 11 dX7_wordOf_21 (by decide) ?_
      refine V_goto (tgt := 92) C dX7_wordOf_23 (by decide) ?_
      exact V_sub [0] rfl (s_X7_wordOf_J92 C hH hN hQ    h)
  · have h := h.2 (lgc_eq.mp hc)
    refine V_bipush C 10 dX7_wordOf_8 (by decide) ?_
    refine V_goto (tgt := 92) C dX7_wordOf_10 (by decide) ?_
    exact V_sub [0] rfl (s_X7_wordOf_J92 C hH hN hQ    h)
set_option maxRecDepth 20000 in
set_option maxHeartbeats 1000000 in
theorem c_X7_wordOf {w : wU} {l : Launch} {p1 : Int64} {M : mM} {Q : Int32 → Prop}  (h : p_X7_wordOf p1 M Q) : CT w l 0 yX7_wordOf cX7_wordOf 4 (some .int) [.long p1] M (poI M Q) := by
  refine CT.of (by decide +kernel) (Nat.le_of_ble_eq_true rfl) (fun X hw hH hl hP hN C => ?_)
  subst hw
  exact s_X7_wordOf C hH hN (fun r q => by rw [hP]; exact ⟨rfl, r, rfl, q⟩)  h
set_option maxRecDepth 20000 in
set_option maxHeartbeats 1000000 in
theorem s_X7_scans_J278 {X : wX} (C : CX X cX7_scans RX7 (none)) (hH : xH X = 2) (hN : xN X = 3) {b : Nat} {M : mM} {Q : mM → Prop} (hQ : ∀ M, Q M → xPo X none M) (hb : isC (xW X) 7 b) {s0 : Int32}  (h : p_X7_scans_J278 b Q  s0 M) : V X 278 [(0, vR X b)] [.int s0, vR X b] M := by
  refine V_putI C FW_RX7_190 (f7_12 hb) rfl rfl dX7_scans_278 ?_
  refine V_nmM (fun M6 e_M6 => ?_)
  have h := h M6 e_M6
  refine V_aload_n C 0 dX7_scans_281 rfl ?_
  refine V_dup C dX7_scans_282 rfl ?_
  refine V_getI C FL_RX7_152 (f7_10 hb) dX7_scans_283 ?_
  refine V_iconst C 1 dX7_scans_286 (by decide) ?_
  refine V_iadd C dX7_scans_287 ?_
  refine V_putI C FW_RX7_152 (f7_10 hb) rfl rfl dX7_scans_288 ?_
  refine V_nmM (fun M7 e_M7 => ?_)
  have h := h M7 e_M7
  exact V_vret C dX7_scans_291 (hQ _ h)
set_option maxRecDepth 20000 in
set_option maxHeartbeats 1000000 in
theorem s_X7_scans_J222 {X : wX} (C : CX X cX7_scans RX7 (none)) (hH : xH X = 2) (hN : xN X = 3) {b : Nat} {M : mM} {Q : mM → Prop} (hQ : ∀ M, Q M → xPo X none M) (hb : isC (xW X) 7 b) {s0 : Int32} {ag170 : mM → Prop} (hag170 : ∀ s, ag170 s → V X 170 [(0, vR X b)] [] s) (h : p_X7_scans_J222 b Q ag170 s0 M) : V X 222 [(0, vR X b)] [.int s0, vR X b] M := by
  refine V_putI C FW_RX7_201 (f7_13 hb) rfl rfl dX7_scans_222 ?_
  refine V_nmM (fun M12 e_M12 => ?_)
  have h := h M12 e_M12
  refine V_aload_n C 0 dX7_scans_225 rfl ?_
  refine V_dup C dX7_scans_226 rfl ?_
  refine V_getI C FL_RX7_152 (f7_10 hb) dX7_scans_227 ?_
  refine V_iconst C 1 dX7_scans_230 (by decide) ?_
  refine V_iadd C dX7_scans_231 ?_
  refine V_putI C FW_RX7_152 (f7_10 hb) rfl rfl dX7_scans_232 ?_
  refine V_nmM (fun M13 e_M13 => ?_)
  have h := h M13 e_M13
  refine V_goto (tgt := 170) C dX7_scans_235 (by decide) ?_
  exact V_sub [0] rfl (hag170 M13 h)
set_option maxRecDepth 20000 in
set_option maxHeartbeats 1000000 in
theorem s_X7_scans_F170 {X : wX} (C : CX X cX7_scans RX7 (none)) (hH : xH X = 2) (hN : xN X = 3) {b : Nat} {M : mM} {Q : mM → Prop} (hQ : ∀ M, Q M → xPo X none M) (hb : isC (xW X) 7 b) {ag170 : mM → Prop} (hag170 : ∀ s, ag170 s → V X 170 [(0, vR X b)] [] s) (h : p_X7_scans_F170 b  Q  ag170  M) : V X 170 [(0, vR X b)] [] M := by
  refine V_aload_n C 0 dX7_scans_170 rfl ?_
  refine V_bipush C 48 dX7_scans_171 (by decide) ?_
  refine V_bipush C 57 dX7_scans_173 (by decide) ?_
  refine V_callV (As := [.int 48, .int 57]) (st := []) C (c_X7_isAt hb h) Y_X7_isAt Z_X7_isAt (T := TX7) (N := 21) rfl (o7 hb) (ltN hH (by decide)) u_280 rfl rfl (Nat.le_of_ble_eq_true rfl) dX7_scans_175 ?_
  rintro v9 M9 ⟨rfl, r9, rfl, h⟩
  show V X 178 _ [.int r9] M
  refine V_if_eq (tgt := 238) C dX7_scans_178 (by decide) (fun hc => ?_) (fun hc => ?_)
  · have h := h.1 hc
    refine V_aload_n C 0 dX7_scans_238 rfl ?_
    refine V_aload_n C 0 dX7_scans_239 rfl ?_
    refine V_getI C FL_RX7_152 (f7_10 hb) dX7_scans_240 ?_
    refine V_aload_n C 0 dX7_scans_243 rfl ?_
    refine V_getI C FL_RX7_187 (f7_11 hb) dX7_scans_244 ?_
    refine V_isub C dX7_scans_247 ?_
    refine V_iconst C 3 dX7_scans_248 (by decide) ?_
    refine V_icmp_le (tgt := 256) C dX7_scans_249 (by decide) (fun hc => ?_) (fun hc => ?_)
    · have h := h.1 hc
      refine V_iconst C 2 dX7_scans_256 (by decide) ?_
      refine V_putI C FW_RX7_190 (f7_12 hb) rfl rfl dX7_scans_257 ?_
      refine V_nmM (fun M10 e_M10 => ?_)
      have h := h M10 e_M10
      exact V_vret C dX7_scans_260 (hQ _ h)
    · have h := h.2 hc
      refine V_iconst C 1 dX7_scans_252 (by decide) ?_
      refine V_goto (tgt := 257) C dX7_scans_253 (by decide) ?_
      refine V_putI C FW_RX7_190 (f7_12 hb) rfl rfl dX7_scans_257 ?_
      refine V_nmM (fun M11 e_M11 => ?_)
      have h := h M11 e_M11
      exact V_vret C dX7_scans_260 (hQ _ h)
  · have h := h.2 hc
    refine V_aload_n C 0 dX7_scans_181 rfl ?_
    refine V_aload_n C 0 dX7_scans_182 rfl ?_
    refine V_getI C FL_RX7_152 (f7_10 hb) dX7_scans_183 ?_
    refine V_aload_n C 0 dX7_scans_186 rfl ?_
    refine V_getI C FL_RX7_187 (f7_11 hb) dX7_scans_187 ?_
    refine V_isub C dX7_scans_190 ?_
    refine V_iconst C 3 dX7_scans_191 (by decide) ?_
    refine V_icmp_ge (tgt := 218) C dX7_scans_192 (by decide) (fun hc => ?_) (fun hc => ?_)
    · have h := h.1 hc
      refine V_aload_n C 0 dX7_scans_218 rfl ?_
      refine V_getI C FL_RX7_201 (f7_13 hb) dX7_scans_219 ?_
      exact V_sub [0] rfl (s_X7_scans_J222 C hH hN hQ hb hag170  h)
    · have h := h.2 hc
      refine V_bipush C 10 dX7_scans_195 (by decide) ?_
      refine V_aload_n C 0 dX7_scans_197 rfl ?_
      refine V_getI C FL_RX7_201 (f7_13 hb) dX7_scans_198 ?_
      refine V_imul C dX7_scans_201 ?_
      refine V_aload_n C 0 dX7_scans_202 rfl ?_
      refine V_getR C FL_RX7_32 (f7_8 hb) dX7_scans_203 ?_
      refine V_aload_n C 0 dX7_scans_206 rfl ?_
      refine V_getI C FL_RX7_152 (f7_10 hb) dX7_scans_207 ?_
      obtain ⟨b14, h⟩ := h
      refine V_iald C (k7_8 hb) b14 dX7_scans_210 ?_
      refine V_iadd C dX7_scans_211 ?_
      refine V_bipush C 48 dX7_scans_212 (by decide) ?_
      refine V_isub C dX7_scans_214 ?_
      refine V_goto (tgt := 222) C dX7_scans_215 (by decide) ?_
      exact V_sub [0] rfl (s_X7_scans_J222 C hH hN hQ hb hag170  h)
set_option maxRecDepth 20000 in
set_option maxHeartbeats 1000000 in
theorem s_X7_scans_J113 {X : wX} (C : CX X cX7_scans RX7 (none)) (hH : xH X = 2) (hN : xN X = 3) {b : Nat} {M : mM} {Q : mM → Prop} (hQ : ∀ M, Q M → xPo X none M) (hb : isC (xW X) 7 b) {s0 : Int64} {ag62 : (Int64 × mM) → Prop} (hag62 : ∀ s, ag62 s → V X 62 [(0, vR X b), (1, .long (s.1))] [] (s.2)) (h : p_X7_scans_J113 b Q ag62 s0 M) : V X 113 [(0, vR X b)] [.long s0] M := by
  refine V_lstore_n (lv' := [(1, .long s0), (0, vR X b)]) C (ltN hN (by decide)) dX7_scans_113 rfl ?_
  refine V_aload_n C 1 dX7_scans_114 rfl ?_
  refine V_dup C dX7_scans_115 rfl ?_
  refine V_getI C FL_RX7_152 (f7_10 hb) dX7_scans_116 ?_
  refine V_iconst C 1 dX7_scans_119 (by decide) ?_
  refine V_iadd C dX7_scans_120 ?_
  refine V_putI C FW_RX7_152 (f7_10 hb) rfl rfl dX7_scans_121 ?_
  refine V_nmM (fun M20 e_M20 => ?_)
  have h := h M20 e_M20
  refine V_goto (tgt := 62) C dX7_scans_124 (by decide) ?_
  exact V_sub [1, 0] rfl (hag62 (s0, M20) h)
set_option maxRecDepth 20000 in
set_option maxHeartbeats 1000000 in
theorem s_X7_scans_F62 {X : wX} (C : CX X cX7_scans RX7 (none)) (hH : xH X = 2) (hN : xN X = 3) {b : Nat} {M : mM} {Q : mM → Prop} (hQ : ∀ M, Q M → xPo X none M) (hb : isC (xW X) 7 b) {v1 : Int64} {ag62 : (Int64 × mM) → Prop} (hag62 : ∀ s, ag62 s → V X 62 [(0, vR X b), (1, .long (s.1))] [] (s.2)) (h : p_X7_scans_F62 b  Q  ag62 v1 M) : V X 62 [(0, vR X b), (1, .long v1)] [] M := by
  refine V_aload_n C 0 dX7_scans_62 rfl ?_
  refine V_bipush C 97 dX7_scans_63 (by decide) ?_
  refine V_bipush C 122 dX7_scans_65 (by decide) ?_
  refine V_callV (As := [.int 97, .int 122]) (st := []) C (c_X7_isAt hb h) Y_X7_isAt Z_X7_isAt (T := TX7) (N := 21) rfl (o7 hb) (ltN hH (by decide)) u_280 rfl rfl (Nat.le_of_ble_eq_true rfl) dX7_scans_67 ?_
  rintro v9 M9 ⟨rfl, r15, rfl, h⟩
  show V X 70 _ [.int r15] M
  refine V_if_eq (tgt := 127) C dX7_scans_70 (by decide) (fun hc => ?_) (fun hc => ?_)
  · have h := h.1 hc
    refine V_aload_n C 0 dX7_scans_127 rfl ?_
    refine V_aload_n C 0 dX7_scans_128 rfl ?_
    refine V_getI C FL_RX7_152 (f7_10 hb) dX7_scans_129 ?_
    refine V_aload_n C 0 dX7_scans_132 rfl ?_
    refine V_getI C FL_RX7_187 (f7_11 hb) dX7_scans_133 ?_
    refine V_isub C dX7_scans_136 ?_
    refine V_bipush C 6 dX7_scans_137 (by decide) ?_
    refine V_icmp_le (tgt := 146) C dX7_scans_139 (by decide) (fun hc => ?_) (fun hc => ?_)
    · have h := h.1 hc
      refine V_lload_n C 1 dX7_scans_146 rfl ?_
      refine V_callS (As := [.long v1]) (st := [vR X b]) C (c_X7_wordOf  h) Y_X7_wordOf Z_X7_wordOf (ltN hH (by decide)) u_282 rfl rfl (Nat.le_of_ble_eq_true rfl) dX7_scans_147 ?_
      rintro v9 M9 ⟨rfl, r16, rfl, h⟩
      show V X 150 _ [.int r16, vR X b] M
      refine V_putI C FW_RX7_190 (f7_12 hb) rfl rfl dX7_scans_150 ?_
      refine V_nmM (fun M17 e_M17 => ?_)
      have h := h M17 e_M17
      exact V_vret C dX7_scans_153 (hQ _ h)
    · have h := h.2 hc
      refine V_iconst C 1 dX7_scans_142 (by decide) ?_
      refine V_goto (tgt := 150) C dX7_scans_143 (by decide) ?_
      refine V_putI C FW_RX7_190 (f7_12 hb) rfl rfl dX7_scans_150 ?_
      refine V_nmM (fun M18 e_M18 => ?_)
      have h := h M18 e_M18
      exact V_vret C dX7_scans_153 (hQ _ h)
  · have h := h.2 hc
    refine V_aload_n C 0 dX7_scans_73 rfl ?_
    refine V_getI C FL_RX7_152 (f7_10 hb) dX7_scans_74 ?_
    refine V_aload_n C 0 dX7_scans_77 rfl ?_
    refine V_getI C FL_RX7_187 (f7_11 hb) dX7_scans_78 ?_
    refine V_isub C dX7_scans_81 ?_
    refine V_bipush C 6 dX7_scans_82 (by decide) ?_
    refine V_icmp_le (tgt := 91) C dX7_scans_84 (by decide) (fun hc => ?_) (fun hc => ?_)
    · have h := h.1 hc
      refine V_ldc2 C u_283 dX7_scans_91 ?_
      refine V_lload_n C 1 dX7_scans_94 rfl ?_
      refine V_lmul C dX7_scans_95 ?_
      refine V_aload_n C 0 dX7_scans_96 rfl ?_
      refine V_getR C FL_RX7_32 (f7_8 hb) dX7_scans_97 ?_
      refine V_aload_n C 0 dX7_scans_100 rfl ?_
      refine V_getI C FL_RX7_152 (f7_10 hb) dX7_scans_101 ?_
      obtain ⟨b19, h⟩ := h
      refine V_iald C (k7_8 hb) b19 dX7_scans_104 ?_
      refine V_i2l C dX7_scans_105 ?_
      refine V_ladd C dX7_scans_106 ?_
      refine V_ldc2 C u_284 dX7_scans_107 ?_
      refine V_lsub C dX7_scans_110 ?_
      refine V_lconst C 1 dX7_scans_111 (by decide) ?_
      refine V_ladd C dX7_scans_112 ?_
      exact V_sub [0] rfl (s_X7_scans_J113 C hH hN hQ hb hag62  h)
    · have h := h.2 hc
      refine V_lconst C 0 dX7_scans_87 (by decide) ?_
      refine V_goto (tgt := 113) C dX7_scans_88 (by decide) ?_
      exact V_sub [0] rfl (s_X7_scans_J113 C hH hN hQ hb hag62  h)
set_option maxRecDepth 20000 in
set_option maxHeartbeats 1000000 in
theorem s_X7_scans_F0 {X : wX} (C : CX X cX7_scans RX7 (none)) (hH : xH X = 2) (hN : xN X = 3) {b : Nat} {M : mM} {Q : mM → Prop} (hQ : ∀ M, Q M → xPo X none M) (hb : isC (xW X) 7 b) {ag0 : mM → Prop} (hag0 : ∀ s, ag0 s → V X 0 [(0, vR X b)] [] s) (h : p_X7_scans_F0 b  Q  ag0  M) : V X 0 [(0, vR X b)] [] M := by
  refine V_aload_n C 0 dX7_scans_0 rfl ?_
  refine V_bipush C 32 dX7_scans_1 (by decide) ?_
  refine V_bipush C 32 dX7_scans_3 (by decide) ?_
  refine V_callV (As := [.int 32, .int 32]) (st := []) C (c_X7_isAt hb h) Y_X7_isAt Z_X7_isAt (T := TX7) (N := 21) rfl (o7 hb) (ltN hH (by decide)) u_280 rfl rfl (Nat.le_of_ble_eq_true rfl) dX7_scans_5 ?_
  rintro v9 M9 ⟨rfl, r1, rfl, h⟩
  show V X 8 _ [.int r1] M
  refine V_if_eq (tgt := 24) C dX7_scans_8 (by decide) (fun hc => ?_) (fun hc => ?_)
  · have h := h.1 hc
    refine V_aload_n C 0 dX7_scans_24 rfl ?_
    refine V_aload_n C 0 dX7_scans_25 rfl ?_
    refine V_getI C FL_RX7_152 (f7_10 hb) dX7_scans_26 ?_
    refine V_putI C FW_RX7_187 (f7_11 hb) rfl rfl dX7_scans_29 ?_
    refine V_nmM (fun M2 e_M2 => ?_)
    have h := h M2 e_M2
    refine V_aload_n C 0 dX7_scans_32 rfl ?_
    refine V_getI C FL_RX7_152 (f7_10 hb) dX7_scans_33 ?_
    refine V_aload_n C 0 dX7_scans_36 rfl ?_
    refine V_getI C FL_RX7_146 (f7_9 hb) dX7_scans_37 ?_
    refine V_icmp_ne (tgt := 49) C dX7_scans_40 (by decide) (fun hc => ?_) (fun hc => ?_)
    · have h := h.1 hc
      refine V_aload_n C 0 dX7_scans_49 rfl ?_
      refine V_bipush C 97 dX7_scans_50 (by decide) ?_
      refine V_bipush C 122 dX7_scans_52 (by decide) ?_
      refine V_callV (As := [.int 97, .int 122]) (st := []) C (c_X7_isAt hb h) Y_X7_isAt Z_X7_isAt (T := TX7) (N := 21) rfl (o7 hb) (ltN hH (by decide)) u_280 rfl rfl (Nat.le_of_ble_eq_true rfl) dX7_scans_54 ?_
      rintro v9 M9 ⟨rfl, r3, rfl, h⟩
      show V X 57 _ [.int r3] M2
      refine V_if_eq (tgt := 154) C dX7_scans_57 (by decide) (fun hc => ?_) (fun hc => ?_)
      · have h := h.1 hc
        refine V_aload_n C 0 dX7_scans_154 rfl ?_
        refine V_bipush C 48 dX7_scans_155 (by decide) ?_
        refine V_bipush C 57 dX7_scans_157 (by decide) ?_
        refine V_callV (As := [.int 48, .int 57]) (st := []) C (c_X7_isAt hb h) Y_X7_isAt Z_X7_isAt (T := TX7) (N := 21) rfl (o7 hb) (ltN hH (by decide)) u_280 rfl rfl (Nat.le_of_ble_eq_true rfl) dX7_scans_159 ?_
        rintro v9 M9 ⟨rfl, r4, rfl, h⟩
        show V X 162 _ [.int r4] M2
        refine V_if_eq (tgt := 261) C dX7_scans_162 (by decide) (fun hc => ?_) (fun hc => ?_)
        · have h := h.1 hc
          refine V_aload_n C 0 dX7_scans_261 rfl ?_
          refine V_aload_n C 0 dX7_scans_262 rfl ?_
          refine V_bipush C 59 dX7_scans_263 (by decide) ?_
          refine V_bipush C 59 dX7_scans_265 (by decide) ?_
          refine V_callV (As := [.int 59, .int 59]) (st := [vR X b]) C (c_X7_isAt hb h) Y_X7_isAt Z_X7_isAt (T := TX7) (N := 21) rfl (o7 hb) (ltN hH (by decide)) u_280 rfl rfl (Nat.le_of_ble_eq_true rfl) dX7_scans_267 ?_
          rintro v9 M9 ⟨rfl, r5, rfl, h⟩
          show V X 270 _ [.int r5, vR X b] M2
          refine V_if_eq (tgt := 277) C dX7_scans_270 (by decide) (fun hc => ?_) (fun hc => ?_)
          · have h := h.1 hc
            refine V_iconst C 1 dX7_scans_277 (by decide) ?_
            exact V_sub [0] rfl (s_X7_scans_J278 C hH hN hQ hb   h)
          · have h := h.2 hc
            refine V_iconst C 3 dX7_scans_273 (by decide) ?_
            refine V_goto (tgt := 278) C dX7_scans_274 (by decide) ?_
            exact V_sub [0] rfl (s_X7_scans_J278 C hH hN hQ hb   h)
        · have h := h.2 hc
          refine V_aload_n C 0 dX7_scans_165 rfl ?_
          refine V_iconst C 0 dX7_scans_166 (by decide) ?_
          refine V_putI C FW_RX7_201 (f7_13 hb) rfl rfl dX7_scans_167 ?_
          refine V_nmM (fun M8 e_M8 => ?_)
          have h := h M8 e_M8
          refine V_sub [0] rfl ?_
          exact Loop.sound (s0 := M8) (P := fun s => V X 170 [(0, vR X b)] [] s) h (fun ag hag s hs => s_X7_scans_F170 C hH hN hQ hb  hag hs)
      · have h := h.2 hc
        refine V_lconst C 0 dX7_scans_60 (by decide) ?_
        refine V_lstore_n (lv' := [(1, .long 0), (0, vR X b)]) C (ltN hN (by decide)) dX7_scans_61 rfl ?_
        refine V_sub [1, 0] rfl ?_
        exact Loop.sound (s0 := ((0 : Int64), M2)) (P := fun s => V X 62 [(0, vR X b), (1, .long (s.1))] [] (s.2)) h (fun ag hag s hs => s_X7_scans_F62 C hH hN hQ hb  hag hs)
    · have h := h.2 hc
      refine V_aload_n C 0 dX7_scans_43 rfl ?_
      refine V_iconst C 0 dX7_scans_44 (by decide) ?_
      refine V_putI C FW_RX7_190 (f7_12 hb) rfl rfl dX7_scans_45 ?_
      refine V_nmM (fun M21 e_M21 => ?_)
      have h := h M21 e_M21
      exact V_vret C dX7_scans_48 (hQ _ h)
  · have h := h.2 hc
    refine V_aload_n C 0 dX7_scans_11 rfl ?_
    refine V_dup C dX7_scans_12 rfl ?_
    refine V_getI C FL_RX7_152 (f7_10 hb) dX7_scans_13 ?_
    refine V_iconst C 1 dX7_scans_16 (by decide) ?_
    refine V_iadd C dX7_scans_17 ?_
    refine V_putI C FW_RX7_152 (f7_10 hb) rfl rfl dX7_scans_18 ?_
    refine V_nmM (fun M22 e_M22 => ?_)
    have h := h M22 e_M22
    refine V_goto (tgt := 0) C dX7_scans_21 (by decide) ?_
    exact V_sub [0] rfl (hag0 M22 h)
set_option maxRecDepth 20000 in
set_option maxHeartbeats 1000000 in
theorem s_X7_scans {X : wX} (C : CX X cX7_scans RX7 (none)) (hH : xH X = 2) (hN : xN X = 3) {b : Nat} {M : mM} {Q : mM → Prop} (hQ : ∀ M, Q M → xPo X none M) (hb : isC (xW X) 7 b)   (h : p_X7_scans b M Q) : V X 0 [(0, vR X b)] [] M := by
  refine V_sub [0] rfl ?_
  exact Loop.sound (s0 := M) (P := fun s => V X 0 [(0, vR X b)] [] s) h (fun ag hag s hs => s_X7_scans_F0 C hH hN hQ hb  hag hs)
set_option maxRecDepth 20000 in
set_option maxHeartbeats 1000000 in
theorem c_X7_scans {w : wU} {l : Launch} {b : Nat} {M : mM} {Q : mM → Prop} (hb : isC w 7 b) (h : p_X7_scans b M Q) : CT w l 2 yX7_scans cX7_scans 3 (none) [.ref (uA w b)] M (piV Q) := by
  refine CT.of (by decide +kernel) (Nat.le_of_ble_eq_true rfl) (fun X hw hH hl hP hN C => ?_)
  subst hw
  exact s_X7_scans C hH hN (fun M1 q => by rw [hP]; exact ⟨rfl, q⟩) hb h
set_option maxRecDepth 20000 in
set_option maxHeartbeats 1000000 in
theorem s_X7_numbers {X : wX} (C : CX X cX7_numbers RX7 (some .int)) (hH : xH X = 0) (hN : xN X = 1) {p1 : Int32} {M : mM} {Q : Int32 → Prop} (hQ : ∀ r, Q r → xPo X (some (.int r)) M)    (h : p_X7_numbers p1 M Q) : V X 0 [(0, .int p1)] [] M := by
  refine V_iload_n C 0 dX7_numbers_0 rfl ?_
  by_cases n0 : p1 = 16
  · have h := h.1 n0
    refine V_tsw (tgt := 54) C dX7_numbers_1 (53) (by rw [n0]; decide) (by rw [n0]; decide) (by rw [n0]; decide) (by decide) ?_
    refine V_iconst C 1 dX7_numbers_54 (by decide) ?_
    exact V_iret C dX7_numbers_55 (hQ _ h)
  by_cases n1 : p1 = 17
  · have h := h.2.1 n1
    refine V_tsw (tgt := 56) C dX7_numbers_1 (55) (by rw [n1]; decide) (by rw [n1]; decide) (by rw [n1]; decide) (by decide) ?_
    refine V_iconst C 2 dX7_numbers_56 (by decide) ?_
    exact V_iret C dX7_numbers_57 (hQ _ h)
  by_cases n2 : p1 = 18
  · have h := h.2.2.1 n2
    refine V_tsw (tgt := 56) C dX7_numbers_1 (55) (by rw [n2]; decide) (by rw [n2]; decide) (by rw [n2]; decide) (by decide) ?_
    refine V_iconst C 2 dX7_numbers_56 (by decide) ?_
    exact V_iret C dX7_numbers_57 (hQ _ h)
  by_cases n3 : p1 = 19
  · have h := h.2.2.2.1 n3
    refine V_tsw (tgt := 56) C dX7_numbers_1 (55) (by rw [n3]; decide) (by rw [n3]; decide) (by rw [n3]; decide) (by decide) ?_
    refine V_iconst C 2 dX7_numbers_56 (by decide) ?_
    exact V_iret C dX7_numbers_57 (hQ _ h)
  by_cases n4 : p1 = 20
  · have h := h.2.2.2.2.1 n4
    refine V_tsw (tgt := 52) C dX7_numbers_1 (51) (by rw [n4]; decide) (by rw [n4]; decide) (by rw [n4]; decide) (by decide) ?_
    refine V_iconst C 4 dX7_numbers_52 (by decide) ?_
    exact V_iret C dX7_numbers_53 (hQ _ h)
  by_cases n5 : p1 = 21
  · have h := h.2.2.2.2.2.1 n5
    refine V_tsw (tgt := 56) C dX7_numbers_1 (55) (by rw [n5]; decide) (by rw [n5]; decide) (by rw [n5]; decide) (by decide) ?_
    refine V_iconst C 2 dX7_numbers_56 (by decide) ?_
    exact V_iret C dX7_numbers_57 (hQ _ h)
  by_cases n6 : p1 = 22
  · have h := h.2.2.2.2.2.2.1 n6
    refine V_tsw (tgt := 54) C dX7_numbers_1 (53) (by rw [n6]; decide) (by rw [n6]; decide) (by rw [n6]; decide) (by decide) ?_
    refine V_iconst C 1 dX7_numbers_54 (by decide) ?_
    exact V_iret C dX7_numbers_55 (hQ _ h)
  by_cases n7 : p1 = 23
  · have h := h.2.2.2.2.2.2.2.1 n7
    refine V_tsw (tgt := 54) C dX7_numbers_1 (53) (by rw [n7]; decide) (by rw [n7]; decide) (by rw [n7]; decide) (by decide) ?_
    refine V_iconst C 1 dX7_numbers_54 (by decide) ?_
    exact V_iret C dX7_numbers_55 (hQ _ h)
  by_cases n8 : p1 = 24
  · have h := h.2.2.2.2.2.2.2.2.1 n8
    refine V_tsw (tgt := 54) C dX7_numbers_1 (53) (by rw [n8]; decide) (by rw [n8]; decide) (by rw [n8]; decide) (by decide) ?_
    refine V_iconst C 1 dX7_numbers_54 (by decide) ?_
    exact V_iret C dX7_numbers_55 (hQ _ h)
  have h := h.2.2.2.2.2.2.2.2.2 n0 n1 n2 n3 n4 n5 n6 n7 n8
  refine V_tswOut (tgt := 56) C dX7_numbers_1 (by have q0 : p1.toInt ≠ 16 := fun e => n0 (Int32.toInt_inj.mp (e.trans (by decide))); have q1 : p1.toInt ≠ 17 := fun e => n1 (Int32.toInt_inj.mp (e.trans (by decide))); have q2 : p1.toInt ≠ 18 := fun e => n2 (Int32.toInt_inj.mp (e.trans (by decide))); have q3 : p1.toInt ≠ 19 := fun e => n3 (Int32.toInt_inj.mp (e.trans (by decide))); have q4 : p1.toInt ≠ 20 := fun e => n4 (Int32.toInt_inj.mp (e.trans (by decide))); have q5 : p1.toInt ≠ 21 := fun e => n5 (Int32.toInt_inj.mp (e.trans (by decide))); have q6 : p1.toInt ≠ 22 := fun e => n6 (Int32.toInt_inj.mp (e.trans (by decide))); have q7 : p1.toInt ≠ 23 := fun e => n7 (Int32.toInt_inj.mp (e.trans (by decide))); have q8 : p1.toInt ≠ 24 := fun e => n8 (Int32.toInt_inj.mp (e.trans (by decide))); omega) (by decide) ?_
  refine V_iconst C 2 dX7_numbers_56 (by decide) ?_
  exact V_iret C dX7_numbers_57 (hQ _ h)
set_option maxRecDepth 20000 in
set_option maxHeartbeats 1000000 in
theorem c_X7_numbers {w : wU} {l : Launch} {p1 : Int32} {M : mM} {Q : Int32 → Prop}  (h : p_X7_numbers p1 M Q) : CT w l 0 yX7_numbers cX7_numbers 1 (some .int) [.int p1] M (poI M Q) := by
  refine CT.of (by decide +kernel) (Nat.le_of_ble_eq_true rfl) (fun X hw hH hl hP hN C => ?_)
  subst hw
  exact s_X7_numbers C hH hN (fun r q => by rw [hP]; exact ⟨rfl, r, rfl, q⟩)  h
set_option maxRecDepth 20000 in
set_option maxHeartbeats 1000000 in
theorem s_X7_reads_F40 {X : wX} (C : CX X cX7_reads RX7 (some .boolean)) (hH : xH X = 3) (hN : xN X = 3) {b : Nat} {M : mM} {Q : Int32 → mM → Prop} (hQ : ∀ r M, Q r M → xPo X (some (.int r)) M) (hb : isC (xW X) 7 b) {v1 : Int32} {v2 : Int32} {ag14 : mM → Prop} {ag40 : (Int32 × mM) → Prop} (hag14 : ∀ s, ag14 s → V X 14 [(0, vR X b)] [] s) (hag40 : ∀ s, ag40 s → V X 40 [(0, vR X b), (1, .int v1), (2, .int (s.1))] [] (s.2)) (h : p_X7_reads_F40 b v1 Q ag14 ag40 v2 M) : V X 40 [(0, vR X b), (1, .int v1), (2, .int v2)] [] M := by
  refine V_iload_n C 2 dX7_reads_40 rfl ?_
  refine V_iload_n C 1 dX7_reads_41 rfl ?_
  refine V_callS (As := [.int v1]) (st := [.int v2]) C (c_X7_numbers  h) Y_X7_numbers Z_X7_numbers (ltN hH (by decide)) u_289 rfl rfl (Nat.le_of_ble_eq_true rfl) dX7_reads_42 ?_
  rintro v9 M9 ⟨rfl, r5, rfl, h⟩
  show V X 45 _ [.int r5, .int v2] M
  refine V_icmp_ge (tgt := 85) C dX7_reads_45 (by decide) (fun hc => ?_) (fun hc => ?_)
  · have h := h.1 hc
    refine V_aload_n C 0 dX7_reads_85 rfl ?_
    refine V_getI C FL_RX7_190 (f7_12 hb) dX7_reads_86 ?_
    refine V_iconst C 3 dX7_reads_89 (by decide) ?_
    refine V_icmp_eq (tgt := 95) C dX7_reads_90 (by decide) (fun hc => ?_) (fun hc => ?_)
    · have h := h.1 hc
      refine V_aload_n C 0 dX7_reads_95 rfl ?_
      refine V_getR C FL_RX7_35 (f7_14 hb) dX7_reads_96 ?_
      refine V_aload_n C 0 dX7_reads_99 rfl ?_
      refine V_getI C FL_RX7_204 (f7_16 hb) dX7_reads_100 ?_
      refine V_iload_n C 1 dX7_reads_103 rfl ?_
      obtain ⟨b7, h⟩ := h
      refine V_iast C (k7_9 hb) b7 dX7_reads_104 ?_
      refine V_nmM (fun M6 e_M6 => ?_)
      have h := h M6 e_M6
      refine V_aload_n C 0 dX7_reads_105 rfl ?_
      refine V_dup C dX7_reads_106 rfl ?_
      refine V_getI C FL_RX7_204 (f7_16 hb) dX7_reads_107 ?_
      refine V_iconst C 1 dX7_reads_110 (by decide) ?_
      refine V_iadd C dX7_reads_111 ?_
      refine V_putI C FW_RX7_204 (f7_16 hb) rfl rfl dX7_reads_112 ?_
      refine V_nmM (fun M8 e_M8 => ?_)
      have h := h M8 e_M8
      refine V_aload_n C 0 dX7_reads_115 rfl ?_
      refine V_callV (As := []) (st := []) C (c_X7_scans hb h) Y_X7_scans Z_X7_scans (T := TX7) (N := 21) rfl (o7 hb) (ltN hH (by decide)) u_287 rfl rfl (Nat.le_of_ble_eq_true rfl) dX7_reads_116 ?_
      rintro v9 M9 ⟨rfl, h⟩
      show V X 119 _ [] M9
      refine V_goto (tgt := 14) C dX7_reads_119 (by decide) ?_
      exact V_sub [0] rfl (hag14 M9 h)
    · have h := h.2 hc
      refine V_iconst C 0 dX7_reads_93 (by decide) ?_
      exact V_zret C rfl (by decide) dX7_reads_94 (hQ _ _ h)
  · have h := h.2 hc
    refine V_aload_n C 0 dX7_reads_48 rfl ?_
    refine V_getI C FL_RX7_190 (f7_12 hb) dX7_reads_49 ?_
    refine V_iconst C 2 dX7_reads_52 (by decide) ?_
    refine V_icmp_eq (tgt := 58) C dX7_reads_53 (by decide) (fun hc => ?_) (fun hc => ?_)
    · have h := h.1 hc
      refine V_aload_n C 0 dX7_reads_58 rfl ?_
      refine V_getR C FL_RX7_38 (f7_15 hb) dX7_reads_59 ?_
      refine V_iconst C 4 dX7_reads_62 (by decide) ?_
      refine V_aload_n C 0 dX7_reads_63 rfl ?_
      refine V_getI C FL_RX7_204 (f7_16 hb) dX7_reads_64 ?_
      refine V_imul C dX7_reads_67 ?_
      refine V_iload_n C 2 dX7_reads_68 rfl ?_
      refine V_iadd C dX7_reads_69 ?_
      refine V_aload_n C 0 dX7_reads_70 rfl ?_
      refine V_getI C FL_RX7_201 (f7_13 hb) dX7_reads_71 ?_
      obtain ⟨b11, h⟩ := h
      refine V_iast C (k7_10 hb) b11 dX7_reads_74 ?_
      refine V_nmM (fun M10 e_M10 => ?_)
      have h := h M10 e_M10
      refine V_aload_n C 0 dX7_reads_75 rfl ?_
      refine V_callV (As := []) (st := []) C (c_X7_scans hb h) Y_X7_scans Z_X7_scans (T := TX7) (N := 21) rfl (o7 hb) (ltN hH (by decide)) u_287 rfl rfl (Nat.le_of_ble_eq_true rfl) dX7_reads_76 ?_
      rintro v9 M12 ⟨rfl, h⟩
      show V X 79 _ [] M12
      refine V_iinc (v := (v2 + 1)) (lv' := [(2, .int (v2 + 1)), (0, vR X b), (1, .int v1)]) C 2 (ltN hN (by decide)) dX7_reads_79 rfl rfl rfl ?_
      refine V_goto (tgt := 40) C dX7_reads_82 (by decide) ?_
      exact V_sub [1, 2, 0] rfl (hag40 ((v2 + 1), M12) h)
    · have h := h.2 hc
      refine V_iconst C 0 dX7_reads_56 (by decide) ?_
      exact V_zret C rfl (by decide) dX7_reads_57 (hQ _ _ h)
set_option maxRecDepth 20000 in
set_option maxHeartbeats 1000000 in
theorem s_X7_reads_F14 {X : wX} (C : CX X cX7_reads RX7 (some .boolean)) (hH : xH X = 3) (hN : xN X = 3) {b : Nat} {M : mM} {Q : Int32 → mM → Prop} (hQ : ∀ r M, Q r M → xPo X (some (.int r)) M) (hb : isC (xW X) 7 b) {ag14 : mM → Prop} (hag14 : ∀ s, ag14 s → V X 14 [(0, vR X b)] [] s) (h : p_X7_reads_F14 b  Q  ag14  M) : V X 14 [(0, vR X b)] [] M := by
  refine V_aload_n C 0 dX7_reads_14 rfl ?_
  refine V_getI C FL_RX7_190 (f7_12 hb) dX7_reads_15 ?_
  refine V_if_eq (tgt := 122) C dX7_reads_18 (by decide) (fun hc => ?_) (fun hc => ?_)
  · have h := h.1 hc
    refine V_iconst C 1 dX7_reads_122 (by decide) ?_
    exact V_zret C rfl (by decide) dX7_reads_123 (hQ _ _ h)
  · have h := h.2 hc
    refine V_aload_n C 0 dX7_reads_21 rfl ?_
    refine V_getI C FL_RX7_190 (f7_12 hb) dX7_reads_22 ?_
    refine V_istore_n (lv' := [(1, .int (M.1 b 12)), (0, vR X b)]) C (ltN hN (by decide)) dX7_reads_25 rfl ?_
    refine V_iload_n C 0 dX7_reads_26 rfl ?_
    refine V_bipush C 10 dX7_reads_27 (by decide) ?_
    refine V_icmp_ge (tgt := 34) C dX7_reads_29 (by decide) (fun hc => ?_) (fun hc => ?_)
    · have h := h.1 hc
      refine V_aload_n C 1 dX7_reads_34 rfl ?_
      refine V_callV (As := []) (st := []) C (c_X7_scans hb h) Y_X7_scans Z_X7_scans (T := TX7) (N := 21) rfl (o7 hb) (ltN hH (by decide)) u_287 rfl rfl (Nat.le_of_ble_eq_true rfl) dX7_reads_35 ?_
      rintro v9 M4 ⟨rfl, h⟩
      show V X 38 _ [] M4
      refine V_iconst C 0 dX7_reads_38 (by decide) ?_
      refine V_istore_n (lv' := [(2, .int 0), (1, .int (M.1 b 12)), (0, vR X b)]) C (ltN hN (by decide)) dX7_reads_39 rfl ?_
      refine V_sub [2, 1, 0] rfl ?_
      exact Loop.sound (s0 := ((0 : Int32), M4)) (P := fun s => V X 40 [(0, vR X b), (1, .int (M.1 b 12)), (2, .int (s.1))] [] (s.2)) h (fun ag hag s hs => s_X7_reads_F40 C hH hN hQ hb hag14 hag hs)
    · have h := h.2 hc
      refine V_iconst C 0 dX7_reads_32 (by decide) ?_
      exact V_zret C rfl (by decide) dX7_reads_33 (hQ _ _ h)
set_option maxRecDepth 20000 in
set_option maxHeartbeats 1000000 in
theorem s_X7_reads {X : wX} (C : CX X cX7_reads RX7 (some .boolean)) (hH : xH X = 3) (hN : xN X = 3) {b : Nat} {M : mM} {Q : Int32 → mM → Prop} (hQ : ∀ r M, Q r M → xPo X (some (.int r)) M) (hb : isC (xW X) 7 b)   (h : p_X7_reads b M Q) : V X 0 [(0, vR X b)] [] M := by
  refine V_aload_n C 0 dX7_reads_0 rfl ?_
  refine V_iconst C 0 dX7_reads_1 (by decide) ?_
  refine V_putI C FW_RX7_152 (f7_10 hb) rfl rfl dX7_reads_2 ?_
  refine V_nmM (fun M1 e_M1 => ?_)
  have h := h M1 e_M1
  refine V_aload_n C 0 dX7_reads_5 rfl ?_
  refine V_iconst C 0 dX7_reads_6 (by decide) ?_
  refine V_putI C FW_RX7_204 (f7_16 hb) rfl rfl dX7_reads_7 ?_
  refine V_nmM (fun M2 e_M2 => ?_)
  have h := h M2 e_M2
  refine V_aload_n C 0 dX7_reads_10 rfl ?_
  refine V_callV (As := []) (st := []) C (c_X7_scans hb h) Y_X7_scans Z_X7_scans (T := TX7) (N := 21) rfl (o7 hb) (ltN hH (by decide)) u_287 rfl rfl (Nat.le_of_ble_eq_true rfl) dX7_reads_11 ?_
  rintro v9 M3 ⟨rfl, h⟩
  show V X 14 _ [] M3
  refine V_sub [0] rfl ?_
  exact Loop.sound (s0 := M3) (P := fun s => V X 14 [(0, vR X b)] [] s) h (fun ag hag s hs => s_X7_reads_F14 C hH hN hQ hb  hag hs)
set_option maxRecDepth 20000 in
set_option maxHeartbeats 1000000 in
theorem c_X7_reads {w : wU} {l : Launch} {b : Nat} {M : mM} {Q : Int32 → mM → Prop} (hb : isC w 7 b) (h : p_X7_reads b M Q) : CT w l 3 yX7_reads cX7_reads 3 (some .boolean) [.ref (uA w b)] M (piI Q) := by
  refine CT.of (by decide +kernel) (Nat.le_of_ble_eq_true rfl) (fun X hw hH hl hP hN C => ?_)
  subst hw
  exact s_X7_reads C hH hN (fun r M1 q => by rw [hP]; exact ⟨r, rfl, q⟩) hb h
set_option maxRecDepth 20000 in
set_option maxHeartbeats 1000000 in
theorem s_X7_tellsItem_J228 {X : wX} (C : CX X cX7_tellsItem RX7 (some .boolean)) (hH : xH X = 4) (hN : xN X = 4) {b : Nat} {p1 : Int32} {M : mM} {Q : Int32 → mM → Prop} (hQ : ∀ r M, Q r M → xPo X (some (.int r)) M) (hb : isC (xW X) 7 b) {s0 : Int32} {s1 : Int32} {s2 : Int32}  (h : p_X7_tellsItem_J228 b p1 Q  s0 s1 s2 M) : V X 228 [] [.int s0, .int s1, .int s2, vR X b] M := by
  refine V_callV (As := [.int s2, .int s1, .int s0]) (st := []) C (c_X7_trace hb h) Y_X7_trace Z_X7_trace (T := TX7) (N := 21) rfl (o7 hb) (ltN hH (by decide)) u_294 rfl rfl (Nat.le_of_ble_eq_true rfl) dX7_tellsItem_228 ?_
  rintro v9 M24 ⟨r25, rfl, h⟩
  show V X 231 _ [.int r25] M24
  refine V_if_lt (tgt := 238) C dX7_tellsItem_231 (by decide) (fun hc => ?_) (fun hc => ?_)
  · have h := h.1 hc
    refine V_iconst C 0 dX7_tellsItem_238 (by decide) ?_
    exact V_zret C rfl (by decide) dX7_tellsItem_239 (hQ _ _ h)
  · have h := h.2 hc
    refine V_iconst C 1 dX7_tellsItem_234 (by decide) ?_
    refine V_goto (tgt := 239) C dX7_tellsItem_235 (by decide) ?_
    exact V_zret C rfl (by decide) dX7_tellsItem_239 (hQ _ _ h)
set_option maxRecDepth 20000 in
set_option maxHeartbeats 1000000 in
theorem s_X7_tellsItem {X : wX} (C : CX X cX7_tellsItem RX7 (some .boolean)) (hH : xH X = 4) (hN : xN X = 4) {b : Nat} {p1 : Int32} {M : mM} {Q : Int32 → mM → Prop} (hQ : ∀ r M, Q r M → xPo X (some (.int r)) M) (hb : isC (xW X) 7 b)   (h : p_X7_tellsItem b p1 M Q) : V X 0 [(0, vR X b), (1, .int p1)] [] M := by
  refine V_aload_n C 0 dX7_tellsItem_0 rfl ?_
  refine V_getR C FL_RX7_38 (f7_15 hb) dX7_tellsItem_1 ?_
  refine V_iconst C 4 dX7_tellsItem_4 (by decide) ?_
  refine V_iload_n C 1 dX7_tellsItem_5 rfl ?_
  refine V_imul C dX7_tellsItem_6 ?_
  obtain ⟨b1, h⟩ := h
  refine V_iald C (k7_10 hb) b1 dX7_tellsItem_7 ?_
  refine V_nmI (fun x2 e_x2 => ?_)
  have h := h x2 e_x2
  refine V_istore_n (lv' := [(2, .int x2), (0, vR X b), (1, .int p1)]) C (ltN hN (by decide)) dX7_tellsItem_8 rfl ?_
  refine V_aload_n C 1 dX7_tellsItem_9 rfl ?_
  refine V_getR C FL_RX7_38 (f7_15 hb) dX7_tellsItem_10 ?_
  refine V_iconst C 4 dX7_tellsItem_13 (by decide) ?_
  refine V_iload_n C 2 dX7_tellsItem_14 rfl ?_
  refine V_imul C dX7_tellsItem_15 ?_
  refine V_iconst C 1 dX7_tellsItem_16 (by decide) ?_
  refine V_iadd C dX7_tellsItem_17 ?_
  obtain ⟨b3, h⟩ := h
  refine V_iald C (k7_10 hb) b3 dX7_tellsItem_18 ?_
  refine V_nmI (fun x4 e_x4 => ?_)
  have h := h x4 e_x4
  refine V_istore_n (lv' := [(3, .int x4), (2, .int x2), (0, vR X b), (1, .int p1)]) C (ltN hN (by decide)) dX7_tellsItem_19 rfl ?_
  refine V_aload_n C 2 dX7_tellsItem_20 rfl ?_
  refine V_getR C FL_RX7_35 (f7_14 hb) dX7_tellsItem_21 ?_
  refine V_iload_n C 3 dX7_tellsItem_24 rfl ?_
  obtain ⟨b5, h⟩ := h
  refine V_iald C (k7_9 hb) b5 dX7_tellsItem_25 ?_
  by_cases n0 : (M.1 (b + 9) p1.toNatClampNeg) = 20
  · have h := h.1 n0
    refine V_tsw (tgt := 68) C dX7_tellsItem_26 (42) (by rw [n0]; decide) (by rw [n0]; decide) (by rw [n0]; decide) (by decide) ?_
    refine V_aload_n C 2 dX7_tellsItem_68 rfl ?_
    refine V_iload_n C 1 dX7_tellsItem_69 rfl ?_
    refine V_iload_n C 0 dX7_tellsItem_70 rfl ?_
    refine V_aload_n C 2 dX7_tellsItem_71 rfl ?_
    refine V_getR C FL_RX7_38 (f7_15 hb) dX7_tellsItem_72 ?_
    refine V_iconst C 4 dX7_tellsItem_75 (by decide) ?_
    refine V_iload_n C 3 dX7_tellsItem_76 rfl ?_
    refine V_imul C dX7_tellsItem_77 ?_
    refine V_iconst C 2 dX7_tellsItem_78 (by decide) ?_
    refine V_iadd C dX7_tellsItem_79 ?_
    obtain ⟨b6, h⟩ := h
    refine V_iald C (k7_10 hb) b6 dX7_tellsItem_80 ?_
    refine V_aload_n C 2 dX7_tellsItem_81 rfl ?_
    refine V_getR C FL_RX7_38 (f7_15 hb) dX7_tellsItem_82 ?_
    refine V_iconst C 4 dX7_tellsItem_85 (by decide) ?_
    refine V_iload_n C 3 dX7_tellsItem_86 rfl ?_
    refine V_imul C dX7_tellsItem_87 ?_
    refine V_iconst C 3 dX7_tellsItem_88 (by decide) ?_
    refine V_iadd C dX7_tellsItem_89 ?_
    obtain ⟨b7, h⟩ := h
    refine V_iald C (k7_10 hb) b7 dX7_tellsItem_90 ?_
    refine V_callV (As := [.int x2, .int x4, .int (M.1 (b + 10) ((4 * p1) + 2).toNatClampNeg), .int (M.1 (b + 10) ((4 * p1) + 3).toNatClampNeg)]) (st := []) C (c_X7_stuff hb h) Y_X7_stuff Z_X7_stuff (T := TX7) (N := 21) rfl (o7 hb) (ltN hH (by decide)) u_290 rfl rfl (Nat.le_of_ble_eq_true rfl) dX7_tellsItem_91 ?_
    rintro v9 M8 ⟨r9, rfl, h⟩
    show V X 94 _ [.int r9] M8
    refine V_if_lt (tgt := 101) C dX7_tellsItem_94 (by decide) (fun hc => ?_) (fun hc => ?_)
    · have h := h.1 hc
      refine V_iconst C 0 dX7_tellsItem_101 (by decide) ?_
      exact V_zret C rfl (by decide) dX7_tellsItem_102 (hQ _ _ h)
    · have h := h.2 hc
      refine V_iconst C 1 dX7_tellsItem_97 (by decide) ?_
      refine V_goto (tgt := 102) C dX7_tellsItem_98 (by decide) ?_
      exact V_zret C rfl (by decide) dX7_tellsItem_102 (hQ _ _ h)
  by_cases n1 : (M.1 (b + 9) p1.toNatClampNeg) = 21
  · have h := h.2.1 n1
    refine V_tsw (tgt := 103) C dX7_tellsItem_26 (77) (by rw [n1]; decide) (by rw [n1]; decide) (by rw [n1]; decide) (by decide) ?_
    refine V_iload_n C 1 dX7_tellsItem_103 rfl ?_
    refine V_iconst C 4 dX7_tellsItem_104 (by decide) ?_
    refine V_icmp_ge (tgt := 121) C dX7_tellsItem_105 (by decide) (fun hc => ?_) (fun hc => ?_)
    · have h := h.1 hc
      refine V_iconst C 0 dX7_tellsItem_121 (by decide) ?_
      exact V_zret C rfl (by decide) dX7_tellsItem_122 (hQ _ _ h)
    · have h := h.2 hc
      refine V_aload_n C 2 dX7_tellsItem_108 rfl ?_
      refine V_iload_n C 1 dX7_tellsItem_109 rfl ?_
      refine V_iload_n C 0 dX7_tellsItem_110 rfl ?_
      refine V_callV (As := [.int x2, .int x4]) (st := []) C (c_X7_put hb h) Y_X7_put Z_X7_put (T := TX7) (N := 21) rfl (o7 hb) (ltN hH (by decide)) u_291 rfl rfl (Nat.le_of_ble_eq_true rfl) dX7_tellsItem_111 ?_
      rintro v9 M10 ⟨r11, rfl, h⟩
      show V X 114 _ [.int r11] M10
      refine V_if_lt (tgt := 121) C dX7_tellsItem_114 (by decide) (fun hc => ?_) (fun hc => ?_)
      · have h := h.1 hc
        refine V_iconst C 0 dX7_tellsItem_121 (by decide) ?_
        exact V_zret C rfl (by decide) dX7_tellsItem_122 (hQ _ _ h)
      · have h := h.2 hc
        refine V_iconst C 1 dX7_tellsItem_117 (by decide) ?_
        refine V_goto (tgt := 122) C dX7_tellsItem_118 (by decide) ?_
        exact V_zret C rfl (by decide) dX7_tellsItem_122 (hQ _ _ h)
  by_cases n2 : (M.1 (b + 9) p1.toNatClampNeg) = 22
  · have h := h.2.2.1 n2
    refine V_tsw (tgt := 123) C dX7_tellsItem_26 (97) (by rw [n2]; decide) (by rw [n2]; decide) (by rw [n2]; decide) (by decide) ?_
    refine V_aload_n C 2 dX7_tellsItem_123 rfl ?_
    refine V_iconst C 4 dX7_tellsItem_124 (by decide) ?_
    refine V_iload_n C 1 dX7_tellsItem_125 rfl ?_
    refine V_callV (As := [.int 4, .int x2]) (st := []) C (c_X7_put hb h) Y_X7_put Z_X7_put (T := TX7) (N := 21) rfl (o7 hb) (ltN hH (by decide)) u_291 rfl rfl (Nat.le_of_ble_eq_true rfl) dX7_tellsItem_126 ?_
    rintro v9 M12 ⟨r13, rfl, h⟩
    show V X 129 _ [.int r13] M12
    refine V_if_lt (tgt := 136) C dX7_tellsItem_129 (by decide) (fun hc => ?_) (fun hc => ?_)
    · have h := h.1 hc
      refine V_iconst C 0 dX7_tellsItem_136 (by decide) ?_
      exact V_zret C rfl (by decide) dX7_tellsItem_137 (hQ _ _ h)
    · have h := h.2 hc
      refine V_iconst C 1 dX7_tellsItem_132 (by decide) ?_
      refine V_goto (tgt := 137) C dX7_tellsItem_133 (by decide) ?_
      exact V_zret C rfl (by decide) dX7_tellsItem_137 (hQ _ _ h)
  by_cases n3 : (M.1 (b + 9) p1.toNatClampNeg) = 23
  · have h := h.2.2.2.1 n3
    refine V_tsw (tgt := 138) C dX7_tellsItem_26 (112) (by rw [n3]; decide) (by rw [n3]; decide) (by rw [n3]; decide) (by decide) ?_
    refine V_aload_n C 2 dX7_tellsItem_138 rfl ?_
    refine V_iconst C 5 dX7_tellsItem_139 (by decide) ?_
    refine V_iload_n C 1 dX7_tellsItem_140 rfl ?_
    refine V_callV (As := [.int 5, .int x2]) (st := []) C (c_X7_put hb h) Y_X7_put Z_X7_put (T := TX7) (N := 21) rfl (o7 hb) (ltN hH (by decide)) u_291 rfl rfl (Nat.le_of_ble_eq_true rfl) dX7_tellsItem_141 ?_
    rintro v9 M14 ⟨r15, rfl, h⟩
    show V X 144 _ [.int r15] M14
    refine V_if_lt (tgt := 151) C dX7_tellsItem_144 (by decide) (fun hc => ?_) (fun hc => ?_)
    · have h := h.1 hc
      refine V_iconst C 0 dX7_tellsItem_151 (by decide) ?_
      exact V_zret C rfl (by decide) dX7_tellsItem_152 (hQ _ _ h)
    · have h := h.2 hc
      refine V_iconst C 1 dX7_tellsItem_147 (by decide) ?_
      refine V_goto (tgt := 152) C dX7_tellsItem_148 (by decide) ?_
      exact V_zret C rfl (by decide) dX7_tellsItem_152 (hQ _ _ h)
  by_cases n4 : (M.1 (b + 9) p1.toNatClampNeg) = 24
  · have h := h.2.2.2.2.1 n4
    refine V_tsw (tgt := 153) C dX7_tellsItem_26 (127) (by rw [n4]; decide) (by rw [n4]; decide) (by rw [n4]; decide) (by decide) ?_
    refine V_aload_n C 2 dX7_tellsItem_153 rfl ?_
    refine V_bipush C 6 dX7_tellsItem_154 (by decide) ?_
    refine V_iload_n C 1 dX7_tellsItem_156 rfl ?_
    refine V_callV (As := [.int 6, .int x2]) (st := []) C (c_X7_put hb h) Y_X7_put Z_X7_put (T := TX7) (N := 21) rfl (o7 hb) (ltN hH (by decide)) u_291 rfl rfl (Nat.le_of_ble_eq_true rfl) dX7_tellsItem_157 ?_
    rintro v9 M16 ⟨r17, rfl, h⟩
    show V X 160 _ [.int r17] M16
    refine V_if_lt (tgt := 167) C dX7_tellsItem_160 (by decide) (fun hc => ?_) (fun hc => ?_)
    · have h := h.1 hc
      refine V_iconst C 0 dX7_tellsItem_167 (by decide) ?_
      exact V_zret C rfl (by decide) dX7_tellsItem_168 (hQ _ _ h)
    · have h := h.2 hc
      refine V_iconst C 1 dX7_tellsItem_163 (by decide) ?_
      refine V_goto (tgt := 168) C dX7_tellsItem_164 (by decide) ?_
      exact V_zret C rfl (by decide) dX7_tellsItem_168 (hQ _ _ h)
  by_cases n5 : (M.1 (b + 9) p1.toNatClampNeg) = 25
  · have h := h.2.2.2.2.2.1 n5
    refine V_tsw (tgt := 169) C dX7_tellsItem_26 (143) (by rw [n5]; decide) (by rw [n5]; decide) (by rw [n5]; decide) (by decide) ?_
    refine V_aload_n C 2 dX7_tellsItem_169 rfl ?_
    refine V_iload_n C 1 dX7_tellsItem_170 rfl ?_
    refine V_iload_n C 0 dX7_tellsItem_171 rfl ?_
    refine V_callV (As := [.int x2, .int x4]) (st := []) C (c_X7_habit hb h) Y_X7_habit Z_X7_habit (T := TX7) (N := 21) rfl (o7 hb) (ltN hH (by decide)) u_292 rfl rfl (Nat.le_of_ble_eq_true rfl) dX7_tellsItem_172 ?_
    rintro v9 M18 ⟨r19, rfl, h⟩
    show V X 175 _ [.int r19] M18
    refine V_if_lt (tgt := 182) C dX7_tellsItem_175 (by decide) (fun hc => ?_) (fun hc => ?_)
    · have h := h.1 hc
      refine V_iconst C 0 dX7_tellsItem_182 (by decide) ?_
      exact V_zret C rfl (by decide) dX7_tellsItem_183 (hQ _ _ h)
    · have h := h.2 hc
      refine V_iconst C 1 dX7_tellsItem_178 (by decide) ?_
      refine V_goto (tgt := 183) C dX7_tellsItem_179 (by decide) ?_
      exact V_zret C rfl (by decide) dX7_tellsItem_183 (hQ _ _ h)
  by_cases n6 : (M.1 (b + 9) p1.toNatClampNeg) = 26
  · have h := h.2.2.2.2.2.2.1 n6
    refine V_tsw (tgt := 184) C dX7_tellsItem_26 (158) (by rw [n6]; decide) (by rw [n6]; decide) (by rw [n6]; decide) (by decide) ?_
    refine V_aload_n C 2 dX7_tellsItem_184 rfl ?_
    refine V_iload_n C 1 dX7_tellsItem_185 rfl ?_
    refine V_iload_n C 0 dX7_tellsItem_186 rfl ?_
    refine V_callV (As := [.int x2, .int x4]) (st := []) C (c_X7_copy hb h) Y_X7_copy Z_X7_copy (T := TX7) (N := 21) rfl (o7 hb) (ltN hH (by decide)) u_293 rfl rfl (Nat.le_of_ble_eq_true rfl) dX7_tellsItem_187 ?_
    rintro v9 M20 ⟨r21, rfl, h⟩
    show V X 190 _ [.int r21] M20
    refine V_bipush C (-10) dX7_tellsItem_190 (by decide) ?_
    refine V_icmp_eq (tgt := 199) C dX7_tellsItem_192 (by decide) (fun hc => ?_) (fun hc => ?_)
    · have h := h.1 hc
      refine V_iconst C 0 dX7_tellsItem_199 (by decide) ?_
      exact V_zret C rfl (by decide) dX7_tellsItem_200 (hQ _ _ h)
    · have h := h.2 hc
      refine V_iconst C 1 dX7_tellsItem_195 (by decide) ?_
      refine V_goto (tgt := 200) C dX7_tellsItem_196 (by decide) ?_
      exact V_zret C rfl (by decide) dX7_tellsItem_200 (hQ _ _ h)
  have h := h.2.2.2.2.2.2.2 n0 n1 n2 n3 n4 n5 n6
  refine V_tswOut (tgt := 201) C dX7_tellsItem_26 (by have q0 : (M.1 (b + 9) p1.toNatClampNeg).toInt ≠ 20 := fun e => n0 (Int32.toInt_inj.mp (e.trans (by decide))); have q1 : (M.1 (b + 9) p1.toNatClampNeg).toInt ≠ 21 := fun e => n1 (Int32.toInt_inj.mp (e.trans (by decide))); have q2 : (M.1 (b + 9) p1.toNatClampNeg).toInt ≠ 22 := fun e => n2 (Int32.toInt_inj.mp (e.trans (by decide))); have q3 : (M.1 (b + 9) p1.toNatClampNeg).toInt ≠ 23 := fun e => n3 (Int32.toInt_inj.mp (e.trans (by decide))); have q4 : (M.1 (b + 9) p1.toNatClampNeg).toInt ≠ 24 := fun e => n4 (Int32.toInt_inj.mp (e.trans (by decide))); have q5 : (M.1 (b + 9) p1.toNatClampNeg).toInt ≠ 25 := fun e => n5 (Int32.toInt_inj.mp (e.trans (by decide))); have q6 : (M.1 (b + 9) p1.toNatClampNeg).toInt ≠ 26 := fun e => n6 (Int32.toInt_inj.mp (e.trans (by decide))); omega) (by decide) ?_
  refine V_aload_n C 2 dX7_tellsItem_201 rfl ?_
  refine V_iload_n C 1 dX7_tellsItem_202 rfl ?_
  refine V_aload_n C 2 dX7_tellsItem_203 rfl ?_
  refine V_getR C FL_RX7_35 (f7_14 hb) dX7_tellsItem_204 ?_
  refine V_iload_n C 3 dX7_tellsItem_207 rfl ?_
  obtain ⟨b22, h⟩ := h
  refine V_iald C (k7_9 hb) b22 dX7_tellsItem_208 ?_
  refine V_bipush C 10 dX7_tellsItem_209 (by decide) ?_
  refine V_isub C dX7_tellsItem_211 ?_
  refine V_aload_n C 2 dX7_tellsItem_212 rfl ?_
  refine V_getR C FL_RX7_35 (f7_14 hb) dX7_tellsItem_213 ?_
  refine V_iload_n C 3 dX7_tellsItem_216 rfl ?_
  obtain ⟨b23, h⟩ := h
  refine V_iald C (k7_9 hb) b23 dX7_tellsItem_217 ?_
  refine V_bipush C 16 dX7_tellsItem_218 (by decide) ?_
  refine V_icmp_ne (tgt := 227) C dX7_tellsItem_220 (by decide) (fun hc => ?_) (fun hc => ?_)
  · have h := h.1 hc
    refine V_iload_n C 0 dX7_tellsItem_227 rfl ?_
    exact V_sub [] rfl (s_X7_tellsItem_J228 C hH hN hQ hb   h)
  · have h := h.2 hc
    refine V_iconst C 0 dX7_tellsItem_223 (by decide) ?_
    refine V_goto (tgt := 228) C dX7_tellsItem_224 (by decide) ?_
    exact V_sub [] rfl (s_X7_tellsItem_J228 C hH hN hQ hb   h)
set_option maxRecDepth 20000 in
set_option maxHeartbeats 1000000 in
theorem c_X7_tellsItem {w : wU} {l : Launch} {b : Nat} {p1 : Int32} {M : mM} {Q : Int32 → mM → Prop} (hb : isC w 7 b) (h : p_X7_tellsItem b p1 M Q) : CT w l 4 yX7_tellsItem cX7_tellsItem 4 (some .boolean) [.ref (uA w b), .int p1] M (piI Q) := by
  refine CT.of (by decide +kernel) (Nat.le_of_ble_eq_true rfl) (fun X hw hH hl hP hN C => ?_)
  subst hw
  exact s_X7_tellsItem C hH hN (fun r M1 q => by rw [hP]; exact ⟨r, rfl, q⟩) hb h
set_option maxRecDepth 20000 in
set_option maxHeartbeats 1000000 in
theorem s_X7_statue_F95 {X : wX} (C : CX X cX7_statue RX7 (some .int)) (hH : xH X = 5) (hN : xN X = 3) {b : Nat} {M : mM} {Q : Int32 → mM → Prop} (hQ : ∀ r M, Q r M → xPo X (some (.int r)) M) (hb : isC (xW X) 7 b) {v1 : Int32} {v2 : Int32} {ag95 : (Int32 × mM) → Prop} (hag95 : ∀ s, ag95 s → V X 95 [(0, vR X b), (1, .int v1), (2, .int (s.1))] [] (s.2)) (h : p_X7_statue_F95 b v1 Q  ag95 v2 M) : V X 95 [(0, vR X b), (1, .int v1), (2, .int v2)] [] M := by
  refine V_iload_n C 2 dX7_statue_95 rfl ?_
  refine V_sipush C 210 dX7_statue_96 (by decide) ?_
  refine V_icmp_ge (tgt := 120) C dX7_statue_99 (by decide) (fun hc => ?_) (fun hc => ?_)
  · have h := h.1 hc
    refine V_sipush C (-1000) dX7_statue_120 (by decide) ?_
    refine V_iload_n C 1 dX7_statue_123 rfl ?_
    refine V_isub C dX7_statue_124 ?_
    exact V_iret C dX7_statue_125 (hQ _ _ h)
  · have h := h.2 hc
    refine V_aload_n C 0 dX7_statue_102 rfl ?_
    refine V_getR C FL_RX7_7 (f7_0 hb) dX7_statue_103 ?_
    refine V_iload_n C 2 dX7_statue_106 rfl ?_
    refine V_aload_n C 0 dX7_statue_107 rfl ?_
    refine V_getR C FL_RX7_20 (f7_3 hb) dX7_statue_108 ?_
    refine V_iload_n C 2 dX7_statue_111 rfl ?_
    obtain ⟨b6, h⟩ := h
    refine V_iald C (k7_4 hb) b6 dX7_statue_112 ?_
    obtain ⟨b8, h⟩ := h
    refine V_iast C (k7_1 hb) b8 dX7_statue_113 ?_
    refine V_nmM (fun M7 e_M7 => ?_)
    have h := h M7 e_M7
    refine V_iinc (v := (v2 + 1)) (lv' := [(2, .int (v2 + 1)), (0, vR X b), (1, .int v1)]) C 2 (ltN hN (by decide)) dX7_statue_114 rfl rfl rfl ?_
    refine V_goto (tgt := 95) C dX7_statue_117 (by decide) ?_
    exact V_sub [1, 2, 0] rfl (hag95 ((v2 + 1), M7) h)
set_option maxRecDepth 20000 in
set_option maxHeartbeats 1000000 in
theorem s_X7_statue_J75 {X : wX} (C : CX X cX7_statue RX7 (some .int)) (hH : xH X = 5) (hN : xN X = 3) {b : Nat} {M : mM} {Q : Int32 → mM → Prop} (hQ : ∀ r M, Q r M → xPo X (some (.int r)) M) (hb : isC (xW X) 7 b) {v1 : Int32}  (h : p_X7_statue_J75 b Q  v1 M) : V X 75 [(0, vR X b), (1, .int v1)] [] M := by
  refine V_aload_n C 0 dX7_statue_75 rfl ?_
  refine V_iconst C 0 dX7_statue_76 (by decide) ?_
  refine V_putI C FW_RX7_60 (f7_5 hb) rfl rfl dX7_statue_77 ?_
  refine V_nmM (fun M5 e_M5 => ?_)
  have h := h M5 e_M5
  refine V_iload_n C 1 dX7_statue_80 rfl ?_
  refine V_aload_n C 0 dX7_statue_81 rfl ?_
  refine V_getI C FL_RX7_204 (f7_16 hb) dX7_statue_82 ?_
  refine V_icmp_ne (tgt := 93) C dX7_statue_85 (by decide) (fun hc => ?_) (fun hc => ?_)
  · have h := h.1 hc
    refine V_iconst C 0 dX7_statue_93 (by decide) ?_
    refine V_istore_n (lv' := [(2, .int 0), (0, vR X b), (1, .int v1)]) C (ltN hN (by decide)) dX7_statue_94 rfl ?_
    refine V_sub [1, 2, 0] rfl ?_
    exact Loop.sound (s0 := ((0 : Int32), M5)) (P := fun s => V X 95 [(0, vR X b), (1, .int v1), (2, .int (s.1))] [] (s.2)) h (fun ag hag s hs => s_X7_statue_F95 C hH hN hQ hb  hag hs)
  · have h := h.2 hc
    refine V_aload_n C 0 dX7_statue_88 rfl ?_
    refine V_getI C FL_RX7_204 (f7_16 hb) dX7_statue_89 ?_
    exact V_iret C dX7_statue_92 (hQ _ _ h)
set_option maxRecDepth 20000 in
set_option maxHeartbeats 1000000 in
theorem s_X7_statue_F53 {X : wX} (C : CX X cX7_statue RX7 (some .int)) (hH : xH X = 5) (hN : xN X = 3) {b : Nat} {M : mM} {Q : Int32 → mM → Prop} (hQ : ∀ r M, Q r M → xPo X (some (.int r)) M) (hb : isC (xW X) 7 b) {v1 : Int32} {ag53 : (Int32 × mM) → Prop} (hag53 : ∀ s, ag53 s → V X 53 [(0, vR X b), (1, .int (s.1))] [] (s.2)) (h : p_X7_statue_F53 b  Q  ag53 v1 M) : V X 53 [(0, vR X b), (1, .int v1)] [] M := by
  refine V_iload_n C 1 dX7_statue_53 rfl ?_
  refine V_aload_n C 0 dX7_statue_54 rfl ?_
  refine V_getI C FL_RX7_204 (f7_16 hb) dX7_statue_55 ?_
  refine V_icmp_ge (tgt := 75) C dX7_statue_58 (by decide) (fun hc => ?_) (fun hc => ?_)
  · have h := h.1 hc
    exact V_sub [0, 1] rfl (s_X7_statue_J75 C hH hN hQ hb   h)
  · have h := h.2 hc
    refine V_aload_n C 0 dX7_statue_61 rfl ?_
    refine V_iload_n C 1 dX7_statue_62 rfl ?_
    refine V_callV (As := [.int v1]) (st := []) C (c_X7_tellsItem hb h) Y_X7_tellsItem Z_X7_tellsItem (T := TX7) (N := 21) rfl (o7 hb) (ltN hH (by decide)) u_296 rfl rfl (Nat.le_of_ble_eq_true rfl) dX7_statue_63 ?_
    rintro v9 M9 ⟨r10, rfl, h⟩
    show V X 66 _ [.int r10] M9
    refine V_if_eq (tgt := 75) C dX7_statue_66 (by decide) (fun hc => ?_) (fun hc => ?_)
    · have h := h.1 hc
      exact V_sub [0, 1] rfl (s_X7_statue_J75 C hH hN hQ hb   h)
    · have h := h.2 hc
      refine V_iinc (v := (v1 + 1)) (lv' := [(1, .int (v1 + 1)), (0, vR X b)]) C 1 (ltN hN (by decide)) dX7_statue_69 rfl rfl rfl ?_
      refine V_goto (tgt := 53) C dX7_statue_72 (by decide) ?_
      exact V_sub [1, 0] rfl (hag53 ((v1 + 1), M9) h)
set_option maxRecDepth 20000 in
set_option maxHeartbeats 1000000 in
theorem s_X7_statue_F17 {X : wX} (C : CX X cX7_statue RX7 (some .int)) (hH : xH X = 5) (hN : xN X = 3) {b : Nat} {M : mM} {Q : Int32 → mM → Prop} (hQ : ∀ r M, Q r M → xPo X (some (.int r)) M) (hb : isC (xW X) 7 b) {v1 : Int32} {ag17 : (Int32 × mM) → Prop} (hag17 : ∀ s, ag17 s → V X 17 [(0, vR X b), (1, .int (s.1))] [] (s.2)) (h : p_X7_statue_F17 b  Q  ag17 v1 M) : V X 17 [(0, vR X b), (1, .int v1)] [] M := by
  refine V_iload_n C 1 dX7_statue_17 rfl ?_
  refine V_sipush C 210 dX7_statue_18 (by decide) ?_
  refine V_icmp_ge (tgt := 42) C dX7_statue_21 (by decide) (fun hc => ?_) (fun hc => ?_)
  · have h := h.1 hc
    refine V_aload_n C 0 dX7_statue_42 rfl ?_
    refine V_callV (As := []) (st := []) C (c_X7_begins hb h) Y_X7_begins Z_X7_begins (T := TX7) (N := 21) rfl (o7 hb) (ltN hH (by decide)) u_297 rfl rfl (Nat.le_of_ble_eq_true rfl) dX7_statue_43 ?_
    rintro v9 M3 ⟨rfl, h⟩
    show V X 46 _ [] M3
    refine V_aload_n C 0 dX7_statue_46 rfl ?_
    refine V_iconst C 1 dX7_statue_47 (by decide) ?_
    refine V_putI C FW_RX7_60 (f7_5 hb) rfl rfl dX7_statue_48 ?_
    refine V_nmM (fun M4 e_M4 => ?_)
    have h := h M4 e_M4
    refine V_iconst C 0 dX7_statue_51 (by decide) ?_
    refine V_istore_n (lv' := [(1, .int 0), (0, vR X b)]) C (ltN hN (by decide)) dX7_statue_52 rfl ?_
    refine V_sub [1, 0] rfl ?_
    exact Loop.sound (s0 := ((0 : Int32), M4)) (P := fun s => V X 53 [(0, vR X b), (1, .int (s.1))] [] (s.2)) h (fun ag hag s hs => s_X7_statue_F53 C hH hN hQ hb  hag hs)
  · have h := h.2 hc
    refine V_aload_n C 0 dX7_statue_24 rfl ?_
    refine V_getR C FL_RX7_20 (f7_3 hb) dX7_statue_25 ?_
    refine V_iload_n C 1 dX7_statue_28 rfl ?_
    refine V_aload_n C 0 dX7_statue_29 rfl ?_
    refine V_getR C FL_RX7_7 (f7_0 hb) dX7_statue_30 ?_
    refine V_iload_n C 1 dX7_statue_33 rfl ?_
    obtain ⟨b11, h⟩ := h
    refine V_iald C (k7_1 hb) b11 dX7_statue_34 ?_
    obtain ⟨b13, h⟩ := h
    refine V_iast C (k7_4 hb) b13 dX7_statue_35 ?_
    refine V_nmM (fun M12 e_M12 => ?_)
    have h := h M12 e_M12
    refine V_iinc (v := (v1 + 1)) (lv' := [(1, .int (v1 + 1)), (0, vR X b)]) C 1 (ltN hN (by decide)) dX7_statue_36 rfl rfl rfl ?_
    refine V_goto (tgt := 17) C dX7_statue_39 (by decide) ?_
    exact V_sub [1, 0] rfl (hag17 ((v1 + 1), M12) h)
set_option maxRecDepth 20000 in
set_option maxHeartbeats 1000000 in
theorem s_X7_statue {X : wX} (C : CX X cX7_statue RX7 (some .int)) (hH : xH X = 5) (hN : xN X = 3) {b : Nat} {M : mM} {Q : Int32 → mM → Prop} (hQ : ∀ r M, Q r M → xPo X (some (.int r)) M) (hb : isC (xW X) 7 b)   (h : p_X7_statue b M Q) : V X 0 [(0, vR X b)] [] M := by
  refine V_aload_n C 0 dX7_statue_0 rfl ?_
  refine V_callV (As := []) (st := []) C (c_X7_reads hb h) Y_X7_reads Z_X7_reads (T := TX7) (N := 21) rfl (o7 hb) (ltN hH (by decide)) u_298 rfl rfl (Nat.le_of_ble_eq_true rfl) dX7_statue_1 ?_
  rintro v9 M1 ⟨r2, rfl, h⟩
  show V X 4 _ [.int r2] M1
  refine V_if_ne (tgt := 15) C dX7_statue_4 (by decide) (fun hc => ?_) (fun hc => ?_)
  · have h := h.1 hc
    refine V_iconst C 0 dX7_statue_15 (by decide) ?_
    refine V_istore_n (lv' := [(1, .int 0), (0, vR X b)]) C (ltN hN (by decide)) dX7_statue_16 rfl ?_
    refine V_sub [1, 0] rfl ?_
    exact Loop.sound (s0 := ((0 : Int32), M1)) (P := fun s => V X 17 [(0, vR X b), (1, .int (s.1))] [] (s.2)) h (fun ag hag s hs => s_X7_statue_F17 C hH hN hQ hb  hag hs)
  · have h := h.2 hc
    refine V_bipush C (-10) dX7_statue_7 (by decide) ?_
    refine V_aload_n C 0 dX7_statue_9 rfl ?_
    refine V_getI C FL_RX7_187 (f7_11 hb) dX7_statue_10 ?_
    refine V_isub C dX7_statue_13 ?_
    exact V_iret C dX7_statue_14 (hQ _ _ h)
set_option maxRecDepth 20000 in
set_option maxHeartbeats 1000000 in
theorem c_X7_statue {w : wU} {l : Launch} {b : Nat} {M : mM} {Q : Int32 → mM → Prop} (hb : isC w 7 b) (h : p_X7_statue b M Q) : CT w l 5 yX7_statue cX7_statue 3 (some .int) [.ref (uA w b)] M (piI Q) := by
  refine CT.of (by decide +kernel) (Nat.le_of_ble_eq_true rfl) (fun X hw hH hl hP hN C => ?_)
  subst hw
  exact s_X7_statue C hH hN (fun r M1 q => by rw [hP]; exact ⟨r, rfl, q⟩) hb h
set_option maxRecDepth 20000 in
set_option maxHeartbeats 1000000 in
theorem s_X7_groundOf {X : wX} (C : CX X cX7_groundOf RX7 (some .int)) (hH : xH X = 0) (hN : xN X = 1) {p1 : Int32} {M : mM} {Q : Int32 → Prop} (hQ : ∀ r, Q r → xPo X (some (.int r)) M)    (h : p_X7_groundOf p1 M Q) : V X 0 [(0, .int p1)] [] M := by
  refine V_iload_n C 0 dX7_groundOf_0 rfl ?_
  refine V_if_ne (tgt := 8) C dX7_groundOf_1 (by decide) (fun hc => ?_) (fun hc => ?_)
  · have h := h.1 hc
    refine V_iload_n C 0 dX7_groundOf_8 rfl ?_
    refine V_iconst C 5 dX7_groundOf_9 (by decide) ?_
    refine V_icmp_ge (tgt := 19) C dX7_groundOf_10 (by decide) (fun hc => ?_) (fun hc => ?_)
    · have h := h.1 hc
      refine V_iload_n C 0 dX7_groundOf_19 rfl ?_
      refine V_iconst C 5 dX7_groundOf_20 (by decide) ?_
      refine V_isub C dX7_groundOf_21 ?_
      refine V_iconst C 4 dX7_groundOf_22 (by decide) ?_
      refine V_idiv C dX7_groundOf_23 (by decide) ?_
      exact V_iret C dX7_groundOf_24 (hQ _ h)
    · have h := h.2 hc
      refine V_iload_n C 0 dX7_groundOf_13 rfl ?_
      refine V_iconst C 1 dX7_groundOf_14 (by decide) ?_
      refine V_isub C dX7_groundOf_15 ?_
      refine V_goto (tgt := 24) C dX7_groundOf_16 (by decide) ?_
      exact V_iret C dX7_groundOf_24 (hQ _ h)
  · have h := h.2 hc
    refine V_iconst C (-1) dX7_groundOf_4 (by decide) ?_
    refine V_goto (tgt := 24) C dX7_groundOf_5 (by decide) ?_
    exact V_iret C dX7_groundOf_24 (hQ _ h)
set_option maxRecDepth 20000 in
set_option maxHeartbeats 1000000 in
theorem c_X7_groundOf {w : wU} {l : Launch} {p1 : Int32} {M : mM} {Q : Int32 → Prop}  (h : p_X7_groundOf p1 M Q) : CT w l 0 yX7_groundOf cX7_groundOf 1 (some .int) [.int p1] M (poI M Q) := by
  refine CT.of (by decide +kernel) (Nat.le_of_ble_eq_true rfl) (fun X hw hH hl hP hN C => ?_)
  subst hw
  exact s_X7_groundOf C hH hN (fun r q => by rw [hP]; exact ⟨rfl, r, rfl, q⟩)  h
set_option maxRecDepth 20000 in
set_option maxHeartbeats 1000000 in
theorem s_X7_overOf {X : wX} (C : CX X cX7_overOf RX7 (some .int)) (hH : xH X = 0) (hN : xN X = 1) {p1 : Int32} {M : mM} {Q : Int32 → Prop} (hQ : ∀ r, Q r → xPo X (some (.int r)) M)    (h : p_X7_overOf p1 M Q) : V X 0 [(0, .int p1)] [] M := by
  refine V_iload_n C 0 dX7_overOf_0 rfl ?_
  refine V_iconst C 5 dX7_overOf_1 (by decide) ?_
  refine V_icmp_ge (tgt := 9) C dX7_overOf_2 (by decide) (fun hc => ?_) (fun hc => ?_)
  · have h := h.1 hc
    refine V_iload_n C 0 dX7_overOf_9 rfl ?_
    refine V_iconst C 5 dX7_overOf_10 (by decide) ?_
    refine V_isub C dX7_overOf_11 ?_
    refine V_iconst C 4 dX7_overOf_12 (by decide) ?_
    refine V_irem C dX7_overOf_13 (by decide) ?_
    exact V_iret C dX7_overOf_14 (hQ _ h)
  · have h := h.2 hc
    refine V_iconst C (-1) dX7_overOf_5 (by decide) ?_
    refine V_goto (tgt := 14) C dX7_overOf_6 (by decide) ?_
    exact V_iret C dX7_overOf_14 (hQ _ h)
set_option maxRecDepth 20000 in
set_option maxHeartbeats 1000000 in
theorem c_X7_overOf {w : wU} {l : Launch} {p1 : Int32} {M : mM} {Q : Int32 → Prop}  (h : p_X7_overOf p1 M Q) : CT w l 0 yX7_overOf cX7_overOf 1 (some .int) [.int p1] M (poI M Q) := by
  refine CT.of (by decide +kernel) (Nat.le_of_ble_eq_true rfl) (fun X hw hH hl hP hN C => ?_)
  subst hw
  exact s_X7_overOf C hH hN (fun r q => by rw [hP]; exact ⟨rfl, r, rfl, q⟩)  h
set_option maxRecDepth 20000 in
set_option maxHeartbeats 1000000 in
theorem s_X7_isStack {X : wX} (C : CX X cX7_isStack RX7 (some .boolean)) (hH : xH X = 1) (hN : xN X = 2) {b : Nat} {p1 : Int32} {M : mM} {Q : Int32 → Prop} (hQ : ∀ r, Q r → xPo X (some (.int r)) M) (hb : isC (xW X) 7 b)   (h : p_X7_isStack b p1 M Q) : V X 0 [(0, vR X b), (1, .int p1)] [] M := by
  refine V_iload_n C 1 dX7_isStack_0 rfl ?_
  refine V_i2l C dX7_isStack_1 ?_
  refine V_lconst C 0 dX7_isStack_2 (by decide) ?_
  refine V_ldc2 C u_252 dX7_isStack_3 ?_
  refine V_callS (As := [.long (p1.toInt64), .long 0, .long 20]) (st := []) C (c_X7_in  h) Y_X7_in Z_X7_in (ltN hH (by decide)) u_243 rfl rfl (Nat.le_of_ble_eq_true rfl) dX7_isStack_6 ?_
  rintro v9 M9 ⟨rfl, r1, rfl, h⟩
  show V X 9 _ [.int r1] M
  refine V_if_eq (tgt := 42) C dX7_isStack_9 (by decide) (fun hc => ?_) (fun hc => ?_)
  · have h := h.1 hc
    refine V_iconst C 0 dX7_isStack_42 (by decide) ?_
    exact V_zret C rfl (by decide) dX7_isStack_43 (hQ _ h)
  · have h := h.2 hc
    refine V_iload_n C 1 dX7_isStack_12 rfl ?_
    refine V_callS (As := [.int p1]) (st := []) C (c_X7_groundOf  h) Y_X7_groundOf Z_X7_groundOf (ltN hH (by decide)) u_300 rfl rfl (Nat.le_of_ble_eq_true rfl) dX7_isStack_13 ?_
    rintro v9 M9 ⟨rfl, r2, rfl, h⟩
    show V X 16 _ [.int r2] M
    refine V_aload_n C 0 dX7_isStack_16 rfl ?_
    refine V_getR C FL_RX7_7 (f7_0 hb) dX7_isStack_17 ?_
    refine V_iconst C 0 dX7_isStack_20 (by decide) ?_
    refine V_iald C (k7_1 hb) (vp_lit (by decide)) dX7_isStack_21 ?_
    refine V_icmp_ge (tgt := 42) C dX7_isStack_22 (by decide) (fun hc => ?_) (fun hc => ?_)
    · have h := h.1 hc
      refine V_iconst C 0 dX7_isStack_42 (by decide) ?_
      exact V_zret C rfl (by decide) dX7_isStack_43 (hQ _ h)
    · have h := h.2 hc
      refine V_iload_n C 1 dX7_isStack_25 rfl ?_
      refine V_callS (As := [.int p1]) (st := []) C (c_X7_overOf  h) Y_X7_overOf Z_X7_overOf (ltN hH (by decide)) u_299 rfl rfl (Nat.le_of_ble_eq_true rfl) dX7_isStack_26 ?_
      rintro v9 M9 ⟨rfl, r3, rfl, h⟩
      show V X 29 _ [.int r3] M
      refine V_aload_n C 0 dX7_isStack_29 rfl ?_
      refine V_getR C FL_RX7_7 (f7_0 hb) dX7_isStack_30 ?_
      refine V_iconst C 0 dX7_isStack_33 (by decide) ?_
      refine V_iald C (k7_1 hb) (vp_lit (by decide)) dX7_isStack_34 ?_
      refine V_icmp_ge (tgt := 42) C dX7_isStack_35 (by decide) (fun hc => ?_) (fun hc => ?_)
      · have h := h.1 hc
        refine V_iconst C 0 dX7_isStack_42 (by decide) ?_
        exact V_zret C rfl (by decide) dX7_isStack_43 (hQ _ h)
      · have h := h.2 hc
        refine V_iconst C 1 dX7_isStack_38 (by decide) ?_
        refine V_goto (tgt := 43) C dX7_isStack_39 (by decide) ?_
        exact V_zret C rfl (by decide) dX7_isStack_43 (hQ _ h)
set_option maxRecDepth 20000 in
set_option maxHeartbeats 1000000 in
theorem c_X7_isStack {w : wU} {l : Launch} {b : Nat} {p1 : Int32} {M : mM} {Q : Int32 → Prop} (hb : isC w 7 b) (h : p_X7_isStack b p1 M Q) : CT w l 1 yX7_isStack cX7_isStack 2 (some .boolean) [.ref (uA w b), .int p1] M (poI M Q) := by
  refine CT.of (by decide +kernel) (Nat.le_of_ble_eq_true rfl) (fun X hw hH hl hP hN C => ?_)
  subst hw
  exact s_X7_isStack C hH hN (fun r q => by rw [hP]; exact ⟨rfl, r, rfl, q⟩) hb h
set_option maxRecDepth 20000 in
set_option maxHeartbeats 1000000 in
theorem s_X7_wearOf {X : wX} (C : CX X cX7_wearOf RX7 (some .int)) (hH : xH X = 0) (hN : xN X = 2) {b : Nat} {p1 : Int32} {M : mM} {Q : Int32 → Prop} (hQ : ∀ r, Q r → xPo X (some (.int r)) M) (hb : isC (xW X) 7 b)   (h : p_X7_wearOf b p1 M Q) : V X 0 [(0, vR X b), (1, .int p1)] [] M := by
  refine V_aload_n C 0 dX7_wearOf_0 rfl ?_
  refine V_getR C FL_RX7_7 (f7_0 hb) dX7_wearOf_1 ?_
  refine V_bipush C 6 dX7_wearOf_4 (by decide) ?_
  refine V_iald C (k7_1 hb) (vp_lit (by decide)) dX7_wearOf_6 ?_
  refine V_aload_n C 0 dX7_wearOf_7 rfl ?_
  refine V_getR C FL_RX7_7 (f7_0 hb) dX7_wearOf_8 ?_
  refine V_iconst C 2 dX7_wearOf_11 (by decide) ?_
  refine V_iload_n C 1 dX7_wearOf_12 rfl ?_
  refine V_bipush C 8 dX7_wearOf_13 (by decide) ?_
  refine V_irem C dX7_wearOf_15 (by decide) ?_
  refine V_iconst C 2 dX7_wearOf_16 (by decide) ?_
  refine V_idiv C dX7_wearOf_17 (by decide) ?_
  refine V_aload_n C 0 dX7_wearOf_18 rfl ?_
  refine V_getR C FL_RX7_7 (f7_0 hb) dX7_wearOf_19 ?_
  refine V_bipush C 7 dX7_wearOf_22 (by decide) ?_
  refine V_iald C (k7_1 hb) (vp_lit (by decide)) dX7_wearOf_24 ?_
  refine V_iadd C dX7_wearOf_25 ?_
  refine V_iconst C 4 dX7_wearOf_26 (by decide) ?_
  refine V_irem C dX7_wearOf_27 (by decide) ?_
  refine V_iadd C dX7_wearOf_28 ?_
  obtain ⟨b1, h⟩ := h
  refine V_iald C (k7_1 hb) b1 dX7_wearOf_29 ?_
  refine V_imul C dX7_wearOf_30 ?_
  exact V_iret C dX7_wearOf_31 (hQ _ h)
set_option maxRecDepth 20000 in
set_option maxHeartbeats 1000000 in
theorem c_X7_wearOf {w : wU} {l : Launch} {b : Nat} {p1 : Int32} {M : mM} {Q : Int32 → Prop} (hb : isC w 7 b) (h : p_X7_wearOf b p1 M Q) : CT w l 0 yX7_wearOf cX7_wearOf 2 (some .int) [.ref (uA w b), .int p1] M (poI M Q) := by
  refine CT.of (by decide +kernel) (Nat.le_of_ble_eq_true rfl) (fun X hw hH hl hP hN C => ?_)
  subst hw
  exact s_X7_wearOf C hH hN (fun r q => by rw [hP]; exact ⟨rfl, r, rfl, q⟩) hb h
set_option maxRecDepth 20000 in
set_option maxHeartbeats 1000000 in
theorem s_X7_thick {X : wX} (C : CX X cX7_thick RX7 (some .int)) (hH : xH X = 1) (hN : xN X = 2) {b : Nat} {p1 : Int32} {M : mM} {Q : Int32 → Prop} (hQ : ∀ r, Q r → xPo X (some (.int r)) M) (hb : isC (xW X) 7 b)   (h : p_X7_thick b p1 M Q) : V X 0 [(0, vR X b), (1, .int p1)] [] M := by
  refine V_iload_n C 1 dX7_thick_0 rfl ?_
  refine V_iconst C (-1) dX7_thick_1 (by decide) ?_
  refine V_icmp_ne (tgt := 9) C dX7_thick_2 (by decide) (fun hc => ?_) (fun hc => ?_)
  · have h := h.1 hc
    refine V_aload_n C 0 dX7_thick_9 rfl ?_
    refine V_iload_n C 1 dX7_thick_10 rfl ?_
    refine V_iconst C 0 dX7_thick_11 (by decide) ?_
    refine V_callV (As := [.int p1, .int 0]) (st := []) C (c_X7_ofStuff hb h) Y_X7_ofStuff Z_X7_ofStuff (T := TX7) (N := 21) rfl (o7 hb) (ltN hH (by decide)) u_301 rfl rfl (Nat.le_of_ble_eq_true rfl) dX7_thick_12 ?_
    rintro v9 M9 ⟨rfl, r1, rfl, h⟩
    show V X 15 _ [.int r1] M
    exact V_iret C dX7_thick_15 (hQ _ h)
  · have h := h.2 hc
    refine V_iconst C 0 dX7_thick_5 (by decide) ?_
    refine V_goto (tgt := 15) C dX7_thick_6 (by decide) ?_
    exact V_iret C dX7_thick_15 (hQ _ h)
set_option maxRecDepth 20000 in
set_option maxHeartbeats 1000000 in
theorem c_X7_thick {w : wU} {l : Launch} {b : Nat} {p1 : Int32} {M : mM} {Q : Int32 → Prop} (hb : isC w 7 b) (h : p_X7_thick b p1 M Q) : CT w l 1 yX7_thick cX7_thick 2 (some .int) [.ref (uA w b), .int p1] M (poI M Q) := by
  refine CT.of (by decide +kernel) (Nat.le_of_ble_eq_true rfl) (fun X hw hH hl hP hN C => ?_)
  subst hw
  exact s_X7_thick C hH hN (fun r q => by rw [hP]; exact ⟨rfl, r, rfl, q⟩) hb h
set_option maxRecDepth 20000 in
set_option maxHeartbeats 1000000 in
theorem s_X7_leftOf_J76 {X : wX} (C : CX X cX7_leftOf RX7 (some .int)) (hH : xH X = 2) (hN : xN X = 8) {b : Nat} {p1 : Int32} {p2 : Int32} {p3 : Int32} {M : mM} {Q : Int32 → Prop} (hQ : ∀ r, Q r → xPo X (some (.int r)) M) (hb : isC (xW X) 7 b) {s0 : Int32}  (h : p_X7_leftOf_J76 b p1 p2 p3 Q  s0 M) : V X 76 [] [.int s0] M := by
  refine V_istore (lv' := [(7, .int s0)]) C (ltN hN (by decide)) dX7_leftOf_76 rfl ?_
  refine V_iload C 0 dX7_leftOf_78 rfl ?_
  refine V_if_le (tgt := 88) C dX7_leftOf_80 (by decide) (fun hc => ?_) (fun hc => ?_)
  · have h := h.1 hc
    refine V_iconst C 0 dX7_leftOf_88 (by decide) ?_
    exact V_iret C dX7_leftOf_89 (hQ _ h)
  · have h := h.2 hc
    refine V_iload C 0 dX7_leftOf_83 rfl ?_
    refine V_goto (tgt := 89) C dX7_leftOf_85 (by decide) ?_
    exact V_iret C dX7_leftOf_89 (hQ _ h)
set_option maxRecDepth 20000 in
set_option maxHeartbeats 1000000 in
theorem s_X7_leftOf {X : wX} (C : CX X cX7_leftOf RX7 (some .int)) (hH : xH X = 2) (hN : xN X = 8) {b : Nat} {p1 : Int32} {p2 : Int32} {p3 : Int32} {M : mM} {Q : Int32 → Prop} (hQ : ∀ r, Q r → xPo X (some (.int r)) M) (hb : isC (xW X) 7 b)   (h : p_X7_leftOf b p1 p2 p3 M Q) : V X 0 [(0, vR X b), (1, .int p1), (2, .int p2), (3, .int p3)] [] M := by
  refine V_aload_n C 0 dX7_leftOf_0 rfl ?_
  refine V_iload_n C 2 dX7_leftOf_1 rfl ?_
  refine V_callS (As := [.int p2]) (st := [vR X b]) C (c_X7_overOf  h) Y_X7_overOf Z_X7_overOf (ltN hH (by decide)) u_299 rfl rfl (Nat.le_of_ble_eq_true rfl) dX7_leftOf_2 ?_
  rintro v9 M9 ⟨rfl, r1, rfl, h⟩
  show V X 5 _ [.int r1, vR X b] M
  refine V_callV (As := [.int r1]) (st := []) C (c_X7_thick hb h) Y_X7_thick Z_X7_thick (T := TX7) (N := 21) rfl (o7 hb) (ltN hH (by decide)) u_303 rfl rfl (Nat.le_of_ble_eq_true rfl) dX7_leftOf_5 ?_
  rintro v9 M9 ⟨rfl, r2, rfl, h⟩
  show V X 8 _ [.int r2] M
  refine V_istore (lv' := [(4, .int r2), (0, vR X b), (1, .int p1), (2, .int p2), (3, .int p3)]) C (ltN hN (by decide)) dX7_leftOf_8 rfl ?_
  refine V_aload_n C 1 dX7_leftOf_10 rfl ?_
  refine V_iload_n C 3 dX7_leftOf_11 rfl ?_
  refine V_callS (As := [.int p2]) (st := [vR X b]) C (c_X7_groundOf  h) Y_X7_groundOf Z_X7_groundOf (ltN hH (by decide)) u_300 rfl rfl (Nat.le_of_ble_eq_true rfl) dX7_leftOf_12 ?_
  rintro v9 M9 ⟨rfl, r3, rfl, h⟩
  show V X 15 _ [.int r3, vR X b] M
  refine V_callV (As := [.int r3]) (st := []) C (c_X7_thick hb h) Y_X7_thick Z_X7_thick (T := TX7) (N := 21) rfl (o7 hb) (ltN hH (by decide)) u_303 rfl rfl (Nat.le_of_ble_eq_true rfl) dX7_leftOf_15 ?_
  rintro v9 M9 ⟨rfl, r4, rfl, h⟩
  show V X 18 _ [.int r4] M
  refine V_istore (lv' := [(5, .int r4), (4, .int r2), (0, vR X b), (1, .int p1), (2, .int p2), (3, .int p3)]) C (ltN hN (by decide)) dX7_leftOf_18 rfl ?_
  refine V_aload_n C 2 dX7_leftOf_20 rfl ?_
  refine V_iload_n C 3 dX7_leftOf_21 rfl ?_
  refine V_callV (As := [.int p1]) (st := []) C (c_X7_wearOf hb h) Y_X7_wearOf Z_X7_wearOf (T := TX7) (N := 21) rfl (o7 hb) (ltN hH (by decide)) u_302 rfl rfl (Nat.le_of_ble_eq_true rfl) dX7_leftOf_22 ?_
  rintro v9 M9 ⟨rfl, r5, rfl, h⟩
  show V X 25 _ [.int r5] M
  refine V_istore (lv' := [(6, .int r5), (5, .int r4), (4, .int r2), (0, vR X b), (1, .int p1), (2, .int p2), (3, .int p3)]) C (ltN hN (by decide)) dX7_leftOf_25 rfl ?_
  refine V_iload_n C 6 dX7_leftOf_27 rfl ?_
  refine V_iconst C 1 dX7_leftOf_28 (by decide) ?_
  refine V_icmp_ne (tgt := 40) C dX7_leftOf_29 (by decide) (fun hc => ?_) (fun hc => ?_)
  · have h := h.1 hc
    refine V_iload_n C 6 dX7_leftOf_40 rfl ?_
    refine V_iconst C 2 dX7_leftOf_41 (by decide) ?_
    refine V_icmp_ne (tgt := 56) C dX7_leftOf_42 (by decide) (fun hc => ?_) (fun hc => ?_)
    · have h := h.1 hc
      refine V_iload C 0 dX7_leftOf_56 rfl ?_
      refine V_iload C 2 dX7_leftOf_58 rfl ?_
      refine V_icmp_ge (tgt := 68) C dX7_leftOf_60 (by decide) (fun hc => ?_) (fun hc => ?_)
      · have h := h.1 hc
        refine V_iload C 1 dX7_leftOf_68 rfl ?_
        refine V_iload C 2 dX7_leftOf_70 rfl ?_
        refine V_iadd C dX7_leftOf_72 ?_
        refine V_iload C 0 dX7_leftOf_73 rfl ?_
        refine V_isub C dX7_leftOf_75 ?_
        exact V_sub [] rfl (s_X7_leftOf_J76 C hH hN hQ hb   h)
      · have h := h.2 hc
        refine V_iload C 1 dX7_leftOf_63 rfl ?_
        refine V_goto (tgt := 76) C dX7_leftOf_65 (by decide) ?_
        exact V_sub [] rfl (s_X7_leftOf_J76 C hH hN hQ hb   h)
    · have h := h.2 hc
      refine V_iload C 0 dX7_leftOf_45 rfl ?_
      refine V_iload C 2 dX7_leftOf_47 rfl ?_
      refine V_isub C dX7_leftOf_49 ?_
      refine V_iload C 1 dX7_leftOf_50 rfl ?_
      refine V_isub C dX7_leftOf_52 ?_
      refine V_goto (tgt := 76) C dX7_leftOf_53 (by decide) ?_
      exact V_sub [] rfl (s_X7_leftOf_J76 C hH hN hQ hb   h)
  · have h := h.2 hc
    refine V_iload C 2 dX7_leftOf_32 rfl ?_
    refine V_iload C 0 dX7_leftOf_34 rfl ?_
    refine V_isub C dX7_leftOf_36 ?_
    refine V_goto (tgt := 76) C dX7_leftOf_37 (by decide) ?_
    exact V_sub [] rfl (s_X7_leftOf_J76 C hH hN hQ hb   h)
set_option maxRecDepth 20000 in
set_option maxHeartbeats 1000000 in
theorem c_X7_leftOf {w : wU} {l : Launch} {b : Nat} {p1 : Int32} {p2 : Int32} {p3 : Int32} {M : mM} {Q : Int32 → Prop} (hb : isC w 7 b) (h : p_X7_leftOf b p1 p2 p3 M Q) : CT w l 2 yX7_leftOf cX7_leftOf 8 (some .int) [.ref (uA w b), .int p1, .int p2, .int p3] M (poI M Q) := by
  refine CT.of (by decide +kernel) (Nat.le_of_ble_eq_true rfl) (fun X hw hH hl hP hN C => ?_)
  subst hw
  exact s_X7_leftOf C hH hN (fun r q => by rw [hP]; exact ⟨rfl, r, rfl, q⟩) hb h
set_option maxRecDepth 20000 in
set_option maxHeartbeats 1000000 in
theorem s_X7_isBright_J55 {X : wX} (C : CX X cX7_isBright RX7 (some .boolean)) (hH : xH X = 3) (hN : xN X = 7) {b : Nat} {p1 : Int32} {p2 : Int32} {p3 : Int32} {M : mM} {Q : Int32 → Prop} (hQ : ∀ r, Q r → xPo X (some (.int r)) M) (hb : isC (xW X) 7 b) {v5 : Int32} {s0 : Int32}  (h : p_X7_isBright_J55 b p1 p2 p3 Q  v5 s0 M) : V X 55 [(0, vR X b), (1, .int p1), (2, .int p2), (3, .int p3), (5, .int v5)] [.int s0] M := by
  refine V_istore (lv' := [(6, .int s0), (0, vR X b), (1, .int p1), (2, .int p2), (3, .int p3), (5, .int v5)]) C (ltN hN (by decide)) dX7_isBright_55 rfl ?_
  refine V_iload C 0 dX7_isBright_57 rfl ?_
  refine V_if_ne (tgt := 100) C dX7_isBright_59 (by decide) (fun hc => ?_) (fun hc => ?_)
  · have h := h.1 hc
    refine V_iconst C 1 dX7_isBright_100 (by decide) ?_
    refine V_goto (tgt := 105) C dX7_isBright_101 (by decide) ?_
    exact V_zret C rfl (by decide) dX7_isBright_105 (hQ _ h)
  · have h := h.2 hc
    refine V_iload C 5 dX7_isBright_62 rfl ?_
    refine V_iconst C (-1) dX7_isBright_64 (by decide) ?_
    refine V_icmp_eq (tgt := 104) C dX7_isBright_65 (by decide) (fun hc => ?_) (fun hc => ?_)
    · have h := h.1 hc
      refine V_iconst C 0 dX7_isBright_104 (by decide) ?_
      exact V_zret C rfl (by decide) dX7_isBright_105 (hQ _ h)
    · have h := h.2 hc
      refine V_aload_n C 1 dX7_isBright_68 rfl ?_
      refine V_iload_n C 2 dX7_isBright_69 rfl ?_
      refine V_iload_n C 3 dX7_isBright_70 rfl ?_
      refine V_iconst C 1 dX7_isBright_71 (by decide) ?_
      refine V_callV (As := [.int p1, .int p2, .int 1]) (st := []) C (c_X7_leftOf hb h) Y_X7_leftOf Z_X7_leftOf (T := TX7) (N := 21) rfl (o7 hb) (ltN hH (by decide)) u_304 rfl rfl (Nat.le_of_ble_eq_true rfl) dX7_isBright_72 ?_
      rintro v9 M9 ⟨rfl, r3, rfl, h⟩
      show V X 75 _ [.int r3] M
      refine V_aload_n C 1 dX7_isBright_75 rfl ?_
      refine V_iload C 5 dX7_isBright_76 rfl ?_
      refine V_iconst C 3 dX7_isBright_78 (by decide) ?_
      refine V_callV (As := [.int v5, .int 3]) (st := [.int r3]) C (c_X7_ofStuff hb h) Y_X7_ofStuff Z_X7_ofStuff (T := TX7) (N := 21) rfl (o7 hb) (ltN hH (by decide)) u_301 rfl rfl (Nat.le_of_ble_eq_true rfl) dX7_isBright_79 ?_
      rintro v9 M9 ⟨rfl, r4, rfl, h⟩
      show V X 82 _ [.int r4, .int r3] M
      refine V_icmp_lt (tgt := 104) C dX7_isBright_82 (by decide) (fun hc => ?_) (fun hc => ?_)
      · have h := h.1 hc
        refine V_iconst C 0 dX7_isBright_104 (by decide) ?_
        exact V_zret C rfl (by decide) dX7_isBright_105 (hQ _ h)
      · have h := h.2 hc
        refine V_aload_n C 1 dX7_isBright_85 rfl ?_
        refine V_iload C 5 dX7_isBright_86 rfl ?_
        refine V_iconst C 2 dX7_isBright_88 (by decide) ?_
        refine V_callV (As := [.int v5, .int 2]) (st := []) C (c_X7_ofStuff hb h) Y_X7_ofStuff Z_X7_ofStuff (T := TX7) (N := 21) rfl (o7 hb) (ltN hH (by decide)) u_301 rfl rfl (Nat.le_of_ble_eq_true rfl) dX7_isBright_89 ?_
        rintro v9 M9 ⟨rfl, r5, rfl, h⟩
        show V X 92 _ [.int r5] M
        refine V_iload_n C 4 dX7_isBright_92 rfl ?_
        refine V_ishr C dX7_isBright_93 ?_
        refine V_iconst C 1 dX7_isBright_94 (by decide) ?_
        refine V_iand C dX7_isBright_95 ?_
        refine V_iconst C 1 dX7_isBright_96 (by decide) ?_
        refine V_icmp_ne (tgt := 104) C dX7_isBright_97 (by decide) (fun hc => ?_) (fun hc => ?_)
        · have h := h.1 hc
          refine V_iconst C 0 dX7_isBright_104 (by decide) ?_
          exact V_zret C rfl (by decide) dX7_isBright_105 (hQ _ h)
        · have h := h.2 hc
          refine V_iconst C 1 dX7_isBright_100 (by decide) ?_
          refine V_goto (tgt := 105) C dX7_isBright_101 (by decide) ?_
          exact V_zret C rfl (by decide) dX7_isBright_105 (hQ _ h)
set_option maxRecDepth 20000 in
set_option maxHeartbeats 1000000 in
theorem s_X7_isBright_J54 {X : wX} (C : CX X cX7_isBright RX7 (some .boolean)) (hH : xH X = 3) (hN : xN X = 7) {b : Nat} {p1 : Int32} {p2 : Int32} {p3 : Int32} {M : mM} {Q : Int32 → Prop} (hQ : ∀ r, Q r → xPo X (some (.int r)) M) (hb : isC (xW X) 7 b) {v5 : Int32}  (h : p_X7_isBright_J54 b p1 p2 p3 Q  v5 M) : V X 54 [(0, vR X b), (1, .int p1), (2, .int p2), (3, .int p3), (5, .int v5)] [] M := by
  refine V_iconst C 0 dX7_isBright_54 (by decide) ?_
  exact V_sub [0, 1, 2, 3, 4] rfl (s_X7_isBright_J55 C hH hN hQ hb   h)
set_option maxRecDepth 20000 in
set_option maxHeartbeats 1000000 in
theorem s_X7_isBright {X : wX} (C : CX X cX7_isBright RX7 (some .boolean)) (hH : xH X = 3) (hN : xN X = 7) {b : Nat} {p1 : Int32} {p2 : Int32} {p3 : Int32} {M : mM} {Q : Int32 → Prop} (hQ : ∀ r, Q r → xPo X (some (.int r)) M) (hb : isC (xW X) 7 b)   (h : p_X7_isBright b p1 p2 p3 M Q) : V X 0 [(0, vR X b), (1, .int p1), (2, .int p2), (3, .int p3)] [] M := by
  refine V_iload_n C 2 dX7_isBright_0 rfl ?_
  refine V_callS (As := [.int p2]) (st := []) C (c_X7_groundOf  h) Y_X7_groundOf Z_X7_groundOf (ltN hH (by decide)) u_300 rfl rfl (Nat.le_of_ble_eq_true rfl) dX7_isBright_1 ?_
  rintro v9 M9 ⟨rfl, r1, rfl, h⟩
  show V X 4 _ [.int r1] M
  refine V_istore (lv' := [(4, .int r1), (0, vR X b), (1, .int p1), (2, .int p2), (3, .int p3)]) C (ltN hN (by decide)) dX7_isBright_4 rfl ?_
  refine V_iload_n C 3 dX7_isBright_6 rfl ?_
  refine V_callS (As := [.int p2]) (st := []) C (c_X7_overOf  h) Y_X7_overOf Z_X7_overOf (ltN hH (by decide)) u_299 rfl rfl (Nat.le_of_ble_eq_true rfl) dX7_isBright_7 ?_
  rintro v9 M9 ⟨rfl, r2, rfl, h⟩
  show V X 10 _ [.int r2] M
  refine V_istore (lv' := [(5, .int r2), (4, .int r1), (0, vR X b), (1, .int p1), (2, .int p2), (3, .int p3)]) C (ltN hN (by decide)) dX7_isBright_10 rfl ?_
  refine V_iload C 1 dX7_isBright_12 rfl ?_
  refine V_iconst C (-1) dX7_isBright_14 (by decide) ?_
  refine V_icmp_eq (tgt := 54) C dX7_isBright_15 (by decide) (fun hc => ?_) (fun hc => ?_)
  · have h := h.1 hc
    exact V_sub [2, 3, 4, 5, 0] rfl (s_X7_isBright_J54 C hH hN hQ hb   h)
  · have h := h.2 hc
    refine V_aload_n C 2 dX7_isBright_18 rfl ?_
    refine V_iload_n C 3 dX7_isBright_19 rfl ?_
    refine V_iload_n C 4 dX7_isBright_20 rfl ?_
    refine V_iconst C 0 dX7_isBright_21 (by decide) ?_
    refine V_callV (As := [.int p1, .int p2, .int 0]) (st := []) C (c_X7_leftOf hb h) Y_X7_leftOf Z_X7_leftOf (T := TX7) (N := 21) rfl (o7 hb) (ltN hH (by decide)) u_304 rfl rfl (Nat.le_of_ble_eq_true rfl) dX7_isBright_22 ?_
    rintro v9 M9 ⟨rfl, r6, rfl, h⟩
    show V X 25 _ [.int r6] M
    refine V_aload_n C 2 dX7_isBright_25 rfl ?_
    refine V_iload C 1 dX7_isBright_26 rfl ?_
    refine V_iconst C 3 dX7_isBright_28 (by decide) ?_
    refine V_callV (As := [.int r1, .int 3]) (st := [.int r6]) C (c_X7_ofStuff hb h) Y_X7_ofStuff Z_X7_ofStuff (T := TX7) (N := 21) rfl (o7 hb) (ltN hH (by decide)) u_301 rfl rfl (Nat.le_of_ble_eq_true rfl) dX7_isBright_29 ?_
    rintro v9 M9 ⟨rfl, r7, rfl, h⟩
    show V X 32 _ [.int r7, .int r6] M
    refine V_icmp_lt (tgt := 54) C dX7_isBright_32 (by decide) (fun hc => ?_) (fun hc => ?_)
    · have h := h.1 hc
      exact V_sub [2, 3, 4, 5, 0] rfl (s_X7_isBright_J54 C hH hN hQ hb   h)
    · have h := h.2 hc
      refine V_aload_n C 2 dX7_isBright_35 rfl ?_
      refine V_iload C 1 dX7_isBright_36 rfl ?_
      refine V_iconst C 2 dX7_isBright_38 (by decide) ?_
      refine V_callV (As := [.int r1, .int 2]) (st := []) C (c_X7_ofStuff hb h) Y_X7_ofStuff Z_X7_ofStuff (T := TX7) (N := 21) rfl (o7 hb) (ltN hH (by decide)) u_301 rfl rfl (Nat.le_of_ble_eq_true rfl) dX7_isBright_39 ?_
      rintro v9 M9 ⟨rfl, r8, rfl, h⟩
      show V X 42 _ [.int r8] M
      refine V_iload_n C 5 dX7_isBright_42 rfl ?_
      refine V_ishr C dX7_isBright_43 ?_
      refine V_iconst C 1 dX7_isBright_44 (by decide) ?_
      refine V_iand C dX7_isBright_45 ?_
      refine V_iconst C 1 dX7_isBright_46 (by decide) ?_
      refine V_icmp_ne (tgt := 54) C dX7_isBright_47 (by decide) (fun hc => ?_) (fun hc => ?_)
      · have h := h.1 hc
        exact V_sub [2, 3, 4, 5, 0] rfl (s_X7_isBright_J54 C hH hN hQ hb   h)
      · have h := h.2 hc
        refine V_iconst C 1 dX7_isBright_50 (by decide) ?_
        refine V_goto (tgt := 55) C dX7_isBright_51 (by decide) ?_
        exact V_sub [2, 3, 4, 5, 0] rfl (s_X7_isBright_J55 C hH hN hQ hb   h)
set_option maxRecDepth 20000 in
set_option maxHeartbeats 1000000 in
theorem c_X7_isBright {w : wU} {l : Launch} {b : Nat} {p1 : Int32} {p2 : Int32} {p3 : Int32} {M : mM} {Q : Int32 → Prop} (hb : isC w 7 b) (h : p_X7_isBright b p1 p2 p3 M Q) : CT w l 3 yX7_isBright cX7_isBright 7 (some .boolean) [.ref (uA w b), .int p1, .int p2, .int p3] M (poI M Q) := by
  refine CT.of (by decide +kernel) (Nat.le_of_ble_eq_true rfl) (fun X hw hH hl hP hN C => ?_)
  subst hw
  exact s_X7_isBright C hH hN (fun r q => by rw [hP]; exact ⟨rfl, r, rfl, q⟩) hb h
set_option maxRecDepth 20000 in
set_option maxHeartbeats 1000000 in
theorem s_X7_isSo_J75 {X : wX} (C : CX X cX7_isSo RX7 (some .boolean)) (hH : xH X = 4) (hN : xN X = 5) {b : Nat} {p1 : Int32} {p2 : Int32} {p3 : Int32} {M : mM} {Q : Int32 → Prop} (hQ : ∀ r, Q r → xPo X (some (.int r)) M) (hb : isC (xW X) 7 b) {v4 : Int32}  (h : p_X7_isSo_J75 b p1 p2 p3 Q  v4 M) : V X 75 [(0, vR X b), (2, .int p2), (3, .int p3), (4, .int v4)] [] M := by
  refine V_iload_n C 2 dX7_isSo_75 rfl ?_
  refine V_callS (As := [.int p3]) (st := []) C (c_X7_overOf  h) Y_X7_overOf Z_X7_overOf (ltN hH (by decide)) u_299 rfl rfl (Nat.le_of_ble_eq_true rfl) dX7_isSo_76 ?_
  rintro v9 M9 ⟨rfl, r4, rfl, h⟩
  show V X 79 _ [.int r4] M
  refine V_iload C 3 dX7_isSo_79 rfl ?_
  refine V_icmp_ne (tgt := 98) C dX7_isSo_81 (by decide) (fun hc => ?_) (fun hc => ?_)
  · have h := h.1 hc
    refine V_iconst C 0 dX7_isSo_98 (by decide) ?_
    exact V_zret C rfl (by decide) dX7_isSo_99 (hQ _ h)
  · have h := h.2 hc
    refine V_aload_n C 0 dX7_isSo_84 rfl ?_
    refine V_iload_n C 1 dX7_isSo_85 rfl ?_
    refine V_iload_n C 2 dX7_isSo_86 rfl ?_
    refine V_iconst C 1 dX7_isSo_87 (by decide) ?_
    refine V_callV (As := [.int p2, .int p3, .int 1]) (st := []) C (c_X7_leftOf hb h) Y_X7_leftOf Z_X7_leftOf (T := TX7) (N := 21) rfl (o7 hb) (ltN hH (by decide)) u_304 rfl rfl (Nat.le_of_ble_eq_true rfl) dX7_isSo_88 ?_
    rintro v9 M9 ⟨rfl, r5, rfl, h⟩
    show V X 91 _ [.int r5] M
    refine V_if_le (tgt := 98) C dX7_isSo_91 (by decide) (fun hc => ?_) (fun hc => ?_)
    · have h := h.1 hc
      refine V_iconst C 0 dX7_isSo_98 (by decide) ?_
      exact V_zret C rfl (by decide) dX7_isSo_99 (hQ _ h)
    · have h := h.2 hc
      refine V_iconst C 1 dX7_isSo_94 (by decide) ?_
      refine V_goto (tgt := 99) C dX7_isSo_95 (by decide) ?_
      exact V_zret C rfl (by decide) dX7_isSo_99 (hQ _ h)
set_option maxRecDepth 20000 in
set_option maxHeartbeats 1000000 in
theorem s_X7_isSo {X : wX} (C : CX X cX7_isSo RX7 (some .boolean)) (hH : xH X = 4) (hN : xN X = 5) {b : Nat} {p1 : Int32} {p2 : Int32} {p3 : Int32} {M : mM} {Q : Int32 → Prop} (hQ : ∀ r, Q r → xPo X (some (.int r)) M) (hb : isC (xW X) 7 b)   (h : p_X7_isSo b p1 p2 p3 M Q) : V X 0 [(0, vR X b), (1, .int p1), (2, .int p2), (3, .int p3)] [] M := by
  refine V_aload_n C 0 dX7_isSo_0 rfl ?_
  refine V_iload_n C 1 dX7_isSo_1 rfl ?_
  refine V_iconst C 2 dX7_isSo_2 (by decide) ?_
  refine V_callV (As := [.int p1, .int 2]) (st := []) C (c_X7_ofTrace hb h) Y_X7_ofTrace Z_X7_ofTrace (T := TX7) (N := 21) rfl (o7 hb) (ltN hH (by decide)) u_258 rfl rfl (Nat.le_of_ble_eq_true rfl) dX7_isSo_3 ?_
  rintro v9 M9 ⟨rfl, r1, rfl, h⟩
  show V X 6 _ [.int r1] M
  refine V_istore (lv' := [(4, .int r1), (0, vR X b), (1, .int p1), (2, .int p2), (3, .int p3)]) C (ltN hN (by decide)) dX7_isSo_6 rfl ?_
  refine V_aload_n C 1 dX7_isSo_8 rfl ?_
  refine V_iload_n C 2 dX7_isSo_9 rfl ?_
  refine V_iconst C 1 dX7_isSo_10 (by decide) ?_
  refine V_callV (As := [.int p1, .int 1]) (st := []) C (c_X7_ofTrace hb h) Y_X7_ofTrace Z_X7_ofTrace (T := TX7) (N := 21) rfl (o7 hb) (ltN hH (by decide)) u_258 rfl rfl (Nat.le_of_ble_eq_true rfl) dX7_isSo_11 ?_
  rintro v9 M9 ⟨rfl, r2, rfl, h⟩
  show V X 14 _ [.int r2] M
  by_cases n0 : r2 = 0
  · have h := h.1 n0
    refine V_tsw (tgt := 56) C dX7_isSo_14 (42) (by rw [n0]; decide) (by rw [n0]; decide) (by rw [n0]; decide) (by decide) ?_
    refine V_iload_n C 4 dX7_isSo_56 rfl ?_
    refine V_callS (As := [.int p3]) (st := []) C (c_X7_groundOf  h) Y_X7_groundOf Z_X7_groundOf (ltN hH (by decide)) u_300 rfl rfl (Nat.le_of_ble_eq_true rfl) dX7_isSo_57 ?_
    rintro v9 M9 ⟨rfl, r3, rfl, h⟩
    show V X 60 _ [.int r3] M
    refine V_iload C 0 dX7_isSo_60 rfl ?_
    refine V_icmp_ne (tgt := 75) C dX7_isSo_62 (by decide) (fun hc => ?_) (fun hc => ?_)
    · have h := h.1 hc
      exact V_sub [1, 3, 4, 0] rfl (s_X7_isSo_J75 C hH hN hQ hb   h)
    · have h := h.2 hc
      refine V_aload_n C 1 dX7_isSo_65 rfl ?_
      refine V_iload_n C 3 dX7_isSo_66 rfl ?_
      refine V_iload_n C 4 dX7_isSo_67 rfl ?_
      refine V_iconst C 0 dX7_isSo_68 (by decide) ?_
      refine V_callV (As := [.int p2, .int p3, .int 0]) (st := []) C (c_X7_leftOf hb h) Y_X7_leftOf Z_X7_leftOf (T := TX7) (N := 21) rfl (o7 hb) (ltN hH (by decide)) u_304 rfl rfl (Nat.le_of_ble_eq_true rfl) dX7_isSo_69 ?_
      rintro v9 M9 ⟨rfl, r6, rfl, h⟩
      show V X 72 _ [.int r6] M
      refine V_if_gt (tgt := 94) C dX7_isSo_72 (by decide) (fun hc => ?_) (fun hc => ?_)
      · have h := h.1 hc
        refine V_iconst C 1 dX7_isSo_94 (by decide) ?_
        refine V_goto (tgt := 99) C dX7_isSo_95 (by decide) ?_
        exact V_zret C rfl (by decide) dX7_isSo_99 (hQ _ h)
      · have h := h.2 hc
        exact V_sub [1, 3, 4, 0] rfl (s_X7_isSo_J75 C hH hN hQ hb   h)
  by_cases n1 : r2 = 1
  · have h := h.2.1 n1
    refine V_tsw (tgt := 100) C dX7_isSo_14 (86) (by rw [n1]; decide) (by rw [n1]; decide) (by rw [n1]; decide) (by decide) ?_
    refine V_aload_n C 1 dX7_isSo_100 rfl ?_
    refine V_iload_n C 3 dX7_isSo_101 rfl ?_
    refine V_iload_n C 4 dX7_isSo_102 rfl ?_
    refine V_iload C 0 dX7_isSo_103 rfl ?_
    refine V_callV (As := [.int p2, .int p3, .int r1]) (st := []) C (c_X7_isBright hb h) Y_X7_isBright Z_X7_isBright (T := TX7) (N := 21) rfl (o7 hb) (ltN hH (by decide)) u_305 rfl rfl (Nat.le_of_ble_eq_true rfl) dX7_isSo_105 ?_
    rintro v9 M9 ⟨rfl, r7, rfl, h⟩
    show V X 108 _ [.int r7] M
    exact V_zret C rfl h.1 dX7_isSo_108 (hQ _ h.2)
  by_cases n2 : r2 = 2
  · have h := h.2.2.1 n2
    refine V_tsw (tgt := 109) C dX7_isSo_14 (95) (by rw [n2]; decide) (by rw [n2]; decide) (by rw [n2]; decide) (by decide) ?_
    refine V_aload_n C 1 dX7_isSo_109 rfl ?_
    refine V_iload_n C 3 dX7_isSo_110 rfl ?_
    refine V_iload_n C 4 dX7_isSo_111 rfl ?_
    refine V_iload C 0 dX7_isSo_112 rfl ?_
    refine V_callV (As := [.int p2, .int p3, .int r1]) (st := []) C (c_X7_isBright hb h) Y_X7_isBright Z_X7_isBright (T := TX7) (N := 21) rfl (o7 hb) (ltN hH (by decide)) u_305 rfl rfl (Nat.le_of_ble_eq_true rfl) dX7_isSo_114 ?_
    rintro v9 M9 ⟨rfl, r8, rfl, h⟩
    show V X 117 _ [.int r8] M
    refine V_if_ne (tgt := 124) C dX7_isSo_117 (by decide) (fun hc => ?_) (fun hc => ?_)
    · have h := h.1 hc
      refine V_iconst C 0 dX7_isSo_124 (by decide) ?_
      exact V_zret C rfl (by decide) dX7_isSo_125 (hQ _ h)
    · have h := h.2 hc
      refine V_iconst C 1 dX7_isSo_120 (by decide) ?_
      refine V_goto (tgt := 125) C dX7_isSo_121 (by decide) ?_
      exact V_zret C rfl (by decide) dX7_isSo_125 (hQ _ h)
  by_cases n3 : r2 = 3
  · have h := h.2.2.2.1 n3
    refine V_tsw (tgt := 126) C dX7_isSo_14 (112) (by rw [n3]; decide) (by rw [n3]; decide) (by rw [n3]; decide) (by decide) ?_
    refine V_aload_n C 1 dX7_isSo_126 rfl ?_
    refine V_iload_n C 3 dX7_isSo_127 rfl ?_
    refine V_iload_n C 4 dX7_isSo_128 rfl ?_
    refine V_iconst C 2 dX7_isSo_129 (by decide) ?_
    refine V_callV (As := [.int p2, .int p3, .int 2]) (st := []) C (c_X7_leftOf hb h) Y_X7_leftOf Z_X7_leftOf (T := TX7) (N := 21) rfl (o7 hb) (ltN hH (by decide)) u_304 rfl rfl (Nat.le_of_ble_eq_true rfl) dX7_isSo_130 ?_
    rintro v9 M9 ⟨rfl, r9, rfl, h⟩
    show V X 133 _ [.int r9] M
    refine V_iload C 0 dX7_isSo_133 rfl ?_
    refine V_icmp_gt (tgt := 142) C dX7_isSo_135 (by decide) (fun hc => ?_) (fun hc => ?_)
    · have h := h.1 hc
      refine V_iconst C 0 dX7_isSo_142 (by decide) ?_
      exact V_zret C rfl (by decide) dX7_isSo_143 (hQ _ h)
    · have h := h.2 hc
      refine V_iconst C 1 dX7_isSo_138 (by decide) ?_
      refine V_goto (tgt := 143) C dX7_isSo_139 (by decide) ?_
      exact V_zret C rfl (by decide) dX7_isSo_143 (hQ _ h)
  by_cases n4 : r2 = 4
  · have h := h.2.2.2.2.1 n4
    refine V_tsw (tgt := 144) C dX7_isSo_14 (130) (by rw [n4]; decide) (by rw [n4]; decide) (by rw [n4]; decide) (by decide) ?_
    refine V_aload_n C 1 dX7_isSo_144 rfl ?_
    refine V_iload_n C 3 dX7_isSo_145 rfl ?_
    refine V_iload_n C 4 dX7_isSo_146 rfl ?_
    refine V_iconst C 2 dX7_isSo_147 (by decide) ?_
    refine V_callV (As := [.int p2, .int p3, .int 2]) (st := []) C (c_X7_leftOf hb h) Y_X7_leftOf Z_X7_leftOf (T := TX7) (N := 21) rfl (o7 hb) (ltN hH (by decide)) u_304 rfl rfl (Nat.le_of_ble_eq_true rfl) dX7_isSo_148 ?_
    rintro v9 M9 ⟨rfl, r10, rfl, h⟩
    show V X 151 _ [.int r10] M
    refine V_iload C 0 dX7_isSo_151 rfl ?_
    refine V_icmp_lt (tgt := 160) C dX7_isSo_153 (by decide) (fun hc => ?_) (fun hc => ?_)
    · have h := h.1 hc
      refine V_iconst C 0 dX7_isSo_160 (by decide) ?_
      exact V_zret C rfl (by decide) dX7_isSo_161 (hQ _ h)
    · have h := h.2 hc
      refine V_iconst C 1 dX7_isSo_156 (by decide) ?_
      refine V_goto (tgt := 161) C dX7_isSo_157 (by decide) ?_
      exact V_zret C rfl (by decide) dX7_isSo_161 (hQ _ h)
  by_cases n5 : r2 = 5
  · have h := h.2.2.2.2.2.1 n5
    refine V_tsw (tgt := 172) C dX7_isSo_14 (158) (by rw [n5]; decide) (by rw [n5]; decide) (by rw [n5]; decide) (by decide) ?_
    refine V_iconst C 1 dX7_isSo_172 (by decide) ?_
    exact V_zret C rfl (by decide) dX7_isSo_173 (hQ _ h)
  by_cases n6 : r2 = 6
  · have h := h.2.2.2.2.2.2.1 n6
    refine V_tsw (tgt := 162) C dX7_isSo_14 (148) (by rw [n6]; decide) (by rw [n6]; decide) (by rw [n6]; decide) (by decide) ?_
    refine V_iload_n C 4 dX7_isSo_162 rfl ?_
    refine V_if_eq (tgt := 170) C dX7_isSo_163 (by decide) (fun hc => ?_) (fun hc => ?_)
    · have h := h.1 hc
      refine V_iconst C 0 dX7_isSo_170 (by decide) ?_
      exact V_zret C rfl (by decide) dX7_isSo_171 (hQ _ h)
    · have h := h.2 hc
      refine V_iconst C 1 dX7_isSo_166 (by decide) ?_
      refine V_goto (tgt := 171) C dX7_isSo_167 (by decide) ?_
      exact V_zret C rfl (by decide) dX7_isSo_171 (hQ _ h)
  have h := h.2.2.2.2.2.2.2 n0 n1 n2 n3 n4 n5 n6
  refine V_tswOut (tgt := 172) C dX7_isSo_14 (by have q0 : r2.toInt ≠ 0 := fun e => n0 (Int32.toInt_inj.mp (e.trans (by decide))); have q1 : r2.toInt ≠ 1 := fun e => n1 (Int32.toInt_inj.mp (e.trans (by decide))); have q2 : r2.toInt ≠ 2 := fun e => n2 (Int32.toInt_inj.mp (e.trans (by decide))); have q3 : r2.toInt ≠ 3 := fun e => n3 (Int32.toInt_inj.mp (e.trans (by decide))); have q4 : r2.toInt ≠ 4 := fun e => n4 (Int32.toInt_inj.mp (e.trans (by decide))); have q5 : r2.toInt ≠ 5 := fun e => n5 (Int32.toInt_inj.mp (e.trans (by decide))); have q6 : r2.toInt ≠ 6 := fun e => n6 (Int32.toInt_inj.mp (e.trans (by decide))); omega) (by decide) ?_
  refine V_iconst C 1 dX7_isSo_172 (by decide) ?_
  exact V_zret C rfl (by decide) dX7_isSo_173 (hQ _ h)
set_option maxRecDepth 20000 in
set_option maxHeartbeats 1000000 in
theorem c_X7_isSo {w : wU} {l : Launch} {b : Nat} {p1 : Int32} {p2 : Int32} {p3 : Int32} {M : mM} {Q : Int32 → Prop} (hb : isC w 7 b) (h : p_X7_isSo b p1 p2 p3 M Q) : CT w l 4 yX7_isSo cX7_isSo 5 (some .boolean) [.ref (uA w b), .int p1, .int p2, .int p3] M (poI M Q) := by
  refine CT.of (by decide +kernel) (Nat.le_of_ble_eq_true rfl) (fun X hw hH hl hP hN C => ?_)
  subst hw
  exact s_X7_isSo C hH hN (fun r q => by rw [hP]; exact ⟨rfl, r, rfl, q⟩) hb h
set_option maxRecDepth 20000 in
set_option maxHeartbeats 1000000 in
theorem s_X7_isLooked {X : wX} (C : CX X cX7_isLooked RX7 (some .boolean)) (hH : xH X = 1) (hN : xN X = 3) {b : Nat} {p1 : Int32} {p2 : Int32} {M : mM} {Q : Int32 → Prop} (hQ : ∀ r, Q r → xPo X (some (.int r)) M) (hb : isC (xW X) 7 b)   (h : p_X7_isLooked b p1 p2 M Q) : V X 0 [(0, vR X b), (1, .int p1), (2, .int p2)] [] M := by
  refine V_aload_n C 0 dX7_isLooked_0 rfl ?_
  refine V_iload_n C 1 dX7_isLooked_1 rfl ?_
  refine V_iconst C 3 dX7_isLooked_2 (by decide) ?_
  refine V_callV (As := [.int p1, .int 3]) (st := []) C (c_X7_ofTrace hb h) Y_X7_ofTrace Z_X7_ofTrace (T := TX7) (N := 21) rfl (o7 hb) (ltN hH (by decide)) u_258 rfl rfl (Nat.le_of_ble_eq_true rfl) dX7_isLooked_3 ?_
  rintro v9 M9 ⟨rfl, r1, rfl, h⟩
  show V X 6 _ [.int r1] M
  refine V_if_ne (tgt := 21) C dX7_isLooked_6 (by decide) (fun hc => ?_) (fun hc => ?_)
  · have h := h.1 hc
    refine V_iconst C 0 dX7_isLooked_21 (by decide) ?_
    exact V_zret C rfl (by decide) dX7_isLooked_22 (hQ _ h)
  · have h := h.2 hc
    refine V_iload_n C 2 dX7_isLooked_9 rfl ?_
    refine V_iload_n C 1 dX7_isLooked_10 rfl ?_
    refine V_ishr C dX7_isLooked_11 ?_
    refine V_iconst C 1 dX7_isLooked_12 (by decide) ?_
    refine V_iand C dX7_isLooked_13 ?_
    refine V_if_ne (tgt := 21) C dX7_isLooked_14 (by decide) (fun hc => ?_) (fun hc => ?_)
    · have h := h.1 hc
      refine V_iconst C 0 dX7_isLooked_21 (by decide) ?_
      exact V_zret C rfl (by decide) dX7_isLooked_22 (hQ _ h)
    · have h := h.2 hc
      refine V_iconst C 1 dX7_isLooked_17 (by decide) ?_
      refine V_goto (tgt := 22) C dX7_isLooked_18 (by decide) ?_
      exact V_zret C rfl (by decide) dX7_isLooked_22 (hQ _ h)
set_option maxRecDepth 20000 in
set_option maxHeartbeats 1000000 in
theorem c_X7_isLooked {w : wU} {l : Launch} {b : Nat} {p1 : Int32} {p2 : Int32} {M : mM} {Q : Int32 → Prop} (hb : isC w 7 b) (h : p_X7_isLooked b p1 p2 M Q) : CT w l 1 yX7_isLooked cX7_isLooked 3 (some .boolean) [.ref (uA w b), .int p1, .int p2] M (poI M Q) := by
  refine CT.of (by decide +kernel) (Nat.le_of_ble_eq_true rfl) (fun X hw hH hl hP hN C => ?_)
  subst hw
  exact s_X7_isLooked C hH hN (fun r q => by rw [hP]; exact ⟨rfl, r, rfl, q⟩) hb h
set_option maxRecDepth 20000 in
set_option maxHeartbeats 1000000 in
theorem s_X7_isFit_F10 {X : wX} (C : CX X cX7_isFit RX7 (some .boolean)) (hH : xH X = 5) (hN : xN X = 6) {b : Nat} {p1 : Int32} {p2 : Int32} {p3 : Int32} {M : mM} {Q : Int32 → Prop} (hQ : ∀ r, Q r → xPo X (some (.int r)) M) (hb : isC (xW X) 7 b) {v4 : Int32} {v5 : Int32} {ag10 : (Int32 × Int32) → Prop} (hag10 : ∀ s, ag10 s → V X 10 [(0, vR X b), (1, .int p1), (2, .int p2), (3, .int p3), (4, .int (s.1)), (5, .int (s.2))] [] M) (h : p_X7_isFit_F10 b p1 p2 p3  M Q  ag10 v4 v5) : V X 10 [(0, vR X b), (1, .int p1), (2, .int p2), (3, .int p3), (4, .int v4), (5, .int v5)] [] M := by
  refine V_iload C 5 dX7_isFit_10 rfl ?_
  refine V_aload_n C 0 dX7_isFit_12 rfl ?_
  refine V_getR C FL_RX7_7 (f7_0 hb) dX7_isFit_13 ?_
  refine V_iconst C 1 dX7_isFit_16 (by decide) ?_
  refine V_iald C (k7_1 hb) (vp_lit (by decide)) dX7_isFit_17 ?_
  refine V_icmp_ge (tgt := 71) C dX7_isFit_18 (by decide) (fun hc => ?_) (fun hc => ?_)
  · have h := h.1 hc
    refine V_iload C 4 dX7_isFit_71 rfl ?_
    exact V_zret C rfl h.1 dX7_isFit_73 (hQ _ h.2)
  · have h := h.2 hc
    refine V_iload C 4 dX7_isFit_21 rfl ?_
    refine V_if_eq (tgt := 71) C dX7_isFit_23 (by decide) (fun hc => ?_) (fun hc => ?_)
    · have h := h.1 hc
      refine V_iload C 4 dX7_isFit_71 rfl ?_
      exact V_zret C rfl h.1 dX7_isFit_73 (hQ _ h.2)
    · have h := h.2 hc
      refine V_aload_n C 0 dX7_isFit_26 rfl ?_
      refine V_iload C 5 dX7_isFit_27 rfl ?_
      refine V_iconst C 0 dX7_isFit_29 (by decide) ?_
      refine V_callV (As := [.int v5, .int 0]) (st := []) C (c_X7_ofTrace hb h) Y_X7_ofTrace Z_X7_ofTrace (T := TX7) (N := 21) rfl (o7 hb) (ltN hH (by decide)) u_258 rfl rfl (Nat.le_of_ble_eq_true rfl) dX7_isFit_30 ?_
      rintro v9 M9 ⟨rfl, r2, rfl, h⟩
      show V X 33 _ [.int r2] M
      refine V_iload_n C 1 dX7_isFit_33 rfl ?_
      refine V_icmp_ne (tgt := 58) C dX7_isFit_34 (by decide) (fun hc => ?_) (fun hc => ?_)
      · have h := h.1 hc
        refine V_iconst C 1 dX7_isFit_58 (by decide) ?_
        refine V_goto (tgt := 63) C dX7_isFit_59 (by decide) ?_
        refine V_istore (lv' := [(4, .int 1), (0, vR X b), (1, .int p1), (2, .int p2), (3, .int p3), (5, .int v5)]) C (ltN hN (by decide)) dX7_isFit_63 rfl ?_
        refine V_iinc (v := (v5 + 1)) (lv' := [(5, .int (v5 + 1)), (4, .int 1), (0, vR X b), (1, .int p1), (2, .int p2), (3, .int p3)]) C 5 (ltN hN (by decide)) dX7_isFit_65 rfl rfl rfl ?_
        refine V_goto (tgt := 10) C dX7_isFit_68 (by decide) ?_
        exact V_sub [2, 3, 4, 5, 1, 0] rfl (hag10 ((1 : Int32), (v5 + 1)) h)
      · have h := h.2 hc
        refine V_aload_n C 0 dX7_isFit_37 rfl ?_
        refine V_iload C 5 dX7_isFit_38 rfl ?_
        refine V_iload_n C 3 dX7_isFit_40 rfl ?_
        refine V_callV (As := [.int v5, .int p3]) (st := []) C (c_X7_isLooked hb h) Y_X7_isLooked Z_X7_isLooked (T := TX7) (N := 21) rfl (o7 hb) (ltN hH (by decide)) u_307 rfl rfl (Nat.le_of_ble_eq_true rfl) dX7_isFit_41 ?_
        rintro v9 M9 ⟨rfl, r3, rfl, h⟩
        show V X 44 _ [.int r3] M
        refine V_if_eq (tgt := 58) C dX7_isFit_44 (by decide) (fun hc => ?_) (fun hc => ?_)
        · have h := h.1 hc
          refine V_iconst C 1 dX7_isFit_58 (by decide) ?_
          refine V_goto (tgt := 63) C dX7_isFit_59 (by decide) ?_
          refine V_istore (lv' := [(4, .int 1), (0, vR X b), (1, .int p1), (2, .int p2), (3, .int p3), (5, .int v5)]) C (ltN hN (by decide)) dX7_isFit_63 rfl ?_
          refine V_iinc (v := (v5 + 1)) (lv' := [(5, .int (v5 + 1)), (4, .int 1), (0, vR X b), (1, .int p1), (2, .int p2), (3, .int p3)]) C 5 (ltN hN (by decide)) dX7_isFit_65 rfl rfl rfl ?_
          refine V_goto (tgt := 10) C dX7_isFit_68 (by decide) ?_
          exact V_sub [2, 3, 4, 5, 1, 0] rfl (hag10 ((1 : Int32), (v5 + 1)) h)
        · have h := h.2 hc
          refine V_aload_n C 0 dX7_isFit_47 rfl ?_
          refine V_iload C 5 dX7_isFit_48 rfl ?_
          refine V_iload_n C 1 dX7_isFit_50 rfl ?_
          refine V_iload_n C 2 dX7_isFit_51 rfl ?_
          refine V_callV (As := [.int v5, .int p1, .int p2]) (st := []) C (c_X7_isSo hb h) Y_X7_isSo Z_X7_isSo (T := TX7) (N := 21) rfl (o7 hb) (ltN hH (by decide)) u_306 rfl rfl (Nat.le_of_ble_eq_true rfl) dX7_isFit_52 ?_
          rintro v9 M9 ⟨rfl, r4, rfl, h⟩
          show V X 55 _ [.int r4] M
          refine V_if_eq (tgt := 62) C dX7_isFit_55 (by decide) (fun hc => ?_) (fun hc => ?_)
          · have h := h.1 hc
            refine V_iconst C 0 dX7_isFit_62 (by decide) ?_
            refine V_istore (lv' := [(4, .int 0), (0, vR X b), (1, .int p1), (2, .int p2), (3, .int p3), (5, .int v5)]) C (ltN hN (by decide)) dX7_isFit_63 rfl ?_
            refine V_iinc (v := (v5 + 1)) (lv' := [(5, .int (v5 + 1)), (4, .int 0), (0, vR X b), (1, .int p1), (2, .int p2), (3, .int p3)]) C 5 (ltN hN (by decide)) dX7_isFit_65 rfl rfl rfl ?_
            refine V_goto (tgt := 10) C dX7_isFit_68 (by decide) ?_
            exact V_sub [2, 3, 4, 5, 1, 0] rfl (hag10 ((0 : Int32), (v5 + 1)) h)
          · have h := h.2 hc
            refine V_iconst C 1 dX7_isFit_58 (by decide) ?_
            refine V_goto (tgt := 63) C dX7_isFit_59 (by decide) ?_
            refine V_istore (lv' := [(4, .int 1), (0, vR X b), (1, .int p1), (2, .int p2), (3, .int p3), (5, .int v5)]) C (ltN hN (by decide)) dX7_isFit_63 rfl ?_
            refine V_iinc (v := (v5 + 1)) (lv' := [(5, .int (v5 + 1)), (4, .int 1), (0, vR X b), (1, .int p1), (2, .int p2), (3, .int p3)]) C 5 (ltN hN (by decide)) dX7_isFit_65 rfl rfl rfl ?_
            refine V_goto (tgt := 10) C dX7_isFit_68 (by decide) ?_
            exact V_sub [2, 3, 4, 5, 1, 0] rfl (hag10 ((1 : Int32), (v5 + 1)) h)
set_option maxRecDepth 20000 in
set_option maxHeartbeats 1000000 in
theorem s_X7_isFit {X : wX} (C : CX X cX7_isFit RX7 (some .boolean)) (hH : xH X = 5) (hN : xN X = 6) {b : Nat} {p1 : Int32} {p2 : Int32} {p3 : Int32} {M : mM} {Q : Int32 → Prop} (hQ : ∀ r, Q r → xPo X (some (.int r)) M) (hb : isC (xW X) 7 b)   (h : p_X7_isFit b p1 p2 p3 M Q) : V X 0 [(0, vR X b), (1, .int p1), (2, .int p2), (3, .int p3)] [] M := by
  refine V_aload_n C 0 dX7_isFit_0 rfl ?_
  refine V_iload_n C 2 dX7_isFit_1 rfl ?_
  refine V_callV (As := [.int p2]) (st := []) C (c_X7_isStack hb h) Y_X7_isStack Z_X7_isStack (T := TX7) (N := 21) rfl (o7 hb) (ltN hH (by decide)) u_308 rfl rfl (Nat.le_of_ble_eq_true rfl) dX7_isFit_2 ?_
  rintro v9 M9 ⟨rfl, r1, rfl, h⟩
  show V X 5 _ [.int r1] M
  refine V_istore (lv' := [(4, .int r1), (0, vR X b), (1, .int p1), (2, .int p2), (3, .int p3)]) C (ltN hN (by decide)) dX7_isFit_5 rfl ?_
  refine V_iconst C 0 dX7_isFit_7 (by decide) ?_
  refine V_istore (lv' := [(5, .int 0), (4, .int r1), (0, vR X b), (1, .int p1), (2, .int p2), (3, .int p3)]) C (ltN hN (by decide)) dX7_isFit_8 rfl ?_
  refine V_sub [2, 3, 4, 5, 1, 0] rfl ?_
  exact Loop.sound (s0 := (r1, (0 : Int32))) (P := fun s => V X 10 [(0, vR X b), (1, .int p1), (2, .int p2), (3, .int p3), (4, .int (s.1)), (5, .int (s.2))] [] M) h (fun ag hag s hs => s_X7_isFit_F10 C hH hN hQ hb  hag hs)
set_option maxRecDepth 20000 in
set_option maxHeartbeats 1000000 in
theorem c_X7_isFit {w : wU} {l : Launch} {b : Nat} {p1 : Int32} {p2 : Int32} {p3 : Int32} {M : mM} {Q : Int32 → Prop} (hb : isC w 7 b) (h : p_X7_isFit b p1 p2 p3 M Q) : CT w l 5 yX7_isFit cX7_isFit 6 (some .boolean) [.ref (uA w b), .int p1, .int p2, .int p3] M (poI M Q) := by
  refine CT.of (by decide +kernel) (Nat.le_of_ble_eq_true rfl) (fun X hw hH hl hP hN C => ?_)
  subst hw
  exact s_X7_isFit C hH hN (fun r q => by rw [hP]; exact ⟨rfl, r, rfl, q⟩) hb h
set_option maxRecDepth 20000 in
set_option maxHeartbeats 1000000 in
theorem s_X7_left {X : wX} (C : CX X cX7_left RX7 (some .int)) (hH : xH X = 3) (hN : xN X = 4) {b : Nat} {p1 : Int32} {p2 : Int32} {p3 : Int32} {M : mM} {Q : Int32 → mM → Prop} (hQ : ∀ r M, Q r M → xPo X (some (.int r)) M) (hb : isC (xW X) 7 b)   (h : p_X7_left b p1 p2 p3 M Q) : V X 0 [(0, vR X b), (1, .int p1), (2, .int p2), (3, .int p3)] [] M := by
  refine V_iload_n C 1 dX7_left_0 rfl ?_
  refine V_callS (As := [.int p1]) (st := []) C (c_X7_isCell  h) Y_X7_isCell Z_X7_isCell (ltN hH (by decide)) u_256 rfl rfl (Nat.le_of_ble_eq_true rfl) dX7_left_1 ?_
  rintro v9 M9 ⟨rfl, r1, rfl, h⟩
  show V X 4 _ [.int r1] M
  refine V_if_eq (tgt := 37) C dX7_left_4 (by decide) (fun hc => ?_) (fun hc => ?_)
  · have h := h.1 hc
    refine V_aload_n C 0 dX7_left_37 rfl ?_
    refine V_callV (As := []) (st := []) C (c_X7_bad hb h) Y_X7_bad Z_X7_bad (T := TX7) (N := 21) rfl (o7 hb) (ltN hH (by decide)) u_242 rfl rfl (Nat.le_of_ble_eq_true rfl) dX7_left_38 ?_
    rintro v9 M2 ⟨r3, rfl, h⟩
    show V X 41 _ [.int r3] M2
    exact V_iret C dX7_left_41 (hQ _ _ h)
  · have h := h.2 hc
    refine V_aload_n C 0 dX7_left_7 rfl ?_
    refine V_iload_n C 2 dX7_left_8 rfl ?_
    refine V_callV (As := [.int p2]) (st := []) C (c_X7_isStack hb h) Y_X7_isStack Z_X7_isStack (T := TX7) (N := 21) rfl (o7 hb) (ltN hH (by decide)) u_308 rfl rfl (Nat.le_of_ble_eq_true rfl) dX7_left_9 ?_
    rintro v9 M9 ⟨rfl, r4, rfl, h⟩
    show V X 12 _ [.int r4] M
    refine V_if_eq (tgt := 37) C dX7_left_12 (by decide) (fun hc => ?_) (fun hc => ?_)
    · have h := h.1 hc
      refine V_aload_n C 0 dX7_left_37 rfl ?_
      refine V_callV (As := []) (st := []) C (c_X7_bad hb h) Y_X7_bad Z_X7_bad (T := TX7) (N := 21) rfl (o7 hb) (ltN hH (by decide)) u_242 rfl rfl (Nat.le_of_ble_eq_true rfl) dX7_left_38 ?_
      rintro v9 M5 ⟨r6, rfl, h⟩
      show V X 41 _ [.int r6] M5
      exact V_iret C dX7_left_41 (hQ _ _ h)
    · have h := h.2 hc
      refine V_iload_n C 3 dX7_left_15 rfl ?_
      refine V_i2l C dX7_left_16 ?_
      refine V_lconst C 0 dX7_left_17 (by decide) ?_
      refine V_ldc2 C u_309 dX7_left_18 ?_
      refine V_callS (As := [.long (p3.toInt64), .long 0, .long 2]) (st := []) C (c_X7_in  h) Y_X7_in Z_X7_in (ltN hH (by decide)) u_243 rfl rfl (Nat.le_of_ble_eq_true rfl) dX7_left_21 ?_
      rintro v9 M9 ⟨rfl, r7, rfl, h⟩
      show V X 24 _ [.int r7] M
      refine V_if_eq (tgt := 37) C dX7_left_24 (by decide) (fun hc => ?_) (fun hc => ?_)
      · have h := h.1 hc
        refine V_aload_n C 0 dX7_left_37 rfl ?_
        refine V_callV (As := []) (st := []) C (c_X7_bad hb h) Y_X7_bad Z_X7_bad (T := TX7) (N := 21) rfl (o7 hb) (ltN hH (by decide)) u_242 rfl rfl (Nat.le_of_ble_eq_true rfl) dX7_left_38 ?_
        rintro v9 M8 ⟨r9, rfl, h⟩
        show V X 41 _ [.int r9] M8
        exact V_iret C dX7_left_41 (hQ _ _ h)
      · have h := h.2 hc
        refine V_aload_n C 0 dX7_left_27 rfl ?_
        refine V_iload_n C 1 dX7_left_28 rfl ?_
        refine V_iload_n C 2 dX7_left_29 rfl ?_
        refine V_iload_n C 3 dX7_left_30 rfl ?_
        refine V_callV (As := [.int p1, .int p2, .int p3]) (st := []) C (c_X7_leftOf hb h) Y_X7_leftOf Z_X7_leftOf (T := TX7) (N := 21) rfl (o7 hb) (ltN hH (by decide)) u_304 rfl rfl (Nat.le_of_ble_eq_true rfl) dX7_left_31 ?_
        rintro v9 M9 ⟨rfl, r10, rfl, h⟩
        show V X 34 _ [.int r10] M
        refine V_goto (tgt := 41) C dX7_left_34 (by decide) ?_
        exact V_iret C dX7_left_41 (hQ _ _ h)
set_option maxRecDepth 20000 in
set_option maxHeartbeats 1000000 in
theorem c_X7_left {w : wU} {l : Launch} {b : Nat} {p1 : Int32} {p2 : Int32} {p3 : Int32} {M : mM} {Q : Int32 → mM → Prop} (hb : isC w 7 b) (h : p_X7_left b p1 p2 p3 M Q) : CT w l 3 yX7_left cX7_left 4 (some .int) [.ref (uA w b), .int p1, .int p2, .int p3] M (piI Q) := by
  refine CT.of (by decide +kernel) (Nat.le_of_ble_eq_true rfl) (fun X hw hH hl hP hN C => ?_)
  subst hw
  exact s_X7_left C hH hN (fun r M1 q => by rw [hP]; exact ⟨r, rfl, q⟩) hb h
set_option maxRecDepth 20000 in
set_option maxHeartbeats 1000000 in
theorem s_X7_shines {X : wX} (C : CX X cX7_shines RX7 (some .int)) (hH : xH X = 4) (hN : xN X = 4) {b : Nat} {p1 : Int32} {p2 : Int32} {p3 : Int32} {M : mM} {Q : Int32 → mM → Prop} (hQ : ∀ r M, Q r M → xPo X (some (.int r)) M) (hb : isC (xW X) 7 b)   (h : p_X7_shines b p1 p2 p3 M Q) : V X 0 [(0, vR X b), (1, .int p1), (2, .int p2), (3, .int p3)] [] M := by
  refine V_iload_n C 1 dX7_shines_0 rfl ?_
  refine V_callS (As := [.int p1]) (st := []) C (c_X7_isCell  h) Y_X7_isCell Z_X7_isCell (ltN hH (by decide)) u_256 rfl rfl (Nat.le_of_ble_eq_true rfl) dX7_shines_1 ?_
  rintro v9 M9 ⟨rfl, r1, rfl, h⟩
  show V X 4 _ [.int r1] M
  refine V_if_eq (tgt := 27) C dX7_shines_4 (by decide) (fun hc => ?_) (fun hc => ?_)
  · have h := h.1 hc
    refine V_aload_n C 0 dX7_shines_27 rfl ?_
    refine V_callV (As := []) (st := []) C (c_X7_bad hb h) Y_X7_bad Z_X7_bad (T := TX7) (N := 21) rfl (o7 hb) (ltN hH (by decide)) u_242 rfl rfl (Nat.le_of_ble_eq_true rfl) dX7_shines_28 ?_
    rintro v9 M2 ⟨r3, rfl, h⟩
    show V X 31 _ [.int r3] M2
    exact V_iret C dX7_shines_31 (hQ _ _ h)
  · have h := h.2 hc
    refine V_aload_n C 0 dX7_shines_7 rfl ?_
    refine V_iload_n C 2 dX7_shines_8 rfl ?_
    refine V_callV (As := [.int p2]) (st := []) C (c_X7_isStack hb h) Y_X7_isStack Z_X7_isStack (T := TX7) (N := 21) rfl (o7 hb) (ltN hH (by decide)) u_308 rfl rfl (Nat.le_of_ble_eq_true rfl) dX7_shines_9 ?_
    rintro v9 M9 ⟨rfl, r4, rfl, h⟩
    show V X 12 _ [.int r4] M
    refine V_if_eq (tgt := 27) C dX7_shines_12 (by decide) (fun hc => ?_) (fun hc => ?_)
    · have h := h.1 hc
      refine V_aload_n C 0 dX7_shines_27 rfl ?_
      refine V_callV (As := []) (st := []) C (c_X7_bad hb h) Y_X7_bad Z_X7_bad (T := TX7) (N := 21) rfl (o7 hb) (ltN hH (by decide)) u_242 rfl rfl (Nat.le_of_ble_eq_true rfl) dX7_shines_28 ?_
      rintro v9 M5 ⟨r6, rfl, h⟩
      show V X 31 _ [.int r6] M5
      exact V_iret C dX7_shines_31 (hQ _ _ h)
    · have h := h.2 hc
      refine V_iload_n C 3 dX7_shines_15 rfl ?_
      refine V_i2l C dX7_shines_16 ?_
      refine V_lconst C 0 dX7_shines_17 (by decide) ?_
      refine V_ldc2 C u_249 dX7_shines_18 ?_
      refine V_callS (As := [.long (p3.toInt64), .long 0, .long 3]) (st := []) C (c_X7_in  h) Y_X7_in Z_X7_in (ltN hH (by decide)) u_243 rfl rfl (Nat.le_of_ble_eq_true rfl) dX7_shines_21 ?_
      rintro v9 M9 ⟨rfl, r7, rfl, h⟩
      show V X 24 _ [.int r7] M
      refine V_if_ne (tgt := 32) C dX7_shines_24 (by decide) (fun hc => ?_) (fun hc => ?_)
      · have h := h.1 hc
        refine V_aload_n C 0 dX7_shines_32 rfl ?_
        refine V_iload_n C 1 dX7_shines_33 rfl ?_
        refine V_iload_n C 2 dX7_shines_34 rfl ?_
        refine V_iload_n C 3 dX7_shines_35 rfl ?_
        refine V_callV (As := [.int p1, .int p2, .int p3]) (st := []) C (c_X7_isBright hb h) Y_X7_isBright Z_X7_isBright (T := TX7) (N := 21) rfl (o7 hb) (ltN hH (by decide)) u_305 rfl rfl (Nat.le_of_ble_eq_true rfl) dX7_shines_36 ?_
        rintro v9 M9 ⟨rfl, r8, rfl, h⟩
        show V X 39 _ [.int r8] M
        refine V_if_eq (tgt := 46) C dX7_shines_39 (by decide) (fun hc => ?_) (fun hc => ?_)
        · have h := h.1 hc
          refine V_iconst C 0 dX7_shines_46 (by decide) ?_
          exact V_iret C dX7_shines_47 (hQ _ _ h)
        · have h := h.2 hc
          refine V_iconst C 1 dX7_shines_42 (by decide) ?_
          refine V_goto (tgt := 47) C dX7_shines_43 (by decide) ?_
          exact V_iret C dX7_shines_47 (hQ _ _ h)
      · have h := h.2 hc
        refine V_aload_n C 0 dX7_shines_27 rfl ?_
        refine V_callV (As := []) (st := []) C (c_X7_bad hb h) Y_X7_bad Z_X7_bad (T := TX7) (N := 21) rfl (o7 hb) (ltN hH (by decide)) u_242 rfl rfl (Nat.le_of_ble_eq_true rfl) dX7_shines_28 ?_
        rintro v9 M9 ⟨r10, rfl, h⟩
        show V X 31 _ [.int r10] M9
        exact V_iret C dX7_shines_31 (hQ _ _ h)
set_option maxRecDepth 20000 in
set_option maxHeartbeats 1000000 in
theorem c_X7_shines {w : wU} {l : Launch} {b : Nat} {p1 : Int32} {p2 : Int32} {p3 : Int32} {M : mM} {Q : Int32 → mM → Prop} (hb : isC w 7 b) (h : p_X7_shines b p1 p2 p3 M Q) : CT w l 4 yX7_shines cX7_shines 4 (some .int) [.ref (uA w b), .int p1, .int p2, .int p3] M (piI Q) := by
  refine CT.of (by decide +kernel) (Nat.le_of_ble_eq_true rfl) (fun X hw hH hl hP hN C => ?_)
  subst hw
  exact s_X7_shines C hH hN (fun r M1 q => by rw [hP]; exact ⟨r, rfl, q⟩) hb h
set_option maxRecDepth 20000 in
set_option maxHeartbeats 1000000 in
theorem s_X7_fits {X : wX} (C : CX X cX7_fits RX7 (some .int)) (hH : xH X = 6) (hN : xN X = 3) {b : Nat} {p1 : Int32} {p2 : Int32} {M : mM} {Q : Int32 → mM → Prop} (hQ : ∀ r M, Q r M → xPo X (some (.int r)) M) (hb : isC (xW X) 7 b)   (h : p_X7_fits b p1 p2 M Q) : V X 0 [(0, vR X b), (1, .int p1), (2, .int p2)] [] M := by
  refine V_iload_n C 1 dX7_fits_0 rfl ?_
  refine V_callS (As := [.int p1]) (st := []) C (c_X7_isCell  h) Y_X7_isCell Z_X7_isCell (ltN hH (by decide)) u_256 rfl rfl (Nat.le_of_ble_eq_true rfl) dX7_fits_1 ?_
  rintro v9 M9 ⟨rfl, r1, rfl, h⟩
  show V X 4 _ [.int r1] M
  refine V_if_eq (tgt := 15) C dX7_fits_4 (by decide) (fun hc => ?_) (fun hc => ?_)
  · have h := h.1 hc
    refine V_aload_n C 0 dX7_fits_15 rfl ?_
    refine V_callV (As := []) (st := []) C (c_X7_bad hb h) Y_X7_bad Z_X7_bad (T := TX7) (N := 21) rfl (o7 hb) (ltN hH (by decide)) u_242 rfl rfl (Nat.le_of_ble_eq_true rfl) dX7_fits_16 ?_
    rintro v9 M2 ⟨r3, rfl, h⟩
    show V X 19 _ [.int r3] M2
    exact V_iret C dX7_fits_19 (hQ _ _ h)
  · have h := h.2 hc
    refine V_aload_n C 0 dX7_fits_7 rfl ?_
    refine V_iload_n C 2 dX7_fits_8 rfl ?_
    refine V_callV (As := [.int p2]) (st := []) C (c_X7_isStack hb h) Y_X7_isStack Z_X7_isStack (T := TX7) (N := 21) rfl (o7 hb) (ltN hH (by decide)) u_308 rfl rfl (Nat.le_of_ble_eq_true rfl) dX7_fits_9 ?_
    rintro v9 M9 ⟨rfl, r4, rfl, h⟩
    show V X 12 _ [.int r4] M
    refine V_if_ne (tgt := 20) C dX7_fits_12 (by decide) (fun hc => ?_) (fun hc => ?_)
    · have h := h.1 hc
      refine V_aload_n C 0 dX7_fits_20 rfl ?_
      refine V_iload_n C 1 dX7_fits_21 rfl ?_
      refine V_iload_n C 2 dX7_fits_22 rfl ?_
      refine V_iconst C 0 dX7_fits_23 (by decide) ?_
      refine V_callV (As := [.int p1, .int p2, .int 0]) (st := []) C (c_X7_isFit hb h) Y_X7_isFit Z_X7_isFit (T := TX7) (N := 21) rfl (o7 hb) (ltN hH (by decide)) u_310 rfl rfl (Nat.le_of_ble_eq_true rfl) dX7_fits_24 ?_
      rintro v9 M9 ⟨rfl, r5, rfl, h⟩
      show V X 27 _ [.int r5] M
      refine V_if_eq (tgt := 34) C dX7_fits_27 (by decide) (fun hc => ?_) (fun hc => ?_)
      · have h := h.1 hc
        refine V_iconst C 0 dX7_fits_34 (by decide) ?_
        exact V_iret C dX7_fits_35 (hQ _ _ h)
      · have h := h.2 hc
        refine V_iconst C 1 dX7_fits_30 (by decide) ?_
        refine V_goto (tgt := 35) C dX7_fits_31 (by decide) ?_
        exact V_iret C dX7_fits_35 (hQ _ _ h)
    · have h := h.2 hc
      refine V_aload_n C 0 dX7_fits_15 rfl ?_
      refine V_callV (As := []) (st := []) C (c_X7_bad hb h) Y_X7_bad Z_X7_bad (T := TX7) (N := 21) rfl (o7 hb) (ltN hH (by decide)) u_242 rfl rfl (Nat.le_of_ble_eq_true rfl) dX7_fits_16 ?_
      rintro v9 M6 ⟨r7, rfl, h⟩
      show V X 19 _ [.int r7] M6
      exact V_iret C dX7_fits_19 (hQ _ _ h)
set_option maxRecDepth 20000 in
set_option maxHeartbeats 1000000 in
theorem c_X7_fits {w : wU} {l : Launch} {b : Nat} {p1 : Int32} {p2 : Int32} {M : mM} {Q : Int32 → mM → Prop} (hb : isC w 7 b) (h : p_X7_fits b p1 p2 M Q) : CT w l 6 yX7_fits cX7_fits 3 (some .int) [.ref (uA w b), .int p1, .int p2] M (piI Q) := by
  refine CT.of (by decide +kernel) (Nat.le_of_ble_eq_true rfl) (fun X hw hH hl hP hN C => ?_)
  subst hw
  exact s_X7_fits C hH hN (fun r M1 q => by rw [hP]; exact ⟨r, rfl, q⟩) hb h
set_option maxRecDepth 20000 in
set_option maxHeartbeats 1000000 in
theorem s_X7_looks_J161 {X : wX} (C : CX X cX7_looks RX7 (none)) (hH : xH X = 6) (hN : xN X = 6) {b : Nat} {p1 : Int32} {p2 : Int32} {M : mM} {Q : mM → Prop} (hQ : ∀ M, Q M → xPo X none M) (hb : isC (xW X) 7 b) {v3 : Int32} {v4 : Int32} {v5 : Int32} {s0 : Int32} {s1 : Int32} {ag2 : (Int32 × mM) → Prop} {ag117 : (Int32 × mM) → Prop} (hag2 : ∀ s, ag2 s → V X 2 [(0, vR X b), (1, .int p1), (2, .int p2), (3, .int (s.1))] [] (s.2)) (hag117 : ∀ s, ag117 s → V X 117 [(0, vR X b), (1, .int p1), (2, .int p2), (3, .int v3), (4, .int v4), (5, .int (s.1))] [] (s.2)) (h : p_X7_looks_J161 b p1 p2 Q ag2 ag117 v3 v4 v5 s0 s1 M) : V X 161 [(0, vR X b), (1, .int p1), (2, .int p2), (3, .int v3), (4, .int v4), (5, .int v5)] [.int s0, .int s1, vR X (b + 11)] M := by
  obtain ⟨b5, h⟩ := h
  refine V_iast C (k7_11 hb) b5 dX7_looks_161 ?_
  refine V_nmM (fun M4 e_M4 => ?_)
  have h := h M4 e_M4
  refine V_aload_n C 0 dX7_looks_162 rfl ?_
  refine V_getR C FL_RX7_44 (f7_18 hb) dX7_looks_163 ?_
  refine V_bipush C 21 dX7_looks_166 (by decide) ?_
  refine V_iload_n C 3 dX7_looks_168 rfl ?_
  refine V_imul C dX7_looks_169 ?_
  refine V_iload C 5 dX7_looks_170 rfl ?_
  refine V_iadd C dX7_looks_172 ?_
  refine V_aload_n C 0 dX7_looks_173 rfl ?_
  refine V_iload C 5 dX7_looks_174 rfl ?_
  refine V_callV (As := [.int v5]) (st := [.int ((21 * v3) + v5), vR X (b + 12)]) C (c_X7_isStack hb h) Y_X7_isStack Z_X7_isStack (T := TX7) (N := 21) rfl (o7 hb) (ltN hH (by decide)) u_308 rfl rfl (Nat.le_of_ble_eq_true rfl) dX7_looks_176 ?_
  rintro v9 M9 ⟨rfl, r6, rfl, h⟩
  show V X 179 _ [.int r6, .int ((21 * v3) + v5), vR X (b + 12)] M4
  refine V_if_eq (tgt := 194) C dX7_looks_179 (by decide) (fun hc => ?_) (fun hc => ?_)
  · have h := h.1 hc
    refine V_iconst C 0 dX7_looks_194 (by decide) ?_
    obtain ⟨b8, h⟩ := h
    refine V_iast C (k7_12 hb) b8 dX7_looks_195 ?_
    refine V_nmM (fun M7 e_M7 => ?_)
    have h := h M7 e_M7
    refine V_iinc (v := (v5 + 1)) (lv' := [(5, .int (v5 + 1)), (0, vR X b), (1, .int p1), (2, .int p2), (3, .int v3), (4, .int v4)]) C 5 (ltN hN (by decide)) dX7_looks_196 rfl rfl rfl ?_
    refine V_goto (tgt := 117) C dX7_looks_199 (by decide) ?_
    exact V_sub [1, 2, 3, 4, 5, 0] rfl (hag117 ((v5 + 1), M7) h)
  · have h := h.2 hc
    refine V_aload_n C 0 dX7_looks_182 rfl ?_
    refine V_iload C 4 dX7_looks_183 rfl ?_
    refine V_iload C 5 dX7_looks_185 rfl ?_
    refine V_iconst C 2 dX7_looks_187 (by decide) ?_
    refine V_callV (As := [.int v4, .int v5, .int 2]) (st := [.int ((21 * v3) + v5), vR X (b + 12)]) C (c_X7_leftOf hb h) Y_X7_leftOf Z_X7_leftOf (T := TX7) (N := 21) rfl (o7 hb) (ltN hH (by decide)) u_304 rfl rfl (Nat.le_of_ble_eq_true rfl) dX7_looks_188 ?_
    rintro v9 M9 ⟨rfl, r9, rfl, h⟩
    show V X 191 _ [.int r9, .int ((21 * v3) + v5), vR X (b + 12)] M4
    refine V_goto (tgt := 195) C dX7_looks_191 (by decide) ?_
    obtain ⟨b11, h⟩ := h
    refine V_iast C (k7_12 hb) b11 dX7_looks_195 ?_
    refine V_nmM (fun M10 e_M10 => ?_)
    have h := h M10 e_M10
    refine V_iinc (v := (v5 + 1)) (lv' := [(5, .int (v5 + 1)), (0, vR X b), (1, .int p1), (2, .int p2), (3, .int v3), (4, .int v4)]) C 5 (ltN hN (by decide)) dX7_looks_196 rfl rfl rfl ?_
    refine V_goto (tgt := 117) C dX7_looks_199 (by decide) ?_
    exact V_sub [1, 2, 3, 4, 5, 0] rfl (hag117 ((v5 + 1), M10) h)
set_option maxRecDepth 20000 in
set_option maxHeartbeats 1000000 in
theorem s_X7_looks_F117 {X : wX} (C : CX X cX7_looks RX7 (none)) (hH : xH X = 6) (hN : xN X = 6) {b : Nat} {p1 : Int32} {p2 : Int32} {M : mM} {Q : mM → Prop} (hQ : ∀ M, Q M → xPo X none M) (hb : isC (xW X) 7 b) {v3 : Int32} {v4 : Int32} {v5 : Int32} {ag2 : (Int32 × mM) → Prop} {ag117 : (Int32 × mM) → Prop} (hag2 : ∀ s, ag2 s → V X 2 [(0, vR X b), (1, .int p1), (2, .int p2), (3, .int (s.1))] [] (s.2)) (hag117 : ∀ s, ag117 s → V X 117 [(0, vR X b), (1, .int p1), (2, .int p2), (3, .int v3), (4, .int v4), (5, .int (s.1))] [] (s.2)) (h : p_X7_looks_F117 b p1 p2 v3 v4 Q ag2 ag117 v5 M) : V X 117 [(0, vR X b), (1, .int p1), (2, .int p2), (3, .int v3), (4, .int v4), (5, .int v5)] [] M := by
  refine V_iload C 5 dX7_looks_117 rfl ?_
  refine V_bipush C 21 dX7_looks_119 (by decide) ?_
  refine V_icmp_ge (tgt := 202) C dX7_looks_121 (by decide) (fun hc => ?_) (fun hc => ?_)
  · have h := h.1 hc
    refine V_iinc (v := (v3 + 1)) (lv' := [(3, .int (v3 + 1)), (0, vR X b), (1, .int p1), (2, .int p2), (4, .int v4), (5, .int v5)]) C 3 (ltN hN (by decide)) dX7_looks_202 rfl rfl rfl ?_
    refine V_goto (tgt := 2) C dX7_looks_205 (by decide) ?_
    exact V_sub [1, 2, 3, 0] rfl (hag2 ((v3 + 1), M) h)
  · have h := h.2 hc
    refine V_aload_n C 0 dX7_looks_124 rfl ?_
    refine V_getR C FL_RX7_41 (f7_17 hb) dX7_looks_125 ?_
    refine V_bipush C 21 dX7_looks_128 (by decide) ?_
    refine V_iload_n C 3 dX7_looks_130 rfl ?_
    refine V_imul C dX7_looks_131 ?_
    refine V_iload C 5 dX7_looks_132 rfl ?_
    refine V_iadd C dX7_looks_134 ?_
    refine V_aload_n C 0 dX7_looks_135 rfl ?_
    refine V_iload C 4 dX7_looks_136 rfl ?_
    refine V_iload C 5 dX7_looks_138 rfl ?_
    refine V_iload_n C 2 dX7_looks_140 rfl ?_
    refine V_callV (As := [.int v4, .int v5, .int p2]) (st := [.int ((21 * v3) + v5), vR X (b + 11)]) C (c_X7_isFit hb h) Y_X7_isFit Z_X7_isFit (T := TX7) (N := 21) rfl (o7 hb) (ltN hH (by decide)) u_310 rfl rfl (Nat.le_of_ble_eq_true rfl) dX7_looks_141 ?_
    rintro v9 M9 ⟨rfl, r3, rfl, h⟩
    show V X 144 _ [.int r3, .int ((21 * v3) + v5), vR X (b + 11)] M
    refine V_if_eq (tgt := 160) C dX7_looks_144 (by decide) (fun hc => ?_) (fun hc => ?_)
    · have h := h.1 hc
      refine V_iconst C 0 dX7_looks_160 (by decide) ?_
      exact V_sub [0, 1, 2, 3, 4, 5] rfl (s_X7_looks_J161 C hH hN hQ hb hag2 hag117  h)
    · have h := h.2 hc
      refine V_aload_n C 0 dX7_looks_147 rfl ?_
      refine V_getR C FL_RX7_7 (f7_0 hb) dX7_looks_148 ?_
      refine V_bipush C 10 dX7_looks_151 (by decide) ?_
      refine V_iload C 5 dX7_looks_153 rfl ?_
      refine V_iadd C dX7_looks_155 ?_
      obtain ⟨b12, h⟩ := h
      refine V_iald C (k7_1 hb) b12 dX7_looks_156 ?_
      refine V_goto (tgt := 161) C dX7_looks_157 (by decide) ?_
      exact V_sub [0, 1, 2, 3, 4, 5] rfl (s_X7_looks_J161 C hH hN hQ hb hag2 hag117  h)
set_option maxRecDepth 20000 in
set_option maxHeartbeats 1000000 in
theorem s_X7_looks_F26 {X : wX} (C : CX X cX7_looks RX7 (none)) (hH : xH X = 6) (hN : xN X = 6) {b : Nat} {p1 : Int32} {p2 : Int32} {M : mM} {Q : mM → Prop} (hQ : ∀ M, Q M → xPo X none M) (hb : isC (xW X) 7 b) {v3 : Int32} {v4 : Int32} {v5 : Int32} {ag2 : (Int32 × mM) → Prop} {ag26 : (Int32 × mM) → Prop} (hag2 : ∀ s, ag2 s → V X 2 [(0, vR X b), (1, .int p1), (2, .int p2), (3, .int (s.1))] [] (s.2)) (hag26 : ∀ s, ag26 s → V X 26 [(0, vR X b), (1, .int p1), (2, .int p2), (3, .int v3), (4, .int v4), (5, .int (s.1))] [] (s.2)) (h : p_X7_looks_F26 b p1 p2 v3 v4 Q ag2 ag26 v5 M) : V X 26 [(0, vR X b), (1, .int p1), (2, .int p2), (3, .int v3), (4, .int v4), (5, .int v5)] [] M := by
  refine V_iload C 5 dX7_looks_26 rfl ?_
  refine V_aload_n C 0 dX7_looks_28 rfl ?_
  refine V_getR C FL_RX7_7 (f7_0 hb) dX7_looks_29 ?_
  refine V_iconst C 1 dX7_looks_32 (by decide) ?_
  refine V_iald C (k7_1 hb) (vp_lit (by decide)) dX7_looks_33 ?_
  refine V_icmp_ge (tgt := 114) C dX7_looks_34 (by decide) (fun hc => ?_) (fun hc => ?_)
  · have h := h.1 hc
    refine V_iconst C 0 dX7_looks_114 (by decide) ?_
    refine V_istore (lv' := [(5, .int 0), (0, vR X b), (1, .int p1), (2, .int p2), (3, .int v3), (4, .int v4)]) C (ltN hN (by decide)) dX7_looks_115 rfl ?_
    refine V_sub [1, 2, 3, 4, 5, 0] rfl ?_
    exact Loop.sound (s0 := ((0 : Int32), M)) (P := fun s => V X 117 [(0, vR X b), (1, .int p1), (2, .int p2), (3, .int v3), (4, .int v4), (5, .int (s.1))] [] (s.2)) h (fun ag hag s hs => s_X7_looks_F117 C hH hN hQ hb hag2 hag hs)
  · have h := h.2 hc
    refine V_aload_n C 0 dX7_looks_37 rfl ?_
    refine V_iload C 5 dX7_looks_38 rfl ?_
    refine V_iconst C 0 dX7_looks_40 (by decide) ?_
    refine V_callV (As := [.int v5, .int 0]) (st := []) C (c_X7_ofTrace hb h) Y_X7_ofTrace Z_X7_ofTrace (T := TX7) (N := 21) rfl (o7 hb) (ltN hH (by decide)) u_258 rfl rfl (Nat.le_of_ble_eq_true rfl) dX7_looks_41 ?_
    rintro v9 M9 ⟨rfl, r13, rfl, h⟩
    show V X 44 _ [.int r13] M
    refine V_iload C 4 dX7_looks_44 rfl ?_
    refine V_icmp_ne (tgt := 108) C dX7_looks_46 (by decide) (fun hc => ?_) (fun hc => ?_)
    · have h := h.1 hc
      refine V_iinc (v := (v5 + 1)) (lv' := [(5, .int (v5 + 1)), (0, vR X b), (1, .int p1), (2, .int p2), (3, .int v3), (4, .int v4)]) C 5 (ltN hN (by decide)) dX7_looks_108 rfl rfl rfl ?_
      refine V_goto (tgt := 26) C dX7_looks_111 (by decide) ?_
      exact V_sub [1, 2, 3, 4, 5, 0] rfl (hag26 ((v5 + 1), M) h)
    · have h := h.2 hc
      refine V_aload_n C 0 dX7_looks_49 rfl ?_
      refine V_iload C 5 dX7_looks_50 rfl ?_
      refine V_iconst C 1 dX7_looks_52 (by decide) ?_
      refine V_callV (As := [.int v5, .int 1]) (st := []) C (c_X7_ofTrace hb h) Y_X7_ofTrace Z_X7_ofTrace (T := TX7) (N := 21) rfl (o7 hb) (ltN hH (by decide)) u_258 rfl rfl (Nat.le_of_ble_eq_true rfl) dX7_looks_53 ?_
      rintro v9 M9 ⟨rfl, r14, rfl, h⟩
      show V X 56 _ [.int r14] M
      refine V_iconst C 5 dX7_looks_56 (by decide) ?_
      refine V_icmp_ne (tgt := 108) C dX7_looks_57 (by decide) (fun hc => ?_) (fun hc => ?_)
      · have h := h.1 hc
        refine V_iinc (v := (v5 + 1)) (lv' := [(5, .int (v5 + 1)), (0, vR X b), (1, .int p1), (2, .int p2), (3, .int v3), (4, .int v4)]) C 5 (ltN hN (by decide)) dX7_looks_108 rfl rfl rfl ?_
        refine V_goto (tgt := 26) C dX7_looks_111 (by decide) ?_
        exact V_sub [1, 2, 3, 4, 5, 0] rfl (hag26 ((v5 + 1), M) h)
      · have h := h.2 hc
        refine V_aload_n C 0 dX7_looks_60 rfl ?_
        refine V_iload C 5 dX7_looks_61 rfl ?_
        refine V_iload_n C 2 dX7_looks_63 rfl ?_
        refine V_callV (As := [.int v5, .int p2]) (st := []) C (c_X7_isLooked hb h) Y_X7_isLooked Z_X7_isLooked (T := TX7) (N := 21) rfl (o7 hb) (ltN hH (by decide)) u_307 rfl rfl (Nat.le_of_ble_eq_true rfl) dX7_looks_64 ?_
        rintro v9 M9 ⟨rfl, r15, rfl, h⟩
        show V X 67 _ [.int r15] M
        refine V_if_eq (tgt := 108) C dX7_looks_67 (by decide) (fun hc => ?_) (fun hc => ?_)
        · have h := h.1 hc
          refine V_iinc (v := (v5 + 1)) (lv' := [(5, .int (v5 + 1)), (0, vR X b), (1, .int p1), (2, .int p2), (3, .int v3), (4, .int v4)]) C 5 (ltN hN (by decide)) dX7_looks_108 rfl rfl rfl ?_
          refine V_goto (tgt := 26) C dX7_looks_111 (by decide) ?_
          exact V_sub [1, 2, 3, 4, 5, 0] rfl (hag26 ((v5 + 1), M) h)
        · have h := h.2 hc
          refine V_aload_n C 0 dX7_looks_70 rfl ?_
          refine V_getR C FL_RX7_47 (f7_19 hb) dX7_looks_71 ?_
          refine V_iload_n C 3 dX7_looks_74 rfl ?_
          refine V_aload_n C 0 dX7_looks_75 rfl ?_
          refine V_iload C 5 dX7_looks_76 rfl ?_
          refine V_iconst C 2 dX7_looks_78 (by decide) ?_
          refine V_callV (As := [.int v5, .int 2]) (st := [.int v3, vR X (b + 13)]) C (c_X7_ofTrace hb h) Y_X7_ofTrace Z_X7_ofTrace (T := TX7) (N := 21) rfl (o7 hb) (ltN hH (by decide)) u_258 rfl rfl (Nat.le_of_ble_eq_true rfl) dX7_looks_79 ?_
          rintro v9 M9 ⟨rfl, r16, rfl, h⟩
          show V X 82 _ [.int r16, .int v3, vR X (b + 13)] M
          refine V_aload_n C 0 dX7_looks_82 rfl ?_
          refine V_getR C FL_RX7_47 (f7_19 hb) dX7_looks_83 ?_
          refine V_iload_n C 3 dX7_looks_86 rfl ?_
          obtain ⟨b17, h⟩ := h
          refine V_iald C (k7_13 hb) b17 dX7_looks_87 ?_
          refine V_icmp_le (tgt := 101) C dX7_looks_88 (by decide) (fun hc => ?_) (fun hc => ?_)
          · have h := h.1 hc
            refine V_aload_n C 0 dX7_looks_101 rfl ?_
            refine V_getR C FL_RX7_47 (f7_19 hb) dX7_looks_102 ?_
            refine V_iload_n C 3 dX7_looks_105 rfl ?_
            obtain ⟨b18, h⟩ := h
            refine V_iald C (k7_13 hb) b18 dX7_looks_106 ?_
            obtain ⟨b20, h⟩ := h
            refine V_iast C (k7_13 hb) b20 dX7_looks_107 ?_
            refine V_nmM (fun M19 e_M19 => ?_)
            have h := h M19 e_M19
            refine V_iinc (v := (v5 + 1)) (lv' := [(5, .int (v5 + 1)), (0, vR X b), (1, .int p1), (2, .int p2), (3, .int v3), (4, .int v4)]) C 5 (ltN hN (by decide)) dX7_looks_108 rfl rfl rfl ?_
            refine V_goto (tgt := 26) C dX7_looks_111 (by decide) ?_
            exact V_sub [1, 2, 3, 4, 5, 0] rfl (hag26 ((v5 + 1), M19) h)
          · have h := h.2 hc
            refine V_aload_n C 0 dX7_looks_91 rfl ?_
            refine V_iload C 5 dX7_looks_92 rfl ?_
            refine V_iconst C 2 dX7_looks_94 (by decide) ?_
            refine V_callV (As := [.int v5, .int 2]) (st := [.int v3, vR X (b + 13)]) C (c_X7_ofTrace hb h) Y_X7_ofTrace Z_X7_ofTrace (T := TX7) (N := 21) rfl (o7 hb) (ltN hH (by decide)) u_258 rfl rfl (Nat.le_of_ble_eq_true rfl) dX7_looks_95 ?_
            rintro v9 M9 ⟨rfl, r21, rfl, h⟩
            show V X 98 _ [.int r21, .int v3, vR X (b + 13)] M
            refine V_goto (tgt := 107) C dX7_looks_98 (by decide) ?_
            obtain ⟨b23, h⟩ := h
            refine V_iast C (k7_13 hb) b23 dX7_looks_107 ?_
            refine V_nmM (fun M22 e_M22 => ?_)
            have h := h M22 e_M22
            refine V_iinc (v := (v5 + 1)) (lv' := [(5, .int (v5 + 1)), (0, vR X b), (1, .int p1), (2, .int p2), (3, .int v3), (4, .int v4)]) C 5 (ltN hN (by decide)) dX7_looks_108 rfl rfl rfl ?_
            refine V_goto (tgt := 26) C dX7_looks_111 (by decide) ?_
            exact V_sub [1, 2, 3, 4, 5, 0] rfl (hag26 ((v5 + 1), M22) h)
set_option maxRecDepth 20000 in
set_option maxHeartbeats 1000000 in
theorem s_X7_looks_F2 {X : wX} (C : CX X cX7_looks RX7 (none)) (hH : xH X = 6) (hN : xN X = 6) {b : Nat} {p1 : Int32} {p2 : Int32} {M : mM} {Q : mM → Prop} (hQ : ∀ M, Q M → xPo X none M) (hb : isC (xW X) 7 b) {v3 : Int32} {ag2 : (Int32 × mM) → Prop} (hag2 : ∀ s, ag2 s → V X 2 [(0, vR X b), (1, .int p1), (2, .int p2), (3, .int (s.1))] [] (s.2)) (h : p_X7_looks_F2 b p1 p2  Q  ag2 v3 M) : V X 2 [(0, vR X b), (1, .int p1), (2, .int p2), (3, .int v3)] [] M := by
  refine V_iload_n C 3 dX7_looks_2 rfl ?_
  refine V_bipush C 8 dX7_looks_3 (by decide) ?_
  refine V_icmp_ge (tgt := 208) C dX7_looks_5 (by decide) (fun hc => ?_) (fun hc => ?_)
  · have h := h.1 hc
    exact V_vret C dX7_looks_208 (hQ _ h)
  · have h := h.2 hc
    refine V_bipush C 8 dX7_looks_8 (by decide) ?_
    refine V_iload_n C 1 dX7_looks_10 rfl ?_
    refine V_imul C dX7_looks_11 ?_
    refine V_iload_n C 3 dX7_looks_12 rfl ?_
    refine V_iadd C dX7_looks_13 ?_
    refine V_istore (lv' := [(4, .int ((8 * p1) + v3)), (0, vR X b), (1, .int p1), (2, .int p2), (3, .int v3)]) C (ltN hN (by decide)) dX7_looks_14 rfl ?_
    refine V_aload_n C 1 dX7_looks_16 rfl ?_
    refine V_getR C FL_RX7_47 (f7_19 hb) dX7_looks_17 ?_
    refine V_iload_n C 4 dX7_looks_20 rfl ?_
    refine V_iconst C (-1) dX7_looks_21 (by decide) ?_
    obtain ⟨b2, h⟩ := h
    refine V_iast C (k7_13 hb) b2 dX7_looks_22 ?_
    refine V_nmM (fun M1 e_M1 => ?_)
    have h := h M1 e_M1
    refine V_iconst C 0 dX7_looks_23 (by decide) ?_
    refine V_istore (lv' := [(5, .int 0), (4, .int ((8 * p1) + v3)), (0, vR X b), (1, .int p1), (2, .int p2), (3, .int v3)]) C (ltN hN (by decide)) dX7_looks_24 rfl ?_
    refine V_sub [2, 3, 4, 5, 1, 0] rfl ?_
    exact Loop.sound (s0 := ((0 : Int32), M1)) (P := fun s => V X 26 [(0, vR X b), (1, .int p1), (2, .int p2), (3, .int v3), (4, .int ((8 * p1) + v3)), (5, .int (s.1))] [] (s.2)) h (fun ag hag s hs => s_X7_looks_F26 C hH hN hQ hb hag2 hag hs)
set_option maxRecDepth 20000 in
set_option maxHeartbeats 1000000 in
theorem s_X7_looks {X : wX} (C : CX X cX7_looks RX7 (none)) (hH : xH X = 6) (hN : xN X = 6) {b : Nat} {p1 : Int32} {p2 : Int32} {M : mM} {Q : mM → Prop} (hQ : ∀ M, Q M → xPo X none M) (hb : isC (xW X) 7 b)   (h : p_X7_looks b p1 p2 M Q) : V X 0 [(0, vR X b), (1, .int p1), (2, .int p2)] [] M := by
  refine V_iconst C 0 dX7_looks_0 (by decide) ?_
  refine V_istore_n (lv' := [(3, .int 0), (0, vR X b), (1, .int p1), (2, .int p2)]) C (ltN hN (by decide)) dX7_looks_1 rfl ?_
  refine V_sub [1, 2, 3, 0] rfl ?_
  exact Loop.sound (s0 := ((0 : Int32), M)) (P := fun s => V X 2 [(0, vR X b), (1, .int p1), (2, .int p2), (3, .int (s.1))] [] (s.2)) h (fun ag hag s hs => s_X7_looks_F2 C hH hN hQ hb  hag hs)
set_option maxRecDepth 20000 in
set_option maxHeartbeats 1000000 in
theorem c_X7_looks {w : wU} {l : Launch} {b : Nat} {p1 : Int32} {p2 : Int32} {M : mM} {Q : mM → Prop} (hb : isC w 7 b) (h : p_X7_looks b p1 p2 M Q) : CT w l 6 yX7_looks cX7_looks 6 (none) [.ref (uA w b), .int p1, .int p2] M (piV Q) := by
  refine CT.of (by decide +kernel) (Nat.le_of_ble_eq_true rfl) (fun X hw hH hl hP hN C => ?_)
  subst hw
  exact s_X7_looks C hH hN (fun M1 q => by rw [hP]; exact ⟨rfl, q⟩) hb h
