/-! THE TEXT: String's own length and charAt, of the one constant -/
def zCh (k : Nat) : Int32 := ((zBytes.getD k 0 &&& 255).toUInt32 % 65536).toInt32
section VSTR
variable {X : wX} {cc : ByteArray} {own : String} {ret : Option FieldType} {pc : Nat} {lv : List (Nat × Value)} {st : List Value} {M : mM}
theorem V_ldcS (C : CX X cc RX3 ret) (hd : decode cc pc = .ok (.ldc 100, 2)) (k : V X (pc + 2) lv (.ref (uS (xW X) 4) :: st) M) : V X pc lv st M := fun H L ls a b c => va_ldcS C.1 C.2.1 C.2.2.2.2.1 C.2.2.2.2.2.2.2.2.2.2.2.1 hd (k H L ls a b c)
theorem V_getz (C : CX X cc RJ0 ret) (hd : decode cc pc = .ok (.getstatic 38, 3)) (kk : V X (pc + 3) lv (.int 1 :: st) M) : V X pc lv st M := fun H L ls a b c => va_gets C.1 C.2.1 C.2.2.2.2.2.2.2.2.2.2.2.2.2.1 b C.2.2.2.2.1 (C.2.2.2.2.2.1 _ u_348) (fun _ h => h) hd (kk H L ls a b c)
theorem V_kcoder (C : CX X cc RJ0 ret) (hd : decode cc pc = .ok (.getfield 15, 3)) (kk : V X (pc + 3) lv (.int 0 :: st) M) : V X pc lv (.ref (uS (xW X) 4) :: st) M := fun H L ls a b c => vk_getf C.1 C.2.1 (C.2.2.2.2.2.2.2.2.2.2.2.2.1.1 0 (by decide)).2.1 b C.2.2.2.2.1 (C.2.2.2.2.2.1 _ u_349) (fun _ h => h) hd (kk H L ls a b c)
theorem V_kvalue (C : CX X cc RJ0 ret) (hd : decode cc pc = .ok (.getfield 9, 3)) (kk : V X (pc + 3) lv (.ref (uS (xW X) 5) :: st) M) : V X pc lv (.ref (uS (xW X) 4) :: st) M := fun H L ls a b c => vk_getf C.1 C.2.1 (C.2.2.2.2.2.2.2.2.2.2.2.2.1.1 0 (by decide)).2.2.1 b C.2.2.2.2.1 (C.2.2.2.2.2.1 _ u_343) (fun _ h => h) hd (kk H L ls a b c)
theorem V_klen (C : CX X cc own ret) (hd : decode cc pc = .ok (.arraylength, 1)) (kk : V X (pc + 1) lv (.int 77 :: st) M) : V X pc lv (.ref (uS (xW X) 5) :: st) M := fun H L ls a b c => va_tlen C.1 C.2.1 (C.2.2.2.2.2.2.2.2.2.2.2.2.1.1 0 (by decide)).2.2.2 b (by decide) hd (kk H L ls a b c)
theorem V_kbyte (C : CX X cc own ret) {i : Int32} (hin : vp_in i 77) (hd : decode cc pc = .ok (.baload, 1)) (kk : V X (pc + 1) lv (.int (zBytes.getD i.toNatClampNeg 0) :: st) M) : V X pc lv (.int i :: .ref (uS (xW X) 5) :: st) M := fun H L ls a b c => va_tb C.1 C.2.1 (C.2.2.2.2.2.2.2.2.2.2.2.2.1.1 0 (by decide)).2.2.2 b hin rfl hd (kk H L ls a b c)
theorem V_i2c (C : CX X cc own ret) {x : Int32} (hd : decode cc pc = .ok (.i2c, 1)) (k : V X (pc + 1) lv (.int ((x.toUInt32 % 65536).toInt32) :: st) M) : V X pc lv (.int x :: st) M := fun H L ls a b c => lv_i2c C.1 C.2.1 hd rfl (k H L ls a b c)
theorem V_getq (C : CX X cc RJ0 ret) (hd : decode cc pc = .ok (.getstatic 1053, 3)) (kk : ∀ v : Value, v = .null ∨ (∃ t, v = .ref t) → V X (pc + 3) lv (v :: st) M) : V X pc lv st M := by
  intro H L ls a b c
  rcases C.2.2.2.2.2.2.2.2.2.2.2.2.2.2 with h | ⟨t, h⟩
  · exact va_gets C.1 C.2.1 h b C.2.2.2.2.1 (C.2.2.2.2.2.1 _ u_364) (fun _ h => h) hd (kk _ (Or.inl rfl) H L ls a b c)
  · exact va_gets C.1 C.2.1 h b C.2.2.2.2.1 (C.2.2.2.2.2.1 _ u_364) (fun _ h => h) hd (kk _ (Or.inr ⟨t, rfl⟩) H L ls a b c)
theorem V_callK (C : CX X cc own ret) {y : MethodName} {bytes : ByteArray} {maxL n idx h' : Nat} {rt : Option FieldType} {As stack : List Value} {Q : Option Value → mM → Prop} (hct : CT (xW X) (xL X) h' y bytes maxL rt (.ref (uS (xW X) 4) :: As) M Q) (ym : YM y bytes maxL rt n) (yv : YV y) (hc : y.cls = RJ0) (hh : h' < xH X) (hl : Cond.methodLink own idx y ∈ wsL_law) (hn : As.length = n) (hstk : stack = As.reverse ++ .ref (uS (xW X) 4) :: st) (hs : (st.map fun v => v.category).sum ≤ 8) (hd : decode cc pc = .ok (.invokevirtual idx, 3))
    (kk : ∀ (v : Option Value) (M1 : mM), Q v M1 → V X (pc + 3) lv (v.toList ++ st) M1) : V X pc lv stack M := by
  intro H L ls a b c
  obtain ⟨y1, y2, y3, y4, y5⟩ := ym
  have hts := C.2.2.2.2.2.1
  have cb : CallB (rmH (xH X)) (xS X) (xA X) own idx y bytes maxL rt (.code y bytes maxL rt :: wsL_law) (rmH h') 0 0 n := callB_of n hts (wL_goodIn0 y1) rfl rfl rfl (hts _ y2) (hts _ hl) ⟨y4.1, y4.2, y5⟩ (rmH_ok hh y3)
  have hrec := vk_recv C.2.2.2.2.2.2.2.2.2.2.2.2.1 (i := 0) (by decide) b
  refine V_back (va_runV (As := As) (rest := st) ⟨C.1, C.2.1, C.2.2.1, C.2.2.2.2.1, hts⟩ hct ⟨cb, hts _ yv.1, hts _ yv.2⟩ ⟨wB.blind, (by rw [hc]; exact hrec), wB_pre C a b⟩ rfl hn c.1 hstk (V_cat (H := H) hs) hd ⟨Nat.zero_le _, Nat.zero_le _⟩) b (fun v M1 H1 L1 hq a1 b1 => kk v M1 hq H1 L1 ls a1 b1 c)
end VSTR
theorem Y_coder : YM yJ0_coder_7d493 cJ0_coder_7d493 1 (some .byte) 0 := ⟨u_347, u_340, by decide, ⟨by decide +kernel, by decide +kernel⟩, by decide +kernel⟩
theorem Y_isLatin1 : YM yJ0_isLatin1_aae02 cJ0_isLatin1_aae02 1 (some .boolean) 0 := ⟨u_356, u_340, by decide, ⟨by decide +kernel, by decide +kernel⟩, by decide +kernel⟩
theorem Y_slen : YM yJ0_length_8abf5 cJ0_length_8abf5 1 (some .int) 0 := ⟨u_339, u_340, by decide, ⟨by decide +kernel, by decide +kernel⟩, by decide +kernel⟩
theorem Y_schar : YM yJ0_charAt_5068e cJ0_charAt_5068e 2 (some .char) 1 := ⟨u_352, u_340, by decide, ⟨by decide +kernel, by decide +kernel⟩, by decide +kernel⟩
theorem Y_lchar : YM yJ1_charAt_3b067 cJ1_charAt_3b067 2 (some .char) 2 := ⟨u_360, u_359, by decide, ⟨by decide +kernel, by decide +kernel⟩, by decide +kernel⟩
theorem Y_schk : YM yJ0_checkIndex_df160 cJ0_checkIndex_df160 2 none 2 := ⟨u_363, u_340, by decide, ⟨by decide +kernel, by decide +kernel⟩, by decide +kernel⟩
theorem Y_pchk : YM yJ3_checkIndex_8e157 cJ3_checkIndex_8e157 3 (some .int) 3 := ⟨u_368, u_367, by decide, ⟨by decide +kernel, by decide +kernel⟩, by decide +kernel⟩
set_option maxRecDepth 20000 in
theorem c_coder {w : wU} {l : Launch} {M : mM} : CT w l 0 yJ0_coder_7d493 cJ0_coder_7d493 1 (some .byte) [.ref (uS w 4)] M (poI M (fun r => r = 0)) := by
  refine CT.of (by decide +kernel) (Nat.le_of_ble_eq_true rfl) (fun X hw hH hl hP hN C => ?_)
  subst hw
  refine V_getz C dJ0_coder_7d493_0 ?_
  refine V_if_eq (tgt := 13) C dJ0_coder_7d493_3 (by decide) (fun hc => absurd hc (by decide)) (fun _ => ?_)
  refine V_aload_n (x := uS (xW X) 4) C 0 dJ0_coder_7d493_6 rfl ?_
  refine V_kcoder C dJ0_coder_7d493_7 ?_
  refine V_goto (tgt := 14) C dJ0_coder_7d493_10 (by decide) ?_
  exact V_zret C rfl rfl dJ0_coder_7d493_14 (by rw [hP]; exact ⟨rfl, 0, rfl, rfl⟩)
set_option maxRecDepth 20000 in
theorem c_isLatin1 {w : wU} {l : Launch} {M : mM} : CT w l 0 yJ0_isLatin1_aae02 cJ0_isLatin1_aae02 1 (some .boolean) [.ref (uS w 4)] M (poI M (fun r => r = 1)) := by
  refine CT.of (by decide +kernel) (Nat.le_of_ble_eq_true rfl) (fun X hw hH hl hP hN C => ?_)
  subst hw
  refine V_getz C dJ0_isLatin1_aae02_0 ?_
  refine V_if_eq (tgt := 17) C dJ0_isLatin1_aae02_3 (by decide) (fun hc => absurd hc (by decide)) (fun _ => ?_)
  refine V_aload_n (x := uS (xW X) 4) C 0 dJ0_isLatin1_aae02_6 rfl ?_
  refine V_kcoder C dJ0_isLatin1_aae02_7 ?_
  refine V_if_ne (tgt := 17) C dJ0_isLatin1_aae02_10 (by decide) (fun hc => absurd rfl hc) (fun _ => ?_)
  refine V_iconst C 1 dJ0_isLatin1_aae02_13 (by decide) ?_
  refine V_goto (tgt := 18) C dJ0_isLatin1_aae02_14 (by decide) ?_
  exact V_zret C rfl rfl dJ0_isLatin1_aae02_18 (by rw [hP]; exact ⟨rfl, 1, rfl, rfl⟩)
set_option maxRecDepth 20000 in
theorem c_slen {w : wU} {l : Launch} {M : mM} : CT w l 1 yJ0_length_8abf5 cJ0_length_8abf5 1 (some .int) [.ref (uS w 4)] M (poI M (fun r => r = 77)) := by
  refine CT.of (by decide +kernel) (Nat.le_of_ble_eq_true rfl) (fun X hw hH hl hP hN C => ?_)
  subst hw
  refine V_aload_n (x := uS (xW X) 4) C 0 dJ0_length_8abf5_0 rfl ?_
  refine V_kvalue C dJ0_length_8abf5_1 ?_
  refine V_klen C dJ0_length_8abf5_4 ?_
  refine V_aload_n (x := uS (xW X) 4) C 0 dJ0_length_8abf5_5 rfl ?_
  refine V_callK (As := []) (st := [.int 77]) C c_coder Y_coder ⟨u_345, u_346⟩ rfl (ltN hH (by decide)) u_344 rfl rfl (Nat.le_of_ble_eq_true rfl) dJ0_length_8abf5_6 ?_
  rintro v9 M9 ⟨rfl, r, rfl, rfl⟩
  show V X 9 _ [.int 0, .int 77] _
  refine V_ishr C dJ0_length_8abf5_9 ?_
  exact V_iret C dJ0_length_8abf5_10 (by rw [hP]; exact ⟨rfl, _, rfl, by decide⟩)
set_option maxRecDepth 20000 in
theorem c_pchk {w : wU} {l : Launch} {M : mM} {i n : Int32} (v : Value) (hv : v = .null ∨ ∃ t, v = .ref t) (h0 : ¬ i < 0) (h1 : i < n) : CT w l 0 yJ3_checkIndex_8e157 cJ3_checkIndex_8e157 3 (some .int) [.int i, .int n, v] M (poI M (fun _ => True)) := by
  refine CT.of (by decide +kernel) (by rcases hv with rfl | ⟨t, rfl⟩ <;> exact Nat.le_of_ble_eq_true rfl) (fun X hw hH hl hP hN C => ?_)
  subst hw
  show V X 0 [(0, .int i), (1, .int n), (2, v)] [] M
  refine V_iload_n C 0 dJ3_checkIndex_8e157_0 rfl ?_
  refine V_if_lt C dJ3_checkIndex_8e157_1 (tgt := 9) (by decide) (fun hc => absurd hc h0) (fun _ => ?_)
  refine V_iload_n C 0 dJ3_checkIndex_8e157_4 rfl ?_
  refine V_iload_n C 1 dJ3_checkIndex_8e157_5 rfl ?_
  refine V_icmp_lt C dJ3_checkIndex_8e157_6 (tgt := 16) (by decide) (fun _ => ?_) (fun hc => absurd h1 hc)
  refine V_iload_n C 0 dJ3_checkIndex_8e157_16 rfl ?_
  exact V_iret C dJ3_checkIndex_8e157_17 (by rw [hP]; exact ⟨rfl, _, rfl, trivial⟩)
set_option maxRecDepth 20000 in
theorem c_schk {w : wU} {l : Launch} {M : mM} {i n : Int32} (h0 : ¬ i < 0) (h1 : i < n) : CT w l 1 yJ0_checkIndex_df160 cJ0_checkIndex_df160 2 none [.int i, .int n] M (poV M True) := by
  refine CT.of (by decide +kernel) (Nat.le_of_ble_eq_true rfl) (fun X hw hH hl hP hN C => ?_)
  subst hw
  refine V_iload_n (x := i) C 0 dJ0_checkIndex_df160_0 rfl ?_
  refine V_iload_n (x := n) C 1 dJ0_checkIndex_df160_1 rfl ?_
  refine V_getq C dJ0_checkIndex_df160_2 (fun v hv => ?_)
  refine V_callS (As := [.int i, .int n, v]) (st := []) C (c_pchk v hv h0 h1) Y_pchk u_366 (ltN hH (by decide)) u_365 rfl rfl (Nat.le_of_ble_eq_true rfl) dJ0_checkIndex_df160_5 ?_
  rintro v9 M9 ⟨rfl, r, rfl, -⟩
  show V X 8 _ [.int r] _
  refine V_pop C dJ0_checkIndex_df160_8 rfl ?_
  exact V_vret C dJ0_checkIndex_df160_9 (by rw [hP]; exact ⟨rfl, rfl, trivial⟩)
theorem zCh_nar : ∀ k, k < 77 → narrow .char (.int (zCh k)) = .int (zCh k) := by decide +kernel
theorem vp_lt {i : Int32} {n : Nat} (h : vp_in i n) : i.toNatClampNeg < n := Nat.not_le.mp fun q => h (Or.inr q)
theorem vp_77 {i : Int32} (h : vp_in i 77) : ¬ i < 0 ∧ i < 77 := by
  refine ⟨fun q => h (Or.inl q), ?_⟩
  obtain ⟨j, hj, rfl⟩ := vp_in_of h (by decide)
  exact nI_lt hj (by decide)
set_option maxRecDepth 20000 in
theorem c_lchar {w : wU} {l : Launch} {M : mM} {i : Int32} (hi : vp_in i 77) : CT w l 2 yJ1_charAt_3b067 cJ1_charAt_3b067 2 (some .char) [.ref (uS w 5), .int i] M (poI M (fun r => r = zCh i.toNatClampNeg)) := by
  refine CT.of (by decide +kernel) (Nat.le_of_ble_eq_true rfl) (fun X hw hH hl hP hN C => ?_)
  subst hw
  refine V_iload_n (x := i) C 1 dJ1_charAt_3b067_0 rfl ?_
  refine V_aload_n (x := uS (xW X) 5) C 0 dJ1_charAt_3b067_1 rfl ?_
  refine V_klen C dJ1_charAt_3b067_2 ?_
  refine V_callS (As := [.int i, .int 77]) (st := []) C (c_schk (vp_77 hi).1 (vp_77 hi).2) Y_schk u_362 (ltN hH (by decide)) u_361 rfl rfl (Nat.le_of_ble_eq_true rfl) dJ1_charAt_3b067_3 ?_
  rintro v9 M9 ⟨rfl, rfl, -⟩
  show V X 6 _ [] _
  refine V_aload_n (x := uS (xW X) 5) C 0 dJ1_charAt_3b067_6 rfl ?_
  refine V_iload_n (x := i) C 1 dJ1_charAt_3b067_7 rfl ?_
  refine V_kbyte C hi dJ1_charAt_3b067_8 ?_
  refine V_sipush C 255 dJ1_charAt_3b067_9 (by decide) ?_
  refine V_iand C dJ1_charAt_3b067_12 ?_
  refine V_i2c C dJ1_charAt_3b067_13 ?_
  exact V_zret C rfl (zCh_nar _ (vp_lt hi)) dJ1_charAt_3b067_14 (by rw [hP]; exact ⟨rfl, _, rfl, rfl⟩)
set_option maxRecDepth 20000 in
theorem c_schar {w : wU} {l : Launch} {M : mM} {i : Int32} (hi : vp_in i 77) : CT w l 3 yJ0_charAt_5068e cJ0_charAt_5068e 2 (some .char) [.ref (uS w 4), .int i] M (poI M (fun r => r = zCh i.toNatClampNeg)) := by
  refine CT.of (by decide +kernel) (Nat.le_of_ble_eq_true rfl) (fun X hw hH hl hP hN C => ?_)
  subst hw
  refine V_aload_n (x := uS (xW X) 4) C 0 dJ0_charAt_5068e_0 rfl ?_
  refine V_callK (As := []) (st := []) C c_isLatin1 Y_isLatin1 ⟨u_354, u_355⟩ rfl (ltN hH (by decide)) u_353 rfl rfl (Nat.le_of_ble_eq_true rfl) dJ0_charAt_5068e_1 ?_
  rintro v9 M9 ⟨rfl, r, rfl, rfl⟩
  show V X 4 _ [.int 1] _
  refine V_if_eq C dJ0_charAt_5068e_4 (tgt := 16) (by decide) (fun hc => absurd hc (by decide)) (fun _ => ?_)
  refine V_aload_n (x := uS (xW X) 4) C 0 dJ0_charAt_5068e_7 rfl ?_
  refine V_kvalue C dJ0_charAt_5068e_8 ?_
  refine V_iload_n (x := i) C 1 dJ0_charAt_5068e_11 rfl ?_
  refine V_callS (As := [.ref (uS (xW X) 5), .int i]) (st := []) C (c_lchar hi) Y_lchar u_358 (ltN hH (by decide)) u_357 rfl rfl (Nat.le_of_ble_eq_true rfl) dJ0_charAt_5068e_12 ?_
  rintro v9 M9 ⟨rfl, r, rfl, rfl⟩
  show V X 15 _ [.int (zCh i.toNatClampNeg)] _
  exact V_zret C rfl (zCh_nar _ (vp_lt hi)) dJ0_charAt_5068e_15 (by rw [hP]; exact ⟨rfl, _, rfl, rfl⟩)
section VSTR2
variable {X : wX} {cc : ByteArray} {own : String} {ret : Option FieldType} {pc : Nat} {lv : List (Nat × Value)} {st : List Value} {M : mM}
theorem V_strlen (C : CX X cc own ret) {idx : Nat} (hh : 3 < xH X) (hl : Cond.methodLink own idx yJ0_length_8abf5 ∈ wsL_law) (hs : (st.map fun v => v.category).sum ≤ 8) (hd : decode cc pc = .ok (.invokevirtual idx, 3)) (k : V X (pc + 3) lv (.int 77 :: st) M) : V X pc lv (.ref (uS (xW X) 4) :: st) M := by
  refine V_callK (As := []) (st := st) C c_slen Y_slen ⟨u_341, u_342⟩ rfl (by omega) hl rfl rfl hs hd ?_
  rintro v9 M9 ⟨rfl, r, rfl, rfl⟩
  exact k
theorem V_strchr (C : CX X cc own ret) {idx : Nat} {i : Int32} (hh : 3 < xH X) (hl : Cond.methodLink own idx yJ0_charAt_5068e ∈ wsL_law) (hi : vp_in i 77) (hs : (st.map fun v => v.category).sum ≤ 8) (hd : decode cc pc = .ok (.invokevirtual idx, 3)) (k : V X (pc + 3) lv (.int (zCh i.toNatClampNeg) :: st) M) : V X pc lv (.int i :: .ref (uS (xW X) 4) :: st) M := by
  refine V_callK (As := [.int i]) (st := st) C (c_schar hi) Y_schar ⟨u_350, u_351⟩ rfl (by omega) hl rfl rfl hs hd ?_
  rintro v9 M9 ⟨rfl, r, rfl, rfl⟩
  exact k
end VSTR2
