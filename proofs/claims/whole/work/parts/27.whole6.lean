theorem lN_negE {m : Nat} (h : m ≤ 18446744073709551616) : -(lN m) = lN (18446744073709551616 - m) := by
  have h1 : lN (18446744073709551616 - m) + lN m = 0 := by
    rw [lN_add, show 18446744073709551616 - m + m = 18446744073709551616 by omega]; rfl
  have h2 : lN (18446744073709551616 - m) = 0 - lN m := by
    rw [← h1, Int64.add_sub_cancel]
  rw [h2, Int64.zero_sub]
theorem lneg_and30 {m : Nat} (h2 : m ≤ 18446744073709551615) : -(lN m) &&& 1073741823 = lN ((1073741824 - m % 1073741824) % 1073741824) := by
  rcases Nat.eq_zero_or_pos m with e | e
  · subst e; decide
  · rw [lN_negE (by omega), lN_and30 (by omega)]
    congr 1
    omega
theorem lN_toIntS {m : Nat} (h : m < 9223372036854775808) : (lN m).toInt = (m : Int) := pk_lT h
theorem lneg_toInt {m : Nat} (h : m < 9223372036854775808) : (-(lN m)).toInt = -(m : Int) := by
  rw [Int64.toInt_neg, lN_toIntS h]
  exact fb_bmodL (by omega) (by omega)
theorem l_shr (a s : Int64) (k : Nat) (hs : (s.toBitVec.smod 64).toNat = k) : (a >>> s).toInt = a.toInt >>> k := by
  show (a.toBitVec.sshiftRight' (s.toBitVec.smod 64)).toInt = _
  rw [BitVec.sshiftRight', BitVec.toInt_sshiftRight, hs]
  rfl
theorem l_shr30 (a : Int64) : (a >>> ((30 : Int32).toInt64 &&& 63)).toInt = a.toInt / 1073741824 := by
  rw [l_shr _ _ 30 (by decide), Int.shiftRight_eq_div_pow]
  rfl
theorem lneg_shr30 {m : Nat} (h : m < 4611686018427387904) : (-(lN m)) >>> ((30 : Int32).toInt64 &&& 63) = -(lN ((m + 1073741823) / 1073741824)) := by
  apply Int64.toInt_inj.mp
  rw [l_shr30, lneg_toInt (by omega), lneg_toInt (by omega)]
  omega
theorem lN_shr30 {m : Nat} (h : m < 4611686018427387904) : lN m >>> ((30 : Int32).toInt64 &&& 63) = lN (m / 1073741824) := by
  apply Int64.toInt_inj.mp
  rw [l_shr30, lN_toIntS (by omega), lN_toIntS (by omega)]
  omega
/-- one digit of a difference of a product -/
theorem dig_sub {AX AT Ad dX dT dd q w : Nat} (h : AX * 1073741824 + dX = AT * 1073741824 + dT + q * (Ad * 1073741824 + dd) + w) (h1 : dX < 1073741824) (h2 : dT < 1073741824) (h3 : dd < 1073741824) (hq : q < 1073741824) (hw : w ≤ 1073741824) :
    ∃ w', w' ≤ 1073741824 ∧ AX = AT + q * Ad + w' ∧ (lN dX - lN (q * dd) - lN w) &&& 1073741823 = lN dT ∧ (lN dX - lN (q * dd) - lN w) >>> ((30 : Int32).toInt64 &&& 63) = -(lN w') := by
  have hm : q * dd ≤ 1073741823 * 1073741823 := Nat.mul_le_mul (by omega) (by omega)
  rw [Nat.mul_add, ← Nat.mul_assoc] at h
  generalize q * dd = g at h hm ⊢
  generalize q * Ad = k at h ⊢
  have e0 : lN dX - lN g - lN w = lN dX - lN (g + w) := by
    rw [← lN_add, Int64.sub_eq_add_neg, Int64.sub_eq_add_neg, Int64.sub_eq_add_neg, Int64.neg_add, Int64.sub_eq_add_neg, Int64.add_assoc]
  rw [e0]
  by_cases hge : g + w ≤ dX
  · refine ⟨0, by omega, by omega, ?_, ?_⟩
    · rw [lN_sub hge, lN_and30 (by omega)]
      congr 1; omega
    · rw [lN_sub hge, lN_shr30 (by omega), show (dX - (g + w)) / 1073741824 = 0 by omega]
      decide
  · have e1 : lN dX - lN (g + w) = -(lN (g + w - dX)) := by
      rw [← lN_sub (by omega), Int64.neg_sub]
    refine ⟨(g + w - dX + 1073741823) / 1073741824, by omega, by omega, ?_, ?_⟩
    · rw [e1, lneg_and30 (by omega)]
      congr 1; omega
    · rw [e1, lneg_shr30 (by omega)]
theorem newton (o inv p y : Int32) (h : 1 - o * inv = p * y) : 1 - o * (inv * (2 - o * inv)) = p * p * (y * y) := by
  have e : 1 - o * (inv * (2 - o * inv)) = (1 - o * inv) * (1 - o * inv) := by grind
  rw [e, h]; grind
theorem odd_sq (m : Nat) : ∃ y : Int32, 1 - nI (2 * m + 1) * nI (2 * m + 1) = nI 8 * y := by
  refine ⟨-(nI (m * (m + 1) / 2)), ?_⟩
  have e : (2 * m + 1) * (2 * m + 1) = 8 * (m * (m + 1) / 2) + 1 := by
    have h2 : m * (m + 1) % 2 = 0 := by
      rcases Nat.mod_two_eq_zero_or_one m with q | q
      · rw [Nat.mul_mod, q]; simp
      · rw [Nat.mul_mod, show (m + 1) % 2 = 0 by omega]; simp
    have h3 : (2 * m + 1) * (2 * m + 1) = 4 * (m * (m + 1)) + 1 := by
      rw [Nat.mul_add m m 1, Nat.mul_one, Nat.add_mul, Nat.mul_add, Nat.one_mul, Nat.mul_one, Nat.mul_mul_mul_comm]
      generalize m * m = z
      omega
    rw [h3]
    generalize m * (m + 1) = z at h2 ⊢
    omega
  rw [pk_mul, e, ← nI_add, ← pk_mul]
  generalize nI (m * (m + 1) / 2) = z
  show (1 : Int32) - (nI 8 * z + 1) = nI 8 * -z
  grind
/-- an odd number's inverse turns a digit -/
theorem inv_digit {o k q a : Nat} (ho : nI o * nI k = 1) (ha : a % 1073741824 = o * q % 1073741824) : nI a * nI k &&& 1073741823 = nI (q % 1073741824) := by
  have h1 : o * k % 4294967296 = 1 := by
    rw [pk_mul] at ho
    have := congrArg (fun x : Int32 => x.toBitVec.toNat) ho
    have e : (nI (o * k)).toBitVec.toNat = o * k % 4294967296 := BitVec.toNat_ofNat _ _
    simp only [e] at this
    exact this
  rw [pk_mul]
  have e : nI (a * k) = nI (a * k % 4294967296) := by
    apply Int32.toBitVec_inj.mp
    apply BitVec.eq_of_toNat_eq
    show (BitVec.ofNat 32 _).toNat = (BitVec.ofNat 32 _).toNat
    rw [BitVec.toNat_ofNat, BitVec.toNat_ofNat, Nat.mod_mod]
  rw [e, nI_and30 (Nat.mod_lt _ (by decide))]
  congr 1
  have h2 : o * k % 1073741824 = 1 := by
    have := Nat.mod_mod_of_dvd (o * k) (show 1073741824 ∣ 4294967296 by decide)
    rw [h1] at this
    rw [← this]
  rw [Nat.mod_mod_of_dvd _ (show 1073741824 ∣ 4294967296 by decide), Nat.mul_mod, ha, ← Nat.mul_mod, Nat.mul_right_comm, Nat.mul_mod, h2, Nat.one_mul, Nat.mod_mod]
theorem sp_divideExactly {b p d q : Nat} {M : mM} {Q : mM → Prop} (hp : p + 3 ≤ b ∨ b + 3 ≤ p) (hv : RW M b (d * q)) (hd : RW M p d) (hodd : d % 2 = 1) (h : ∀ M', fr M M' b (b + 3) → RW M' b q → Q M') : p_X5_divideExactly b p M Q := by
  unfold p_X5_divideExactly
  intro x1 e1
  have hd0 : d / pw 0 % 1073741824 % 2 = 1 := by rw [dg_d0]; omega
  have e1' : x1 = nI (dg d 0) := by rw [e1]; exact hd.1 0 (by omega)
  obtain ⟨m, hm⟩ : ∃ m, dg d 0 = 2 * m + 1 := ⟨dg d 0 / 2, by have : dg d 0 % 2 = 1 := hd0; omega⟩
  have hq16 : q < pw 16 := by
    refine Nat.lt_of_le_of_lt ?_ hv.2.2
    have : 0 < d := by omega
    exact Nat.le_mul_of_pos_left q this
  subst e1'
  refine loopU (A := Int32) 4 (fun i a => (a, nI (3 * 2 ^ i))) (fun i a => ∃ y : Int32, 1 - nI (dg d 0) * a = nI (2 ^ (3 * 2 ^ i)) * y) (nI (dg d 0)) rfl ?_ ?_
  · obtain ⟨y, hy⟩ := odd_sq m
    exact ⟨y, by rw [hm, hy]⟩
  rintro i a ag hi ⟨y, hy⟩ hag
  show p_X5_divideExactly_F12 b p (nI (dg d 0)) M Q ag a (nI (3 * 2 ^ i))
  unfold p_X5_divideExactly_F12
  have cases5 : i = 0 ∨ i = 1 ∨ i = 2 ∨ i = 3 ∨ i = 4 := by omega
  refine ⟨fun h30 => ?_, fun h30 => ?_⟩
  · have hi4 : i = 4 := by
      rcases cases5 with rfl | rfl | rfl | rfl | rfl
      · exact absurd h30 (by decide)
      · exact absurd h30 (by decide)
      · exact absurd h30 (by decide)
      · exact absurd h30 (by decide)
      · rfl
    subst hi4
    have hinv : nI (dg d 0) * a = 1 := by
      have e : nI (2 ^ (3 * 2 ^ 4)) = 0 := by decide +kernel
      rw [e] at hy
      have : nI (dg d 0) * a = 1 - (1 - nI (dg d 0) * a) := by grind
      rw [this, hy]; grind
    obtain ⟨k, -, rfl⟩ := wb_of32 a
    refine loopU (A := mM) 16 (fun i M' => (nI i, M')) (fun low M' => fr M M' b (b + 3) ∧ (∀ j, j < 16 → M'.1 (b + 1) j = nI (dg (d * q - d * (q % pw low)) j)) ∧ ∀ j, j < low → M'.1 (b + 2) j = nI (dg q j)) M rfl ⟨fr.rf, fun j hj => by rw [pw_0, Nat.mod_one, Nat.mul_zero, Nat.sub_zero]; exact hv.1 j hj, fun j hj => absurd hj (by omega)⟩ ?_
    rintro low M2 ag2 hlow ⟨hf2, hX, hR⟩ hag2
    show p_X5_divideExactly_F39 b p (nI k) Q ag2 (nI low) M2
    unfold p_X5_divideExactly_F39
    refine ⟨fun h16 => ?_, fun h16 => ?_⟩
    · have := lei (a := 16) (by omega) (by omega) h16
      intro M3 e3
      refine sp_measure hq16 (fun j hj => ?_) (fun M4 f4 r4 => h M4 ((hf2.tr ?_).tr f4) r4)
      · subst e3; rw [mI_s, cpyN 16 (by decide), if_pos hj]; exact hR j (by omega)
      · subst e3; exact fr.rf.mI (by omega) (by omega)
    · have hlt := nlei (a := 16) (by omega) (by omega) h16
      rw [clp (by omega), hX low hlt]
      refine ⟨vin hlt (by omega), fun x5 e5 => ?_⟩
      have eX : d * q - d * (q % pw low) = d * (q / pw low) * pw low := by
        have : d * q = d * (q / pw low) * pw low + d * (q % pw low) := by
          rw [Nat.mul_assoc, ← Nat.mul_add, Nat.div_add_mod']
        omega
      have eT : d * q - d * (q % pw (low + 1)) + dg q low * d * pw low = d * q - d * (q % pw low) := by
        have h1 : d * (q % pw (low + 1)) = d * (q % pw low) + dg q low * d * pw low := by
          rw [dg_mod, Nat.mul_add, Nat.mul_comm (pw low), ← Nat.mul_assoc, Nat.mul_comm d (dg q low)]
        have h2 : d * (q % pw (low + 1)) ≤ d * q := Nat.mul_le_mul_left _ (Nat.mod_le _ _)
        omega
      have hXlow : (d * q - d * (q % pw low)) / pw low = d * (q / pw low) := by rw [eX, Nat.mul_div_cancel _ (pw_pos low)]
      have e5' : x5 = nI (dg q low) := by
        rw [e5]
        refine inv_digit hinv ?_
        unfold dg
        rw [hXlow, Nat.mod_mod, dg_d0]
        conv => rhs; rw [Nat.mul_mod, Nat.mod_mod, ← Nat.mul_mod]
      subst e5'
      have hql := dg_lt q low
      generalize hq0 : dg q low = q0 at hql eT
      generalize hXX : d * q - d * (q % pw low) = XX at hX eT hXlow
      generalize hTT : d * q - d * (q % pw (low + 1)) = TT at eT
      refine loopU (A := Nat × mM) (16 - low) (fun i a => (-(lN a.1), nI i, a.2)) (fun i a => a.1 ≤ 1073741824 ∧ XX / pw (low + i) = TT / pw (low + i) + q0 * (d / pw i) + a.1 ∧ fr M a.2 b (b + 3) ∧ (∀ j, j < 16 → a.2.1 (b + 1) j = nI (if j < low + i then dg TT j else dg XX j)) ∧ ∀ j, j < low → a.2.1 (b + 2) j = nI (dg q j)) (0, M2) (by show (-(lN 0), nI 0, M2) = _; rw [show (-(lN 0)) = 0 by decide]; rfl) ?_ ?_
      · refine ⟨by omega, ?_, hf2, fun j hj => ?_, hR⟩
        · rw [← eT, Nat.add_zero, Nat.add_mul_div_right _ _ (pw_pos low), dg_d0]; rfl
        · by_cases e : j < low
          · rw [if_pos (by omega), hX j hj, ← eT, dg_add_hi e]
          · rw [if_neg (by omega)]; exact hX j hj
      · rintro i ⟨w, M3⟩ ag3 hi3 ⟨hw, hTi, hf3, hX3, hR3⟩ hag3
        dsimp only at hw hTi hf3 hX3 hR3
        show p_X5_divideExactly_F66 b p (nI k) (nI low) (nI q0) Q ag2 ag3 (-(lN w)) (nI i) M3
        unfold p_X5_divideExactly_F66
        rw [nI_add]
        refine ⟨fun hc16 => ?_, fun hc16 => ?_⟩
        · have hc16 := lei (a := 16) (by omega) (by omega) hc16
          refine ⟨vin hlt (by omega), fun M6 e6 => ?_⟩
          rw [nI_1]
          refine hag2 hlt M6 ⟨?_, ?_, ?_⟩
          · subst e6; exact hf3.mI (by omega) (by omega)
          · intro j hj; subst e6
            rw [mI_o (by omega), hX3 j hj, if_pos (by omega), hTT]
          · intro j hj; subst e6
            rw [mI_s, clp (by omega)]
            by_cases e : j = low
            · subst e; rw [updS, hq0]
            · rw [updN e]; exact hR3 j (by omega)
        · have hlt3 := nlei (a := 16) (by omega) (by omega) hc16
          have hpi : M3.1 (p + 1) i = nI (dg d i) := by rw [hf3.1 (p + 1) (by omega)]; exact hd.1 i (by omega)
          have q1 := dg_lt XX (i + low)
          have q2 := dg_lt d i
          have q3 := dg_lt TT (i + low)
          rw [clp (by omega), clp (by omega), hX3 _ hlt3, if_neg (by omega), hpi]
          refine ⟨vin hlt3 (by omega), vin (by omega) (by omega), fun x10 e10 => ⟨vin hlt3 (by omega), fun M11 e11 x13 e13 => ?_⟩⟩
          have hs : XX / pw (i + low + 1) * 1073741824 + dg XX (i + low) = TT / pw (i + low + 1) * 1073741824 + dg TT (i + low) + q0 * (d / pw (i + 1) * 1073741824 + dg d i) + w := by
            rw [← dg_split, ← dg_split, ← dg_split, Nat.add_comm i low]
            exact hTi
          obtain ⟨w', hw', hA, hand, hshr⟩ := dig_sub hs q1 q3 q2 hql hw
          have e10' : x10 = lN (dg XX (i + low)) - lN (q0 * dg d i) - lN w := by
            rw [e10, nI_ll (by omega), nI_ll (by omega), nI_ll (by omega), lN_mul]
            rw [Int64.add_comm, Int64.sub_eq_add_neg, Int64.sub_eq_add_neg]
          rw [e10', hand, lN_i] at e11
          rw [e13, e10', hshr, nI_1]
          refine hag3 (by omega) (w', M11) ⟨hw', ?_, ?_, ?_, ?_⟩
          · show XX / pw (low + (i + 1)) = TT / pw (low + (i + 1)) + q0 * (d / pw (i + 1)) + w'
            rw [show low + (i + 1) = i + low + 1 by omega]; exact hA
          · subst e11; exact hf3.mI (by omega) (by omega)
          · intro j hj
            subst e11
            show (mI M3 (b + 1) _).1 (b + 1) j = _
            rw [mI_s]
            by_cases e : j = i + low
            · subst e; rw [updS, if_pos (by omega)]
            · rw [updN e, hX3 j hj]
              by_cases e2 : j < low + i
              · rw [if_pos e2, if_pos (by omega)]
              · rw [if_neg e2, if_neg (by omega)]
          · intro j hj; subst e11
            show (mI M3 (b + 1) _).1 (b + 2) j = _
            rw [mI_o (by omega)]; exact hR3 j hj
  · have hi3 : i < 4 := by
      rcases cases5 with rfl | rfl | rfl | rfl | rfl
      · omega
      · omega
      · omega
      · omega
      · exact absurd (by decide) h30
    have e2 : nI (3 * 2 ^ i) * 2 = nI (3 * 2 ^ (i + 1)) := by
      rw [Nat.pow_succ, ← Nat.mul_assoc]; exact pk_mul _ 2
    rw [e2]
    refine hag hi3 _ ⟨y * y, ?_⟩
    rw [newton _ _ _ _ hy, pk_mul, ← Nat.pow_add, show 3 * 2 ^ i + 3 * 2 ^ i = 3 * 2 ^ (i + 1) by rw [Nat.pow_succ]; omega]
