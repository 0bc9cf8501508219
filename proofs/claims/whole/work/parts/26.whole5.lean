theorem dg_add_hi {R x low j : Nat} (h : j < low) : dg (R + x * pw low) j = dg R j := by
  have e : x * pw low = x * pw (low - (j + 1)) * 1073741824 * pw j := by
    have : pw low = pw (low - (j + 1)) * 1073741824 * pw j := by
      rw [Nat.mul_assoc, Nat.mul_comm 1073741824, ← pw_s, ← pw_add, show low - (j + 1) + (j + 1) = low by omega]
    rw [this, Nat.mul_assoc, Nat.mul_assoc, Nat.mul_assoc]
  unfold dg
  rw [e, Nat.add_mul_div_right _ _ (pw_pos j), Nat.add_mul_mod_self_right]
theorem sp_multiply {b v n : Nat} {M : mM} {Q : mM → Prop} (hr : RW M b v) (hn : n < 2 ^ 64) (hT : v * n < pw 16) (h : ∀ M', fr M M' b (b + 3) → RW M' b (v * n) → Q M') : p_X5_multiply b (lN n) M Q := by
  unfold p_X5_multiply
  have hn3 : n < pw 3 := Nat.lt_of_lt_of_le hn (by decide)
  refine loopU (A := mM) 16 (fun i M' => (nI i, M')) (fun i M' => fr M M' b (b + 3) ∧ (∀ j, j < 16 → M'.1 (b + 1) j = nI (dg v j)) ∧ ∀ j, j < i → M'.1 (b + 2) j = nI 0) M rfl ⟨fr.rf, hr.1, fun j hj => absurd hj (by omega)⟩ ?_
  rintro i M1 ag hi ⟨hf, hv, hz⟩ hag
  show p_X5_multiply_F2 b (lN n) Q ag (nI i) M1
  unfold p_X5_multiply_F2
  refine ⟨fun h16 => ?_, fun h16 => ?_⟩
  · have := lei (a := 16) (by omega) (by omega) h16
    refine loopU (A := mM) 3 (fun i M' => (nI i, M')) (fun low M' => fr M M' b (b + 3) ∧ (∀ j, j < 16 → M'.1 (b + 1) j = nI (dg v j)) ∧ ∀ j, j < 16 → M'.1 (b + 2) j = nI (dg (v * (n % pw low)) j)) M1 rfl ⟨hf, hv, fun j hj => by rw [hz j (by omega), pw_0, Nat.mod_one, Nat.mul_zero, dg_z]⟩ ?_
    rintro low M2 ag2 hlow ⟨hf2, hv2, hR⟩ hag2
    show p_X5_multiply_F23 b (lN n) Q ag2 (nI low) M2
    unfold p_X5_multiply_F23
    refine ⟨fun h3 => ?_, fun h3 => ?_⟩
    · have h3 := lei (a := 3) (by omega) (by omega) h3
      have e3 : low = 3 := by omega
      subst e3
      intro M3 e3
      rw [Nat.mod_eq_of_lt hn3] at hR
      refine sp_measure hT (fun j hj => ?_) (fun M4 f4 r4 => h M4 ((hf2.tr ?_).tr f4) r4)
      · subst e3; rw [mI_s, cpyN 16 (by decide), if_pos hj]; exact hR j hj
      · subst e3; exact fr.rf.mI (by omega) (by omega)
    · have h3 := nlei (a := 3) (by omega) (by omega) h3
      intro x3 e3
      have e3' : x3 = lN (dg n low) := by
        have e1 : nI low * 30 = nI (low * 30) := pk_mul low 30
        have e2 : ((lN n).toUInt64 >>> ((nI (low * 30)).toInt64.toUInt64 &&& Int64.toUInt64 63)).toInt64 = lN (n / 2 ^ (low * 30)) := wb_shr hn (by omega)
        rw [e3, e1, e2, lN_and30 (Nat.lt_of_le_of_lt (Nat.div_le_self _ _) hn), Nat.mul_comm low 30, ← pw_2]; rfl
      rw [e3']
      have hd := dg_lt n low
      generalize hdd : dg n low = d at hd e3'
      have eT : v * (n % pw (low + 1)) = v * (n % pw low) + d * v * pw low := by
        rw [dg_mod, hdd, Nat.mul_add, Nat.mul_comm (pw low), Nat.mul_comm d v, Nat.mul_assoc]
      generalize hRR : v * (n % pw low) = R at hR eT
      refine loopU (A := Nat × mM) (16 - low) (fun i a => (lN a.1, nI i, a.2)) (fun i a => a.1 < 1073741824 ∧ (R + d * v * pw low) / pw (low + i) = R / pw (low + i) + d * (v / pw i) + a.1 ∧ fr M a.2 b (b + 3) ∧ (∀ j, j < 16 → a.2.1 (b + 1) j = nI (dg v j)) ∧ ∀ j, j < 16 → a.2.1 (b + 2) j = nI (if j < low + i then dg (R + d * v * pw low) j else dg R j)) (0, M2) rfl ?_ ?_
      · refine ⟨by omega, ?_, hf2, hv2, fun j hj => ?_⟩
        · rw [Nat.add_zero, Nat.add_mul_div_right _ _ (pw_pos low), dg_d0]; rfl
        · by_cases e : j < low
          · rw [if_pos (by omega), dg_add_hi e]; exact hR j hj
          · rw [if_neg (by omega)]; exact hR j hj
      · rintro i ⟨c, M3⟩ ag3 hi3 ⟨hc, hTi, hf3, hv3, hR3⟩ hag3
        dsimp only at hc hTi hf3 hv3 hR3
        show p_X5_multiply_F46 b (lN n) (nI low) (lN d) Q ag2 ag3 (lN c) (nI i) M3
        unfold p_X5_multiply_F46
        rw [nI_add]
        refine ⟨fun hc16 => ?_, fun hc16 => ?_⟩
        · have hc16 := lei (a := 16) (by omega) (by omega) hc16
          rw [nI_1]
          refine hag2 h3 M3 ⟨hf3, hv3, fun j hj => ?_⟩
          rw [hR3 j hj, if_pos (by omega), eT]
        · have hlt := nlei (a := 16) (by omega) (by omega) hc16
          have q1 := dg_lt R (i + low)
          have q2 := dg_lt v i
          rw [clp (by omega), clp (by omega), hR3 _ hlt, if_neg (by omega), hv3 i (by omega)]
          have hm : d * dg v i ≤ 1073741823 * 1073741823 := Nat.mul_le_mul (by omega) (by omega)
          refine ⟨vin hlt (by omega), vin (by omega) (by omega), fun x6 e6 => ⟨vin hlt (by omega), fun M7 e7 x9 e9 => ?_⟩⟩
          have e6' : x6 = lN (dg R (i + low) + d * dg v i + c) := by
            rw [e6, nI_ll (by omega), nI_ll (by omega), lN_mul, lN_add, lN_add, show c + (dg R (i + low) + d * dg v i) = dg R (i + low) + d * dg v i + c by omega]
          have hs : (R + d * v * pw low) / pw (i + low) = (R / pw (i + low + 1) + d * (v / pw (i + 1))) * 1073741824 + (dg R (i + low) + d * dg v i) + c := by
            rw [Nat.add_comm i low, hTi, dg_split R (low + i), dg_split v i, Nat.mul_add, Nat.add_mul, Nat.mul_assoc]
            omega
          obtain ⟨s1, s2⟩ := dg_lin hs
          rw [e6', lN_and30 (by omega), lN_i, ← s1] at e7
          rw [e9, e6', lN_ushr30 (by omega), nI_1]
          refine hag3 (by omega) (_, M7) ⟨?_, ?_, ?_, ?_, ?_⟩
          · show (dg R (i + low) + d * dg v i + c) / 1073741824 < 1073741824
            omega
          · show (R + d * v * pw low) / pw (low + (i + 1)) = R / pw (low + (i + 1)) + d * (v / pw (i + 1)) + (dg R (i + low) + d * dg v i + c) / 1073741824
            rw [show low + (i + 1) = i + low + 1 by omega]; exact s2
          · subst e7; exact hf3.mI (by omega) (by omega)
          · intro j hj; subst e7
            show (mI M3 (b + 2) _).1 (b + 1) j = _
            rw [mI_o (by omega)]; exact hv3 j hj
          · intro j hj
            subst e7
            show (mI M3 (b + 2) _).1 (b + 2) j = _
            rw [mI_s]
            by_cases e : j = i + low
            · subst e; rw [updS, if_pos (by omega)]
            · rw [updN e, hR3 j hj]
              by_cases e2 : j < low + i
              · rw [if_pos e2, if_pos (by omega)]
              · rw [if_neg e2, if_neg (by omega)]
  · have hlt := nlei (a := 16) (by omega) (by omega) h16
    refine ⟨vin hlt (by omega), fun M10 e10 => ?_⟩
    rw [nI_1]
    refine hag hlt M10 ⟨?_, ?_, ?_⟩
    · subst e10; exact hf.mI (by omega) (by omega)
    · intro j hj; subst e10; rw [mI_o (by omega)]; exact hv j hj
    · intro j hj
      subst e10
      rw [mI_s, clp (by omega)]
      by_cases e : j = i
      · subst e; rw [updS]; rfl
      · rw [updN e]; exact hz j (by omega)
