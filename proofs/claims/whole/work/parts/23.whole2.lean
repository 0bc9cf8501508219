theorem cpyN {f g : Nat → Int32} {n : Int32} (N : Nat) (hN : n.toNatClampNeg = N) (j : Nat) : va_cpy f g (0 : Int32).toNatClampNeg (0 : Int32).toNatClampNeg n.toNatClampNeg j = if j < N then f j else g j := by
  rw [hN]
  show (if 0 ≤ j ∧ j < 0 + N then f (0 + (j - 0)) else g j) = _
  by_cases h : j < N
  · rw [if_pos ⟨by omega, by omega⟩, if_pos h, Nat.zero_add, Nat.sub_zero]
  · rw [if_neg (by omega), if_neg h]
theorem sp_become {b p v : Nat} {M : mM} {Q : mM → Prop} (hp : p + 3 ≤ b ∨ b + 3 ≤ p) (hr : RW M p v) (h : ∀ M', fr M M' b (b + 3) → RW M' b v → Q M') : p_X5_become b p M Q := by
  unfold p_X5_become
  intro M1 e1 M2 e2
  subst e1 e2
  refine h _ ((fr.rf.mI (by omega) (by omega)).mI (by omega) (by omega)) ⟨fun i hi => ?_, ?_, hr.2.2⟩
  · rw [mI_o (by omega), mI_s, cpyN 16 (by decide), if_pos hi]; exact hr.1 i hi
  · rw [mI_s, updS, mI_o (by omega)]; exact hr.2.1
theorem sp_add {b p u w : Nat} {M : mM} {Q : mM → Prop} (hp : p + 3 ≤ b ∨ b + 3 ≤ p) (hu : RW M b u) (hw : RW M p w) (hT : u + w < pw 16) (h : ∀ M', fr M M' b (b + 3) → RW M' b (u + w) → Q M') : p_X5_add b p M Q := by
  unfold p_X5_add
  refine loopU (A := Nat × mM) 16 (fun i a => (nI a.1, nI i, a.2)) (fun i a => a.1 ≤ 1 ∧ (u + w) / pw i = u / pw i + w / pw i + a.1 ∧ fr M a.2 b (b + 3) ∧ ∀ j, j < 16 → a.2.1 (b + 1) j = nI (if j < i then dg (u + w) j else dg u j)) (0, M) rfl ?_ ?_
  · exact ⟨by omega, by rw [dg_d0, dg_d0, dg_d0]; rfl, fr.rf, fun j hj => by rw [if_neg (by omega)]; exact hu.1 j hj⟩
  · rintro i ⟨c, M'⟩ ag hi ⟨hc, hTi, hfr, hl⟩ hag
    dsimp only at hc hTi hfr hl
    show p_X5_add_F4 b p Q ag (nI c) (nI i) M'
    unfold p_X5_add_F4
    refine ⟨fun h16 => ?_, fun h16 => ?_⟩
    · have := lei (a := 16) (by omega) (by omega) h16
      exact sp_measure hT (fun j hj => by rw [hl j hj, if_pos (by omega)]) (fun M2 f2 r2 => h M2 (hfr.tr f2) r2)
    · have hlt := nlei (a := 16) (by omega) (by omega) h16
      have hpi : M'.1 (p + 1) i = nI (dg w i) := by rw [hfr.1 (p + 1) (by omega)]; exact hw.1 i hlt
      rw [clp (by omega), hl i hlt, if_neg (by omega), hpi]
      have h1 := dg_lt u i
      have h2 := dg_lt w i
      refine ⟨vin hlt (by omega), vin hlt (by omega), fun x4 e4 => ⟨vin hlt (by omega), fun M5 e5 x7 e7 => ?_⟩⟩
      have hs : (u + w) / pw i = (u / pw (i + 1) + w / pw (i + 1)) * 1073741824 + (dg u i + dg w i) + c := by
        rw [hTi, dg_split u i, dg_split w i, Nat.add_mul]; omega
      obtain ⟨s1, s2⟩ := dg_lin hs
      have e4' : x4 = nI (dg u i + dg w i + c) := by
        rw [e4, nI_add, nI_add, show c + (dg u i + dg w i) = dg u i + dg w i + c by omega]
      rw [e4', nI_and30 (by omega), ← s1] at e5
      rw [e7, e4', nI_ushr30 (by omega), nI_1]
      refine hag hlt (_, M5) ⟨?_, s2, ?_, ?_⟩
      · show (dg u i + dg w i + c) / 1073741824 ≤ 1
        omega
      · subst e5; exact hfr.mI (by omega) (by omega)
      · intro j hj
        subst e5
        show (mI M' (b + 1) _).1 (b + 1) j = _
        rw [mI_s]
        by_cases e : j = i
        · subst e; rw [updS, if_pos (by omega)]
        · rw [updN e, hl j hj]
          by_cases e2 : j < i
          · rw [if_pos e2, if_pos (by omega)]
          · rw [if_neg e2, if_neg (by omega)]
theorem nI_neg {m : Nat} (h : m ≤ 4294967296) : -(nI m) = nI (4294967296 - m) := by
  have h1 : nI (4294967296 - m) + nI m = 0 := by
    rw [nI_add, show 4294967296 - m + m = 4294967296 by omega]; rfl
  have h2 : nI (4294967296 - m) = 0 - nI m := by
    rw [← h1, Int32.add_sub_cancel]
  rw [h2, Int32.zero_sub]
theorem nI_sub {a b : Nat} (h : b ≤ a) : nI a - nI b = nI (a - b) := pk_sub h
theorem nI_subN (a b : Nat) (h : a ≤ b) : nI a - nI b = -(nI (b - a)) := by
  rw [← nI_sub h, Int32.neg_sub]
theorem neg_and30 {m : Nat} (h1 : 1 ≤ m) (h2 : m ≤ 1073741824) : -(nI m) &&& 1073741823 = nI ((1073741824 - m) % 1073741824) := by
  rw [nI_neg (by omega), nI_and30 (by omega)]
  congr 1
  omega
theorem neg_shr30 {m : Nat} (h1 : 1 ≤ m) (h2 : m ≤ 1073741824) : (-(nI m)) >>> ((30 : Int32) &&& 31) = -1 := by
  apply Int32.toInt_inj.mp
  rw [pk_shr _ _ 30 (by decide)]
  have e : (-(nI m)).toInt = -(m : Int) := by
    rw [fb_negI (by rw [nI_toInt (by omega)]; omega), nI_toInt (by omega)]
  rw [e, Int.shiftRight_eq_div_pow]
  show -(m : Int) / 1073741824 = -1
  omega
theorem nI_shr30 {m : Nat} (h : m < 2147483648) : nI m >>> ((30 : Int32) &&& 31) = nI (m / 1073741824) := pk_shrN h _ 30 (by decide)
theorem sp_subtract {b p u w : Nat} {M : mM} {Q : mM → Prop} (hp : p + 3 ≤ b ∨ b + 3 ≤ p) (hu : RW M b u) (hw : RW M p w) (hT : w ≤ u) (h : ∀ M', fr M M' b (b + 3) → RW M' b (u - w) → Q M') : p_X5_subtract b p M Q := by
  unfold p_X5_subtract
  refine loopU (A := Nat × mM) 16 (fun i a => (-(nI a.1), nI i, a.2)) (fun i a => a.1 ≤ 1 ∧ u / pw i = (u - w) / pw i + w / pw i + a.1 ∧ fr M a.2 b (b + 3) ∧ ∀ j, j < 16 → a.2.1 (b + 1) j = nI (if j < i then dg (u - w) j else dg u j)) (0, M) (by show (-(nI 0), nI 0, M) = _; rw [show (-(nI 0)) = 0 by decide]; rfl) ?_ ?_
  · exact ⟨by omega, by rw [dg_d0, dg_d0, dg_d0]; omega, fr.rf, fun j hj => by rw [if_neg (by omega)]; exact hu.1 j hj⟩
  · rintro i ⟨c, M'⟩ ag hi ⟨hc, hTi, hfr, hl⟩ hag
    dsimp only at hc hTi hfr hl
    show p_X5_subtract_F4 b p Q ag (-(nI c)) (nI i) M'
    unfold p_X5_subtract_F4
    refine ⟨fun h16 => ?_, fun h16 => ?_⟩
    · have := lei (a := 16) (by omega) (by omega) h16
      exact sp_measure (Nat.lt_of_le_of_lt (Nat.sub_le _ _) hu.2.2) (fun j hj => by rw [hl j hj, if_pos (by omega)]) (fun M2 f2 r2 => h M2 (hfr.tr f2) r2)
    · have hlt := nlei (a := 16) (by omega) (by omega) h16
      have hpi : M'.1 (p + 1) i = nI (dg w i) := by rw [hfr.1 (p + 1) (by omega)]; exact hw.1 i hlt
      rw [clp (by omega), hl i hlt, if_neg (by omega), hpi]
      have h1 := dg_lt u i
      have h2 := dg_lt w i
      have h3 := dg_lt (u - w) i
      have q1 := dg_split u i
      have q2 := dg_split w i
      have q3 := dg_split (u - w) i
      rw [q1, q2, q3] at hTi
      generalize hA : u / pw (i + 1) = A1 at hTi
      generalize hB : w / pw (i + 1) = A2 at hTi
      generalize hC : (u - w) / pw (i + 1) = A3 at hTi
      generalize hd1 : dg u i = d1 at hTi h1 ⊢
      generalize hd2 : dg w i = d2 at hTi h2 ⊢
      generalize hd3 : dg (u - w) i = d3 at hTi h3
      refine ⟨vin hlt (by omega), vin hlt (by omega), fun x4 e4 => ⟨vin hlt (by omega), fun M5 e5 => ?_⟩⟩
      rw [nI_1]
      have fin : ∀ c' : Nat, c' ≤ 1 → A1 = A3 + A2 + c' → x4 &&& 1073741823 = nI d3 → x4 >>> ((30 : Int32) &&& 31) = -(nI c') → ag (x4 >>> ((30 : Int32) &&& 31), nI (i + 1), M5) := by
        intro c' hc' hA' e6 e7
        rw [e7]
        refine hag hlt (c', M5) ⟨hc', ?_, ?_, ?_⟩
        · rw [hA, hB, hC]; exact hA'
        · subst e5; exact hfr.mI (by omega) (by omega)
        · intro j hj
          subst e5
          show (mI M' (b + 1) _).1 (b + 1) j = _
          rw [mI_s]
          by_cases e : j = i
          · subst e; rw [updS, if_pos (by omega), e6, hd3]
          · rw [updN e, hl j hj]
            by_cases e2 : j < i
            · rw [if_pos e2, if_pos (by omega)]
            · rw [if_neg e2, if_neg (by omega)]
      have e4' : x4 = nI d1 - nI (d2 + c) := by
        rw [e4, ← nI_add d2 c, Int32.add_comm, Int32.sub_eq_add_neg, Int32.sub_eq_add_neg, Int32.neg_add, Int32.sub_eq_add_neg, Int32.add_assoc]
      by_cases hge : d2 + c ≤ d1
      · have e4'' : x4 = nI (d1 - (d2 + c)) := by rw [e4', nI_sub hge]
        refine fin 0 (by omega) (by omega) ?_ ?_
        · rw [e4'', nI_and30 (by omega)]; congr 1; omega
        · rw [e4'', nI_shr30 (by omega), show (d1 - (d2 + c)) / 1073741824 = 0 by omega]; rfl
      · have e4'' : x4 = -(nI (d2 + c - d1)) := by rw [e4', nI_subN _ _ (by omega)]
        refine fin 1 (by omega) (by omega) ?_ ?_
        · rw [e4'', neg_and30 (by omega) (by omega)]; congr 1; omega
        · rw [e4'', neg_shr30 (by omega) (by omega)]; rfl
theorem sp_isZero {b v : Nat} {M : mM} {Q : Int32 → Prop} (hr : RW M b v) (h : Q (if v = 0 then 1 else 0)) : p_X5_isZero b M Q := by
  unfold p_X5_isZero
  rw [hr.2.1]
  have hl := ln_le v
  refine ⟨fun hc => ?_, fun hc => ?_⟩
  · rw [if_neg] at h
    · exact h
    · intro e; apply hc; rw [e, ln_0]; rfl
  · have := eqi (b := 0) (by omega) (by omega) hc
    rw [if_pos ((ln_ne0 (pw16_40 hr.2.2)).mp this)] at h
    exact h
theorem sp_compareWith {b p u w : Nat} {M : mM} {Q : Int32 → Prop} (hu : RW M b u) (hw : RW M p w) (h1 : u < w → Q (-1)) (h2 : u = w → Q 0) (h3 : w < u → Q 1) : p_X5_compareWith b p M Q := by
  unfold p_X5_compareWith
  rw [hu.2.1, hw.2.1]
  have l1 := ln_le u
  have l2 := ln_le w
  refine ⟨fun he => ?_, fun hne => ⟨fun hc => ?_, fun hc => ?_⟩⟩
  · have he := eqi (by omega) (by omega) he
    refine loopD (A := Unit) 16 (fun i _ => nI i - 1) (fun i _ => u / pw i = w / pw i) () rfl ?_ ?_
    · show u / pw 16 = w / pw 16
      rw [Nat.div_eq_of_lt hu.2.2, Nat.div_eq_of_lt hw.2.2]
    · rintro i ⟨⟩ ag hi hq hag
      show p_X5_compareWith_F31 b p M Q ag (nI i - 1)
      unfold p_X5_compareWith_F31
      rcases Nat.eq_zero_or_pos i with e0 | e0
      · subst e0
        rw [dg_d0, dg_d0] at hq
        exact ⟨fun _ => h2 hq, fun hc => absurd (by decide) hc⟩
      · obtain ⟨k, rfl⟩ : ∃ k, i = k + 1 := ⟨i - 1, by omega⟩
        rw [nI_pred, clp (by omega), hu.1 k (by omega), hw.1 k (by omega)]
        have q1 := dg_lt u k
        have q2 := dg_lt w k
        refine ⟨fun hc => absurd hc (nI_pos (by omega)), fun _ => ⟨vin (by omega) (by omega), vin (by omega) (by omega), fun he2 => ?_, fun hne2 => ⟨vin (by omega) (by omega), vin (by omega) (by omega), fun hc => ?_, fun hc => ?_⟩⟩⟩
        · have he2 := eqi (by omega) (by omega) he2
          have := hag k rfl () (dg_eqs hq he2)
          rw [Int32.sub_eq_add_neg] at this
          exact this
        · have hc := lei (by omega) (by omega) hc
          have hn : dg u k ≠ dg w k := fun q => hne2 (by rw [q])
          exact h3 (dg_cmp hq.symm (by omega))
        · have hc := nlei (by omega) (by omega) hc
          exact h1 (dg_cmp hq hc)
  · have hc := lei (by omega) (by omega) hc
    have hn : ln u ≠ ln w := fun q => hne (by rw [q])
    exact h3 (ln_cmp (pw16_40 hw.2.2) (by omega))
  · have hc := nlei (by omega) (by omega) hc
    exact h1 (ln_cmp (pw16_40 hu.2.2) hc)
