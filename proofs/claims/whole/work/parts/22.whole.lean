theorem sp_measure {b v : Nat} {M : mM} {Q : mM → Prop} (hv : v < pw 16) (hd : ∀ i, i < 16 → M.1 (b + 1) i = nI (dg v i)) (h : ∀ M', fr M M' b (b + 3) → RW M' b v → Q M') : p_X5_measure b M Q := by
  unfold p_X5_measure
  intro M1 e1
  refine loopG (A := mM) (fun M' => M') (fun n M' => n ≤ 16 ∧ fr M M' b (b + 3) ∧ (∀ i, i < 16 → M'.1 (b + 1) i = nI (dg v i)) ∧ M'.1 b 2 = nI n ∧ lnF v n = ln v) 16 M1 rfl ?_ ?_
  · subst e1
    exact ⟨by omega, fr.rf.mI (by omega) (by omega), fun i hi => by rw [mI_o (by omega)]; exact hd i hi, by rw [mI_s, updS]; rfl, ln_eq hv (by omega)⟩
  · rintro n M' ag ⟨hn, hf, hg, hl, hln⟩ hag
    show p_X5_measure_F6 b Q ag M'
    unfold p_X5_measure_F6
    rw [hl]
    refine ⟨fun hc => ?_, fun hc => ?_⟩
    · have := lei (b := 0) (by omega) (by omega) hc
      have hn0 : n = 0 := by omega
      subst hn0
      refine h M' hf ⟨hg, ?_, hv⟩
      rw [hl, ← hln]; rfl
    · have hn0 := nlei (b := 0) (by omega) (by omega) hc
      obtain ⟨k, rfl⟩ : ∃ k, n = k + 1 := ⟨n - 1, by omega⟩
      rw [nI_pred, clp (by omega), hg k (by omega)]
      refine ⟨vin (by omega) (by omega), fun hz => ?_, fun hz M3 e3 => ?_⟩
      · refine h M' hf ⟨hg, ?_, hv⟩
        rw [hl, ← hln, lnF, if_neg (fun q => hz (by rw [q]; rfl))]
      · have hz0 : dg v k = 0 := eqi (b := 0) (by have := dg_lt v k; omega) (by omega) hz
        subst e3
        refine hag k _ (by omega) ⟨by omega, hf.mI (by omega) (by omega), ?_, by rw [mI_s, updS], ?_⟩
        · intro i hi; rw [mI_o (by omega)]; exact hg i hi
        · rw [← hln, lnF, if_pos hz0]
theorem sp_addTimes {b u n f : Nat} {M : mM} {Q : mM → Prop} (hn : n < 2 ^ 64) (hf : f ≤ 9) (hT : u + n * f < pw 16) (hd : ∀ i, i < 16 → M.1 (b + 1) i = nI (dg u i)) (h : ∀ M', fr M M' b (b + 3) → RW M' b (u + n * f) → Q M') : p_X5_addTimes b (lN n) (nI f) M Q := by
  unfold p_X5_addTimes
  refine loopU (A := Nat × mM) 16 (fun i a => (lN (n / pw i), lN a.1, nI i, a.2)) (fun i a => a.1 ≤ 10 ∧ (u + n * f) / pw i = u / pw i + n / pw i * f + a.1 ∧ fr M a.2 b (b + 3) ∧ ∀ j, j < 16 → a.2.1 (b + 1) j = nI (if j < i then dg (u + n * f) j else dg u j)) (0, M) ?_ ?_ ?_
  · show (lN (n / pw 0), lN 0, nI 0, M) = _
    rw [dg_d0]; rfl
  · exact ⟨by omega, by rw [dg_d0, dg_d0, dg_d0]; rfl, fr.rf, fun j hj => by rw [if_neg (by omega)]; exact hd j hj⟩
  · rintro i ⟨c, M'⟩ ag hi ⟨hc, hTi, hfr, hl⟩ hag
    dsimp only at hc hTi hfr hl
    show p_X5_addTimes_F9 b (lN n) (nI f) Q ag (lN (n / pw i)) (lN c) (nI i) M'
    unfold p_X5_addTimes_F9
    refine ⟨fun h16 => ?_, fun h16 => ?_⟩
    · have := lei (a := 16) (by omega) (by omega) h16
      exact sp_measure hT (fun j hj => by rw [hl j hj, if_pos (by omega)]) (fun M2 f2 r2 => h M2 (hfr.tr f2) r2)
    · have hlt := nlei (a := 16) (by omega) (by omega) h16
      rw [clp (by omega), hl i hlt, if_neg (by omega)]
      have hu := dg_lt u i
      have hni := dg_lt n i
      have hm : dg n i * f ≤ 1073741823 * 9 := Nat.mul_le_mul (by omega) hf
      have hq : n / pw i < 2 ^ 64 := Nat.lt_of_le_of_lt (Nat.div_le_self _ _) hn
      refine ⟨vin hlt (by omega), fun x3 e3 => ⟨vin hlt (by omega), fun M4 e4 x6 e6 x7 e7 => ?_⟩⟩
      have e3' : x3 = lN (c + (dg u i + dg n i * f)) := by
        rw [e3, nI_ll (by omega), lN_and30 hq, nI_ll (by omega), lN_mul, lN_add, lN_add]; rfl
      have hs : (u + n * f) / pw i = (u / pw (i + 1) + n / pw (i + 1) * f) * 1073741824 + (dg u i + dg n i * f) + c := by
        rw [hTi, dg_split u i, dg_split n i, Nat.add_mul, Nat.add_mul, Nat.mul_right_comm]
        omega
      obtain ⟨s1, s2⟩ := dg_lin hs
      have ex : c + (dg u i + dg n i * f) = dg u i + dg n i * f + c := by omega
      rw [ex] at e3'
      have e6' : x6 = lN ((dg u i + dg n i * f + c) / 1073741824) := by rw [e6, e3', lN_ushr30 (by omega)]
      have e7' : x7 = lN (n / pw (i + 1)) := by rw [e7, lN_ushr30 hq, dg_div]
      rw [e3', lN_and30 (by omega), lN_i, ← s1] at e4
      rw [e6', e7', nI_1]
      refine hag hlt (_, M4) ⟨?_, s2, ?_, ?_⟩
      · show (dg u i + dg n i * f + c) / 1073741824 ≤ 10
        omega
      · subst e4; exact hfr.mI (by omega) (by omega)
      · intro j hj
        subst e4
        show (mI M' (b + 1) _).1 (b + 1) j = _
        rw [mI_s]
        by_cases e : j = i
        · subst e; rw [updS, if_pos (by omega)]
        · rw [updN e, hl j hj]
          by_cases e2 : j < i
          · rw [if_pos e2, if_pos (by omega)]
          · rw [if_neg e2, if_neg (by omega)]
theorem pw16_u {n : Nat} (h : n < 2 ^ 64) : n < pw 16 := Nat.lt_of_lt_of_le h (Nat.le_trans (by decide : 2 ^ 64 ≤ pw 3) (pw_le (by decide)))
theorem sp_set {b n : Nat} {M : mM} {Q : mM → Prop} (hn : n < 2 ^ 64) (h : ∀ M', fr M M' b (b + 3) → RW M' b n → Q M') : p_X5_set b (lN n) M Q := by
  unfold p_X5_set
  refine loopU (A := mM) 16 (fun i M' => (nI i, M')) (fun i M' => fr M M' b (b + 3) ∧ ∀ j, j < i → M'.1 (b + 1) j = nI 0) M rfl ⟨fr.rf, fun j hj => absurd hj (by omega)⟩ ?_
  rintro i M' ag hi ⟨hf, hl⟩ hag
  show p_X5_set_F2 b (lN n) Q ag (nI i) M'
  unfold p_X5_set_F2
  refine ⟨fun h16 => ?_, fun h16 => ?_⟩
  · have := lei (a := 16) (by omega) (by omega) h16
    refine sp_addTimes (u := 0) (f := 1) hn (by omega) (by rw [Nat.zero_add, Nat.mul_one]; exact pw16_u hn) (fun j hj => by rw [hl j (by omega), dg_z]) (fun M2 f2 r2 => h M2 (hf.tr f2) ?_)
    rw [Nat.zero_add, Nat.mul_one] at r2; exact r2
  · have hlt := nlei (a := 16) (by omega) (by omega) h16
    refine ⟨vin hlt (by omega), fun M2 e2 => ?_⟩
    rw [nI_1]
    refine hag hlt M2 ⟨?_, ?_⟩
    · subst e2; exact hf.mI (by omega) (by omega)
    · intro j hj
      subst e2
      rw [mI_s, clp (by omega)]
      by_cases e : j = i
      · subst e; rw [updS]; rfl
      · rw [updN e]; exact hl j (by omega)
