theorem mul_ln {u w n : Nat} (hu : 0 < ln u) (hw : 0 < ln w) (h : u * w < pw n) : ln u + ln w < n + 2 := by
  have h1 := Nat.mul_le_mul (ln_lo hu) (ln_lo hw)
  rw [← pw_add] at h1
  rcases Nat.lt_or_ge (ln u + ln w) (n + 2) with q | q
  · exact q
  · have := pw_le (show n ≤ ln u - 1 + (ln w - 1) by omega)
    omega
theorem ln_bd {u w n : Nat} (hn : n ≤ 38) (hu : u < pw n) (hw : w < pw n) (h : u * w < pw n) : ln u + ln w < n + 2 := by
  rcases Nat.eq_zero_or_pos (ln u) with e | e
  · have := ln_le' hw (by omega); omega
  · rcases Nat.eq_zero_or_pos (ln w) with e2 | e2
    · have := ln_le' hu (by omega); omega
    · exact mul_ln e e2 h
theorem m160 (i k : Nat) : (160 : Int32) + nI i + nI k = nI (40 * 4 + (i + k)) := by
  have : (160 : Int32) = nI 160 := rfl
  rw [this, nI_add, nI_add]
  congr 1; omega
theorem sp7_multiplies {m r o u w : Nat} {M : mM} {Q : mM → Prop} (hr : r < 360) (ho : o < 360) (hr4 : r ≠ 4) (ho4 : o ≠ 4) (hu : MG M m r u) (hw : MG M m o w) (hu38 : u < pw 38) (hw38 : w < pw 38) (hT : u * w < pw 38) (h : ∀ M', fS M M' m (fun q => q = r ∨ q = 4) → MG M' m r (u * w) → Q M') : p_X7_multiplies m (nI r) (nI o) M Q := by
  unfold p_X7_multiplies
  have hsum := ln_bd (by omega) hu38 hw38 hT
  refine sp7_sets (r := 4) (n := 0) (by omega) (by omega) (fun M1 f1 g1 => ?_)
  refine loopU (A := mM) (ln u) (fun i M' => (nI i, M')) (fun i M' => fS M M' m (fun q => q = 4) ∧ ∀ j, j < 40 → M'.1 (m + 6) (40 * 4 + j) = nI (dg (u % pw i * w) j)) M1 rfl ⟨f1, fun j hj => by rw [g1.1 j hj, pw_0, Nat.mod_one, Nat.zero_mul]⟩ ?_
  rintro i M2 ag hi ⟨f2, hR⟩ hag
  show p_X7_multiplies_F8 m (nI r) (nI o) Q ag (nI i) M2
  unfold p_X7_multiplies_F8
  have u2 := hu.fS f2 hr4
  have w2 := hw.fS f2 ho4
  rw [clp (by omega), clp (by omega), u2.2.1, w2.2.1]
  have hlu := ln_le u
  refine ⟨vin hr (by omega), fun hle => ?_, fun hle => ?_⟩
  · have hle := lei (by omega) (by omega) hle
    have ei : i = ln u := by omega
    subst ei
    rw [Nat.mod_eq_of_lt (ln_lt hu.2.2)] at hR
    refine ⟨vin hr (by omega), vin ho (by omega), fun M5 e5 => ?_⟩
    rw [nI_add] at e5
    have e4 : (4 : Int32).toNatClampNeg = 4 := by decide
    rw [e4] at e5
    subst e5
    have hlt : u * w < pw (ln u + ln w) := by
      rw [pw_add]
      exact Nat.mul_lt_mul'' (ln_lt hu.2.2) (ln_lt hw.2.2)
    refine sp7_trims (r := 4) (n := ln u + ln w) (by omega) (by omega) hlt (fun j hj => ?_) (by rw [mI_s, updS]) (fun M6 f6 g6 => ?_)
    · rw [mI_o (by omega)]; exact hR j hj
    · refine sp7_copies (o := 4) hr (by omega) hr4 g6 (fun M7 f7 g7 => h M7 ?_ g7)
      exact (((f2.wd (fun q e => Or.inr e)).wid (r := 4) (Or.inr rfl)).tr (f6.wd (fun q e => Or.inr e))).tr (f7.wd (fun q e => Or.inl e))
  · have hlt := nlei (by omega) (by omega) hle
    have hd := dg_lt u i
    have hui : M2.1 (m + 6) (40 * r + i) = nI (dg u i) := u2.1 i (by omega)
    have eT : u % pw (i + 1) * w = u % pw i * w + dg u i * w * pw i := by
      rw [dg_mod, Nat.add_mul, Nat.mul_comm (pw i), Nat.mul_right_comm]
    have hTle : u % pw (i + 1) * w < pw 38 := Nat.lt_of_le_of_lt (Nat.mul_le_mul_right _ (Nat.mod_le _ _)) hT
    generalize hRR : u % pw i * w = R at hR eT
    generalize hdd : dg u i = d at hd eT
    rw [eT] at hTle
    refine loopU (A := Nat × mM) 40 (fun k a => (lN a.1, nI k, a.2)) (fun k a => a.1 < 1073741824 ∧ (R + d * w * pw i) / pw (i + k) = R / pw (i + k) + d * (w / pw k) + a.1 ∧ fS M a.2 m (fun q => q = 4) ∧ ∀ j, j < 40 → a.2.1 (m + 6) (40 * 4 + j) = nI (if j < i + k then dg (R + d * w * pw i) j else dg R j)) (0, M2) rfl ?_ ?_
    · refine ⟨by omega, ?_, f2, fun j hj => ?_⟩
      · rw [Nat.add_zero, Nat.add_mul_div_right _ _ (pw_pos i), dg_d0]; rfl
      · by_cases e : j < i
        · rw [if_pos (by omega), dg_add_hi e]; exact hR j hj
        · rw [if_neg (by omega)]; exact hR j hj
    · rintro k ⟨c, M3⟩ ag3 hk ⟨hc, hTk, f3, hR3⟩ hag3
      dsimp only at hc hTk f3 hR3
      show p_X7_multiplies_F24 m (nI r) (nI o) (nI i) Q ag ag3 (lN c) (nI k) M3
      have w3 := hw.fS f3 ho4
      have u3 := hu.fS f3 hr4
      have hlw := ln_le w
      have stepJ : ∀ z, i + k < 40 → z = d * dg w k → p_X7_multiplies_J83 m (nI r) (nI o) Q ag ag3 (nI i) (lN c) (nI k) (lN z) M3 := by
        intro z hik hz
        unfold p_X7_multiplies_J83
        have q1 := dg_lt R (i + k)
        have q2 := dg_lt w k
        have hm : d * dg w k ≤ 1073741823 * 1073741823 := Nat.mul_le_mul (by omega) (by omega)
        rw [m160, clp (by omega), hR3 (i + k) hik, if_neg (by omega)]
        refine ⟨vin (by omega) (by omega), fun x11 e11 => ⟨vin (by omega) (by omega), fun M12 e12 x14 e14 => ?_⟩⟩
        have e11' : x11 = lN (dg R (i + k) + d * dg w k + c) := by
          rw [e11, nI_ll (by omega), hz, lN_add, lN_add]
        have hs : (R + d * w * pw i) / pw (i + k) = (R / pw (i + k + 1) + d * (w / pw (k + 1))) * 1073741824 + (dg R (i + k) + d * dg w k) + c := by
          rw [hTk, dg_split R (i + k), dg_split w k, Nat.mul_add, Nat.add_mul, Nat.mul_assoc]
          omega
        obtain ⟨s1, s2⟩ := dg_lin hs
        rw [e11', lN_and30 (by omega), lN_i, ← s1] at e12
        rw [e14, e11', lN_shr30 (by omega), nI_1]
        subst e12
        refine hag3 (by omega) (_, _) ⟨?_, s2, f3.lim (q40 (by omega)), ?_⟩
        · show (dg R (i + k) + d * dg w k + c) / 1073741824 < 1073741824
          omega
        · intro j hj
          show (mI M3 (m + 6) _).1 (m + 6) (40 * 4 + j) = _
          rw [mI_s]
          by_cases e : j = i + k
          · subst e; rw [updS, if_pos (by omega)]
          · rw [updN (by omega), hR3 j hj]
            by_cases e2 : j < i + k
            · rw [if_pos e2, if_pos (by omega)]
            · rw [if_neg e2, if_neg (by omega)]
      have stepG : i + k < 40 → p_X7_multiplies_J42 m (nI r) (nI o) Q ag ag3 (nI i) (lN c) (nI k) M3 := by
        intro hik
        unfold p_X7_multiplies_J42
        rw [clp (by omega), w3.2.1, m40, m40, nI_add, nI_add]
        refine ⟨vin ho (by omega), fun hle2 => ?_, fun hle2 => ?_⟩
        · have hle2 := lei (by omega) (by omega) hle2
          exact stepJ 0 hik (by rw [ln_top hw.2.2 hle2, Nat.mul_zero])
        · have hlt2 := nlei (by omega) (by omega) hle2
          rw [clp (by omega), clp (by omega), w3.1 k (by omega), u3.1 i (by omega), hdd, nI_ll (by omega), nI_ll (by have := dg_lt w k; omega), lN_mul]
          exact ⟨vin (by omega) (by omega), vin (by omega) (by omega), stepJ _ hik rfl⟩
      unfold p_X7_multiplies_F24
      rw [clp (by omega), w3.2.1]
      refine ⟨vin ho (by omega), fun hlt2 => ?_, fun hlt2 => ⟨fun h0 => ?_, fun h0 => ?_⟩⟩
      · have hlt2 := lti (by omega) (by omega) hlt2
        exact stepG (by omega)
      · have hge := nlti (by omega) (by omega) hlt2
        have h0 := (lN_le0 (by omega)).mp h0
        rw [h0, Nat.div_eq_of_lt (Nat.lt_of_lt_of_le (ln_lt hw.2.2) (pw_le hge))] at hTk
        simp only [Nat.mul_zero, Nat.add_zero] at hTk
        rw [nI_1]
        refine hag hlt M3 ⟨f3, fun j hj => ?_⟩
        rw [eT, hR3 j hj]
        by_cases e2 : j < i + k
        · rw [if_pos e2]
        · rw [if_neg e2]
          congr 1
          unfold dg
          obtain ⟨z, rfl⟩ : ∃ z, j = i + k + z := ⟨j - (i + k), by omega⟩
          rw [pw_add, ← Nat.div_div_eq_div_mul, ← Nat.div_div_eq_div_mul, hTk]
      · have hge := nlti (by omega) (by omega) hlt2
        have hc0 : c ≠ 0 := fun q => h0 (by rw [q]; exact (lN_le0 (by omega)).mpr rfl)
        refine stepG ?_
        rcases Nat.lt_or_ge (i + k) 40 with q | q
        · exact q
        · have : (R + d * w * pw i) / pw (i + k) = 0 := Nat.div_eq_of_lt (Nat.lt_of_lt_of_le hTle (pw_le (by omega)))
          rw [this] at hTk
          generalize R / pw (i + k) = a1 at hTk
          generalize d * (w / pw k) = a2 at hTk
          omega
theorem sp7_adds {m r o u w : Nat} {M : mM} {Q : mM → Prop} (hr : r < 360) (ho : o < 360) (hro : r ≠ o) (hu : MG M m r u) (hw : MG M m o w) (hu38 : u < pw 38) (hw38 : w < pw 38) (h : ∀ M', fS M M' m (fun q => q = r) → MG M' m r (u + w) → Q M') : p_X7_adds m (nI r) (nI o) M Q := by
  unfold p_X7_adds
  rw [clp (by omega), clp (by omega), hu.2.1, hw.2.1]
  have hlu := ln_le' hu38 (by omega)
  have hlw := ln_le' hw38 (by omega)
  have main : ∀ n, ln u ≤ n → ln w ≤ n → n ≤ 38 → Loop (fun ag s => p_X7_adds_F37 m (nI r) (nI o) (nI n) Q ag s.1 s.2.1 s.2.2) (0, 0, M) := by
    intro n hnu hnw hn
    refine loopU (A := Nat × mM) n (fun i a => (nI a.1, nI i, a.2)) (fun i a => a.1 ≤ 1 ∧ (u + w) / pw i = u / pw i + w / pw i + a.1 ∧ fS M a.2 m (fun q => q = r) ∧ ∀ j, j < 40 → a.2.1 (m + 6) (40 * r + j) = nI (if j < i then dg (u + w) j else dg u j)) (0, M) rfl ?_ ?_
    · exact ⟨by omega, by rw [dg_d0, dg_d0, dg_d0]; rfl, fS.rf, fun j hj => by rw [if_neg (by omega)]; exact hu.1 j hj⟩
    · rintro i ⟨c, M'⟩ ag hi ⟨hc, hTi, hfs, hl⟩ hag
      dsimp only at hc hTi hfs hl
      show p_X7_adds_F37 m (nI r) (nI o) (nI n) Q ag (nI c) (nI i) M'
      unfold p_X7_adds_F37
      simp only [m40, nI_add, nI_1]
      refine ⟨fun hle => ?_, fun hle => ?_⟩
      · have hle := lei (by omega) (by omega) hle
        have ei : i = n := by omega
        subst ei
        have z1 : u / pw i = 0 := Nat.div_eq_of_lt (Nat.lt_of_lt_of_le (ln_lt hu.2.2) (pw_le hnu))
        have z2 : w / pw i = 0 := Nat.div_eq_of_lt (Nat.lt_of_lt_of_le (ln_lt hw.2.2) (pw_le hnw))
        rw [z1, z2] at hTi
        simp only [Nat.zero_add] at hTi
        have hlt : u + w < pw (i + c) := by
          rcases (by omega : c = 0 ∨ c = 1) with rfl | rfl
          · exact (Nat.div_eq_zero_iff_lt (pw_pos _)).mp hTi
          · rw [pw_s]
            have a1 := Nat.lt_of_lt_of_le (ln_lt hu.2.2) (pw_le hnu)
            have a2 := Nat.lt_of_lt_of_le (ln_lt hw.2.2) (pw_le hnw)
            omega
        refine ⟨vin (by omega) (by omega), fun M5 e5 => ⟨vin hr (by omega), fun M7 e7 => ?_⟩⟩
        rw [clp (by omega)] at e5
        rw [clp (by omega)] at e7
        subst e7
        subst e5
        refine sp7_trims (n := i + c) hr (by omega) hlt (fun j hj => ?_) (by rw [mI_s, updS]) (fun M2 f2 g2 => h M2 (((hfs.lim (q40 (by omega))).wid rfl).tr f2) g2)
        rw [mI_o (by omega), mI_s]
        by_cases e : j = i
        · subst e
          rw [updS]
          congr 1
          show c = (u + w) / pw j % 1073741824
          rw [hTi]; omega
        · rw [updN (by omega), hl j hj]
          by_cases e2 : j < i
          · rw [if_pos e2]
          · rw [if_neg e2, dg_big (Nat.lt_of_lt_of_le (ln_lt hu.2.2) (pw_le hnu)) (by omega), dg_big hlt (by omega)]
      · have hlt := nlei (by omega) (by omega) hle
        have h1 := dg_lt u i
        have h2 := dg_lt w i
        rw [clp (by omega), clp (by omega), hl i (by omega), if_neg (by omega), (hw.fS hfs (Ne.symm hro)).1 i (by omega)]
        refine ⟨vin (by omega) (by omega), vin (by omega) (by omega), fun x12 e12 => ⟨vin (by omega) (by omega), fun M13 e13 x15 e15 => ?_⟩⟩
        have e12' : x12 = nI (dg u i + dg w i + c) := by rw [e12, nI_add, nI_add]
        have hs : (u + w) / pw i = (u / pw (i + 1) + w / pw (i + 1)) * 1073741824 + (dg u i + dg w i) + c := by
          rw [hTi, dg_split u i, dg_split w i, Nat.add_mul]; omega
        obtain ⟨s1, s2⟩ := dg_lin hs
        rw [e12', nI_and30 (by omega), ← s1] at e13
        rw [e15, e12', nI_ushr30 (by omega)]
        subst e13
        refine hag hlt (_, _) ⟨?_, s2, hfs.lim (q40 (by omega)), ?_⟩
        · show (dg u i + dg w i + c) / 1073741824 ≤ 1
          omega
        · intro j hj
          show (mI M' (m + 6) _).1 (m + 6) (40 * r + j) = _
          rw [mI_s]
          by_cases e : j = i
          · subst e; rw [updS, if_pos (by omega)]
          · rw [updN (by omega), hl j hj]
            by_cases e2 : j < i
            · rw [if_pos e2, if_pos (by omega)]
            · rw [if_neg e2, if_neg (by omega)]
  refine ⟨vin hr (by omega), vin ho (by omega), fun hle => ⟨vin ho (by omega), fun x4 e4 => ?_⟩, fun hle => ⟨vin hr (by omega), fun x17 e17 => ?_⟩⟩
  · subst e4; exact main _ (lei (by omega) (by omega) hle) (by omega) hlw
  · subst e17; exact main _ (by omega) (by have := nlei (by omega) (by omega) hle; omega) hlu
theorem sp7_lessens {m r o u w : Nat} {M : mM} {Q : mM → Prop} (hr : r < 360) (ho : o < 360) (hro : r ≠ o) (hu : MG M m r u) (hw : MG M m o w) (hT : w ≤ u) (h : ∀ M', fS M M' m (fun q => q = r) → MG M' m r (u - w) → Q M') : p_X7_lessens m (nI r) (nI o) M Q := by
  unfold p_X7_lessens
  have hL := ln_le u
  refine loopU (A := Nat × mM) (ln u) (fun i a => (nI a.1, nI i, a.2)) (fun i a => a.1 ≤ 1 ∧ u / pw i = (u - w) / pw i + w / pw i + a.1 ∧ fS M a.2 m (fun q => q = r) ∧ (∀ j, j < 40 → a.2.1 (m + 6) (40 * r + j) = nI (if j < i then dg (u - w) j else dg u j)) ∧ a.2.1 (m + 7) r = nI (ln u)) (0, M) rfl ?_ ?_
  · exact ⟨by omega, by rw [dg_d0, dg_d0, dg_d0]; omega, fS.rf, fun j hj => by rw [if_neg (by omega)]; exact hu.1 j hj, hu.2.1⟩
  · rintro i ⟨c, M'⟩ ag hi ⟨hc, hTi, hfs, hl, hwd⟩ hag
    dsimp only at hc hTi hfs hl hwd
    show p_X7_lessens_F5 m (nI r) (nI o) Q ag (nI c) (nI i) M'
    unfold p_X7_lessens_F5
    rw [clp (by omega), hwd, m40, m40, nI_add, nI_add, nI_1]
    refine ⟨vin hr (by omega), fun hle => ?_, fun hle => ?_⟩
    · have hle := lei (by omega) (by omega) hle
      have hlt : u - w < pw (ln u) := Nat.lt_of_le_of_lt (Nat.sub_le _ _) (ln_lt hu.2.2)
      refine sp7_trims hr hL hlt (fun j hj => ?_) hwd (fun M2 f2 g2 => h M2 (hfs.tr f2) g2)
      rw [hl j hj]
      by_cases e : j < i
      · rw [if_pos e]
      · rw [if_neg e, dg_big (ln_lt hu.2.2) (by omega), dg_big hlt (by omega)]
    · have hlt := nlei (by omega) (by omega) hle
      have h1 := dg_lt u i
      have h2 := dg_lt w i
      have h3 := dg_lt (u - w) i
      rw [dg_split u i, dg_split w i, dg_split (u - w) i] at hTi
      rw [clp (by omega), clp (by omega), hl i (by omega), if_neg (by omega), (hw.fS hfs (Ne.symm hro)).1 i (by omega)]
      refine ⟨vin (by omega) (by omega), vin (by omega) (by omega), fun x5 e5 => ⟨vin (by omega) (by omega), fun M6 e6 => ?_⟩⟩
      generalize hA : u / pw (i + 1) = A1 at hTi
      generalize hB : w / pw (i + 1) = A2 at hTi
      generalize hC : (u - w) / pw (i + 1) = A3 at hTi
      generalize hd1 : dg u i = d1 at hTi h1 e5
      generalize hd2 : dg w i = d2 at hTi h2 e5
      generalize hd3 : dg (u - w) i = d3 at hTi h3
      have fin : ∀ c' : Nat, c' ≤ 1 → A1 = A3 + A2 + c' → x5 &&& 1073741823 = nI d3 → ag (nI c', nI (i + 1), M6) := by
        intro c' hc' hA' e7
        rw [e7] at e6
        subst e6
        refine hag hlt (c', _) ⟨hc', ?_, hfs.lim (q40 (by omega)), ?_, ?_⟩
        · rw [hA, hB, hC]; exact hA'
        · intro j hj
          show (mI M' (m + 6) _).1 (m + 6) (40 * r + j) = _
          rw [mI_s]
          by_cases e : j = i
          · subst e; rw [updS, if_pos (by omega), hd3]
          · rw [updN (by omega), hl j hj]
            by_cases e2 : j < i
            · rw [if_pos e2, if_pos (by omega)]
            · rw [if_neg e2, if_neg (by omega)]
        · show (mI M' (m + 6) _).1 (m + 7) r = _
          rw [mI_o (by omega)]; exact hwd
      have e5' : x5 = nI d1 - nI (d2 + c) := by
        rw [e5, ← nI_add d2 c, Int32.sub_eq_add_neg, Int32.sub_eq_add_neg, Int32.sub_eq_add_neg, Int32.neg_add, Int32.sub_eq_add_neg, Int32.add_assoc]
      by_cases hge : d2 + c ≤ d1
      · have e5'' : x5 = nI (d1 - (d2 + c)) := by rw [e5', nI_sub hge]
        have r0 := fin 0 (by omega) (by omega) (by rw [e5'', nI_and30 (by omega)]; congr 1; omega)
        exact ⟨fun _ => r0, fun hn => absurd (by rw [e5'']; exact nI_pos' (by omega)) hn⟩
      · have e5'' : x5 = -(nI (d2 + c - d1)) := by rw [e5', nI_subN _ _ (by omega)]
        have r1 := fin 1 (by omega) (by omega) (by rw [e5'', neg_and30 (by omega) (by omega)]; congr 1; omega)
        refine ⟨fun hp => ?_, fun _ => r1⟩
        rw [e5'', fa_le, fb_negI (by rw [nI_toInt (by omega)]; omega), nI_toInt (by omega)] at hp
        have : (0 : Int32).toInt = 0 := by decide
        omega
theorem sp7_against {m r o u w : Nat} {M : mM} {Q : Int32 → Prop} (hr : r < 360) (ho : o < 360) (hu : MG M m r u) (hw : MG M m o w) (h1 : u < w → Q (-1)) (h2 : u = w → Q 0) (h3 : w < u → Q 1) : p_X7_against m (nI r) (nI o) M Q := by
  unfold p_X7_against
  rw [clp (by omega), clp (by omega), hu.2.1, hw.2.1]
  have l1 := ln_le u
  have l2 := ln_le w
  refine ⟨vin hr (by omega), vin ho (by omega), fun he => ⟨vin hr (by omega), fun x4 e4 => ?_⟩, fun hne => ⟨vin hr (by omega), vin ho (by omega), fun hc => ?_, fun hc => ?_⟩⟩
  · have he := eqi (by omega) (by omega) he
    refine loopD (A := Unit) (ln u) (fun i _ => nI i - 1) (fun i _ => u / pw i = w / pw i) () e4.symm ?_ ?_
    · show u / pw (ln u) = w / pw (ln u)
      rw [Nat.div_eq_of_lt (ln_lt hu.2.2), he, Nat.div_eq_of_lt (ln_lt hw.2.2)]
    · rintro i ⟨⟩ ag hi hq hag
      show p_X7_against_F45 m (nI r) (nI o) M Q ag (nI i - 1)
      unfold p_X7_against_F45
      rcases Nat.eq_zero_or_pos i with e0 | e0
      · subst e0
        rw [dg_d0, dg_d0] at hq
        exact ⟨fun _ => h2 hq, fun hc => absurd (by decide) hc⟩
      · obtain ⟨k, rfl⟩ : ∃ k, i = k + 1 := ⟨i - 1, by omega⟩
        rw [nI_pred, m40, m40, nI_add, nI_add, clp (by omega), clp (by omega), hu.1 k (by omega), hw.1 k (by omega)]
        have q1 := dg_lt u k
        have q2 := dg_lt w k
        refine ⟨fun hc => absurd hc (nI_pos (by omega)), fun _ => ⟨vin (by omega) (by omega), vin (by omega) (by omega), fun he2 => ?_, fun hne2 => ⟨vin (by omega) (by omega), vin (by omega) (by omega), fun hc => ?_, fun hc => ?_⟩⟩⟩
        · have he2 := eqi (by omega) (by omega) he2
          have := hag k rfl () (dg_eqs hq he2)
          rw [Int32.sub_eq_add_neg] at this
          exact this
        · have hc := lei (by omega) (by omega) hc
          have hn : dg u k ≠ dg w k := fun q => hne2 (by rw [q])
          exact h3 (dg_cmp hq.symm (by omega))
        · have hc := nlei (by omega) (by omega) hc
          exact h1 (dg_cmp hq hc)
  · have hc := lei (by omega) (by omega) hc
    have hn : ln u ≠ ln w := fun q => hne (by rw [q])
    exact h3 (ln_cmp hw.2.2 (by omega))
  · have hc := nlei (by omega) (by omega) hc
    exact h1 (ln_cmp hu.2.2 hc)
theorem nI_and1 {n : Nat} (h : n < 4294967296) : nI n &&& 1 = nI (n % 2) := pk_andN h 1 (by decide)
theorem sp7_isEven {m r v : Nat} {M : mM} {Q : Int32 → Prop} (hr : r < 360) (hv : MG M m r v) (h0 : v % 2 = 1 → Q 0) (h1 : v % 2 = 0 → Q 1) : p_X7_isEven m (nI r) M Q := by
  unfold p_X7_isEven
  have e0 : dg v 0 % 2 = v % 2 := by
    show v / pw 0 % 1073741824 % 2 = _
    rw [dg_d0]; omega
  have hd := dg_lt v 0
  have : M.1 (m + 6) (40 * r) = nI (dg v 0) := hv.1 0 (by omega)
  rw [m40, clp (by omega), this, nI_and1 (by omega), e0]
  refine ⟨vin (by omega) (by omega), fun hc => ?_, fun hc => ?_⟩
  · refine h0 ?_
    rcases Nat.mod_two_eq_zero_or_one v with q | q
    · exact absurd (by rw [q]; rfl) hc
    · exact q
  · exact h1 (eqi (b := 0) (by omega) (by omega) hc)
theorem sp7_halves {m r v : Nat} {M : mM} {Q : mM → Prop} (hr : r < 360) (hv : MG M m r v) (h : ∀ M', fS M M' m (fun q => q = r) → MG M' m r (v / 2) → Q M') : p_X7_halves m (nI r) M Q := by
  unfold p_X7_halves
  have hL := ln_le v
  have hv2 : v / 2 < pw (ln v) := Nat.lt_of_le_of_lt (Nat.div_le_self _ _) (ln_lt hv.2.2)
  have hdig : ∀ i, dg (v / 2) i = dg v i / 2 + dg v (i + 1) % 2 * 536870912 := by
    intro i
    have e : dg (v / 2) i = (dg v (i + 1) * 1073741824 + dg v i) / 2 % 1073741824 := shd (v := v) (i := i) (w := 0) (r := 1) (by omega)
    rw [e]
    have h1 := dg_lt v i
    omega
  refine loopU (A := mM) (ln v) (fun i M' => (nI i, M')) (fun i M' => fS M M' m (fun q => q = r) ∧ (∀ j, j < 40 → M'.1 (m + 6) (40 * r + j) = nI (if j < i then dg (v / 2) j else dg v j)) ∧ M'.1 (m + 7) r = nI (ln v)) M rfl ⟨fS.rf, fun j hj => by rw [if_neg (by omega)]; exact hv.1 j hj, hv.2.1⟩ ?_
  rintro i M' ag hi ⟨hf, hl, hw⟩ hag
  show p_X7_halves_F2 m (nI r) Q ag (nI i) M'
  unfold p_X7_halves_F2
  rw [clp (by omega), hw, m40, nI_add, nI_1, nI_1]
  refine ⟨vin hr (by omega), fun hle => ?_, fun hle => ?_⟩
  · have hle := lei (by omega) (by omega) hle
    refine sp7_trims hr hL hv2 (fun j hj => ?_) hw (fun M2 f2 g2 => h M2 (hf.tr f2) g2)
    rw [hl j hj]
    by_cases e : j < i
    · rw [if_pos e]
    · rw [if_neg e, dg_big (ln_lt hv.2.2) (by omega), dg_big hv2 (by omega)]
  · have hlt := nlei (by omega) (by omega) hle
    have stepJ : ∀ z, z = dg v (i + 1) % 2 → p_X7_halves_J43 m (nI r) Q ag (nI i) (nI z) M' := by
      intro z hz
      unfold p_X7_halves_J43
      have h1 := dg_lt v i
      rw [m40, nI_add, nI_1, clp (by omega), hl i (by omega), if_neg (by omega)]
      refine ⟨vin (by omega) (by omega), vin (by omega) (by omega), fun M5 e5 => ?_⟩
      have e1 : nI (dg v i) >>> ((1 : Int32) &&& 31) = nI (dg v i / 2) := pk_shrN (by omega) _ 1 (by decide)
      have e2 : nI z <<< ((29 : Int32) &&& 31) = nI (z * 536870912) := pk_shlN _ 29 (by decide) (by omega)
      have e3 : nI (dg v i / 2) ||| nI (z * 536870912) = nI (dg (v / 2) i) := by
        have e4 : nI (z * 536870912) ||| nI (dg v i / 2) = nI (z * 536870912 + dg v i / 2) := by
          have e5 : (2 : Nat) ^ 29 = 536870912 := by decide
          have := fa_or_sum (a := dg v i / 2) (k := 29) z (by rw [e5]; omega)
          rw [e5, Nat.mul_comm] at this
          exact this
        rw [Int32.or_comm, e4, hdig, hz, Nat.add_comm]
      rw [e1, e2, e3] at e5
      subst e5
      refine hag hlt _ ⟨hf.lim (q40 (by omega)), fun j hj => ?_, by rw [mI_o (by omega)]; exact hw⟩
      rw [mI_s]
      by_cases e : j = i
      · subst e; rw [updS, if_pos (by omega)]
      · rw [updN (by omega), hl j hj]
        by_cases e2 : j < i
        · rw [if_pos e2, if_pos (by omega)]
        · rw [if_neg e2, if_neg (by omega)]
    refine ⟨vin hr (by omega), fun hle2 => ?_, fun hle2 => ?_⟩
    · have hle2 := lei (by omega) (by omega) hle2
      exact stepJ 0 (by rw [ln_top hv.2.2 hle2])
    · have hlt2 := nlei (by omega) (by omega) hle2
      have h1 := dg_lt v (i + 1)
      rw [clp (by omega), Nat.add_assoc, hl (i + 1) (by omega), if_neg (by omega), nI_and1 (by omega)]
      exact ⟨vin (by omega) (by omega), stepJ _ rfl⟩
