theorem sp7_parts {m r d q : Nat} {M : mM} {Q : mM → Prop} (hr : r < 360) (hr3 : r ≠ 3) (hr4 : r ≠ 4) (hv : MG M m r (d * q)) (hd : MG M m 3 d) (hodd : d % 2 = 1) (h : ∀ M', fS M M' m (fun z => z = r ∨ z = 4) → MG M' m r q → Q M') : p_X7_parts m (nI r) M Q := by
  unfold p_X7_parts
  have hL := ln_le (d * q)
  have hq40 : q ≤ d * q := Nat.le_mul_of_pos_left q (by omega)
  have hqn : q < pw (ln (d * q)) := Nat.lt_of_le_of_lt hq40 (ln_lt hv.2.2)
  have hd00 : dg d 0 % 2 = 1 := by
    show d / pw 0 % 1073741824 % 2 = 1
    rw [dg_d0]; omega
  obtain ⟨z0, hz0⟩ : ∃ z, dg d 0 = 2 * z + 1 := ⟨dg d 0 / 2, by omega⟩
  have hlimb : M.1 (m + 6) (120 : Int32).toNatClampNeg = nI (dg d 0) := hd.1 0 (by omega)
  refine loopU (A := Int32) 5 (fun i a => (a, nI i)) (fun i a => ∃ y : Int32, 1 - nI (dg d 0) * a = nI (2 ^ (2 ^ i)) * y) 1 rfl ?_ ?_
  · refine ⟨-(nI z0), ?_⟩
    show 1 - nI (dg d 0) * 1 = nI 2 * -(nI z0)
    rw [hz0, ← nI_add, ← pk_mul]
    generalize nI z0 = z
    show (1 : Int32) - (nI 2 * z + 1) * 1 = nI 2 * -z
    grind
  rintro i a ag hi ⟨y, hy⟩ hag
  show p_X7_parts_F4 m (nI r) M Q ag a (nI i)
  unfold p_X7_parts_F4
  refine ⟨fun h5 => ?_, fun h5 => ?_⟩
  · have h5 := lei (a := 5) (by omega) (by omega) h5
    have hi5 : i = 5 := by omega
    subst hi5
    have hinv : nI (dg d 0) * a = 1 := by
      have e : nI (2 ^ (2 ^ 5)) = 0 := by decide +kernel
      rw [e] at hy
      have : nI (dg d 0) * a = 1 - (1 - nI (dg d 0) * a) := by grind
      rw [this, hy]; grind
    obtain ⟨k, -, rfl⟩ := wb_of32 a
    rw [clp (by omega)]
    refine ⟨vin hr (by omega), fun x2 e2 => ?_⟩
    rw [hv.2.1] at e2
    subst e2
    generalize hn : ln (d * q) = n at hL hqn
    have hX40 : d * q < pw n := by rw [← hn]; exact ln_lt hv.2.2
    refine loopU (A := mM) n (fun i M' => (nI i, M')) (fun low M' => fS M M' m (fun z => z = r ∨ z = 4) ∧ (∀ j, j < 40 → M'.1 (m + 6) (40 * r + j) = nI (dg (d * q - d * (q % pw low)) j)) ∧ (∀ j, j < low → M'.1 (m + 6) (40 * 4 + j) = nI (dg q j)) ∧ M'.1 (m + 7) r = nI n) M rfl ⟨fS.rf, fun j hj => by rw [pw_0, Nat.mod_one, Nat.mul_zero, Nat.sub_zero]; exact hv.1 j hj, fun j hj => absurd hj (by omega), by rw [hv.2.1, hn]⟩ ?_
    rintro low M2 ag2 hlow ⟨hf2, hX, hR, hwd⟩ hag2
    show p_X7_parts_F39 m (nI r) (nI k) (nI n) Q ag2 (nI low) M2
    unfold p_X7_parts_F39
    rw [m40, nI_add]
    refine ⟨fun hle => ?_, fun hle => ?_⟩
    · have hle := lei (by omega) (by omega) hle
      have el : low = n := by omega
      subst el
      rw [Nat.mod_eq_of_lt hqn, Nat.sub_self] at hX
      refine loopU (A := mM) low (fun i M' => (nI i, M')) (fun i M' => fS M M' m (fun z => z = r ∨ z = 4) ∧ (∀ j, j < 40 → M'.1 (m + 6) (40 * r + j) = nI (if j < i then dg q j else 0)) ∧ (∀ j, j < low → M'.1 (m + 6) (40 * 4 + j) = nI (dg q j)) ∧ M'.1 (m + 7) r = nI low) M2 rfl ⟨hf2, fun j hj => by rw [if_neg (by omega), hX j hj, dg_z], hR, hwd⟩ ?_
      rintro i M3 ag3 hi3 ⟨f3, l3, R3, w3⟩ hag3
      show p_X7_parts_F193 m (nI r) (nI low) Q ag3 (nI i) M3
      unfold p_X7_parts_F193
      have e160 : (160 : Int32) + nI i = nI (40 * 4 + i) := nI_add 160 i
      rw [m40, nI_add, e160, nI_1]
      refine ⟨fun hle2 => ?_, fun hle2 => ?_⟩
      · have hle2 := lei (by omega) (by omega) hle2
        refine sp7_trims hr hL hqn (fun j hj => ?_) w3 (fun M4 f4 g4 => h M4 (f3.tr (f4.wd (fun z e => Or.inl e))) g4)
        rw [l3 j hj]
        by_cases e : j < i
        · rw [if_pos e]
        · rw [if_neg e, dg_big hqn (by omega)]
      · have hlt2 := nlei (by omega) (by omega) hle2
        rw [clp (by omega), clp (by omega), R3 i hlt2]
        refine ⟨vin (by omega) (by omega), vin (by omega) (by omega), fun M5 e5 => ?_⟩
        subst e5
        refine hag3 hlt2 _ ⟨f3.lim (Or.inl (q40 (by omega))), ?_, ?_, by rw [mI_o (by omega)]; exact w3⟩
        · intro j hj
          rw [mI_s]
          by_cases e : j = i
          · subst e; rw [updS, if_pos (by omega)]
          · rw [updN (by omega), l3 j hj]
            by_cases e2 : j < i
            · rw [if_pos e2, if_pos (by omega)]
            · rw [if_neg e2, if_neg (by omega)]
        · intro j hj
          rw [mI_s, updN (by omega)]; exact R3 j hj
    · have hlt := nlei (by omega) (by omega) hle
      rw [clp (by omega), hX low (by omega)]
      refine ⟨vin (by omega) (by omega), fun x8 e8 => ?_⟩
      have eX : d * q - d * (q % pw low) = d * (q / pw low) * pw low := by
        have : d * q = d * (q / pw low) * pw low + d * (q % pw low) := by
          rw [Nat.mul_assoc, ← Nat.mul_add, Nat.div_add_mod']
        omega
      have eT : d * q - d * (q % pw (low + 1)) + dg q low * d * pw low = d * q - d * (q % pw low) := by
        have h1 : d * (q % pw (low + 1)) = d * (q % pw low) + dg q low * d * pw low := by
          rw [dg_mod, Nat.mul_add, Nat.mul_comm (pw low), ← Nat.mul_assoc, Nat.mul_comm d (dg q low)]
        have h2 : d * (q % pw (low + 1)) ≤ d * q := Nat.mul_le_mul_left _ (Nat.mod_le _ _)
        omega
      have hXlow : (d * q - d * (q % pw low)) / pw low = d * (q / pw low) := by rw [eX, Nat.mul_div_cancel _ (pw_pos low)]
      have e8' : x8 = nI (dg q low) := by
        rw [e8]
        refine inv_digit hinv ?_
        unfold dg
        rw [hXlow, Nat.mod_mod, dg_d0]
        conv => rhs; rw [Nat.mul_mod, Nat.mod_mod, ← Nat.mul_mod]
      subst e8'
      have hql := dg_lt q low
      have hXn : d * q - d * (q % pw low) < pw n := Nat.lt_of_le_of_lt (Nat.sub_le _ _) hX40
      have hTn : d * q - d * (q % pw (low + 1)) < pw n := Nat.lt_of_le_of_lt (Nat.sub_le _ _) hX40
      generalize hq0 : dg q low = q0 at hql eT
      generalize hXX : d * q - d * (q % pw low) = XX at hX eT hXlow hXn
      generalize hTT : d * q - d * (q % pw (low + 1)) = TT at eT hTn
      refine loopU (A := Nat × mM) (n - low) (fun i a => (lN a.1, nI i, a.2)) (fun i a => a.1 ≤ 1073741824 ∧ XX / pw (low + i) = TT / pw (low + i) + q0 * (d / pw i) + a.1 ∧ fS M a.2 m (fun z => z = r ∨ z = 4) ∧ (∀ j, j < 40 → a.2.1 (m + 6) (40 * r + j) = nI (if j < low + i then dg TT j else dg XX j)) ∧ (∀ j, j < low → a.2.1 (m + 6) (40 * 4 + j) = nI (dg q j)) ∧ a.2.1 (m + 7) r = nI n) (0, M2) rfl ?_ ?_
      · refine ⟨by omega, ?_, hf2, fun j hj => ?_, hR, hwd⟩
        · rw [← eT, Nat.add_zero, Nat.add_mul_div_right _ _ (pw_pos low), dg_d0]; rfl
        · by_cases e : j < low
          · rw [if_pos (by omega), hX j hj, ← eT, dg_add_hi e]
          · rw [if_neg (by omega)]; exact hX j hj
      · rintro i ⟨w, M3⟩ ag3 hi3 ⟨hw, hTi, hf3, hX3, hR3, hw3⟩ hag3
        dsimp only at hw hTi hf3 hX3 hR3 hw3
        show p_X7_parts_F70 m (nI r) (nI k) (nI n) (nI low) (nI q0) Q ag2 ag3 (lN w) (nI i) M3
        have hd3 := hd.fS hf3 (by omega)
        have hld := ln_le d
        have stepJ : low + i < n → p_X7_parts_J109 m (nI r) Q ag2 ag3 (nI k) (nI n) (nI low) (nI q0) (lN w) (nI i) (lN (q0 * dg d i)) M3 := by
          intro hlt3
          unfold p_X7_parts_J109
          have q1 := dg_lt XX (low + i)
          have q2 := dg_lt d i
          have q3 := dg_lt TT (low + i)
          rw [m40, nI_add, nI_add, clp (by omega), Nat.add_assoc, hX3 _ (by omega), if_neg (by omega)]
          refine ⟨vin (by omega) (by omega), fun x12 e12 => ⟨vin (by omega) (by omega), fun M13 e13 x15 e15 => ?_⟩⟩
          have hs : XX / pw (low + i + 1) * 1073741824 + dg XX (low + i) = TT / pw (low + i + 1) * 1073741824 + dg TT (low + i) + q0 * (d / pw (i + 1) * 1073741824 + dg d i) + w := by
            rw [← dg_split, ← dg_split, ← dg_split]
            exact hTi
          obtain ⟨w', hw', hA, hand, hshr⟩ := dig_sub hs q1 q3 q2 hql hw
          have e12' : x12 = lN (dg XX (low + i)) - lN (q0 * dg d i) - lN w := by
            rw [e12, nI_ll (by omega)]
          rw [e12', hand, lN_i] at e13
          rw [e15, e12', hshr, Int64.neg_neg, nI_1]
          subst e13
          refine hag3 (by omega) (w', _) ⟨hw', hA, hf3.lim (Or.inl (q40 (by omega))), ?_, ?_, ?_⟩
          · intro j hj
            show (mI M3 (m + 6) _).1 (m + 6) (40 * r + j) = _
            rw [mI_s]
            by_cases e : j = low + i
            · subst e; rw [updS, if_pos (by omega)]
            · rw [updN (by omega), hX3 j hj]
              by_cases e2 : j < low + i
              · rw [if_pos e2, if_pos (by omega)]
              · rw [if_neg e2, if_neg (by omega)]
          · intro j hj
            show (mI M3 (m + 6) _).1 (m + 6) (40 * 4 + j) = _
            rw [mI_s, updN (by omega)]; exact hR3 j hj
          · show (mI M3 (m + 6) _).1 (m + 7) r = _
            rw [mI_o (by omega)]; exact hw3
        unfold p_X7_parts_F70
        have e160 : (160 : Int32) + nI low = nI (40 * 4 + low) := nI_add 160 low
        have e120 : (120 : Int32) + nI i = nI (40 * 3 + i) := nI_add 120 i
        have e3 : (3 : Int32).toNatClampNeg = 3 := by decide
        rw [nI_add, e160, e120, e3, hd3.2.1, clp (by omega), clp (by omega)]
        refine ⟨fun hc => ?_, fun hc => ⟨fun hc2 => ?_, fun hc2 => ?_⟩⟩
        · have hc := lei (by omega) (by omega) hc
          refine ⟨vin (by omega) (by omega), fun M9 e9 => ?_⟩
          subst e9
          rw [nI_1]
          refine hag2 hlt _ ⟨hf3.lim (Or.inr (q40 (by omega))), ?_, ?_, by rw [mI_o (by omega)]; exact hw3⟩
          · intro j hj
            rw [mI_s, updN (by omega), hX3 j hj, hTT]
            by_cases e2 : j < low + i
            · rw [if_pos e2]
            · rw [if_neg e2, dg_big hXn (by omega), dg_big hTn (by omega)]
          · intro j hj
            rw [mI_s]
            by_cases e : j = low
            · subst e; rw [updS, hq0]
            · rw [updN (by omega)]; exact hR3 j (by omega)
        · have hc := nlei (by omega) (by omega) hc
          have hc2 := lei (by omega) (by omega) hc2
          have := stepJ hc
          rw [ln_top hd.2.2 hc2, Nat.mul_zero] at this
          exact this
        · have hc := nlei (by omega) (by omega) hc
          have hc2 := nlei (by omega) (by omega) hc2
          have := stepJ hc
          have q2 := dg_lt d i
          rw [hd3.1 i (by omega), nI_ll (by omega), nI_ll (by omega), lN_mul]
          exact ⟨vin (by omega) (by omega), this⟩
  · have h5 := nlei (a := 5) (by omega) (by omega) h5
    intro x17 e17
    rw [hlimb] at e17
    rw [nI_1, e17]
    refine hag h5 _ ⟨y * y, ?_⟩
    rw [newton _ _ _ _ hy, pk_mul, ← Nat.pow_add, show 2 ^ i + 2 ^ i = 2 ^ (i + 1) by rw [Nat.pow_succ]; omega]
/-- the odd common divisors of x and y are G's -/
def CD (x y G : Nat) : Prop := ∀ c, c % 2 = 1 → ((c ∣ x ∧ c ∣ y) ↔ c ∣ G)
theorem odd_dvd2 {c x : Nat} (hc : c % 2 = 1) (hx : x % 2 = 0) : c ∣ x / 2 ↔ c ∣ x := by
  have e : x = 2 * (x / 2) := by omega
  refine ⟨fun h => by rw [e]; exact Nat.dvd_trans h (Nat.dvd_mul_left _ _), fun h => ?_⟩
  rw [e] at h
  have h1 : Nat.Coprime c 2 := by
    have := cop2 hc 1
    rw [Nat.pow_one] at this
    exact Nat.Coprime.symm this
  exact Nat.Coprime.dvd_of_dvd_mul_left h1 h
theorem CD.hx {x y G : Nat} (h : CD x y G) (e : x % 2 = 0) : CD (x / 2) y G := fun c hc => by rw [odd_dvd2 hc e]; exact h c hc
theorem CD.hy {x y G : Nat} (h : CD x y G) (e : y % 2 = 0) : CD x (y / 2) G := fun c hc => by rw [odd_dvd2 hc e]; exact h c hc
theorem CD.sx {x y G : Nat} (h : CD x y G) (e : y ≤ x) : CD (x - y) y G := fun c hc => by
  rw [← h c hc]
  refine ⟨fun q => ⟨?_, q.2⟩, fun q => ⟨Nat.dvd_sub q.1 q.2, q.2⟩⟩
  have := Nat.dvd_add q.1 q.2
  rw [Nat.sub_add_cancel e] at this
  exact this
theorem CD.sy {x y G : Nat} (h : CD x y G) (e : x ≤ y) : CD x (y - x) G := fun c hc => by
  rw [← h c hc]
  refine ⟨fun q => ⟨q.1, ?_⟩, fun q => ⟨q.1, Nat.dvd_sub q.2 q.1⟩⟩
  have := Nat.dvd_add q.2 q.1
  rw [Nat.sub_add_cancel e] at this
  exact this
theorem CD.end {y G : Nat} (h : CD 0 y G) (hy : y % 2 = 1) (hG : G % 2 = 1) : y = G := by
  have h1 := (h y hy).mp ⟨Nat.dvd_zero _, Nat.dvd_refl _⟩
  have h2 := ((h G hG).mpr (Nat.dvd_refl _)).2
  exact Nat.dvd_antisymm h1 h2
theorem sp7_lowers {m N D : Nat} {M : mM} {Q : mM → Prop} (hN : MG M m 0 N) (hD : MG M m 1 D) (pD : 0 < D) (h : ∀ M', fS M M' m (fun z => z < 5) → MG M' m 0 (N / Nat.gcd N D) → MG M' m 1 (D / Nat.gcd N D) → Q M') : p_X7_lowers m M Q := by
  unfold p_X7_lowers
  have e0 : (0 : Int32).toNatClampNeg = 0 := by decide
  have e2 : (2 : Int32).toNatClampNeg = 2 := by decide
  have e3 : (3 : Int32).toNatClampNeg = 3 := by decide
  rw [e0, hN.2.1]
  have hlN := ln_le N
  refine ⟨fun hc => ?_, fun hc => ?_⟩
  · have pN : 0 < N := by
      rcases Nat.eq_zero_or_pos N with q | q
      · exact absurd (by rw [q, ln_0]; rfl) hc
      · exact q
    refine loopG (A := Nat × Nat × mM) (fun a => a.2.2) (fun k a => a.1 = k ∧ 0 < a.1 ∧ 0 < a.2.1 ∧ fS M a.2.2 m (fun z => z < 5) ∧ MG a.2.2 m 0 a.1 ∧ MG a.2.2 m 1 a.2.1 ∧ a.1 / Nat.gcd a.1 a.2.1 = N / Nat.gcd N D ∧ a.2.1 / Nat.gcd a.1 a.2.1 = D / Nat.gcd N D) N (N, D, M) rfl ⟨rfl, pN, pD, fS.rf, hN, hD, rfl, rfl⟩ ?_
    rintro k ⟨n, d, M1⟩ ag ⟨rfl, pn, pd, f1, gn, gd, en, ed⟩ hag
    dsimp only at pn pd f1 gn gd en ed
    show p_X7_lowers_F16 m Q ag M1
    have j45 : n % 2 = 1 ∨ d % 2 = 1 → p_X7_lowers_J45 m Q M1 := by
      intro hodd
      unfold p_X7_lowers_J45
      have hG : Nat.gcd n d % 2 = 1 := by
        rcases Nat.mod_two_eq_zero_or_one (Nat.gcd n d) with q | q
        · have h2 : 2 ∣ Nat.gcd n d := Nat.dvd_of_mod_eq_zero q
          have h3 := Nat.dvd_trans h2 (Nat.gcd_dvd_left n d)
          have h4 := Nat.dvd_trans h2 (Nat.gcd_dvd_right n d)
          rcases hodd with o | o
          · omega
          · omega
        · exact q
      refine sp7_copies (r := 2) (o := 0) (by omega) (by omega) (by omega) gn (fun M2 f2 g2 => ?_)
      refine sp7_copies (r := 3) (o := 1) (by omega) (by omega) (by omega) (gd.fS f2 (by omega)) (fun M3 f3 g3 => ?_)
      have F3 : fS M M3 m (fun z => z < 5) := (f1.tr (f2.wd (fun z e => by omega))).tr (f3.wd (fun z e => by omega))
      have gn3 := (gn.fS f2 (by omega)).fS f3 (by omega)
      have gd3 := (gd.fS f2 (by omega)).fS f3 (by omega)
      refine loopG (A := Nat × Nat × mM) (fun a => a.2.2) (fun k a => a.1 + a.2.1 = k ∧ 0 < a.2.1 ∧ (a.1 = 0 → a.2.1 % 2 = 1) ∧ CD a.1 a.2.1 (Nat.gcd n d) ∧ fS M a.2.2 m (fun z => z < 5) ∧ MG a.2.2 m 2 a.1 ∧ MG a.2.2 m 3 a.2.1 ∧ MG a.2.2 m 0 n ∧ MG a.2.2 m 1 d) (n + d) (n, d, M3) rfl ⟨rfl, pd, fun q => absurd q (by show n ≠ 0; omega), fun c _ => Nat.dvd_gcd_iff.symm, F3, g2.fS f3 (by omega), g3, gn3, gd3⟩ ?_
      rintro k ⟨x, y, M4⟩ ag4 ⟨rfl, py, hxy, hcd, F4, gx, gy, gn4, gd4⟩ hag4
      dsimp only at py hxy hcd F4 gx gy gn4 gd4 hag4
      show p_X7_lowers_F57 m Q ag4 M4
      unfold p_X7_lowers_F57
      rw [e2, gx.2.1]
      have hlx := ln_le x
      refine ⟨fun hc0 => ?_, fun hc0 => ?_⟩
      · have hc0 := lei (b := 0) (by omega) (by omega) hc0
        have x0 : x = 0 := (ln_ne0 gx.2.2).mp (by omega)
        subst x0
        have yG := hcd.end (hxy rfl) hG
        rw [yG] at gy
        have qn : n = Nat.gcd n d * (n / Nat.gcd n d) := (Nat.mul_div_cancel' (Nat.gcd_dvd_left n d)).symm
        have qd : d = Nat.gcd n d * (d / Nat.gcd n d) := (Nat.mul_div_cancel' (Nat.gcd_dvd_right n d)).symm
        have gn5 : MG M4 m 0 (Nat.gcd n d * (n / Nat.gcd n d)) := by rw [← qn]; exact gn4
        have gd5 : MG M4 m 1 (Nat.gcd n d * (d / Nat.gcd n d)) := by rw [← qd]; exact gd4
        refine sp7_parts (r := 0) (by omega) (by omega) (by omega) gn5 gy hG (fun M5 f5 g5 => ?_)
        refine sp7_parts (r := 1) (by omega) (by omega) (by omega) (gd5.fS f5 (by omega)) (gy.fS f5 (by omega)) hG (fun M6 f6 g6 => ?_)
        rw [en] at g5
        rw [ed] at g6
        exact h M6 ((F4.tr (f5.wd (fun z e => by omega))).tr (f6.wd (fun z e => by omega))) (g5.fS f6 (by omega)) g6
      · have hc0 := nlei (b := 0) (by omega) (by omega) hc0
        have px : 0 < x := by
          rcases Nat.eq_zero_or_pos x with q | q
          · rw [q, ln_0] at hc0; omega
          · exact q
        refine loopG (A := Nat × mM) (fun a => a.2) (fun k a => a.1 = k ∧ 0 < a.1 ∧ a.1 ≤ x ∧ CD a.1 y (Nat.gcd n d) ∧ fS M a.2 m (fun z => z < 5) ∧ MG a.2 m 2 a.1 ∧ MG a.2 m 3 y ∧ MG a.2 m 0 n ∧ MG a.2 m 1 d) x (x, M4) rfl ⟨rfl, px, Nat.le_refl _, hcd, F4, gx, gy, gn4, gd4⟩ ?_
        rintro k ⟨x', M5⟩ ag5 ⟨rfl, px', hle', hcd5, F5, gx5, gy5, gn5, gd5⟩ hag5
        dsimp only at px' hle' hcd5 F5 gx5 gy5 gn5 gd5 hag5
        show p_X7_lowers_F66 m Q ag4 ag5 M5
        unfold p_X7_lowers_F66
        refine sp7_isEven (r := 2) (by omega) gx5 (fun ox => ?_) (fun ex => ?_)
        · refine ⟨fun _ => ?_, fun q => absurd rfl q⟩
          refine loopG (A := Nat × mM) (fun a => a.2) (fun k a => a.1 = k ∧ 0 < a.1 ∧ a.1 ≤ y ∧ CD x' a.1 (Nat.gcd n d) ∧ fS M a.2 m (fun z => z < 5) ∧ MG a.2 m 2 x' ∧ MG a.2 m 3 a.1 ∧ MG a.2 m 0 n ∧ MG a.2 m 1 d) y (y, M5) rfl ⟨rfl, py, Nat.le_refl _, hcd5, F5, gx5, gy5, gn5, gd5⟩ ?_
          rintro k ⟨y', M6⟩ ag6 ⟨rfl, py', hley, hcd6, F6, gx6, gy6, gn6, gd6⟩ hag6
          dsimp only at py' hley hcd6 F6 gx6 gy6 gn6 gd6 hag6
          show p_X7_lowers_F82 m Q ag4 ag6 M6
          unfold p_X7_lowers_F82
          refine sp7_isEven (r := 3) (by omega) gy6 (fun oy => ?_) (fun ey => ?_)
          · refine ⟨fun _ => ?_, fun q => absurd rfl q⟩
            have big : y' ≤ x' → p_X7_lowers_J112 m Q ag4 2 M6 := by
              intro hle
              unfold p_X7_lowers_J112
              refine sp7_lessens (r := 2) (o := 3) (by omega) (by omega) (by omega) gx6 gy6 hle (fun M9 f9 g9 => ?_)
              have gy9 := gy6.fS f9 (by omega)
              rw [e3, gy9.2.1]
              have hly := ln_le y'
              refine ⟨fun _ => ?_, fun hz => ?_⟩
              · refine hag4 (x' - y' + y') (x' - y', y', M9) (by omega) ⟨rfl, py', fun _ => oy, hcd6.sx hle, F6.tr (f9.wd (fun z e => by omega)), g9, gy9, gn6.fS f9 (by omega), gd6.fS f9 (by omega)⟩
              · have := eqi (b := 0) (by omega) (by omega) hz
                have := (ln_ne0 gy6.2.2).mp this
                omega
            refine sp7_against (r := 2) (o := 3) (by omega) (by omega) gx6 gy6 (fun hlt => ?_) (fun heq => ?_) (fun hgt => ?_)
            · refine ⟨fun _ => ?_, fun q => absurd (by decide) q⟩
              unfold p_X7_lowers_J112
              refine sp7_lessens (r := 3) (o := 2) (by omega) (by omega) (by omega) gy6 gx6 (by omega) (fun M9 f9 g9 => ?_)
              rw [e3, g9.2.1]
              have hly := ln_le (y' - x')
              refine ⟨fun _ => ?_, fun hz => ?_⟩
              · refine hag4 (x' + (y' - x')) (x', y' - x', M9) (by omega) ⟨rfl, by show 0 < y' - x'; omega, fun q => absurd q (by show x' ≠ 0; omega), hcd6.sy (by omega), F6.tr (f9.wd (fun z e => by omega)), gx6.fS f9 (by omega), g9, gn6.fS f9 (by omega), gd6.fS f9 (by omega)⟩
              · have := eqi (b := 0) (by omega) (by omega) hz
                have := (ln_ne0 g9.2.2).mp this
                omega
            · exact ⟨fun q => absurd q (by decide), fun _ => big (by omega)⟩
            · exact ⟨fun q => absurd q (by decide), fun _ => big (by omega)⟩
          · refine ⟨fun q => absurd q (by decide), fun _ => ?_⟩
            refine sp7_halves (r := 3) (by omega) gy6 (fun M7 f7 g7 => ?_)
            exact hag6 (y' / 2) (y' / 2, M7) (by omega) ⟨rfl, by show 0 < y' / 2; omega, by show y' / 2 ≤ y; omega, hcd6.hy ey, F6.tr (f7.wd (fun z e => by omega)), gx6.fS f7 (by omega), g7, gn6.fS f7 (by omega), gd6.fS f7 (by omega)⟩
        · refine ⟨fun q => absurd q (by decide), fun _ => ?_⟩
          refine sp7_halves (r := 2) (by omega) gx5 (fun M7 f7 g7 => ?_)
          exact hag5 (x' / 2) (x' / 2, M7) (by omega) ⟨rfl, by show 0 < x' / 2; omega, by show x' / 2 ≤ x; omega, hcd5.hx ex, F5.tr (f7.wd (fun z e => by omega)), g7, gy5.fS f7 (by omega), gn5.fS f7 (by omega), gd5.fS f7 (by omega)⟩
    unfold p_X7_lowers_F16
    refine sp7_isEven (r := 0) (by omega) gn (fun on => ?_) (fun evn => ?_)
    · exact ⟨fun _ => j45 (Or.inl on), fun q => absurd rfl q⟩
    · refine ⟨fun q => absurd q (by decide), fun _ => ?_⟩
      refine sp7_isEven (r := 1) (by omega) gd (fun od => ?_) (fun evd => ?_)
      · exact ⟨fun _ => j45 (Or.inr od), fun q => absurd rfl q⟩
      · refine ⟨fun q => absurd q (by decide), fun _ => ?_⟩
        refine sp7_halves (r := 0) (by omega) gn (fun M2 f2 g2 => ?_)
        refine sp7_halves (r := 1) (by omega) (gd.fS f2 (by omega)) (fun M3 f3 g3 => ?_)
        have eg : Nat.gcd n d = 2 * Nat.gcd (n / 2) (d / 2) := by
          conv => lhs; rw [show n = 2 * (n / 2) by omega, show d = 2 * (d / 2) by omega]
          rw [Nat.gcd_mul_left]
        refine hag (n / 2) (n / 2, d / 2, M3) (by omega) ⟨rfl, by show 0 < n / 2; omega, by show 0 < d / 2; omega, (f1.tr (f2.wd (fun z e => by omega))).tr (f3.wd (fun z e => by omega)), g2.fS f3 (by omega), g3, ?_, ?_⟩
        · show n / 2 / Nat.gcd (n / 2) (d / 2) = _
          rw [← en, eg, Nat.div_div_eq_div_mul]
        · show d / 2 / Nat.gcd (n / 2) (d / 2) = _
          rw [← ed, eg, Nat.div_div_eq_div_mul]
  · have hz := eqi (b := 0) (by omega) (by omega) hc
    have N0 := (ln_ne0 hN.2.2).mp hz
    subst N0
    refine sp7_sets (r := 1) (n := 1) (by omega) (by omega) (fun M1 f1 g1 => ?_)
    refine h M1 (f1.wd (fun z e => by omega)) ?_ ?_
    · rw [Nat.zero_div]; exact hN.fS f1 (by omega)
    · rw [Nat.gcd_zero_left, Nat.div_self pD]; exact g1
