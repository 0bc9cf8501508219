theorem cop2 {y : Nat} (h : y % 2 = 1) (t : Nat) : Nat.Coprime (2 ^ t) y := by
  refine Nat.Coprime.pow_left t ?_
  show Nat.gcd 2 y = 1
  rw [Nat.gcd_rec, h]; rfl
theorem tz_mul {v t : Nat} (h : Tz v t) : v = 2 ^ t * (v / 2 ^ t) := (Nat.mul_div_cancel' (Nat.dvd_of_mod_eq_zero h.1)).symm
theorem tz_gcd {v t y : Nat} (h : Tz v t) (hy : y % 2 = 1) : Nat.gcd (v / 2 ^ t) y = Nat.gcd v y := by
  conv => rhs; rw [tz_mul h]
  exact (Nat.Coprime.gcd_mul_left_cancel _ (cop2 hy t)).symm
theorem tz_pos {v t : Nat} (h : Tz v t) : 0 < v / 2 ^ t := by
  have := h.2
  generalize v / 2 ^ t = z at this ⊢
  omega
theorem tz_gcd2 {N D s t : Nat} (hN : Tz N s) (hD : Tz D t) : Nat.gcd N D = 2 ^ (min s t) * Nat.gcd (N / 2 ^ s) (D / 2 ^ t) := by
  have eN := tz_mul hN
  have eD := tz_mul hD
  have oN := hN.2
  have oD := hD.2
  generalize N / 2 ^ s = n at eN oN ⊢
  generalize D / 2 ^ t = d at eD oD ⊢
  rw [eN, eD]
  rcases Nat.le_total s t with q | q
  · rw [Nat.min_eq_left q]
    obtain ⟨k, rfl⟩ : ∃ k, t = s + k := ⟨t - s, by omega⟩
    rw [Nat.pow_add, Nat.mul_assoc, Nat.gcd_mul_left]
    congr 1
    rw [Nat.gcd_comm, Nat.Coprime.gcd_mul_left_cancel _ (cop2 oN k), Nat.gcd_comm]
  · rw [Nat.min_eq_right q]
    obtain ⟨k, rfl⟩ : ∃ k, s = t + k := ⟨s - t, by omega⟩
    rw [Nat.pow_add, Nat.mul_assoc, Nat.gcd_mul_left]
    congr 1
    rw [Nat.Coprime.gcd_mul_left_cancel _ (cop2 oD k)]
theorem pw16_2 : pw 16 = 2 ^ 480 := by rw [pw_2]
theorem sub_tz {x y A t : Nat} (hx : x < 2 ^ (A + 1)) (hy : y < x) (ox : x % 2 = 1) (oy : y % 2 = 1) (h : Tz (x - y) t) : (x - y) / 2 ^ t < 2 ^ A := by
  have ht : 1 ≤ t := by
    rcases Nat.eq_zero_or_pos t with e | e
    · subst e
      have := h.2
      rw [Nat.pow_zero, Nat.div_one] at this
      omega
    · exact e
  have h1 : (x - y) / 2 ^ t ≤ (x - y) / 2 := Nat.div_le_div_left (by
    calc 2 = 2 ^ 1 := rfl
      _ ≤ 2 ^ t := Nat.pow_le_pow_right (by decide) ht) (by decide)
  have h2 : 2 ^ (A + 1) = 2 ^ A * 2 := Nat.pow_succ 2 A
  generalize (x - y) / 2 ^ t = z at h1 ⊢
  generalize 2 ^ A = B at h2 ⊢
  omega
theorem sp_findCommon {b N D : Nat} {M : mM} {Q : mM → Prop} (hN : RW M (b + 1) N) (hD : RW M (b + 4) D) (pN : 0 < N) (pD : 0 < D) (h : ∀ M' s t, Tz N s → Tz D t → fr M M' (b + 7) (b + 13) → RW M' (b + 7) (Nat.gcd (N / 2 ^ s) (D / 2 ^ t)) → Q M') : p_X0_findCommon b M Q := by
  unfold p_X0_findCommon
  refine sp_become (by omega) hN (fun M1 f1 r1 => ?_)
  refine sp_become (by omega) (hD.fr f1 (by omega)) (fun M2 f2 r2 => ?_)
  refine sp_twos (r1.fr f2 (by omega)) pN (fun s hs hs4 => ?_)
  refine sp_shiftDown (r1.fr f2 (by omega)) hs4 (fun M4 f4 r4 => ?_)
  refine sp_twos (r2.fr f4 (by omega)) pD (fun t ht ht4 => ?_)
  refine sp_shiftDown (r2.fr f4 (by omega)) ht4 (fun M6 f6 r6 => ?_)
  have F6 : fr M M6 (b + 7) (b + 13) := (((f1.wd (by omega) (by omega)).tr (f2.wd (by omega) (by omega))).tr (f4.wd (by omega) (by omega))).tr (f6.wd (by omega) (by omega))
  refine loopU (A := Nat × Nat × Nat × Nat × mM) 960 (fun i a => (nI i, a.2.2.2.2)) (fun i a => fr M a.2.2.2.2 (b + 7) (b + 13) ∧ RW a.2.2.2.2 (b + 7) a.1 ∧ RW a.2.2.2.2 (b + 10) a.2.1 ∧ a.1 % 2 = 1 ∧ a.2.1 % 2 = 1 ∧ Nat.gcd a.1 a.2.1 = Nat.gcd (N / 2 ^ s) (D / 2 ^ t) ∧ a.1 < 2 ^ a.2.2.1 ∧ a.2.1 < 2 ^ a.2.2.2.1 ∧ a.2.2.1 + a.2.2.2.1 + i ≤ 960) (N / 2 ^ s, D / 2 ^ t, 480, 480, M6) rfl ?_ ?_
  · exact ⟨F6, r4.fr f6 (by omega), r6, hs.2, ht.2, rfl, by rw [← pw16_2]; exact r4.2.2, by rw [← pw16_2]; exact r6.2.2, by show 480 + 480 + 0 ≤ 960; omega⟩
  · rintro i ⟨x, y, A, B, M7⟩ ag hi ⟨g1, g2, g3, g4, g5, g6, g7, g8, g9⟩ hag
    dsimp only at g1 g2 g3 g4 g5 g6 g7 g8 g9
    show p_X0_findCommon_F52 b Q ag (nI i) M7
    unfold p_X0_findCommon_F52
    have px : 0 < x := by omega
    have py : 0 < y := by omega
    have pA : 0 < A := by
      rcases Nat.eq_zero_or_pos A with e | e
      · subst e; rw [Nat.pow_zero] at g7; omega
      · exact e
    have pB : 0 < B := by
      rcases Nat.eq_zero_or_pos B with e | e
      · subst e; rw [Nat.pow_zero] at g8; omega
      · exact e
    refine ⟨fun hc => ?_, fun hc => ?_⟩
    · have := lei (a := 960) (by omega) (by omega) hc
      omega
    · have hlt := nlei (a := 960) (by omega) (by omega) hc
      refine sp_compareWith g2 g3 (fun hxy => ?_) (fun hxy => ?_) (fun hxy => ?_)
      · refine ⟨fun _ => ⟨fun _ => ?_, fun q => absurd (by decide) q⟩, fun q => absurd q (by decide)⟩
        unfold p_X0_findCommon_J91
        refine ⟨fun _ => ?_, fun q => absurd (by decide) q⟩
        unfold p_X0_findCommon_J108
        refine sp_subtract (by omega) g3 g2 (by omega) (fun M8 f8 r8 => ?_)
        refine sp_twos r8 (by omega) (fun t' ht' ht4' => ?_)
        refine sp_shiftDown r8 ht4' (fun M10 f10 r10 => ?_)
        rw [nI_1]
        obtain ⟨B', rfl⟩ : ∃ B', B = B' + 1 := ⟨B - 1, by omega⟩
        refine hag hlt (x, (y - x) / 2 ^ t', A, B', M10) ⟨(g1.tr (f8.wd (by omega) (by omega))).tr (f10.wd (by omega) (by omega)), (g2.fr f8 (by omega)).fr f10 (by omega), r10, g4, ht'.2, ?_, g7, sub_tz g8 hxy g5 g4 ht', by show A + B' + (i + 1) ≤ 960; omega⟩
        show Nat.gcd x ((y - x) / 2 ^ t') = _
        rw [Nat.gcd_comm, tz_gcd ht' g4, ← g6, Nat.gcd_comm x y, Nat.gcd_sub_self_left (by omega)]
      · refine ⟨fun q => absurd rfl q, fun _ => ?_⟩
        subst hxy
        rw [Nat.gcd_self] at g6
        rw [g6] at g2
        exact h M7 s t hs ht g1 g2
      · refine ⟨fun _ => ⟨fun q => absurd q (by decide), fun _ => ?_⟩, fun q => absurd q (by decide)⟩
        unfold p_X0_findCommon_J91
        refine ⟨fun q => absurd q (by decide), fun _ => ?_⟩
        unfold p_X0_findCommon_J108
        refine sp_subtract (by omega) g2 g3 (by omega) (fun M8 f8 r8 => ?_)
        refine sp_twos r8 (by omega) (fun t' ht' ht4' => ?_)
        refine sp_shiftDown r8 ht4' (fun M10 f10 r10 => ?_)
        rw [nI_1]
        obtain ⟨A', rfl⟩ : ∃ A', A = A' + 1 := ⟨A - 1, by omega⟩
        refine hag hlt ((x - y) / 2 ^ t', y, A', B, M10) ⟨(g1.tr (f8.wd (by omega) (by omega))).tr (f10.wd (by omega) (by omega)), r10, (g3.fr f8 (by omega)).fr f10 (by omega), ht'.2, g5, ?_, sub_tz g7 hxy g4 g5 ht', g8, by show A' + B + (i + 1) ≤ 960; omega⟩
        show Nat.gcd ((x - y) / 2 ^ t') y = _
        rw [tz_gcd ht' g5, ← g6, Nat.gcd_sub_self_left (by omega)]
theorem sp_reduce {b N D : Nat} {M : mM} {Q : mM → Prop} (hN : RW M (b + 1) N) (hD : RW M (b + 4) D) (pD : 0 < D) (h : ∀ M', fr M M' b (b + 13) → RW M' (b + 1) (N / Nat.gcd N D) → RW M' (b + 4) (D / Nat.gcd N D) → Q M') : p_X0_reduce b M Q := by
  unfold p_X0_reduce
  refine sp_isZero hN ?_
  by_cases e : N = 0
  · rw [if_pos e]
    refine ⟨fun q => absurd q (by decide), fun _ => ?_⟩
    refine sp_set (n := 1) (by decide) (fun M1 f1 r1 => ?_)
    subst e
    refine h M1 (f1.wd (by omega) (by omega)) ?_ ?_
    · rw [Nat.zero_div]; exact hN.fr f1 (by omega)
    · rw [Nat.gcd_zero_left, Nat.div_self pD]; exact r1
  · rw [if_neg e]
    have pN : 0 < N := Nat.pos_of_ne_zero e
    refine ⟨fun _ => ?_, fun q => absurd rfl q⟩
    refine sp_twos hN pN (fun s hs hs4 => ?_)
    refine sp_twos hD pD (fun t ht ht4 => ?_)
    intro x4 e4
    have e4' : x4 = nI (min s t) := by
      rw [e4]
      by_cases c : nI t < nI s
      · rw [if_pos c, Nat.min_eq_right (Nat.le_of_lt (lti (by omega) (by omega) c))]
      · rw [if_neg c, Nat.min_eq_left (nlti (by omega) (by omega) c)]
    subst e4'
    have hg := tz_gcd2 hs ht
    have hms : min s t ≤ s := Nat.min_le_left _ _
    have hmt : min s t ≤ t := Nat.min_le_right _ _
    generalize min s t = mn at hg hms hmt ⊢
    refine sp_shiftDown hN (by omega) (fun M5 f5 r5 => ?_)
    refine sp_shiftDown (hD.fr f5 (by omega)) (by omega) (fun M6 f6 r6 => ?_)
    have r5' := r5.fr f6 (by omega)
    have split : ∀ v k, Tz v k → mn ≤ k → v / 2 ^ mn = 2 ^ (k - mn) * (v / 2 ^ k) := by
      intro v k hk hle
      have e1 := tz_mul hk
      have e2 : 2 ^ k = 2 ^ mn * 2 ^ (k - mn) := by rw [← Nat.pow_add, show mn + (k - mn) = k by omega]
      generalize v / 2 ^ k = z at e1 ⊢
      rw [e1, e2, Nat.mul_assoc, Nat.mul_div_cancel_left _ (Nat.pow_pos (by decide))]
    have sN := split N s hs hms
    have sD := split D t ht hmt
    have uniq : ∀ v k k', Tz v k → Tz (v / 2 ^ mn) k' → mn ≤ k → v / 2 ^ mn / 2 ^ k' = v / 2 ^ k := by
      intro v k k' hk hk' hle
      have e1 := split v k hk hle
      have o1 := hk.2
      generalize v / 2 ^ k = z at e1 o1 ⊢
      rw [e1] at hk' ⊢
      have hkk : k' = k - mn := by
        rcases Nat.lt_trichotomy k' (k - mn) with q | q | q
        · have := hk'.2
          obtain ⟨j, hj⟩ : ∃ j, k - mn = k' + (j + 1) := ⟨k - mn - k' - 1, by omega⟩
          rw [hj, Nat.pow_add, Nat.mul_assoc, Nat.mul_div_cancel_left _ (Nat.pow_pos (by decide)), Nat.pow_succ, Nat.mul_assoc, Nat.mul_comm, Nat.mul_assoc] at this
          omega
        · exact q
        · have := hk'.1
          obtain ⟨j, hj⟩ : ∃ j, k' = k - mn + (j + 1) := ⟨k' - (k - mn) - 1, by omega⟩
          rw [hj, Nat.pow_add, Nat.mul_mod_mul_left] at this
          have h2 : 0 < 2 ^ (k - mn) := Nat.pow_pos (by decide)
          rcases Nat.mul_eq_zero.mp this with q2 | q2
          · omega
          · rw [Nat.pow_succ, Nat.mul_comm, Nat.mod_mul] at q2
            omega
      rw [hkk, Nat.mul_div_cancel_left _ (Nat.pow_pos (by decide))]
    refine sp_findCommon r5' r6 (by rw [sN]; exact Nat.mul_pos (Nat.pow_pos (by decide)) (tz_pos hs)) (by rw [sD]; exact Nat.mul_pos (Nat.pow_pos (by decide)) (tz_pos ht)) (fun M7 s' t' hs' ht' f7 r7 => ?_)
    rw [uniq N s s' hs hs' hms, uniq D t t' ht ht' hmt] at r7
    have dN : Nat.gcd (N / 2 ^ s) (D / 2 ^ t) ∣ N / 2 ^ s := Nat.gcd_dvd_left _ _
    have dD : Nat.gcd (N / 2 ^ s) (D / 2 ^ t) ∣ D / 2 ^ t := Nat.gcd_dvd_right _ _
    have og : Nat.gcd (N / 2 ^ s) (D / 2 ^ t) % 2 = 1 := by
      obtain ⟨z, hz⟩ := dN
      have h9 := congrArg (fun x => x % 2) hz
      rw [hs.2, Nat.mul_mod] at h9
      rcases Nat.mod_two_eq_zero_or_one (Nat.gcd (N / 2 ^ s) (D / 2 ^ t)) with q | q
      · rw [q] at h9; simp at h9
      · exact q
    generalize hG : Nat.gcd (N / 2 ^ s) (D / 2 ^ t) = G at r7 dN dD og hg
    have pG : 0 < G := by omega
    have q1 : N / 2 ^ mn = G * (N / Nat.gcd N D) := by
      rw [hg, ← Nat.div_div_eq_div_mul, sN]
      exact (Nat.mul_div_cancel' (Nat.dvd_trans dN (Nat.dvd_mul_left _ _))).symm
    have q2 : D / 2 ^ mn = G * (D / Nat.gcd N D) := by
      rw [hg, ← Nat.div_div_eq_div_mul, sD]
      exact (Nat.mul_div_cancel' (Nat.dvd_trans dD (Nat.dvd_mul_left _ _))).symm
    have r5'' := r5'.fr f7 (by omega)
    have r6'' := r6.fr f7 (by omega)
    rw [q1] at r5''
    rw [q2] at r6''
    refine sp_divideExactly (by omega) r5'' r7 og (fun M8 f8 r8 => ?_)
    refine sp_divideExactly (by omega) (r6''.fr f8 (by omega)) (r7.fr f8 (by omega)) og (fun M9 f9 r9 => ?_)
    refine h M9 ?_ (r8.fr f9 (by omega)) r9
    exact ((((f5.wd (by omega) (by omega)).tr (f6.wd (by omega) (by omega))).tr (f7.wd (by omega) (by omega))).tr (f8.wd (by omega) (by omega))).tr (f9.wd (by omega) (by omega))
theorem sp_setTo {b n d : Nat} {M : mM} {Q : mM → Prop} (hn : n < 2 ^ 64) (hd : d < 2 ^ 64) (pd : 0 < d) (h : ∀ M', fr M M' b (b + 13) → RW M' (b + 1) (n / Nat.gcd n d) → RW M' (b + 4) (d / Nat.gcd n d) → Q M') : p_X0_setTo b (lN n) (lN d) M Q := by
  unfold p_X0_setTo
  refine sp_set hn (fun M1 f1 r1 => sp_set hd (fun M2 f2 r2 => sp_reduce (r1.fr f2 (by omega)) r2 pd (fun M3 f3 r3 r4 => h M3 ?_ r3 r4)))
  exact ((f1.wd (by omega) (by omega)).tr (f2.wd (by omega) (by omega))).tr f3
theorem sp_setToW {b p1 p2 n d : Nat} {M : mM} {Q : mM → Prop} (h1 : p1 + 3 ≤ b ∨ b + 13 ≤ p1) (h2 : p2 + 3 ≤ b ∨ b + 13 ≤ p2) (hn : RW M p1 n) (hd : RW M p2 d) (pd : 0 < d) (h : ∀ M', fr M M' b (b + 13) → RW M' (b + 1) (n / Nat.gcd n d) → RW M' (b + 4) (d / Nat.gcd n d) → Q M') : p_X0_setTo_ b p1 p2 M Q := by
  unfold p_X0_setTo_
  refine sp_become (by omega) hn (fun M1 f1 r1 => sp_become (by omega) (hd.fr f1 (by omega)) (fun M2 f2 r2 => sp_reduce (r1.fr f2 (by omega)) r2 pd (fun M3 f3 r3 r4 => h M3 ?_ r3 r4)))
  exact ((f1.wd (by omega) (by omega)).tr (f2.wd (by omega) (by omega))).tr f3
