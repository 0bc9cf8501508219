theorem pw_2 (i : Nat) : pw i = 2 ^ (30 * i) := by
  show 1073741824 ^ i = _
  rw [Nat.pow_mul]
/-- t twos divide v, and no more -/
def Tz (v t : Nat) : Prop := v % 2 ^ t = 0 ∧ v / 2 ^ t % 2 = 1
theorem tz_ex : ∀ (n v : Nat), v < n → 0 < v → ∃ t, Tz v t
  | 0, v, h, _ => absurd h (Nat.not_lt_zero v)
  | n + 1, v, h, h0 => by
    by_cases e : v % 2 = 1
    · exact ⟨0, by rw [Nat.pow_zero, Nat.mod_one], by rw [Nat.pow_zero, Nat.div_one]; exact e⟩
    · obtain ⟨t, h1, h2⟩ := tz_ex n (v / 2) (by omega) (by omega)
      refine ⟨t + 1, ?_, ?_⟩
      · rw [Nat.pow_succ, Nat.mul_comm, Nat.mod_mul, h1]; omega
      · rw [Nat.pow_succ, Nat.mul_comm, ← Nat.div_div_eq_div_mul]; exact h2
theorem and_neg : ∀ (n d : Nat), d < n → 0 < d → d < 1073741824 → ∃ s, s < 30 ∧ Tz d s ∧ nI d &&& (-(nI d)) = nI (2 ^ s) := by
  intro n d hn h0 hd
  obtain ⟨s, h1, h2⟩ := tz_ex (d + 1) d (by omega) h0
  have hs : 2 ^ s ≤ d := Nat.le_of_dvd h0 (Nat.dvd_of_mod_eq_zero h1)
  have hs30 : s < 30 := by
    rcases Nat.lt_or_ge s 30 with q | q
    · exact q
    · have : 2 ^ 30 ≤ 2 ^ s := Nat.pow_le_pow_right (by decide) q
      have e30 : (2 : Nat) ^ 30 = 1073741824 := by decide
      omega
  refine ⟨s, hs30, ⟨h1, h2⟩, ?_⟩
  rw [nI_neg (by omega), fa_and]
  congr 1
  obtain ⟨m, hm⟩ : ∃ m, d = 2 ^ s * (2 * m + 1) := ⟨d / 2 ^ s / 2, by
    have e1 : d / 2 ^ s = 2 * (d / 2 ^ s / 2) + 1 := by
      generalize d / 2 ^ s = q at h2 ⊢
      omega
    rw [← e1]
    exact (Nat.mul_div_cancel' (Nat.dvd_of_mod_eq_zero h1)).symm⟩
  have e32 : 4294967296 - d = 2 ^ s * (2 * (2 ^ (31 - s) - 1 - m) + 1) := by
    have e : (4294967296 : Nat) = 2 ^ s * (2 * 2 ^ (31 - s)) := by
      rw [← Nat.pow_succ', ← Nat.pow_add, show s + (31 - s + 1) = 32 by omega]
    have hlt : m < 2 ^ (31 - s) := by
      rcases Nat.lt_or_ge m (2 ^ (31 - s)) with q | q
      · exact q
      · have q2 : 2 ^ s * (2 * 2 ^ (31 - s)) ≤ 2 ^ s * (2 * m + 1) := Nat.mul_le_mul_left _ (by omega)
        rw [← e, ← hm] at q2
        omega
    rw [e, hm, ← Nat.mul_sub]
    congr 1
    generalize 2 ^ (31 - s) = z at hlt ⊢
    omega
  apply Nat.eq_of_testBit_eq
  intro i
  rw [Nat.testBit_and, Nat.testBit_two_pow, e32, hm, Nat.testBit_two_pow_mul, Nat.testBit_two_pow_mul]
  by_cases hi : s ≤ i
  · rcases Nat.eq_or_lt_of_le hi with e | e
    · subst e
      simp [Nat.testBit_zero]
    · obtain ⟨j, rfl⟩ : ∃ j, i = s + (j + 1) := ⟨i - s - 1, by omega⟩
      have e1 : s + (j + 1) - s = j + 1 := by omega
      rw [e1, Nat.testBit_succ, Nat.testBit_succ, show (2 * m + 1) / 2 = m by omega, show (2 * (2 ^ (31 - s) - 1 - m) + 1) / 2 = 2 ^ (31 - s) - (m + 1) by omega]
      have hlt : m < 2 ^ (31 - s) := by
        rcases Nat.lt_or_ge m (2 ^ (31 - s)) with q | q
        · exact q
        · have e : (4294967296 : Nat) = 2 ^ s * (2 * 2 ^ (31 - s)) := by
            rw [← Nat.pow_succ', ← Nat.pow_add, show s + (31 - s + 1) = 32 by omega]
          have q2 : 2 ^ s * (2 * 2 ^ (31 - s)) ≤ 2 ^ s * (2 * m + 1) := Nat.mul_le_mul_left _ (by omega)
          rw [← e, ← hm] at q2
          omega
      rw [Nat.testBit_two_pow_sub_succ hlt]
      simp
      cases m.testBit j <;> simp <;> omega
  · simp [hi]
    omega
theorem bitc : ∀ s, s < 30 → ∀ (M : mM) (Q : Int32 → Prop), Q (nI s) → p_J6_bitCount_0f7a4 (nI (2 ^ s) - 1) M Q := by
  intro s hs M Q h
  unfold p_J6_bitCount_0f7a4
  intro x1 e1 x2 e2 x3 e3 x4 e4 x5 e5
  have key : ∀ s, s < 30 → ∀ x1 x2 x3 x4 x5 : Int32, x1 = ((nI (2 ^ s) - 1) - ((((nI (2 ^ s) - 1).toUInt32 >>> ((1 : Int32).toUInt32 &&& Int32.toUInt32 31)).toInt32) &&& 1431655765)) → x2 = ((x1 &&& 858993459) + (((x1.toUInt32 >>> ((2 : Int32).toUInt32 &&& Int32.toUInt32 31)).toInt32) &&& 858993459)) → x3 = ((x2 + ((x2.toUInt32 >>> ((4 : Int32).toUInt32 &&& Int32.toUInt32 31)).toInt32)) &&& 252645135) → x4 = (x3 + ((x3.toUInt32 >>> ((8 : Int32).toUInt32 &&& Int32.toUInt32 31)).toInt32)) → x5 = (x4 + ((x4.toUInt32 >>> ((16 : Int32).toUInt32 &&& Int32.toUInt32 31)).toInt32)) → x5 &&& 63 = nI s := by
    intro s hs x1 x2 x3 x4 x5 e1 e2 e3 e4 e5
    subst e1 e2 e3 e4 e5
    revert s
    decide +kernel
  rw [key s hs x1 x2 x3 x4 x5 e1 e2 e3 e4 e5]
  exact h
theorem tz_add {v i s : Nat} (h : v % pw i = 0) (hz : Tz (dg v i) s) (hs : s < 30) : Tz v (i * 30 + s) := by
  obtain ⟨h1, h2⟩ := hz
  have e : 2 ^ (i * 30 + s) = pw i * 2 ^ s := by rw [pw_2, Nat.pow_add, Nat.mul_comm i 30]
  have hq : v / pw i = v / pw (i + 1) * 1073741824 + dg v i := dg_split v i
  have e30 : (1073741824 : Nat) = 2 ^ s * (2 * 2 ^ (29 - s)) := by
    rw [← Nat.pow_succ', ← Nat.pow_add, show s + (29 - s + 1) = 30 by omega]
  have e3 : v / pw i / 2 ^ s = v / pw (i + 1) * (2 * 2 ^ (29 - s)) + dg v i / 2 ^ s := by
    rw [hq, e30, ← Nat.mul_assoc, Nat.mul_comm (v / pw (i + 1)), Nat.mul_assoc, Nat.mul_add_div (Nat.pow_pos (by decide))]
  refine ⟨?_, ?_⟩
  · rw [e, Nat.mod_mul, h, hq]
    have : (v / pw (i + 1) * 1073741824 + dg v i) % 2 ^ s = 0 := by
      rw [e30, ← Nat.mul_assoc, Nat.mul_comm (v / pw (i + 1)), Nat.mul_assoc, Nat.mul_add_mod]
      exact h1
    rw [this]; rfl
  · rw [e, ← Nat.div_div_eq_div_mul, e3]
    have : v / pw (i + 1) * (2 * 2 ^ (29 - s)) = 2 * (v / pw (i + 1) * 2 ^ (29 - s)) := by
      rw [← Nat.mul_assoc, Nat.mul_comm (v / pw (i + 1)) 2, Nat.mul_assoc]
    rw [this, Nat.mul_add_mod]
    exact h2
theorem sp_twos {b v : Nat} {M : mM} {Q : Int32 → Prop} (hr : RW M b v) (hv : 0 < v) (h : ∀ t, Tz v t → t < 480 → Q (nI t)) : p_X5_twos b M Q := by
  unfold p_X5_twos
  have hl := ln_le' hr.2.2 (by decide)
  refine loopU (A := Unit) 16 (fun i _ => nI i) (fun i _ => v % pw i = 0) () rfl (by show v % pw 0 = 0; rw [pw_0, Nat.mod_one]) ?_
  rintro i ⟨⟩ ag hi hz hag
  show p_X5_twos_F2 b M Q ag (nI i)
  unfold p_X5_twos_F2
  have zero : ∀ n, v < pw n → n ≤ i → False := by
    intro n hn hni
    have : v % pw i = v := Nat.mod_eq_of_lt (Nat.lt_of_lt_of_le hn (pw_le hni))
    omega
  rw [hr.2.1]
  refine ⟨fun hc => ?_, fun hc => ⟨fun h16 => ?_, fun h16 => ?_⟩⟩
  · exact (zero _ (ln_lt (pw16_40 hr.2.2)) (lei (by omega) (by omega) hc)).elim
  · exact (zero 16 hr.2.2 (lei (a := 16) (by omega) (by omega) h16)).elim
  · have hlt := nlei (a := 16) (by omega) (by omega) h16
    have hd := dg_lt v i
    rw [clp (by omega), hr.1 i hlt]
    refine ⟨vin hlt (by omega), fun h0 => ?_, fun h0 => ⟨vin hlt (by omega), vin hlt (by omega), ?_⟩⟩
    · have h0 := eqi (b := 0) (by omega) (by omega) h0
      rw [nI_1]
      refine hag hlt () ?_
      rw [dg_mod, hz, h0]; rfl
    · have hp : 0 < dg v i := by
        rcases Nat.eq_zero_or_pos (dg v i) with q | q
        · exact absurd (by rw [q]; rfl) h0
        · exact q
      obtain ⟨s, hs, hts, e⟩ := and_neg (dg v i + 1) (dg v i) (by omega) hp hd
      rw [e]
      refine bitc s hs M _ ?_
      have := h (i * 30 + s) (tz_add hz hts hs) (by omega)
      rw [← nI_add, ← pk_mul] at this
      exact this
