theorem lN_or30 {h l : Nat} (hh : h < 1073741824) (hl : l < 1073741824) : lN h <<< ((30 : Int32).toInt64 &&& 63) ||| lN l = lN (h * 1073741824 + l) := by
  have e : lN h <<< ((30 : Int32).toInt64 &&& 63) = lN (h * 1073741824) := wb_shl h (k := 30) (by decide)
  rw [e]
  exact g_or (k := 30) (p := 1073741824) (by decide) hl (by omega)
theorem shd_aux (z y r : Nat) (hr : r ≤ 30) : (z * 1073741824 * 1073741824 + y) / 2 ^ r % 1073741824 = y / 2 ^ r % 1073741824 := by
  have e30 : (1073741824 : Nat) = 2 ^ r * 2 ^ (30 - r) := by
    rw [← Nat.pow_add, show r + (30 - r) = 30 by omega]
  generalize hB : (1073741824 : Nat) = B at e30
  have e3 : z * B * B = 2 ^ r * (2 ^ (30 - r) * z * B) := by
    rw [← Nat.mul_assoc, ← Nat.mul_assoc, ← e30, Nat.mul_comm z B]
  rw [e3, Nat.mul_add_div (Nat.pow_pos (by decide)), Nat.add_comm, Nat.add_mul_mod_self_right]
theorem shd {v i w r : Nat} (hr : r ≤ 30) : dg (v / 2 ^ (30 * w + r)) i = (dg v (i + w + 1) * 1073741824 + dg v (i + w)) / 2 ^ r % 1073741824 := by
  have e1 : v / 2 ^ (30 * w + r) / pw i = v / pw (i + w) / 2 ^ r := by
    rw [Nat.div_div_eq_div_mul, Nat.div_div_eq_div_mul, pw_2, pw_2, ← Nat.pow_add, ← Nat.pow_add]
    congr 2; omega
  have e2 : v / pw (i + w) = v / pw (i + w + 1 + 1) * 1073741824 * 1073741824 + (dg v (i + w + 1) * 1073741824 + dg v (i + w)) := by
    rw [dg_split v (i + w), dg_split v (i + w + 1)]
    omega
  show v / 2 ^ (30 * w + r) / pw i % 1073741824 = _
  rw [e1, e2, shd_aux _ _ _ hr]
theorem sp_shiftDown {b v t : Nat} {M : mM} {Q : mM → Prop} (hr : RW M b v) (ht : t < 480) (h : ∀ M', fr M M' b (b + 3) → RW M' b (v / 2 ^ t) → Q M') : p_X5_shiftDown b (nI t) M Q := by
  unfold p_X5_shiftDown
  refine ⟨fun hc => ?_, fun hc => ?_⟩
  · have e1 : nI t / 30 = nI (t / 30) := pk_div (d := 30) (by omega) (by omega) (by omega)
    have e2 : nI t - nI t / 30 * 30 = nI (t % 30) := pk_rem (d := 30) (by omega) (by omega) (by omega)
    rw [e2, e1]
    have et : t = 30 * (t / 30) + t % 30 := (Nat.div_add_mod t 30).symm
    have hr30 : t % 30 < 30 := Nat.mod_lt _ (by omega)
    have hw16 : t / 30 < 16 := by omega
    generalize t / 30 = w at et hw16 ⊢
    generalize t % 30 = r at et hr30 ⊢
    have hv' : v / 2 ^ t < pw 16 := Nat.lt_of_le_of_lt (Nat.div_le_self _ _) hr.2.2
    refine loopU (A := mM) 16 (fun i M' => (nI i, M')) (fun i M' => fr M M' b (b + 3) ∧ ∀ j, j < 16 → M'.1 (b + 1) j = nI (if j < i then dg (v / 2 ^ t) j else dg v j)) M rfl ?_ ?_
    · exact ⟨fr.rf, fun j hj => by rw [if_neg (by omega)]; exact hr.1 j hj⟩
    · rintro i M' ag hi ⟨hf, hl⟩ hag
      show p_X5_shiftDown_F18 b (nI t) (nI w) (nI r) Q ag (nI i) M'
      unfold p_X5_shiftDown_F18
      refine ⟨fun h16 => ?_, fun h16 => ?_⟩
      · have := lei (a := 16) (by omega) (by omega) h16
        exact sp_measure hv' (fun j hj => by rw [hl j hj, if_pos (by omega)]) (fun M2 f2 r2 => h M2 (hf.tr f2) r2)
      · have hlt := nlei (a := 16) (by omega) (by omega) h16
        have hd1 := dg_lt v (i + w)
        have hd2 := dg_lt v (i + w + 1)
        have j77 : p_X5_shiftDown_J77 b (nI t) Q ag (nI w) (nI r) (nI i) (lN (dg v (i + w))) (lN (dg v (i + w + 1))) M' := by
          unfold p_X5_shiftDown_J77
          refine ⟨vin hlt (by omega), fun M2 e2 => ?_⟩
          rw [nI_1]
          refine hag hlt M2 ⟨?_, ?_⟩
          · subst e2; exact hf.mI (by omega) (by omega)
          · intro j hj
            subst e2
            rw [mI_s, clp (by omega)]
            by_cases e : j = i
            · subst e
              have hx : dg v (j + w + 1) * 1073741824 + dg v (j + w) < 2 ^ 64 := by omega
              rw [updS, if_pos (by omega), lN_or30 hd2 hd1]
              have e9 : ((lN (dg v (j + w + 1) * 1073741824 + dg v (j + w))).toUInt64 >>> ((nI r).toInt64.toUInt64 &&& Int64.toUInt64 63)).toInt64 = lN ((dg v (j + w + 1) * 1073741824 + dg v (j + w)) / 2 ^ r) := wb_shr hx (by omega)
              rw [e9, lN_and30 (Nat.lt_of_le_of_lt (Nat.div_le_self _ _) hx), lN_i, et, shd (by omega)]
            · rw [updN e, hl j hj]
              by_cases e3 : j < i
              · rw [if_pos e3, if_pos (by omega)]
              · rw [if_neg e3, if_neg (by omega)]
        have j48 : p_X5_shiftDown_J48 b (nI t) Q ag (nI w) (nI r) (nI i) (lN (dg v (i + w))) M' := by
          unfold p_X5_shiftDown_J48
          rw [nI_add, nI_1]
          refine ⟨fun hc => ?_, fun hc => ?_⟩
          · have hc := lei (a := 16) (by omega) (by omega) hc
            rw [dg_big hr.2.2 hc] at j77
            exact j77
          · have hc := nlei (a := 16) (by omega) (by omega) hc
            rw [clp (by omega), hl _ hc, if_neg (by omega), nI_ll (by omega)]
            exact ⟨vin hc (by omega), j77⟩
        rw [nI_add]
        refine ⟨fun hc => ?_, fun hc => ?_⟩
        · have hc := lei (a := 16) (by omega) (by omega) hc
          rw [dg_big hr.2.2 hc] at j48
          exact j48
        · have hc := nlei (a := 16) (by omega) (by omega) hc
          rw [clp (by omega), hl _ hc, if_neg (by omega), nI_ll (by omega)]
          exact ⟨vin hc (by omega), j48⟩
  · have : t = 0 := by
      rcases Nat.eq_zero_or_pos t with q | q
      · exact q
      · exact absurd (nI_lt (a := 0) q (by omega)) hc
    subst this
    rw [Nat.pow_zero, Nat.div_one] at h
    exact h M fr.rf hr
theorem sp_digit {b v : Nat} {M : mM} {x : Int32} {Q : Int32 → Prop} (hr : RW M b v) (h1 : ∀ i, x = nI i → i < ln v → Q (nI (dg v i))) (h2 : (∀ i, i < ln v → x ≠ nI i) → Q (-1)) : p_X5_digit b x M Q := by
  unfold p_X5_digit p_X6_within
  have hl := ln_le' hr.2.2 (by decide)
  rw [hr.2.1]
  have hno : x < 0 ∨ nI (ln v) - 1 < x → ∀ i, i < ln v → x ≠ nI i := by
    rintro hx i hi rfl
    rcases hx with hx | hx
    · exact nI_pos (by omega) hx
    · obtain ⟨k, hk⟩ : ∃ k, ln v = k + 1 := ⟨ln v - 1, by omega⟩
      rw [hk, nI_pred] at hx
      have := lti (by omega) (by omega) hx
      omega
  refine ⟨fun hc => ⟨fun _ => h2 (hno (Or.inl hc)), fun q => absurd rfl q⟩, fun hc => ⟨fun hc2 => ⟨fun _ => h2 (hno (Or.inr hc2)), fun q => absurd rfl q⟩, fun hc2 => ⟨fun q => absurd q (by decide), fun _ => ?_⟩⟩⟩
  obtain ⟨i, hi, rfl⟩ := nI_of hc
  have hi2 : i < ln v := by
    rcases Nat.eq_zero_or_pos (ln v) with q | q
    · rw [q] at hc2
      exact absurd (by rw [fa_lt, nI_toInt hi]; show (-1 : Int) < _; omega) hc2
    · obtain ⟨k, hk⟩ : ∃ k, ln v = k + 1 := ⟨ln v - 1, by omega⟩
      rw [hk, nI_pred] at hc2
      have := nlti (by omega) (by omega) hc2
      omega
  rw [clp hi, hr.1 i (by omega)]
  exact ⟨vin (by omega) (by omega), h1 i rfl hi2⟩
/-- a hash over digits -/
def hx (f : Nat → Int64) : Nat → Int64 → Int64
  | 0, h => h
  | n + 1, h => 31 * hx f n h + f n
theorem sp_mixW {b v : Nat} {M : mM} {h0 : Int64} {Q : Int64 → Prop} (hr : RW M b v) (h : Q (hx (fun i => lN (dg v i)) (ln v) h0)) : p_X5_mix b h0 M Q := by
  unfold p_X5_mix
  have hl := ln_le' hr.2.2 (by decide)
  refine loopU (A := Unit) (ln v) (fun i _ => (hx (fun i => lN (dg v i)) i h0, nI i)) (fun _ _ => True) () rfl trivial ?_
  rintro i ⟨⟩ ag hi - hag
  show p_X5_mix_F5 b h0 M Q ag (hx (fun i => lN (dg v i)) i h0) (nI i)
  unfold p_X5_mix_F5
  rw [hr.2.1]
  refine ⟨fun hc => ?_, fun hc => ⟨fun h16 => ?_, fun h16 => ⟨vin (by have := nlei (by omega) (by omega) hc; omega) (by omega), fun x2 e2 => ?_⟩⟩⟩
  · have := lei (by omega) (by omega) hc
    rw [show i = ln v by omega]
    exact h
  · have := nlei (by omega) (by omega) hc
    have := lei (a := 16) (by omega) (by omega) h16
    omega
  · have hlt := nlei (by omega) (by omega) hc
    have hd := dg_lt v i
    rw [clp (by omega), hr.1 i (by omega), nI_ll (by omega)] at e2
    rw [nI_1, e2]
    exact hag hlt () trivial
