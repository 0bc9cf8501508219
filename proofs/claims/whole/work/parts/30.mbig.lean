/-! the reference's registers -/
def MG (M : mM) (m r v : Nat) : Prop := (∀ i, i < 40 → M.1 (m + 6) (40 * r + i) = nI (dg v i)) ∧ M.1 (m + 7) r = nI (ln v) ∧ v < pw 40
def fS (M M' : mM) (m : Nat) (S : Nat → Prop) : Prop := (∀ k, k ≠ m + 6 → k ≠ m + 7 → M'.1 k = M.1 k) ∧ M'.2 = M.2 ∧ (∀ j, ¬ S (j / 40) → M'.1 (m + 6) j = M.1 (m + 6) j) ∧ ∀ q, ¬ S q → M'.1 (m + 7) q = M.1 (m + 7) q
theorem fS.rf {M : mM} {m : Nat} {S : Nat → Prop} : fS M M m S := ⟨fun _ _ _ => rfl, rfl, fun _ _ => rfl, fun _ _ => rfl⟩
theorem fS.tr {M M1 M2 : mM} {m : Nat} {S : Nat → Prop} (h : fS M M1 m S) (g : fS M1 M2 m S) : fS M M2 m S := ⟨fun k a b => (g.1 k a b).trans (h.1 k a b), g.2.1.trans h.2.1, fun j a => (g.2.2.1 j a).trans (h.2.2.1 j a), fun q a => (g.2.2.2 q a).trans (h.2.2.2 q a)⟩
theorem fS.wd {M M1 : mM} {m : Nat} {S S' : Nat → Prop} (h : fS M M1 m S) (g : ∀ q, S q → S' q) : fS M M1 m S' := ⟨h.1, h.2.1, fun j a => h.2.2.1 j (fun q => a (g _ q)), fun q a => h.2.2.2 q (fun z => a (g _ z))⟩
theorem fS.lim {M M1 : mM} {m j : Nat} {S : Nat → Prop} {x : Int32} (h : fS M M1 m S) (hj : S (j / 40)) : fS M (mI M1 (m + 6) (upd (M1.1 (m + 6)) j x)) m S := by
  refine ⟨fun k a b => (mI_n a).trans (h.1 k a b), h.2.1, fun i a => ?_, fun q a => ?_⟩
  · rw [mI_s, updN (fun e => a (by rw [e]; exact hj))]; exact h.2.2.1 i a
  · rw [mI_o (by omega)]; exact h.2.2.2 q a
theorem fS.wid {M M1 : mM} {m r : Nat} {S : Nat → Prop} {x : Int32} (h : fS M M1 m S) (hr : S r) : fS M (mI M1 (m + 7) (upd (M1.1 (m + 7)) r x)) m S := by
  refine ⟨fun k a b => (mI_n b).trans (h.1 k a b), h.2.1, fun i a => ?_, fun q a => ?_⟩
  · rw [mI_o (by omega)]; exact h.2.2.1 i a
  · rw [mI_s, updN (fun e => a (by rw [e]; exact hr))]; exact h.2.2.2 q a
theorem MG.fS {M M' : mM} {m r v : Nat} {S : Nat → Prop} (h : MG M m r v) (f : fS M M' m S) (hr : ¬ S r) : MG M' m r v := by
  refine ⟨fun i hi => ?_, ?_, h.2.2⟩
  · rw [f.2.2.1 _ (by rw [show (40 * r + i) / 40 = r by omega]; exact hr)]; exact h.1 i hi
  · rw [f.2.2.2 r hr]; exact h.2.1
theorem m40 (r : Nat) : (40 : Int32) * nI r = nI (40 * r) := pk_mul 40 r
theorem q40 {r i : Nat} (h : i < 40) : (40 * r + i) / 40 = r := by omega
theorem sp7_trims {m r v n : Nat} {M : mM} {Q : mM → Prop} (hr : r < 360) (hn : n ≤ 40) (hv : v < pw n) (hd : ∀ i, i < 40 → M.1 (m + 6) (40 * r + i) = nI (dg v i)) (hw : M.1 (m + 7) r = nI n) (h : ∀ M', fS M M' m (fun q => q = r) → MG M' m r v → Q M') : p_X7_trims m (nI r) M Q := by
  unfold p_X7_trims
  refine loopG (A := mM) (fun M' => M') (fun k M' => k ≤ 40 ∧ fS M M' m (fun q => q = r) ∧ (∀ i, i < 40 → M'.1 (m + 6) (40 * r + i) = nI (dg v i)) ∧ M'.1 (m + 7) r = nI k ∧ lnF v k = ln v) n M rfl ⟨hn, fS.rf, hd, hw, ln_eq hv hn⟩ ?_
  rintro k M' ag ⟨hk, hf, hg, hl, hln⟩ hag
  show p_X7_trims_F0 m (nI r) Q ag M'
  unfold p_X7_trims_F0
  rw [clp (by omega), hl]
  have hv40 : v < pw 40 := Nat.lt_of_lt_of_le hv (pw_le hn)
  refine ⟨vin hr (by omega), fun hc => ?_, fun hc => ?_⟩
  · have := lei (b := 0) (by omega) (by omega) hc
    have e0 : k = 0 := by omega
    subst e0
    exact h M' hf ⟨hg, by rw [hl, ← hln]; rfl, hv40⟩
  · have := nlei (b := 0) (by omega) (by omega) hc
    obtain ⟨z, rfl⟩ : ∃ z, k = z + 1 := ⟨k - 1, by omega⟩
    rw [m40, nI_add, ← Nat.add_assoc, nI_pred, clp (by omega), hg z (by omega)]
    refine ⟨vin hr (by omega), vin (by omega) (by omega), fun hz => ?_, fun hz => ⟨vin hr (by omega), vin hr (by omega), fun M5 e5 => ?_⟩⟩
    · refine h M' hf ⟨hg, ?_, hv40⟩
      rw [hl, ← hln, lnF, if_neg (fun q => hz (by rw [q]; rfl))]
    · have hz0 : dg v z = 0 := eqi (b := 0) (by have := dg_lt v z; omega) (by omega) hz
      rw [nI_pred] at e5
      subst e5
      refine hag z _ (by omega) ⟨by omega, hf.wid rfl, fun i hi => ?_, by rw [mI_s, updS], ?_⟩
      · rw [mI_o (by omega)]; exact hg i hi
      · rw [← hln, lnF, if_pos hz0]
theorem sp7_sets {m r n : Nat} {M : mM} {Q : mM → Prop} (hr : r < 360) (hn : n < 4611686018427387904) (h : ∀ M', fS M M' m (fun q => q = r) → MG M' m r n → Q M') : p_X7_sets m (nI r) (lN n) M Q := by
  unfold p_X7_sets
  have hn3 : n < pw 3 := Nat.lt_of_lt_of_le hn (by decide)
  refine loopU (A := mM) 40 (fun i M' => (nI i, M')) (fun i M' => fS M M' m (fun q => q = r) ∧ ∀ j, j < i → M'.1 (m + 6) (40 * r + j) = nI (dg n j)) M rfl ⟨fS.rf, fun j hj => absurd hj (by omega)⟩ ?_
  rintro i M' ag hi ⟨hf, hl⟩ hag
  show p_X7_sets_F3 m (nI r) (lN n) Q ag (nI i) M'
  unfold p_X7_sets_F3
  rw [m40, nI_add, nI_1]
  have put : ∀ x, i < 40 → x = nI (dg n i) → ag (nI (i + 1), mI M' (m + 6) (upd (M'.1 (m + 6)) (40 * r + i) x)) := by
    intro x hlt hx
    refine hag hlt _ ⟨hf.lim (q40 hlt), fun j hj => ?_⟩
    rw [mI_s]
    by_cases e : j = i
    · subst e; rw [updS, hx]
    · rw [updN (by omega)]; exact hl j (by omega)
  refine ⟨fun hc => ?_, fun hc => ⟨fun h3 => ?_, fun h3 => ?_⟩⟩
  · have := lei (a := 40) (by omega) (by omega) hc
    refine ⟨vin hr (by omega), fun M1 e1 => ?_⟩
    rw [clp (by omega)] at e1
    subst e1
    refine sp7_trims (n := 3) hr (by omega) hn3 (fun j hj => ?_) (by rw [mI_s, updS]; rfl) (fun M2 f2 g2 => h M2 ((hf.wid rfl).tr f2) g2)
    rw [mI_o (by omega)]; exact hl j (by omega)
  · have hlt := nlei (a := 40) (by omega) (by omega) hc
    have h3 := lei (a := 3) (by omega) (by omega) h3
    refine ⟨vin (by omega) (by omega), fun M4 e4 => ?_⟩
    rw [clp (by omega)] at e4
    subst e4
    exact put 0 hlt (by rw [dg_big hn3 h3]; rfl)
  · have hlt := nlei (a := 40) (by omega) (by omega) hc
    have h3 := nlei (a := 3) (by omega) (by omega) h3
    refine ⟨vin (by omega) (by omega), fun M4 e4 => ?_⟩
    rw [clp (by omega)] at e4
    subst e4
    refine put _ hlt ?_
    have e1 : (30 : Int32) * nI i = nI (30 * i) := pk_mul 30 i
    have e2 : lN n >>> ((nI (30 * i)).toInt64 &&& 63) = lN (n / 2 ^ (30 * i)) := by
      refine pf_shr ?_ hn
      rcases (by omega : i = 0 ∨ i = 1 ∨ i = 2) with rfl | rfl | rfl <;> decide
    rw [e1, e2, lN_and30 (Nat.lt_of_le_of_lt (Nat.div_le_self _ _) (by omega)), lN_i, ← pw_2]
    rfl
theorem sp7_copies {m r o v : Nat} {M : mM} {Q : mM → Prop} (hr : r < 360) (ho : o < 360) (hro : r ≠ o) (hv : MG M m o v) (h : ∀ M', fS M M' m (fun q => q = r) → MG M' m r v → Q M') : p_X7_copies m (nI r) (nI o) M Q := by
  unfold p_X7_copies
  refine loopU (A := mM) 40 (fun i M' => (nI i, M')) (fun i M' => fS M M' m (fun q => q = r) ∧ ∀ j, j < i → M'.1 (m + 6) (40 * r + j) = nI (dg v j)) M rfl ⟨fS.rf, fun j hj => absurd hj (by omega)⟩ ?_
  rintro i M' ag hi ⟨hf, hl⟩ hag
  show p_X7_copies_F2 m (nI r) (nI o) Q ag (nI i) M'
  unfold p_X7_copies_F2
  have hv' := hv.fS hf (Ne.symm hro)
  rw [m40, m40, nI_add, nI_add, nI_1]
  refine ⟨fun hc => ⟨vin ho (by omega), vin hr (by omega), fun M2 e2 => ?_⟩, fun hc => ?_⟩
  · have := lei (a := 40) (by omega) (by omega) hc
    rw [clp (by omega), clp (by omega), hv'.2.1] at e2
    subst e2
    refine h _ (hf.wid rfl) ⟨fun j hj => ?_, by rw [mI_s, updS], hv.2.2⟩
    rw [mI_o (by omega)]; exact hl j (by omega)
  · have hlt := nlei (a := 40) (by omega) (by omega) hc
    refine ⟨vin (by omega) (by omega), vin (by omega) (by omega), fun M5 e5 => ?_⟩
    rw [clp (by omega), clp (by omega), hv'.1 i hlt] at e5
    subst e5
    refine hag hlt _ ⟨hf.lim (q40 hlt), fun j hj => ?_⟩
    rw [mI_s]
    by_cases e : j = i
    · subst e; rw [updS]
    · rw [updN (by omega)]; exact hl j (by omega)
theorem lN_le0 {c : Nat} (h : c < 9223372036854775808) : lN c ≤ 0 ↔ c = 0 := by
  have := pk_lLE (a := c) (b := 0) h (by omega)
  exact this.trans (by omega)
theorem sp7_times {m r v f : Nat} {M : mM} {Q : mM → Prop} (hr : r < 360) (hf : f < 1073741824) (hv : MG M m r v) (hT : v * f < pw 40) (h : ∀ M', fS M M' m (fun q => q = r) → MG M' m r (v * f) → Q M') : p_X7_times m (nI r) (nI f) M Q := by
  unfold p_X7_times
  have hL := ln_le v
  refine loopU (A := Nat × mM) (ln v) (fun i a => (lN a.1, nI i, a.2)) (fun i a => a.1 < 1073741824 ∧ v * f / pw i = v / pw i * f + a.1 ∧ fS M a.2 m (fun q => q = r) ∧ (∀ j, j < 40 → a.2.1 (m + 6) (40 * r + j) = nI (if j < i then dg (v * f) j else dg v j)) ∧ a.2.1 (m + 7) r = nI (ln v)) (0, M) rfl ?_ ?_
  · exact ⟨by omega, by rw [dg_d0, dg_d0]; rfl, fS.rf, fun j hj => by rw [if_neg (by omega)]; exact hv.1 j hj, hv.2.1⟩
  · rintro i ⟨c, M'⟩ ag hi ⟨hc, hTi, hfs, hl, hw⟩ hag
    dsimp only at hc hTi hfs hl hw
    show p_X7_times_F5 m (nI r) (nI f) Q ag (lN c) (nI i) M'
    unfold p_X7_times_F5
    rw [clp (by omega), hw, m40, nI_add, nI_add, nI_1]
    refine ⟨vin hr (by omega), fun hle => ?_, fun hle => ?_⟩
    · have hle := lei (by omega) (by omega) hle
      have ei : i = ln v := by omega
      subst ei
      have hz : v / pw (ln v) = 0 := Nat.div_eq_of_lt (ln_lt hv.2.2)
      rw [hz, Nat.zero_mul, Nat.zero_add] at hTi
      refine ⟨fun h0 => ?_, fun h0 => ?_⟩
      · have h0 := (lN_le0 (by omega)).mp h0
        rw [h0] at hTi
        have hlt : v * f < pw (ln v) := (Nat.div_eq_zero_iff_lt (pw_pos _)).mp hTi
        refine sp7_trims hr hL hlt (fun j hj => ?_) hw (fun M2 f2 g2 => h M2 (hfs.tr f2) g2)
        rw [hl j hj]
        by_cases e : j < ln v
        · rw [if_pos e]
        · rw [if_neg e, dg_big (ln_lt hv.2.2) (by omega), dg_big hlt (by omega)]
      · have hc0 : c ≠ 0 := fun q => h0 (by rw [q]; exact (lN_le0 (by omega)).mpr rfl)
        have hL40 : ln v < 40 := by
          rcases Nat.lt_or_ge (ln v) 40 with q | q
          · exact q
          · have : v * f / pw (ln v) = 0 := Nat.div_eq_of_lt (Nat.lt_of_lt_of_le hT (pw_le q))
            omega
        refine ⟨vin hr (by omega), vin (by omega) (by omega), fun M4 e4 => ⟨vin hr (by omega), vin hr (by omega), fun M7 e7 => ?_⟩⟩
        rw [clp (by omega), lN_i] at e4
        have w4 : M4.1 (m + 7) r = nI (ln v) := by rw [e4, mI_o (by omega)]; exact hw
        rw [w4, nI_1] at e7
        have hlt : v * f < pw (ln v + 1) := by
          rw [pw_s]
          have := Nat.div_add_mod (v * f) (pw (ln v))
          have h2 := Nat.mod_lt (v * f) (pw_pos (ln v))
          rw [hTi] at this
          have h3 : pw (ln v) * c + pw (ln v) ≤ pw (ln v) * 1073741824 := by
            rw [← Nat.mul_succ]; exact Nat.mul_le_mul_left _ (by omega)
          omega
        subst e7
        subst e4
        refine sp7_trims (n := ln v + 1) hr (by omega) hlt (fun j hj => ?_) (by rw [mI_s, updS]) (fun M2 f2 g2 => h M2 (((hfs.lim (q40 hL40)).wid rfl).tr f2) g2)
        rw [mI_o (by omega), mI_s]
        by_cases e : j = ln v
        · subst e
          rw [updS]
          congr 1
          show c = v * f / pw (ln v) % 1073741824
          rw [hTi, Nat.mod_eq_of_lt hc]
        · rw [updN (by omega), hl j hj]
          by_cases e2 : j < ln v
          · rw [if_pos e2]
          · rw [if_neg e2, dg_big (ln_lt hv.2.2) (by omega), dg_big hlt (by omega)]
    · have hlt := nlei (by omega) (by omega) hle
      have h1 := dg_lt v i
      rw [clp (by omega), hl i (by omega), if_neg (by omega)]
      refine ⟨vin (by omega) (by omega), fun x11 e11 => ⟨vin (by omega) (by omega), fun M12 e12 x14 e14 => ?_⟩⟩
      have hm : dg v i * f ≤ 1073741823 * 1073741823 := Nat.mul_le_mul (by omega) (by omega)
      have e11' : x11 = lN (dg v i * f + c) := by
        rw [e11, nI_ll (by omega), nI_ll (by omega), lN_mul, lN_add]
      have hs : v * f / pw i = v / pw (i + 1) * f * 1073741824 + dg v i * f + c := by
        rw [hTi, dg_split v i, Nat.add_mul, Nat.mul_right_comm]
      obtain ⟨s1, s2⟩ := dg_lin hs
      rw [e11', lN_and30 (by omega), lN_i, ← s1] at e12
      rw [e14, e11', lN_shr30 (by omega)]
      subst e12
      refine hag hlt (_, _) ⟨?_, s2, hfs.lim (q40 (by omega)), ?_, ?_⟩
      · show (dg v i * f + c) / 1073741824 < 1073741824
        omega
      · intro j hj
        show (mI M' (m + 6) _).1 (m + 6) (40 * r + j) = _
        rw [mI_s]
        by_cases e : j = i
        · subst e; rw [updS, if_pos (by omega)]
        · rw [updN (by omega), hl j hj]
          by_cases e2 : j < i
          · rw [if_pos e2, if_pos (by omega)]
          · rw [if_neg e2, if_neg (by omega)]
      · show (mI M' (m + 6) _).1 (m + 7) r = _
        rw [mI_o (by omega)]; exact hw
