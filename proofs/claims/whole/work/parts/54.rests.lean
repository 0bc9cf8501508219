/-! on what the copy rests: the class -/
theorem lN_xt {a : Nat} (h : a < 18446744073709551616) : (lN a ^^^ (-9223372036854775808)).toInt = (a : Int) - 9223372036854775808 := by
  show (BitVec.ofNat 64 a ^^^ BitVec.ofNat 64 (2 ^ 63)).toInt = _
  have e : BitVec.ofNat 64 a ^^^ BitVec.ofNat 64 (2 ^ 63) = BitVec.ofNat 64 (2 ^ 63 + a) := by
    apply BitVec.eq_of_getLsbD_eq
    intro i hi
    rw [BitVec.getLsbD_xor, BitVec.getLsbD_ofNat, BitVec.getLsbD_ofNat, BitVec.getLsbD_ofNat]
    simp only [hi, decide_true, Bool.true_and]
    rcases Nat.lt_or_ge i 63 with z | z
    · rw [Nat.testBit_two_pow_add_gt z, Nat.testBit_two_pow, decide_eq_false (by omega), Bool.xor_false]
    · have : i = 63 := by omega
      subst this
      rw [Nat.testBit_two_pow_add_eq, Nat.testBit_two_pow, decide_eq_true rfl, Bool.xor_true]
  rw [e, BitVec.toInt_eq_toNat_bmod, BitVec.toNat_ofNat, Int.bmod_def]
  have h2 : (2 ^ 64 : Nat) = 18446744073709551616 := rfl
  have h3 : (2 ^ 63 : Nat) = 9223372036854775808 := rfl
  rw [h2, h3]
  omega
theorem sp_isLess {a b : Nat} {M : mM} {Q : Int32 → Prop} (ha : a < 18446744073709551616) (hb : b < 18446744073709551616) (h1 : a < b → Q 1) (h0 : b ≤ a → Q 0) : p_X6_isLess (lN a) (lN b) M Q := by
  unfold p_X6_isLess
  rw [Int64.le_iff_toInt_le, lN_xt ha, lN_xt hb]
  exact ⟨fun q => h0 (by omega), fun q => h1 (by omega)⟩
theorem lN_sb {a b : Nat} (h : b ≤ a) : lN a - lN b = lN (a - b) := by
  obtain ⟨c, rfl⟩ : ∃ c, a = c + b := ⟨a - b, by omega⟩
  rw [← lN_add, Int64.add_sub_cancel, Nat.add_sub_cancel]
def ro (A S : Nat) : Int32 := if S = A then 0 else if A < 2 * S then 1 else if S ≠ 0 then 2 else 3
noncomputable def rsF (s c : Nat → Nat) (hem cl k : Nat) : Nat := if tc k = c cl then wt1 s hem (cl % 8) k else 0
theorem rsF_le (s c : Nat → Nat) (hem cl k : Nat) : rsF s c hem cl k ≤ wt1 s hem (cl % 8) k := by
  unfold rsF; split <;> omega
theorem rs_le (s c : Nat → Nat) (hem cl : Nat) {n : Nat} (hn : n ≤ 21) : sm (rsF s c hem cl) n ≤ aA s hem := by
  rw [← wt_sum s hem (Nat.mod_lt cl (by decide : 0 < 8))]
  exact sm_sub (fun i _ => rsF_le s c hem cl i) hn
theorem sp_topOf {k : Nat} {M : mM} {Q : Int32 → Prop} (hk : k < 21) (h : Q (oI (tc k))) : p_X6_topOf (nI k) M Q := by
  have g4 := gc_le hk
  have u4 := uc_le k
  refine sp_upperOf hk ?_
  by_cases z : k < 5
  · have u0 : uc k = 0 := by unfold uc; rw [if_pos z]
    rw [tc_g z] at h
    rw [u0]
    refine ⟨fun e => ?_, fun e => ?_⟩
    · first
        | exact absurd rfl e
        | exact sp_groundOf hk h
    · first
        | exact sp_groundOf hk h
        | exact absurd rfl e
  · have u0 : uc k ≠ 0 := by unfold uc; rw [if_neg z]; omega
    rw [tc_u z] at h
    refine ⟨fun e => ?_, fun e => ?_⟩
    · first
        | exact h
        | exact absurd ((oI_eq0 (by omega)).mp e) u0
    · first
        | exact absurd ((oI_eq0 (by omega)).mp e) u0
        | exact h
theorem sp_restsOn {g hem cl : Nat} {s c : Nat → Nat} {M : mM} {Q : Int32 → Prop} (hs : ST M (g + 1) s c) (w : WF s c) (hR : HR M (g + 70) s hem) (hc : cl < 48) (h : Q (ro (aA s hem) (sm (rsF s c hem cl) 21))) : p_X6_restsOn g (nI cl) M Q := by
  have A64 := aA_64 w hem
  refine loopU (A := Unit) 21 (fun k _ => (lN (sm (rsF s c hem cl) k), nI k)) (fun k _ => True) () rfl trivial ?_
  rintro k _ ag hk _ hag
  show p_X6_restsOn_F5 g (nI cl) M Q ag (lN (sm (rsF s c hem cl) k)) (nI k)
  have S64 := rs_le s c hem cl hk
  have R := hR.2.2.1
  unfold p_X6_restsOn_F5
  rw [R]
  refine ⟨fun q => ⟨fun z => ?_, fun z => ?_⟩, fun q => ?_⟩
  · have q := lei (a := 21) (by decide) (by omega) q
    have : k = 21 := by omega
    subst this
    rw [lN_inj (by omega) (by omega)] at z
    unfold ro at h
    rw [if_neg z] at h
    generalize sm (rsF s c hem cl) 21 = S at *
    rw [lN_sb S64]
    refine sp_isLess (by omega) (by omega) (fun lt => ⟨fun e => absurd e (by decide), fun _ => ?_⟩) (fun le => ⟨fun _ => ⟨fun y => ?_, fun y => ?_⟩, fun e => absurd rfl e⟩)
    · rw [if_pos (by omega)] at h; exact h
    · rw [lN_z (by omega)] at y
      rw [if_neg (by omega), if_neg (fun r => r y)] at h; exact h
    · rw [lN_z (by omega)] at y
      rw [if_neg (by omega), if_pos y] at h; exact h
  · have q := lei (a := 21) (by decide) (by omega) q
    have : k = 21 := by omega
    subst this
    rw [lN_inj (by omega) (by omega)] at z
    unfold ro at h
    rw [if_pos z] at h
    exact h
  · have q := nlei (a := 21) (by decide) (by omega) q
    have t4 := tc_le k
    have w0 := w.1
    have c4 := w.cp cl hc
    rw [show nI k + 1 = nI (k + 1) from nI_add k 1]
    have go := hag q () trivial
    refine sp_topOf q ⟨vin hc (by decide), ?_⟩
    rw [clp (show cl < 2147483648 by omega), hs.2.2.2.2.2.2 cl hc, oI_eq (by omega) (by omega), show nI cl - nI cl / 8 * 8 = nI (cl % 8) from pk_rem (d := 8) (by omega) (by decide) (by decide)]
    have e1 : sm (rsF s c hem cl) (k + 1) = sm (rsF s c hem cl) k + rsF s c hem cl k := rfl
    rw [e1] at go
    refine ⟨fun z => ?_, fun z => sp_weightOf w hR (Nat.mod_lt _ (by decide)) q ?_⟩
    · rw [show rsF s c hem cl k = 0 from if_neg z, Nat.add_zero] at go; exact go
    · rw [show rsF s c hem cl k = wt1 s hem (cl % 8) k from if_pos z] at go
      rw [lN_add]; exact go
