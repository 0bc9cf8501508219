/-! on what the copy rests: the row -/
theorem wt1_ns {s : Nat → Nat} {hem p k : Nat} (h : ¬ stk s k) : wt1 s hem p k = 0 := by
  have : w0 s hem p k = 0 := by
    by_cases z : w0 s hem p k = 0
    · exact z
    · exact absurd (w0_s z) h
  unfold wt1
  rw [aF_A, this, Nat.zero_mul, Nat.zero_mul]
/-- the row's sums of a hem stand -/
def RG (M : mM) (m : Nat) (s : Nat → Nat) (hem : Nat) : Prop := (∀ p k, p < 8 → k < 21 → MG M m (20 + (21 * p + k)) (aF s hem p k)) ∧ (∀ p k, p < 8 → k < 21 → MG M m (188 + (21 * p + k)) (aB s hem p k)) ∧ MG M m 5 (aA s hem)
theorem RG.fS {M M' : mM} {m hem : Nat} {s : Nat → Nat} {S : Nat → Prop} (h : RG M m s hem) (f : fS M M' m S) (hS : ∀ q, S q → q ≠ 5 ∧ (q < 20 ∨ 356 ≤ q)) : RG M' m s hem :=
  ⟨fun p k hp hk => (h.1 p k hp hk).fS f (fun q => by have := hS _ q; omega), fun p k hp hk => (h.2.1 p k hp hk).fS f (fun q => by have := hS _ q; omega), h.2.2.fS f (fun q => (hS _ q).1 rfl)⟩
theorem adS_ok (q : Nat) (h : adS q) : q ≠ 5 ∧ (q < 20 ∨ 356 ≤ q) := by unfold adS at h; omega
theorem aA_38 {s c : Nat → Nat} (w : WF s c) (hem : Nat) : aA s hem * 2 < pw 38 := by
  have := aA_64 w hem
  have h2 : (18446744073709551616 : Nat) * 2 < pw 38 := by decide +kernel
  omega
theorem sp7_restsAt {m hem cl : Nat} {s c : Nat → Nat} {M : mM} {Q : Int32 → mM → Prop} (hs : BK M m s c) (w : WF s c) (hR : RG M m s hem) (hc : cl < 48) (h : ∀ M', fS M M' m adS → Q (ro (aA s hem) (sm (rsF s c hem cl) 21)) M') : p_X7_restsAt m (nI cl) M Q := by
  have A64 := aA_38 w hem
  refine sp7_sets (r := 7) (n := 0) (by decide) (by decide) (fun M1 hf1 hm1 => ?_)
  refine loopU (A := mM) 21 (fun k a => (nI k, a)) (fun k a => fS M a m adS ∧ MG a m 7 (sm (rsF s c hem cl) k)) M1 rfl ⟨hf1.wd (fun q e => Or.inr (Or.inr e)), hm1⟩ ?_
  rintro k a ag hk ⟨hf, hm⟩ hag
  show p_X7_restsAt_F9 m (nI cl) Q ag (nI k) a
  have Ra := hR.fS hf adS_ok
  have S64 := rs_le s c hem cl hk
  unfold p_X7_restsAt_F9
  refine ⟨fun q => ?_, fun q => ?_⟩
  · have q := lei (a := 21) (by decide) (by omega) q
    have : k = 21 := by omega
    subst this
    have fin : ∀ M', fS M M' m adS → Q (ro (aA s hem) (sm (rsF s c hem cl) 21)) M' := h
    unfold ro at fin
    generalize sm (rsF s c hem cl) 21 = S at *
    have hw : a.1 (m + 7) (7 : Int32).toNatClampNeg = nI (ln S) := hm.2.1
    have l40 := ln_le S
    have ne : S ≠ aA s hem → S < aA s hem → ((¬ (a.1 (m + 7) (7 : Int32).toNatClampNeg) = 0 → p_X7_times m (7 : Int32) (2 : Int32) a (fun (M3 : mM) => p_X7_against m (7 : Int32) (5 : Int32) M3 (fun (r4 : Int32) => (((r4 ≤ 0) → Q 2 M3) ∧ ((¬ r4 ≤ 0) → Q 1 M3))))) ∧ (((a.1 (m + 7) (7 : Int32).toNatClampNeg) = 0) → Q 3 a)) := by
      intro n1 lt
      rw [hw]
      refine ⟨fun z => ?_, fun z => ?_⟩
      · have z : S ≠ 0 := fun e => z (by rw [(ln_ne0 hm.2.2).mpr e]; rfl)
        refine sp7_times (r := 7) (f := 2) (by decide) (by decide) hm (by have := pw_le (show 38 ≤ 40 by decide); omega) (fun M3 f3 m3 => ?_)
        have F3 : fS M M3 m adS := hf.tr (f3.wd (fun q e => Or.inr (Or.inr e)))
        have fin := fin M3 F3
        rw [if_neg n1] at fin
        refine sp7_against (r := 7) (o := 5) (by decide) (by decide) m3 (Ra.2.2.fS f3 (by decide)) (fun y => ⟨fun _ => ?_, fun e => absurd (by decide) e⟩) (fun y => ⟨fun _ => ?_, fun e => absurd (by decide) e⟩) (fun y => ⟨fun e => absurd e (by decide), fun _ => ?_⟩)
        · rw [if_neg (by omega), if_pos z] at fin; exact fin
        · rw [if_neg (by omega), if_pos z] at fin; exact fin
        · rw [if_pos (by omega)] at fin; exact fin
      · have z : S = 0 := (ln_ne0 hm.2.2).mp (eqi (b := 0) (by omega) (by decide) z)
        have fin := fin a hf
        rw [if_neg n1, if_neg (by omega), if_neg (fun r => r z)] at fin
        exact fin
    refine sp7_against (r := 7) (o := 5) (by decide) (by decide) hm Ra.2.2 (fun y => ⟨fun _ => ne (by omega) y, fun e => absurd e (by decide)⟩) (fun y => ⟨fun e => absurd rfl e, fun _ => ?_⟩) (fun y => absurd S64 (by omega))
    have fin := fin a hf
    rw [if_pos y] at fin; exact fin
  · have q := nlei (a := 21) (by decide) (by omega) q
    have t4 := tc_le k
    have w0' := w.1
    have c4 := w.cp cl hc
    have hba := hs.fS hf
    rw [show nI k + 1 = nI (k + 1) from nI_add k 1]
    have e1 : sm (rsF s c hem cl) (k + 1) = sm (rsF s c hem cl) k + rsF s c hem cl k := rfl
    have skip : rsF s c hem cl k = 0 → ag (nI (k + 1), a) := fun z => hag q a ⟨hf, by rw [e1, z]; exact hm⟩
    refine sp7_isStack hba w (fun k' e g => ⟨fun z => absurd z (by decide), fun _ => ?_⟩) (fun g => ⟨fun _ => skip ?_, fun e => absurd rfl e⟩)
    · have e := eqi (by omega) (by have := g.1; omega) e
      subst e
      refine sp7_topOf q ?_
      rw [show (150 : Int32) + nI cl = nI (150 + cl) from nI_add 150 cl, clp (show 150 + cl < 2147483648 by omega), hba.2 cl hc, oI_eq (by omega) (by omega), show nI cl - nI cl / 8 * 8 = nI (cl % 8) from pk_rem (d := 8) (by omega) (by decide) (by decide)]
      refine ⟨vin (by omega) (by decide), fun z => skip (if_neg z), fun z => ?_⟩
      refine sp7_addsRows (hem := hem) w (Nat.mod_lt _ (by decide)) q (Ra.1 _ _ (Nat.mod_lt _ (by decide)) q) (Ra.2.1 _ _ (Nat.mod_lt _ (by decide)) q) hm (by omega) (fun M8 f8 m8 => hag q M8 ⟨hf.tr f8, ?_⟩)
      rw [e1, show rsF s c hem cl k = wt1 s hem (cl % 8) k from if_pos z]
      exact m8
    · have : wt1 s hem (cl % 8) k = 0 := wt1_ns (fun r => g ⟨k, rfl, r⟩)
      unfold rsF
      rw [this]
      split <;> rfl
