/-! which lamp to hold to which cell next: the row, and both -/
theorem sp_next {g : Nat} {S : zS} {M : mM} {Q : Int32 → mM → Prop} (hS : SW S) (hC : CR M g S) (h1 : (nsN (zs S) 6).1 ≠ 0 → ∀ M', fr M M' g (g + 145) → CR M' g S → Q (nI ((nsN (zs S) 6).1 - 1)) M') (h0 : (nsN (zs S) 6).1 = 0 → ∀ M', fr M M' g (g + 145) → CR M' g S → p_X6_told g (-3) M' Q) : p_X6_next g M Q := by
  have w := hS.1
  refine loopU (A := mM) 6 (fun hem a => (oI (nsN (zs S) hem).1, lN (nsN (zs S) hem).2.1, lN (nsN (zs S) hem).2.2, nI hem, a)) (fun hem a => fr M a g (g + 145) ∧ CR a g S) M rfl ⟨fr.rf, hC⟩ ?_
  rintro hem a ag hh ⟨hf, hc⟩ hag
  show p_X6_next_F10 g Q ag (oI (nsN (zs S) hem).1) (lN (nsN (zs S) hem).2.1) (lN (nsN (zs S) hem).2.2) (nI hem) a
  obtain ⟨b1, b2, b3⟩ := nsN_b w hem hh
  have e1 : nsN (zs S) (hem + 1) = nxN (zs S) hem (nsN (zs S) hem) := rfl
  unfold p_X6_next_F10
  refine ⟨fun q => ⟨fun z => ?_, fun z => ?_⟩, fun q => ?_⟩
  · have q := lei (a := 6) (by decide) (by omega) q
    have : hem = 6 := by omega
    subst this
    have z : (nsN (zs S) 6).1 ≠ 0 := fun e => z (by rw [e]; rfl)
    rw [oI_p z]; exact h1 z a hf hc
  · have q := lei (a := 6) (by decide) (by omega) q
    have : hem = 6 := by omega
    subst this
    exact h0 ((oI_eq0 (by omega)).mp z) a hf hc
  · have q := nlei (a := 6) (by decide) (by omega) q
    have go := hag q
    rw [e1] at go
    unfold nxN at go
    have A64 := aA_64 w hem
    have bl := bmI_lt (zs S) hem 32 (by decide)
    have ol := oN_le (zs S) hem bl
    rw [show nI hem * 8 = nI (hem * 8) from pk_mul hem 8, show nI hem + 1 = nI (hem + 1) from nI_add hem 1]
    have e8 : hem * 8 / 8 = hem := by omega
    refine sp_aroundR hS hc (by omega) (fun nz M' f c we hr => ⟨fun e => absurd e (by decide), fun _ => ?_⟩) (fun z M' f c => ⟨fun _ => ?_, fun e => absurd rfl e⟩)
    · rw [e8] at nz hr
      rw [if_neg nz] at go
      refine sp_seekHalf w hr we (by omega) (fun M5 f5 k14 k13 => ?_)
      have F5 : fr M' M5 (g + 70) (g + 122) := f5.fr (by omega) (by omega)
      have c5 := CR_fr c F5 (by omega)
      have G5 : fr M M5 g (g + 145) := (hf.tr f).tr (F5.wd (by omega) (by omega))
      have r12 : M5.2 (g + 70) 12 = lN (aA (zs S) hem) := (HR_K hr f5).2.2.1
      have J68 : ((nsN (zs S) hem).1 = 0 ∨ oN (zs S) hem (bmI (zs S) hem 32) * (nsN (zs S) hem).2.2 < (nsN (zs S) hem).2.1 * aA (zs S) hem) → p_X6_next_J68 g Q ag (nI hem) M5 := by
        intro cnd
        rw [if_pos cnd] at go
        unfold p_X6_next_J68
        rintro x6 rfl
        rw [k14, k13, r12, show (10 : Int32) * nI hem = nI (10 * hem) from pk_mul 10 hem, show nI (10 * hem) * 8 = nI (10 * hem * 8) from pk_mul _ 8, nI_add, show nI hem + 1 = nI (hem + 1) from nI_add hem 1, show 10 * hem * 8 = 80 * hem by omega, ← oI_s]
        exact go M5 ⟨G5, c5⟩
      refine ⟨fun z => J68 (Or.inl ((oI_eq0 (by omega)).mp z)), fun z => ?_⟩
      have z : (nsN (zs S) hem).1 ≠ 0 := fun e => z (by rw [e]; rfl)
      rw [k13, r12]
      refine sp_isLess4 (by omega) b3 b2 A64 (fun lt => ⟨fun e => absurd e (by decide), fun _ => J68 (Or.inr lt)⟩) (fun le => ⟨fun _ => ?_, fun e => absurd rfl e⟩)
      rw [if_neg (by omega)] at go
      exact go M5 ⟨G5, c5⟩
    · rw [e8] at z
      rw [if_pos z] at go
      exact go M' ⟨hf.tr f, c⟩
def nxS (q : Nat) : Prop := (2 ≤ q ∧ q < 5) ∨ q = 6 ∨ q = 7 ∨ q = 12 ∨ q = 13 ∨ q = 14
theorem nxS_ok (q : Nat) (h : nxS q) : q ≠ 5 ∧ (q < 20 ∨ 356 ≤ q) := by unfold nxS at h; omega
theorem nxS_0 : ¬ nxS 0 := by unfold nxS; omega
theorem nxS_1 : ¬ nxS 1 := by unfold nxS; omega
theorem LOK_x {M M' : mM} {m : Nat} {S : Nat → Prop} (f : fS M M' m S) : True := trivial
theorem sp7_next {m : Nat} {S : zS} {M : mM} {Q : Int32 → mM → Prop} (hS : SW S) (hM : MR M m S) (h1 : (nsN (zs S) 6).1 ≠ 0 → ∀ M', fr M M' m (m + 15) → MR M' m S → Q (nI ((nsN (zs S) 6).1 - 1)) M') (h0 : (nsN (zs S) 6).1 = 0 → ∀ M', fr M M' m (m + 15) → MR M' m S → p_X7_no m M' Q) : p_X7_next m M Q := by
  have w := hS.1
  have p38 : (18446744073709551616 : Nat) * 18446744073709551616 < pw 38 := by decide +kernel
  refine loopU (A := mM) 6 (fun hem a => (oI (nsN (zs S) hem).1, nI hem, a)) (fun hem a => fr M a m (m + 15) ∧ MR a m S ∧ ((nsN (zs S) hem).1 ≠ 0 → MG a m 12 (nsN (zs S) hem).2.1 ∧ MG a m 13 (nsN (zs S) hem).2.2)) M rfl ⟨fr.rf, hM, fun e => absurd rfl e⟩ ?_
  rintro hem a ag hh ⟨hf, hm, hg⟩ hag
  show p_X7_next_F4 m Q ag (oI (nsN (zs S) hem).1) (nI hem) a
  obtain ⟨b1, b2, b3⟩ := nsN_b w hem hh
  unfold p_X7_next_F4
  refine ⟨fun q => ⟨fun z => ?_, fun z => ?_⟩, fun q => ?_⟩
  · have q := lei (a := 6) (by decide) (by omega) q
    have : hem = 6 := by omega
    subst this
    have z : (nsN (zs S) 6).1 ≠ 0 := fun e => z (by rw [e]; rfl)
    rw [oI_p z]; exact h1 z a hf hm
  · have q := lei (a := 6) (by decide) (by omega) q
    have : hem = 6 := by omega
    subst this
    exact h0 ((oI_eq0 (by omega)).mp z) a hf hm
  · have q := nlei (a := 6) (by decide) (by omega) q
    have e1 : nsN (zs S) (hem + 1) = nxN (zs S) hem (nsN (zs S) hem) := rfl
    have go := hag q
    rw [e1] at go
    unfold nxN at go
    have A64 := aA_64 w hem
    generalize nsN (zs S) hem = x at *
    rw [show nI hem + 1 = nI (hem + 1) from nI_add hem 1]
    refine sp7_rows hm.1 w q (fun nz M3 f3 l3 rF rB rA => ⟨fun e => absurd e (by decide), fun _ => ?_⟩) (fun z M3 f3 => ⟨fun _ => ?_, fun e => absurd rfl e⟩)
    · rw [if_neg nz] at go
      have c3 := MR_fT hm f3 rwS_0 rwS_1
      have rg : RG M3 m (zs S) hem := ⟨rF, rB, rA⟩
      have g3 : x.1 ≠ 0 → MG M3 m 12 x.2.1 ∧ MG M3 m 13 x.2.2 := fun e => ⟨(hg e).1.fT f3 (by unfold rwS; omega), (hg e).2.fT f3 (by unfold rwS; omega)⟩
      refine loopU (A := mM) 32 (fun k b => (oI (mnN (zs S) hem x k).1, nI k, b)) (fun k b => fS M3 b m nxS ∧ ((mnN (zs S) hem x k).1 ≠ 0 → MG b m 12 (mnN (zs S) hem x k).2.1 ∧ MG b m 13 (mnN (zs S) hem x k).2.2) ∧ (mnN (zs S) hem x k).1 ≤ 600 ∧ (mnN (zs S) hem x k).2.1 < 18446744073709551616 ∧ (mnN (zs S) hem x k).2.2 < 18446744073709551616) M3 rfl ⟨fS.rf, g3, b1, b2, b3⟩ ?_
      rintro k b ag2 hk ⟨hf2, hg2, d1, d2, d3⟩ hag2
      show p_X7_next_F20 m (nI hem) Q ag ag2 (oI (mnN (zs S) hem x k).1) (nI k) b
      unfold p_X7_next_F20
      rw [show nI hem + 1 = nI (hem + 1) from nI_add hem 1]
      refine ⟨fun q2 => ?_, fun q2 => ?_⟩
      · have q2 := lei (a := 32) (by decide) (by omega) q2
        have : k = 32 := by omega
        subst this
        have em := mnN_c (zs S) hem x nz 32 (by decide)
        rw [← em] at go
        exact go b ⟨(hf.tr f3.fr).tr hf2.fr, MR_fS c3 hf2 nxS_0 nxS_1, hg2⟩
      · have q2 := nlei (a := 32) (by decide) (by omega) q2
        have em : mnN (zs S) hem x (k + 1) = if (mnN (zs S) hem x k).1 = 0 ∨ oN (zs S) hem k * (mnN (zs S) hem x k).2.2 < (mnN (zs S) hem x k).2.1 * aA (zs S) hem then (80 * hem + cdN k + 1, oN (zs S) hem k, aA (zs S) hem) else mnN (zs S) hem x k := rfl
        have go2 := hag2 q2
        rw [em] at go2
        have ol := oN_le (zs S) hem q2
        have cdl : cdN k < 1000 := by unfold cdN; omega
        generalize mnN (zs S) hem x k = y at *
        rw [show nI k / 4 = nI (k / 4) from pk_div (d := 4) (by omega) (by decide) (by decide), show (8 : Int32) * nI hem = nI (8 * hem) from pk_mul 8 hem, nI_add]
        have k8 : k / 4 < 8 := by omega
        have c48 : 8 * hem + k / 4 < 48 := by omega
        have cd2 : (8 * hem + k / 4) % 8 / 2 = k / 4 / 2 := by omega
        refine sp7_sets (r := 7) (n := 0) (by decide) (by decide) (fun M5 f5 m5 => ?_)
        refine loopU (A := mM) 21 (fun u b => (nI u, b)) (fun u b => fS M3 b m nxS ∧ (y.1 ≠ 0 → MG b m 12 y.2.1 ∧ MG b m 13 y.2.2) ∧ MG b m 7 (sm (shB (zs S) hem (k / 4) (k % 4)) u)) M5 rfl ⟨hf2.tr (f5.wd (fun q e => by rw [e]; unfold nxS; omega)), fun e => ⟨(hg2 e).1.fS f5 (by decide), (hg2 e).2.fS f5 (by decide)⟩, m5⟩ ?_
        rintro u b5 ag5 hu ⟨hf5, hg5, hm5⟩ hag5
        show p_X7_next_F46 m (oI y.1) (nI hem) (nI k) (nI (8 * hem + k / 4)) Q ag ag2 ag5 (nI u) b5
        have R5 := rg.fS hf5 nxS_ok
        have C5 := MR_fS c3 hf5 nxS_0 nxS_1
        have sle := shS_le (zs S) hem (k % 4) k8 hu
        unfold p_X7_next_F46
        rw [show nI k / 4 = nI (k / 4) from pk_div (d := 4) (by omega) (by decide) (by decide), show nI k - nI (k / 4) * 4 = nI (k % 4) from by rw [← show nI k / 4 = nI (k / 4) from pk_div (d := 4) (by omega) (by decide) (by decide)]; exact pk_rem (d := 4) (by omega) (by decide) (by decide)]
        refine ⟨fun q5 => ?_, fun q5 => ?_⟩
        · have q5 := lei (a := 21) (by decide) (by omega) q5
          have : u = 21 := by omega
          subst this
          have p40 := pw_le (show 38 ≤ 40 by decide)
          have hm5 : MG b5 m 7 (shN (zs S) hem (k / 4) (k % 4)) := hm5
          have sle : shN (zs S) hem (k / 4) (k % 4) ≤ aA (zs S) hem := sle
          have eo : oN (zs S) hem k = ofN (aA (zs S) hem) (shN (zs S) hem (k / 4) (k % 4)) := rfl
          generalize shN (zs S) hem (k / 4) (k % 4) = sh at *
          refine sp7_times (r := 7) (f := 2) (by decide) (by decide) hm5 (by omega) (fun M6 f6 m6 => ?_)
          have F6 : fS M3 M6 m nxS := hf5.tr (f6.wd (fun q e => by rw [e]; unfold nxS; omega))
          have g6 : y.1 ≠ 0 → MG M6 m 12 y.2.1 ∧ MG M6 m 13 y.2.2 := fun e => ⟨(hg5 e).1.fS f6 (by decide), (hg5 e).2.fS f6 (by decide)⟩
          have r6 : MG M6 m 5 (aA (zs S) hem) := R5.2.2.fS f6 (by decide)
          -- with the distance in its register
          have tail : ∀ M10, fS M3 M10 m nxS → (y.1 ≠ 0 → MG M10 m 12 y.2.1 ∧ MG M10 m 13 y.2.2) → MG M10 m 5 (aA (zs S) hem) → MG M10 m 14 (oN (zs S) hem k) → (((¬ oI y.1 = (-1)) → p_X7_next_J152 m Q ag ag2 (oI y.1) (nI hem) (nI k) (nI (8 * hem + k / 4)) 0 M10) ∧ ((oI y.1 = (-1)) → p_X7_next_J152 m Q ag ag2 (oI y.1) (nI hem) (nI k) (nI (8 * hem + k / 4)) 1 M10)) := by
            intro M10 F10 g10 r10 o10
            have take : ∀ M', fS M3 M' m nxS → MG M' m 5 (aA (zs S) hem) → MG M' m 14 (oN (zs S) hem k) → (y.1 = 0 ∨ oN (zs S) hem k * y.2.2 < y.2.1 * aA (zs S) hem) → ∀ r : Int32, ¬ r = 0 → p_X7_next_J202 m Q ag ag2 (oI y.1) (nI hem) (nI k) (nI (8 * hem + k / 4)) r M' := by
              intro M' F' r' o' cnd r hr
              rw [if_pos cnd] at go2
              refine ⟨fun e => absurd e hr, fun _ => ?_⟩
              rintro x11 rfl
              rw [show nI k - nI k / 4 * 4 = nI (k % 4) from pk_rem (d := 4) (by omega) (by decide) (by decide), show (10 : Int32) * nI (8 * hem + k / 4) = nI (10 * (8 * hem + k / 4)) from pk_mul 10 _, nI_add, show nI k + 1 = nI (k + 1) from nI_add k 1]
              refine sp7_copies (r := 12) (o := 14) (by decide) (by decide) (by decide) o' (fun M12 f12 m12 => sp7_copies (r := 13) (o := 5) (by decide) (by decide) (by decide) (r'.fS f12 (by decide)) (fun M13 f13 m13 => ?_))
              have fin := go2 M13 ⟨(F'.tr (f12.wd (fun q e => by rw [e]; unfold nxS; omega))).tr (f13.wd (fun q e => by rw [e]; unfold nxS; omega)), fun _ => ⟨m12.fS f13 (by decide), m13⟩, by show 80 * hem + cdN k + 1 ≤ 600; unfold cdN; omega, by show oN (zs S) hem k < _; omega, A64⟩
              rw [oI_s] at fin
              rw [show 10 * (8 * hem + k / 4) + k % 4 = 80 * hem + cdN k from by unfold cdN; omega]
              exact fin
            refine ⟨fun z => ⟨fun e => absurd rfl e, fun _ => ?_⟩, fun z => ⟨fun _ => take M10 F10 r10 o10 (Or.inl ((oI_eq0 (by omega)).mp z)) 1 (by decide), fun e => absurd e (by decide)⟩⟩
            have z : y.1 ≠ 0 := fun e => z (by rw [e]; rfl)
            obtain ⟨g12, g13⟩ := g10 z
            have m1 : oN (zs S) hem k * y.2.2 ≤ 18446744073709551616 * 18446744073709551616 := Nat.mul_le_mul (by omega) (by omega)
            have m2 : y.2.1 * aA (zs S) hem ≤ 18446744073709551616 * 18446744073709551616 := Nat.mul_le_mul (by omega) (by omega)
            refine sp7_copies (r := 2) (o := 14) (by decide) (by decide) (by decide) o10 (fun M14 f14 m14 => ?_)
            refine sp7_multiplies (r := 2) (o := 13) (by decide) (by decide) (by decide) (by decide) m14 (g13.fS f14 (by decide)) (by omega) (by omega) (by omega) (fun M15 f15 m15 => ?_)
            have h12 : MG M15 m 12 y.2.1 := (g12.fS f14 (by decide)).fS f15 (by omega)
            have h13 : MG M15 m 13 y.2.2 := (g13.fS f14 (by decide)).fS f15 (by omega)
            have h5 : MG M15 m 5 (aA (zs S) hem) := (r10.fS f14 (by decide)).fS f15 (by omega)
            have h14 : MG M15 m 14 (oN (zs S) hem k) := (o10.fS f14 (by decide)).fS f15 (by omega)
            have F15 : fS M3 M15 m nxS := (F10.tr (f14.wd (fun q e => by rw [e]; unfold nxS; omega))).tr (f15.wd (fun q e => by unfold nxS; omega))
            refine sp7_copies (r := 3) (o := 12) (by decide) (by decide) (by decide) h12 (fun M16 f16 m16 => ?_)
            refine sp7_multiplies (r := 3) (o := 5) (by decide) (by decide) (by decide) (by decide) m16 (h5.fS f16 (by decide)) (by omega) (by omega) (by omega) (fun M17 f17 m17 => ?_)
            have i12 : MG M17 m 12 y.2.1 := (h12.fS f16 (by decide)).fS f17 (by omega)
            have i13 : MG M17 m 13 y.2.2 := (h13.fS f16 (by decide)).fS f17 (by omega)
            have i5 : MG M17 m 5 (aA (zs S) hem) := (h5.fS f16 (by decide)).fS f17 (by omega)
            have i14 : MG M17 m 14 (oN (zs S) hem k) := (h14.fS f16 (by decide)).fS f17 (by omega)
            have F17 : fS M3 M17 m nxS := (F15.tr (f16.wd (fun q e => by rw [e]; unfold nxS; omega))).tr (f17.wd (fun q e => by unfold nxS; omega))
            have no : ¬ (oN (zs S) hem k * y.2.2 < y.2.1 * aA (zs S) hem) → p_X7_next_J202 m Q ag ag2 (oI y.1) (nI hem) (nI k) (nI (8 * hem + k / 4)) 0 M17 := by
              intro nc
              rw [if_neg (by omega)] at go2
              refine ⟨fun _ => ?_, fun e => absurd rfl e⟩
              rw [show nI k + 1 = nI (k + 1) from nI_add k 1]
              exact go2 M17 ⟨F17, fun _ => ⟨i12, i13⟩, d1, d2, d3⟩
            refine sp7_against (r := 2) (o := 3) (by decide) (by decide) ((m15.fS f16 (by decide)).fS f17 (by omega)) m17 (fun lt => ⟨fun e => absurd e (by decide), fun _ => take M17 F17 i5 i14 (Or.inr lt) 1 (by decide)⟩) (fun eq => ⟨fun _ => no (by omega), fun e => absurd (by decide) e⟩) (fun gt => ⟨fun _ => no (by omega), fun e => absurd (by decide) e⟩)
          -- which is less
          have J139 : ∀ M8 (o hi lo : Nat), o = 5 ∨ o = 7 → fS M3 M8 m nxS → (y.1 ≠ 0 → MG M8 m 12 y.2.1 ∧ MG M8 m 13 y.2.2) → MG M8 m 5 (aA (zs S) hem) → MG M8 m 14 hi → MG M8 m o lo → lo ≤ hi → hi - lo = oN (zs S) hem k → p_X7_next_J139 m Q ag ag2 (oI y.1) (nI hem) (nI k) (nI (8 * hem + k / 4)) (nI o) 14 M8 := by
            intro M8 o hi lo ho F8 g8 r8 h14 hlo le eq
            refine sp7_lessens (r := 14) (o := o) (by decide) (by omega) (by omega) h14 hlo le (fun M10 f10 m10 => ?_)
            rw [eq] at m10
            exact tail M10 (F8.tr (f10.wd (fun q e => by rw [e]; unfold nxS; omega))) (fun e => ⟨(g8 e).1.fS f10 (by decide), (g8 e).2.fS f10 (by decide)⟩) (r8.fS f10 (by decide)) m10
          have J117 : ∀ o hi : Nat, (o = 5 ∧ hi = aA (zs S) hem ∧ 2 * sh < aA (zs S) hem) ∨ (o = 7 ∧ hi = sh * 2 ∧ aA (zs S) hem ≤ 2 * sh) → p_X7_next_J117 m Q ag ag2 (oI y.1) (nI hem) (nI k) (nI (8 * hem + k / 4)) (nI o) 14 M6 := by
            intro o hi hc
            have ho : MG M6 m o hi := by
              rcases hc with ⟨rfl, rfl, _⟩ | ⟨rfl, rfl, _⟩
              · exact r6
              · exact m6
            refine sp7_copies (r := 14) (o := o) (by decide) (by omega) (by omega) ho (fun M8 f8 m8 => ?_)
            have F8 : fS M3 M8 m nxS := F6.tr (f8.wd (fun q e => by rw [e]; unfold nxS; omega))
            have g8 : y.1 ≠ 0 → MG M8 m 12 y.2.1 ∧ MG M8 m 13 y.2.2 := fun e => ⟨(g6 e).1.fS f8 (by decide), (g6 e).2.fS f8 (by decide)⟩
            have r8 : MG M8 m 5 (aA (zs S) hem) := r6.fS f8 (by decide)
            have s8 : MG M8 m 7 (sh * 2) := m6.fS f8 (by decide)
            have lo : 2 * sh < aA (zs S) hem → p_X7_next_J139 m Q ag ag2 (oI y.1) (nI hem) (nI k) (nI (8 * hem + k / 4)) 7 14 M8 := fun lt => by
              have hh : hi = aA (zs S) hem := by omega
              rw [hh] at m8
              exact J139 M8 7 (aA (zs S) hem) (sh * 2) (Or.inr rfl) F8 g8 r8 m8 s8 (by omega) (by rw [eo]; unfold ofN; rw [if_pos lt]; omega)
            have hig : aA (zs S) hem ≤ 2 * sh → p_X7_next_J139 m Q ag ag2 (oI y.1) (nI hem) (nI k) (nI (8 * hem + k / 4)) 5 14 M8 := fun le => by
              have hh : hi = sh * 2 := by omega
              rw [hh] at m8
              exact J139 M8 5 (sh * 2) (aA (zs S) hem) (Or.inl rfl) F8 g8 r8 m8 r8 (by omega) (by rw [eo]; unfold ofN; rw [if_neg (by omega)]; omega)
            refine sp7_against (r := 7) (o := 5) (by decide) (by decide) s8 r8 (fun lt => ⟨fun e => absurd e (by decide), fun _ => lo (by omega)⟩) (fun eq => ⟨fun _ => hig (by omega), fun e => absurd (by decide) e⟩) (fun gt => ⟨fun _ => hig (by omega), fun e => absurd (by decide) e⟩)
          refine sp7_against (r := 7) (o := 5) (by decide) (by decide) m6 r6 (fun lt => ⟨fun e => absurd e (by decide), fun _ => J117 5 _ (Or.inl ⟨rfl, rfl, by omega⟩)⟩) (fun eq => ⟨fun _ => J117 7 _ (Or.inr ⟨rfl, rfl, by omega⟩), fun e => absurd (by decide) e⟩) (fun gt => ⟨fun _ => J117 7 _ (Or.inr ⟨rfl, rfl, by omega⟩), fun e => absurd (by decide) e⟩)
        · have q5 := nlei (a := 21) (by decide) (by omega) q5
          rw [show nI u + 1 = nI (u + 1) from nI_add u 1]
          have e2 : sm (shB (zs S) hem (k / 4) (k % 4)) (u + 1) = sm (shB (zs S) hem (k / 4) (k % 4)) u + shB (zs S) hem (k / 4) (k % 4) u := rfl
          have skip : shB (zs S) hem (k / 4) (k % 4) u = 0 → ag5 (nI (u + 1), b5) := fun z => hag5 q5 b5 ⟨hf5, hg5, by rw [e2, z]; exact hm5⟩
          refine sp7_isStackX C5.1 w (fun ok => ⟨fun e => absurd e (by decide), fun _ => ?_⟩) (fun ok => ⟨fun _ => skip ?_, fun e => absurd rfl e⟩)
          · obtain ⟨u', e, su⟩ := ok
            have e := eqi (by omega) (by have := su.1; omega) e
            subst e
            refine sp7_isBright C5.1 w c48 su (by omega) (fun li => ⟨fun e => absurd e (by decide), fun _ => ?_⟩) (fun li => ⟨fun _ => skip ?_, fun e => absurd rfl e⟩)
            · rw [cd2] at li
              unfold lit at li
              refine sp7_addsRows w k8 q5 (R5.1 _ _ k8 q5) (R5.2.1 _ _ k8 q5) hm5 (by omega) (fun M21 f21 m21 => hag5 q5 M21 ⟨hf5.tr (f21.wd (fun q e => by unfold adS at e; unfold nxS; omega)), fun e => ⟨(hg5 e).1.fS f21 (by unfold adS; omega), (hg5 e).2.fS f21 (by unfold adS; omega)⟩, ?_⟩)
              rw [e2, show shB (zs S) hem (k / 4) (k % 4) u = wt1 (zs S) hem (k / 4) u from by unfold shB; rw [li, Nat.one_mul]]
              exact m21
            · rw [cd2] at li
              unfold lit at li
              unfold shB
              rw [show LM (zs S) (k / 4 / 2) u / 2 ^ (k % 4) % 2 = 0 by omega, Nat.zero_mul]
          · unfold shB
            rw [wt1_ns (fun r => ok ⟨u, rfl, r⟩), Nat.mul_zero]
    · rw [if_pos z] at go
      exact go M3 ⟨hf.tr f3.fr, MR_fT hm f3 rwS_0 rwS_1, fun e => ⟨(hg e).1.fT f3 (by unfold rwS; omega), (hg e).2.fT f3 (by unfold rwS; omega)⟩⟩
noncomputable def F_next (S : zS) : Int32 × zS := pqI ((nsN (zs S) 6).1 = 0) (-3, zRf S 1) (nI ((nsN (zs S) 6).1 - 1), S)
theorem bo_next {g m : Nat} {S : zS} : BO g m S (F_next S) (fun M Q => p_X6_next g M Q) (fun M Q => p_X7_next m M Q) := by
  intro hS
  unfold F_next
  refine ⟨?_, fun M Q hC h => sp_next hS hC (fun z => ?_) (fun z M' f c => ?_), fun M Q hM h => sp7_next hS hM (fun z => ?_) (fun z M' f c => ?_)⟩
  · by_cases z : (nsN (zs S) 6).1 = 0
    · rw [pqI_t z]; exact SW_rf hS
    · rw [pqI_f z]; exact hS
  · rw [pqI_f z] at h; exact h
  · rw [pqI_t z] at h; exact sp_told (r := -3) c (fun M2 f2 c2 => h M2 (f.tr f2) c2)
  · rw [pqI_f z] at h; exact h
  · rw [pqI_t z] at h; exact sp7_noR c (fun M2 f2 c2 => h M2 (f.tr f2) c2)
