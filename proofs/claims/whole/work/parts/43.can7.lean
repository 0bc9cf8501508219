/-! whether a hem has a row -/
def bo (n : Nat) : Nat := if n = 0 then 0 else 1
theorem bo_0 {n : Nat} (h : n = 0) : bo n = 0 := if_pos h
theorem bo_1 {n : Nat} (h : n ≠ 0) : bo n = 1 := if_neg h
theorem bo_cs (n : Nat) : (n = 0 ∧ bo n = 0) ∨ (n ≠ 0 ∧ bo n = 1) := by
  by_cases h : n = 0
  · exact Or.inl ⟨h, bo_0 h⟩
  · exact Or.inr ⟨h, bo_1 h⟩
theorem bo_nar (n : Nat) : vp_nar .boolean (nI (bo n)) = nI (bo n) := by
  rcases bo_cs n with ⟨_, e⟩ | ⟨_, e⟩ <;> rw [e] <;> decide
theorem bo_nr (n : Nat) : narrow .boolean (.int (nI (bo n))) = .int (nI (bo n)) := by
  rcases bo_cs n with ⟨_, e⟩ | ⟨_, e⟩ <;> rw [e] <;> decide
theorem bo_z {n : Nat} (h : nI (bo n) = 0) : n = 0 := by
  rcases bo_cs n with ⟨q, e⟩ | ⟨_, e⟩
  · exact q
  · rw [e] at h; exact absurd h (by decide)
theorem bo_nz {n : Nat} (h : ¬ nI (bo n) = 0) : n ≠ 0 := fun e => h (by rw [bo_0 e]; rfl)
def cnS (m : Nat) (k : Nat) : Prop := lkS m k ∨ k = m + 14
noncomputable def aC (s : Nat → Nat) (hem wo : Nat) : Nat := AL (wg s wo hem) (gg s wo hem)
theorem LOK.fq {M M' : mM} {m : Nat} {s : Nat → Nat} {hem wo P : Nat} {S : Nat → Prop} (h : LOK M m s hem wo P) (f : fq M M' S) (hS : ∀ k, S k → k = m + 14) : LOK M' m s hem wo P := by
  intro p hp
  have h1 := h p hp
  refine ⟨?_, fun k hk => ⟨?_, ?_⟩⟩
  · rw [f.1 _ (fun e => by have := hS _ e; omega)]; exact h1.1
  · rw [f.1 _ (fun e => by have := hS _ e; omega)]; exact (h1.2 k hk).1
  · rw [f.1 _ (fun e => by have := hS _ e; omega)]; exact (h1.2 k hk).2
theorem sp7_can {m hem wo : Nat} {s c : Nat → Nat} {M : mM} {Q : Int32 → mM → Prop} (hs : BK M m s c) (w : WF s c) (hh : hem < 6) (ho : wo < 1048576) (h : ∀ M', fq M M' (cnS m) → Q (nI (bo (aC s hem wo))) M') : p_X7_can m (nI hem) (nI wo) M Q := by
  refine sp7_looks hs w hh ho (fun M0 hf0 hl0 => ?_)
  have ok := okG w wo hem
  have W9 := ok.1
  have G9 := ok.2
  have hb0 : BK M0 m s c := hs.fq hf0 (by unfold lkS; omega)
  have hf0' : fq M M0 (cnS m) := hf0.wd (fun k e => Or.inl e)
  unfold aC at h
  generalize hwt : wg s wo hem = wt at *
  have hwl : ∀ {M1 : mM}, LOK M1 m s hem wo 8 → ∀ {k}, k < 168 → M1.1 (m + 11) k = nI (wt (k / 21) (k % 21)) := fun hl k hk => by rw [← hwt]; exact hl.w hk
  refine loopU (A := mM) 168 (fun k a => (nI k, a)) (fun k a => fq M0 a (fun k => k = m + 14) ∧ ∀ j, j < k → a.1 (m + 14) j = nI (bo (FF wt (gg s wo hem) (j / 21) (j % 21)))) M0 rfl ⟨fq.rf, fun j hj => absurd hj (Nat.not_lt_zero _)⟩ ?_
  rintro k a ag hk ⟨hf, hg⟩ hag
  show p_X7_can_F8 m (nI hem) (nI wo) Q ag (nI k) a
  have hl := hl0.fq hf (fun _ e => e)
  have hb := hb0.fq hf (show ¬ m + 1 = m + 14 by omega)
  unfold p_X7_can_F8
  refine ⟨fun q => ?_, fun q => ?_⟩
  · have q := lei (a := 168) (by decide) (by omega) q
    have : k = 168 := by omega
    subst this
    refine loopU (A := Unit) 21 (fun i _ => (nI (bo (sm (FF wt (gg s wo hem) 7) i)), nI (147 + i))) (fun i _ => True) () rfl trivial ?_
    rintro i _ ag4 hi _ hag4
    show p_X7_can_F142 m (nI hem) (nI wo) a Q ag4 (nI (bo (sm (FF wt (gg s wo hem) 7) i))) (nI (147 + i))
    unfold p_X7_can_F142
    refine ⟨fun q4 => ?_, fun q4 => ?_⟩
    · have q4 := lei (a := 168) (by decide) (by omega) q4
      have : i = 21 := by omega
      subst this
      exact ⟨bo_nr _, h a (hf0'.tr (hf.wd (fun k e => Or.inr e)))⟩
    · have q4 := nlei (a := 168) (by decide) (by omega) q4
      rw [show nI (147 + i) + 1 = nI (147 + (i + 1)) from nI_add (147 + i) 1]
      have hgi := hg (147 + i) (by omega)
      rw [show (147 + i) / 21 = 7 by omega, show (147 + i) % 21 = i by omega] at hgi
      have nx : ∀ x : Int32, x = nI (bo (sm (FF wt (gg s wo hem) 7) (i + 1))) → ag4 (x, nI (147 + (i + 1))) := fun x hx => by rw [hx]; exact hag4 (by omega) () trivial
      have e1 : sm (FF wt (gg s wo hem) 7) (i + 1) = sm (FF wt (gg s wo hem) 7) i + FF wt (gg s wo hem) 7 i := rfl
      refine ⟨fun z => nx 1 ?_, fun z => ⟨vin (by omega) (by decide), fun y => nx 0 ?_, fun y => nx 1 ?_⟩⟩
      · have z := bo_nz z
        rw [bo_1 (by omega)]; rfl
      · have z := bo_z z
        rw [clp (by omega), hgi] at y
        have y := bo_z y
        rw [bo_0 (by omega)]; rfl
      · rw [clp (by omega), hgi] at y
        have y := bo_nz y
        rw [bo_1 (by omega)]; rfl
  · have q := nlei (a := 168) (by decide) (by omega) q
    have eD : nI k / 21 = nI (k / 21) := pk_div (d := 21) (by omega) (by decide) (by decide)
    have eR : nI k - nI k / 21 * 21 = nI (k % 21) := pk_rem (d := 21) (by omega) (by decide) (by decide)
    have w9 := W9 (k / 21) (k % 21)
    have wk := hwl hl q
    have out : ∀ x : Int32, x = nI (bo (FF wt (gg s wo hem) (k / 21) (k % 21))) → p_X7_can_J121 m (nI hem) (nI wo) Q ag (nI k) x a := by
      rintro x rfl
      refine ⟨vin q (by decide), ?_⟩
      rintro M3 rfl
      rw [bo_nar, clp (by omega), show nI k + 1 = nI (k + 1) from nI_add k 1]
      refine hag q _ ⟨hf.mI rfl, fun j hj => ?_⟩
      rw [mI_s]
      rcases Nat.lt_or_ge j k with z | z
      · rw [updN (by omega)]; exact hg j z
      · have : j = k := by omega
        subst this
        rw [updS]
    have inner : ∀ x0 : Int32, x0 = nI (bo (if k / 21 = 0 then wt 0 (k % 21) else 0)) → Loop (fun ag' s' => p_X7_can_F46 m (nI hem) (nI wo) (nI k) (nI k / 21) a Q ag ag' s'.1 s'.2) (x0, 0) := by
      rintro x0 rfl
      refine loopU (A := Unit) 21 (fun i _ => (nI (bo (if k / 21 = 0 then wt 0 (k % 21) else sm (fun a => FF wt (gg s wo hem) (k / 21 - 1) a * (gg s wo hem (k / 21 - 1) a (k % 21) * wt (k / 21) (k % 21))) i)), nI i)) (fun i _ => True) () rfl trivial ?_
      rintro i _ ag5 hi _ hag5
      show p_X7_can_F46 m (nI hem) (nI wo) (nI k) (nI k / 21) a Q ag ag5 (nI (bo (if k / 21 = 0 then wt 0 (k % 21) else sm (fun a => FF wt (gg s wo hem) (k / 21 - 1) a * (gg s wo hem (k / 21 - 1) a (k % 21) * wt (k / 21) (k % 21))) i))) (nI i)
      unfold p_X7_can_F46
      refine ⟨fun q5 => out _ ?_, fun q5 => ⟨fun z => out _ ?_, fun z => ⟨vin q (by decide), fun y => out _ ?_, fun y => ⟨fun x => out _ ?_, fun x => ?_⟩⟩⟩⟩
      · have q5 := lei (a := 21) (by decide) (by omega) q5
        have : i = 21 := by omega
        subst this
        by_cases k0 : k / 21 = 0
        · rw [if_pos k0, k0]; rfl
        · rw [if_neg k0, FF_s (by omega)]
      · have z := lti (b := 21) (by omega) (by decide) z
        have k0 : k / 21 = 0 := by omega
        rw [if_pos k0, k0]; rfl
      · rw [clp (by omega), wk] at y
        have y := lei (b := 0) (by omega) (by decide) y
        have y : wt (k / 21) (k % 21) = 0 := by omega
        by_cases k0 : k / 21 = 0
        · rw [if_pos k0, k0]; rfl
        · rw [if_neg k0, FF_s (by omega), sm_z (fun j _ => by rw [y, Nat.mul_zero, Nat.mul_zero]), sm_z (fun j _ => by rw [y, Nat.mul_zero, Nat.mul_zero])]
      · have x := bo_nz x
        by_cases k0 : k / 21 = 0
        · rw [if_pos k0, k0]; rfl
        · rw [if_neg k0] at x ⊢
          rw [FF_s (by omega), bo_1 x, bo_1]
          have := sm_mono (f := fun a => FF wt (gg s wo hem) (k / 21 - 1) a * (gg s wo hem (k / 21 - 1) a (k % 21) * wt (k / 21) (k % 21))) hi
          omega
      · have q5 := nlei (a := 21) (by decide) (by omega) q5
        have z := nlti (b := 21) (by omega) (by decide) z
        have k0 : ¬ k / 21 = 0 := by omega
        have x := bo_z x
        rw [if_neg k0] at x
        rw [clp (by omega), wk] at y
        have y := nlei (b := 0) (by omega) (by decide) y
        have nx : ∀ x : Int32, x = nI (bo (FF wt (gg s wo hem) (k / 21 - 1) i * (gg s wo hem (k / 21 - 1) i (k % 21) * wt (k / 21) (k % 21)))) → ag5 (x, nI i + 1) := by
          rintro x' rfl
          have := hag5 q5 () trivial
          rw [if_neg k0] at this
          rw [show nI i + 1 = nI (i + 1) from nI_add i 1]
          have e1 : sm (fun a => FF wt (gg s wo hem) (k / 21 - 1) a * (gg s wo hem (k / 21 - 1) a (k % 21) * wt (k / 21) (k % 21))) (i + 1) = 0 + FF wt (gg s wo hem) (k / 21 - 1) i * (gg s wo hem (k / 21 - 1) i (k % 21) * wt (k / 21) (k % 21)) := congrArg (· + _) x
          rw [e1, Nat.zero_add] at this
          exact this
        rw [eR, eD, show nI (k / 21) - 1 = nI (k / 21 - 1) from pk_sub (b := 1) (by omega), c21, clp (by omega)]
        have hgi := hg (21 * (k / 21 - 1) + i) (by omega)
        rw [show (21 * (k / 21 - 1) + i) / 21 = k / 21 - 1 by omega, show (21 * (k / 21 - 1) + i) % 21 = i by omega] at hgi
        rw [hgi]
        have g9 := G9 (k / 21 - 1) i (k % 21)
        refine ⟨vin (by omega) (by decide), fun e => nx 0 ?_, fun e => sp7_goes hb w hl (by omega) q5 (by omega) ⟨fun f => nx 0 ?_, fun f => nx 1 ?_⟩⟩
        · rw [bo_z e, Nat.zero_mul]; rfl
        · have f := lei (b := 0) (by omega) (by decide) f
          rw [show gg s wo hem (k / 21 - 1) i (k % 21) = 0 by omega, Nat.zero_mul, Nat.mul_zero]; rfl
        · have f := nlei (b := 0) (by omega) (by decide) f
          have e := bo_nz e
          rw [bo_1]
          · rfl
          · exact Nat.mul_ne_zero e (Nat.mul_ne_zero (by omega) (by omega))
    refine ⟨fun z => inner 0 ?_, fun z => ⟨vin q (by decide), fun y => inner 0 ?_, fun y => inner 1 ?_⟩⟩
    · have z := lei (a := 21) (by decide) (by omega) z
      rw [if_neg (by omega)]; rfl
    · have z := nlei (a := 21) (by decide) (by omega) z
      rw [clp (by omega), wk] at y
      have y := lei (b := 0) (by omega) (by decide) y
      rw [show k / 21 = 0 by omega] at y
      rw [if_pos (by omega), bo_0 (by omega)]; rfl
    · have z := nlei (a := 21) (by decide) (by omega) z
      rw [clp (by omega), wk] at y
      have y := nlei (b := 0) (by omega) (by decide) y
      rw [show k / 21 = 0 by omega] at y
      rw [if_pos (by omega), bo_1 (by omega)]; rfl
