/-! the class's way through a hem -/
theorem HL.lo {M : mM} {b hem p k : Nat} {s : Nat → Nat} (h : HL M b s hem) (hp : p < 8) (hk : stk s k) : M.1 (b + 12 + p) k = nI (loS s p k) := by
  rw [loS, iv_t hk]; exact h.1.2.2 p hp k hk
theorem wg_stk {s : Nat → Nat} {wo hem p k : Nat} (h : wg s wo hem p k ≠ 0) : stk s k := by
  unfold wg WW at h
  by_cases z : fit s (8 * hem + p) k wo
  · exact z.1
  · exact absurd (iv_f z) h
theorem sp_canBe {b hem wo : Nat} {s c : Nat → Nat} {M : mM} {Q : Int32 → mM → Prop} (w : WF s c) (ho : wo < 1048576) (hL : HL M b s hem) (h : ∀ M', fr M M' (b + 22) (b + 23) → HL M' b s hem → HS M' b s hem wo → Q (nI (bo (aC s hem wo))) M') : p_X1_canBe b (nI wo) M Q := by
  refine sp_findSteps w ho hL.2.2.1 (fun M1 hf1 hs1 => ?_)
  have hL1 : HL M1 b s hem := HT.st hL hf1
  have fin := h M1 hf1 hL1 hs1
  have ok := okG w wo hem
  refine loopU (A := Nat) 8 (fun p a => (nI a, nI p)) (fun p a => a ≤ 800 ∧ (p < 8 → ∀ k, k < 21 → (0 < FF (wg s wo hem) (gg s wo hem) p k ↔ 0 < wg s wo hem p k ∧ a ≤ loS s p k)) ∧ (p = 0 ∨ ∃ k, k < 21 ∧ 0 < FF (wg s wo hem) (gg s wo hem) (p - 1) k)) 0 rfl ⟨by omega, fun _ k hk => ⟨fun q => ⟨q, Nat.zero_le _⟩, fun q => q.1⟩, Or.inl rfl⟩ ?_
  rintro p a ag hp ⟨ha, hr, he⟩ hag
  show p_X1_canBe_F9 b (nI wo) M1 Q ag (nI a) (nI p)
  unfold p_X1_canBe_F9
  refine ⟨fun q => ?_, fun q => ?_⟩
  · have q := lei (a := 8) (by decide) (by omega) q
    have : p = 8 := by omega
    subst this
    have : aC s hem wo ≠ 0 := AL_nz.mpr (he.elim (fun e => absurd e (by decide)) (fun e => e))
    rw [bo_1 this] at fin
    exact fin
  · have q := nlei (a := 8) (by decide) (by omega) q
    have hr := hr q
    have el := edF_le w (cl := 8 * hem + p) (wo := wo) (s 1) (Nat.le_refl _)
    have st := hs1 p q
    -- ok k: free, and not less than wanted
    refine loopU (A := Nat) 21 (fun k l => (oI l, nI k)) (fun k l => l ≤ 302 ∧ (l = 0 → ∀ k', k' < k → ¬ (0 < wg s wo hem p k' ∧ a ≤ loS s p k')) ∧ (0 < l → (∃ k', k' < k ∧ 0 < wg s wo hem p k' ∧ a ≤ loS s p k' ∧ loS s p k' + 1 = l) ∧ ∀ k', k' < k → 0 < wg s wo hem p k' → a ≤ loS s p k' → l ≤ loS s p k' + 1)) 0 rfl ⟨by omega, fun _ k hk => absurd hk (Nat.not_lt_zero _), fun z => absurd z (Nat.lt_irrefl 0)⟩ ?_
    rintro k l ag1 hk ⟨hl, h0, h1⟩ hag1
    show p_X1_canBe_F21 b (nI wo) (nI a) (nI p) M1 Q ag ag1 (oI l) (nI k)
    unfold p_X1_canBe_F21
    rw [clp (show p < 2147483648 by omega), st]
    refine ⟨fun q1 => ⟨fun z => ⟨vin q (by decide), fun y => ⟨vin q (by decide), ?_⟩, fun y => ?_⟩, fun z => ?_⟩, fun q1 => ⟨vin q (by decide), vin (nlei (a := 21) (by decide) (by omega) q1) (by decide), ?_⟩⟩
    · rintro x4 rfl
      have q1 := lei (a := 21) (by decide) (by omega) q1
      have : k = 21 := by omega
      subst this
      have z : l ≠ 0 := fun e => z (by rw [e]; rfl)
      obtain ⟨⟨k0, g1, g2, g3, g4⟩, g5⟩ := h1 (by omega)
      have y : edF s (8 * hem + p) wo (s 1) ≠ 0 := fun e => y (by rw [e]; rfl)
      rw [show oI l = nI (l - 1) from (by rw [← oI_s]; congr 1; omega), nI_add, show nI p + 1 = nI (p + 1) from nI_add p 1]
      refine hag q _ ⟨by omega, fun _ k hk => ?_, Or.inr ⟨k0, g1, (hr k0 g1).mpr ⟨g2, g3⟩⟩⟩
      rw [FF_ps]
      constructor
      · rintro ⟨f1, x, f2, f3, f4⟩
        rw [gg_ps w] at f4
        have f3 := (hr x f2).mp f3
        have := g5 x f2 f3.1 f3.2
        refine ⟨f1, ?_⟩
        rcases f4 with f4 | f4
        · exact absurd f4 y
        · omega
      · rintro ⟨f1, f2⟩
        exact ⟨f1, k0, g1, (hr k0 g1).mpr ⟨g2, g3⟩, (gg_ps w).mpr (Or.inr (by omega))⟩
    · have q1 := lei (a := 21) (by decide) (by omega) q1
      have : k = 21 := by omega
      subst this
      have z : l ≠ 0 := fun e => z (by rw [e]; rfl)
      obtain ⟨⟨k0, g1, g2, g3, g4⟩, g5⟩ := h1 (by omega)
      have y := eqi (b := 0) (by omega) (by decide) y
      rw [show nI p + 1 = nI (p + 1) from nI_add p 1]
      refine hag q 0 ⟨by omega, fun _ k hk => ?_, Or.inr ⟨k0, g1, (hr k0 g1).mpr ⟨g2, g3⟩⟩⟩
      rw [FF_ps]
      constructor
      · rintro ⟨f1, _⟩
        exact ⟨f1, Nat.zero_le _⟩
      · rintro ⟨f1, _⟩
        exact ⟨f1, k0, g1, (hr k0 g1).mpr ⟨g2, g3⟩, (gg_ps w).mpr (Or.inl y)⟩
    · have q1 := lei (a := 21) (by decide) (by omega) q1
      have : k = 21 := by omega
      subst this
      have z := (oI_eq0 (by omega)).mp z
      have none : ∀ k, k < 21 → FF (wg s wo hem) (gg s wo hem) p k = 0 := fun k hk => by
        rcases Nat.eq_zero_or_pos (FF (wg s wo hem) (gg s wo hem) p k) with e | e
        · exact e
        · exact absurd ((hr k hk).mp e) (h0 z k hk)
      have : aC s hem wo = 0 := by
        rcases Nat.eq_zero_or_pos (aC s hem wo) with e | e
        · exact e
        · obtain ⟨k, hk, hz⟩ := AL_nz.mp (Nat.pos_iff_ne_zero.mp e)
          rcases Nat.lt_or_ge p 7 with y | y
          · rw [FF_none none 7 y k] at hz; exact absurd hz (Nat.lt_irrefl 0)
          · have : p = 7 := by omega
            subst this
            rw [none k hk] at hz; exact absurd hz (Nat.lt_irrefl 0)
      rw [bo_0 this] at fin
      exact fin
    · have q1 := nlei (a := 21) (by decide) (by omega) q1
      rintro x7 rfl
      refine ⟨vin q (by decide), vin q1 (by decide), ?_⟩
      rw [clp (show k < 2147483648 by omega), show nI k + 1 = nI (k + 1) from nI_add k 1]
      obtain ⟨B, b1, b2, b3⟩ := BR_fit (wo := wo) (hL1.2.1 p q k q1) w q ho
      rw [b2, nI_mask (by omega), b3]
      have skip : ¬ (0 < wg s wo hem p k ∧ a ≤ loS s p k) → ag1 (oI l, nI (k + 1)) := by
        intro no
        refine hag1 q1 l ⟨hl, fun z k' hk' => ?_, fun z => ⟨?_, fun k' hk' f1 f2 => ?_⟩⟩
        · rcases Nat.lt_or_ge k' k with y | y
          · exact h0 z k' y
          · rw [show k' = k by omega]; exact no
        · obtain ⟨k0, g1, g⟩ := (h1 z).1
          exact ⟨k0, by omega, g⟩
        · rcases Nat.lt_or_ge k' k with y | y
          · exact (h1 z).2 k' y f1 f2
          · have : k' = k := by omega
            subst this
            exact absurd ⟨f1, f2⟩ no
      refine ⟨fun z => skip (fun r => z (by omega)), fun z => ?_⟩
      have kk := wg_stk z
      have ll := loS_le w p k
      rw [hL1.lo q kk]
      have take : loS s p k + 1 ≤ l ∨ l = 0 → a ≤ loS s p k → ag1 (nI (loS s p k), nI (k + 1)) := by
        intro hm hw
        rw [← oI_s]
        refine hag1 q1 (loS s p k + 1) ⟨by omega, fun z => absurd z (by omega), fun _ => ⟨⟨k, by omega, by omega, hw, rfl⟩, fun k' hk' f1 f2 => ?_⟩⟩
        rcases Nat.lt_or_ge k' k with y | y
        · rcases hm with m | m
          · have := (h1 (by omega)).2 k' y f1 f2
            omega
          · exact absurd ⟨f1, f2⟩ (h0 m k' y)
        · rw [show k' = k by omega]; exact Nat.le_refl _
      refine ⟨fun y => skip (fun r => ?_), fun y => ⟨fun x => ?_, fun x => ⟨fun v => ?_, fun v => ?_⟩⟩⟩
      · have y := lti (by omega) (by omega) y
        omega
      · have y := nlti (by omega) (by omega) y
        exact take (Or.inr ((oI_eq0 (by omega)).mp x)) y
      · have y := nlti (by omega) (by omega) y
        have x : l ≠ 0 := fun e => x (by rw [e]; rfl)
        rw [show oI l = nI (l - 1) from (by rw [← oI_s]; congr 1; omega)] at v
        have v := lei (by omega) (by omega) v
        refine hag1 q1 l ⟨hl, fun z => absurd z x, fun z => ⟨?_, fun k' hk' f1 f2 => ?_⟩⟩
        · obtain ⟨k0, g1, g⟩ := (h1 z).1
          exact ⟨k0, by omega, g⟩
        · rcases Nat.lt_or_ge k' k with u | u
          · exact (h1 z).2 k' u f1 f2
          · have : k' = k := by omega
            subst this
            omega
      · have y := nlti (by omega) (by omega) y
        have x : l ≠ 0 := fun e => x (by rw [e]; rfl)
        rw [show oI l = nI (l - 1) from (by rw [← oI_s]; congr 1; omega)] at v
        have v := nlei (by omega) (by omega) v
        exact take (Or.inl (by omega)) y
