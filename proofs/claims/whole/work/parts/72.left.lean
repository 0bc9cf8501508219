/-! what is left, what shines, what fits: both -/
def okK (s : Nat → Nat) (y : Int32) : Prop := ∃ k, y = nI k ∧ stk s k
theorem okK_v {s : Nat → Nat} {y : Int32} (h : okK s y) : y = nI (vN y) ∧ stk s (vN y) := by
  obtain ⟨k, rfl, hk⟩ := h
  have := hk.1
  rw [vN_n (by omega)]
  exact ⟨rfl, hk⟩
theorem sp_isStackX {b : Nat} {y : Int32} {s c : Nat → Nat} {M : mM} {Q : Int32 → Prop} (hs : ST M b s c) (w : WF s c) (h1 : okK s y → Q 1) (h0 : ¬ okK s y → Q 0) : p_X2_isStack b y M Q := sp_isStack hs w (fun k e q => h1 ⟨k, e, q⟩) h0
theorem sp7_isStackX {m : Nat} {y : Int32} {s c : Nat → Nat} {M : mM} {Q : Int32 → Prop} (hs : BK M m s c) (w : WF s c) (h1 : okK s y → Q 1) (h0 : ¬ okK s y → Q 0) : p_X7_isStack m y M Q := sp7_isStack hs w (fun k e q => h1 ⟨k, e, q⟩) h0
def okL (s : Nat → Nat) (x y z : Int32) (hi : Nat) : Prop := iB x 0 47 ∧ okK s y ∧ iB z 0 hi
noncomputable def F_left (x y z : Int32) (S : zS) : Int32 × zS := pqI (okL (zs S) x y z 2) (nI (lf (zs S) (vN x % 8 / 2) (vN y) (vN z)), S) (-2, zRf S 0)
theorem bo_left {g m : Nat} {S : zS} (x y z : Int32) : BO g m S (F_left x y z S) (fun M Q => p_X6_left g x y z M Q) (fun M Q => p_X7_left m x y z M Q) := by
  intro hS
  have w := hS.1
  unfold F_left
  by_cases ok : okL (zs S) x y z 2
  · rw [pqI_t ok]
    obtain ⟨a1, a2, a3⟩ := ok
    obtain ⟨u1, _, v1⟩ := iB_v (by decide) a1
    obtain ⟨u2, v2⟩ := okK_v a2
    obtain ⟨u3, _, v3⟩ := iB_v (by decide) a3
    refine ⟨hS, fun M Q hC h => ?_, fun M Q hM h => ?_⟩
    · show p_X6_left g x y z M Q
      unfold p_X6_left
      have h := h M fr.rf hC
      refine sp_isCellX (fun _ => ⟨fun e => absurd e (by decide), fun _ => sp_isStackX hC.1 w (fun _ => ⟨fun e => absurd e (by decide), fun _ => sp_within (lo := 0) (hi := 2) (by decide) (by decide) (fun _ => ⟨fun _ => ?_, fun e => absurd e (by decide)⟩) (fun q => absurd a3 q)⟩) (fun q => absurd a2 q)⟩) (fun q => absurd a1 q)
      clear a1 a2 a3
      generalize vN x = cl at *
      generalize vN y = k at *
      generalize vN z = n at *
      subst u1 u2 u3
      unfold p_X6_sideOf
      rw [e6_sd cl (by omega)]
      refine sp_wearOf hC.1 w (by omega) ⟨fun n0 => ⟨fun n1 => sp_stoneLost hC.1 w v2 _ rfl ?_, fun n1 => sp_upperLeft hC.1 w v2 _ rfl ?_⟩, fun n0 => sp_groundLeft hC.1 w v2 _ rfl ?_⟩
      · have n0 : n ≠ 0 := fun e => n0 (by rw [e]; rfl)
        have n1 : n ≠ 1 := fun e => n1 (by rw [e]; rfl)
        rw [show n = 2 by omega, lf_2] at h; exact h
      · rw [eqi (b := 1) (by omega) (by decide) n1, lf_1] at h; exact h
      · rw [eqi (b := 0) (by omega) (by decide) n0, lf_0] at h; exact h
    · show p_X7_left m x y z M Q
      unfold p_X7_left
      have h := h M fr.rf hM
      refine sp7_isCellX (fun _ => ⟨fun e => absurd e (by decide), fun _ => sp7_isStackX hM.1 w (fun _ => ⟨fun e => absurd e (by decide), fun _ => sp7_inI (lo := 0) (hi := 2) (by decide) (by decide) (fun _ => ⟨fun e => absurd e (by decide), fun _ => ?_⟩) (fun q => absurd a3 q)⟩) (fun q => absurd a2 q)⟩) (fun q => absurd a1 q)
      clear a1 a2 a3
      generalize vN x = cl at *
      generalize vN y = k at *
      generalize vN z = n at *
      subst u1 u2 u3
      exact sp7_leftOf hM.1 w (by omega) v2 v3 h
  · rw [pqI_f ok]
    refine ⟨SW_rf hS, fun M Q hC h => ?_, fun M Q hM h => ?_⟩
    · exact sp_isCellX (fun a1 => ⟨fun e => absurd e (by decide), fun _ => sp_isStackX hC.1 w (fun a2 => ⟨fun e => absurd e (by decide), fun _ => sp_within (lo := 0) (hi := 2) (by decide) (by decide) (fun a3 => absurd ⟨a1, a2, a3⟩ ok) (fun q => ⟨fun e => absurd rfl e, fun _ => sp_told (r := -2) hC h⟩)⟩) (fun q => ⟨fun _ => sp_told (r := -2) hC h, fun e => absurd rfl e⟩)⟩) (fun q => ⟨fun _ => sp_told (r := -2) hC h, fun e => absurd rfl e⟩)
    · exact sp7_isCellX (fun a1 => ⟨fun e => absurd e (by decide), fun _ => sp7_isStackX hM.1 w (fun a2 => ⟨fun e => absurd e (by decide), fun _ => sp7_inI (lo := 0) (hi := 2) (by decide) (by decide) (fun a3 => absurd ⟨a1, a2, a3⟩ ok) (fun q => ⟨fun _ => sp7_badR hM h, fun e => absurd rfl e⟩)⟩) (fun q => ⟨fun _ => sp7_badR hM h, fun e => absurd rfl e⟩)⟩) (fun q => ⟨fun _ => sp7_badR hM h, fun e => absurd rfl e⟩)
noncomputable def F_shines (x y z : Int32) (S : zS) : Int32 × zS := pqI (okL (zs S) x y z 3) (nI (LM (zs S) (vN x % 8 / 2) (vN y) / 2 ^ vN z % 2), S) (-2, zRf S 0)
theorem bo_shines {g m : Nat} {S : zS} (x y z : Int32) : BO g m S (F_shines x y z S) (fun M Q => p_X6_shines g x y z M Q) (fun M Q => p_X7_shines m x y z M Q) := by
  intro hS
  have w := hS.1
  unfold F_shines
  by_cases ok : okL (zs S) x y z 3
  · rw [pqI_t ok]
    obtain ⟨a1, a2, a3⟩ := ok
    obtain ⟨u1, _, v1⟩ := iB_v (by decide) a1
    obtain ⟨u2, v2⟩ := okK_v a2
    obtain ⟨u3, _, v3⟩ := iB_v (by decide) a3
    refine ⟨hS, fun M Q hC h => ?_, fun M Q hM h => ?_⟩
    · show p_X6_shines g x y z M Q
      unfold p_X6_shines
      have h := h M fr.rf hC
      refine sp_isCellX (fun _ => ⟨fun e => absurd e (by decide), fun _ => sp_isStackX hC.1 w (fun _ => ⟨fun e => absurd e (by decide), fun _ => sp_within (lo := 0) (hi := 3) (by decide) (by decide) (fun _ => ⟨fun _ => ?_, fun e => absurd e (by decide)⟩) (fun q => absurd a3 q)⟩) (fun q => absurd a2 q)⟩) (fun q => absurd a1 q)
      clear a1 a2 a3
      generalize vN x = cl at *
      generalize vN y = k at *
      generalize vN z = n at *
      subst u1 u2 u3
      unfold p_X6_sideOf
      rw [e6_sd cl (by omega)]
      refine sp_wearOf hC.1 w (by omega) (sp_lampsOf hC.1 w v2 _ rfl ?_)
      rw [e_bit _ (LM_lt w v2) n (by omega)]
      exact h
    · show p_X7_shines m x y z M Q
      unfold p_X7_shines
      have h := h M fr.rf hM
      refine sp7_isCellX (fun _ => ⟨fun e => absurd e (by decide), fun _ => sp7_isStackX hM.1 w (fun _ => ⟨fun e => absurd e (by decide), fun _ => sp7_inI (lo := 0) (hi := 3) (by decide) (by decide) (fun _ => ⟨fun _ => ?_, fun e => absurd e (by decide)⟩) (fun q => absurd a3 q)⟩) (fun q => absurd a2 q)⟩) (fun q => absurd a1 q)
      clear a1 a2 a3
      generalize vN x = cl at *
      generalize vN y = k at *
      generalize vN z = n at *
      subst u1 u2 u3
      refine sp7_isBright hM.1 w (by omega) v2 (by omega) (fun q => ⟨fun e => absurd e (by decide), fun _ => ?_⟩) (fun q => ⟨fun _ => ?_, fun e => absurd rfl e⟩)
      · unfold lit at q
        rw [q] at h; exact h
      · unfold lit at q
        rw [show LM (zs S) (cl % 8 / 2) k / 2 ^ n % 2 = 0 by omega] at h; exact h
  · rw [pqI_f ok]
    refine ⟨SW_rf hS, fun M Q hC h => ?_, fun M Q hM h => ?_⟩
    · exact sp_isCellX (fun a1 => ⟨fun e => absurd e (by decide), fun _ => sp_isStackX hC.1 w (fun a2 => ⟨fun e => absurd e (by decide), fun _ => sp_within (lo := 0) (hi := 3) (by decide) (by decide) (fun a3 => absurd ⟨a1, a2, a3⟩ ok) (fun q => ⟨fun e => absurd rfl e, fun _ => sp_told (r := -2) hC h⟩)⟩) (fun q => ⟨fun _ => sp_told (r := -2) hC h, fun e => absurd rfl e⟩)⟩) (fun q => ⟨fun _ => sp_told (r := -2) hC h, fun e => absurd rfl e⟩)
    · exact sp7_isCellX (fun a1 => ⟨fun e => absurd e (by decide), fun _ => sp7_isStackX hM.1 w (fun a2 => ⟨fun e => absurd e (by decide), fun _ => sp7_inI (lo := 0) (hi := 3) (by decide) (by decide) (fun a3 => absurd ⟨a1, a2, a3⟩ ok) (fun q => ⟨fun e => absurd rfl e, fun _ => sp7_badR hM h⟩)⟩) (fun q => ⟨fun _ => sp7_badR hM h, fun e => absurd rfl e⟩)⟩) (fun q => ⟨fun _ => sp7_badR hM h, fun e => absurd rfl e⟩)
/-- the object's looks leave what it is known by -/
theorem sp_lookR {g hem : Nat} {S : zS} {M : mM} {Q : mM → Prop} (hS : SW S) (hC : CR M g S) (hh : hem < 6) (h : ∀ M', fr M M' g (g + 145) → CR M' g S → WE M' (g + 54) (zs S) → HL M' (g + 70) (zs S) hem → HS M' (g + 70) (zs S) hem 0 → Q M') : p_X6_lookAt g (g + 1) (nI hem) M Q :=
  sp_lookAt hC.1 hS.1 (by omega) hh (fun M' f a b c => h M' (f.wd (by omega) (by omega)) (CR_fr hC f (by omega)) a b c)
def okX (s : Nat → Nat) (x y : Int32) : Prop := iB x 0 47 ∧ okK s y
noncomputable def F_fits (x y : Int32) (S : zS) : Int32 × zS := pqI (okX (zs S) x y) (pqI (fit (zs S) (vN x) (vN y) 0) 1 0, S) (-2, zRf S 0)
theorem bo_fits {g m : Nat} {S : zS} (x y : Int32) : BO g m S (F_fits x y S) (fun M Q => p_X6_fits g x y M Q) (fun M Q => p_X7_fits m x y M Q) := by
  intro hS
  have w := hS.1
  unfold F_fits
  by_cases ok : okX (zs S) x y
  · rw [pqI_t ok]
    obtain ⟨a1, a2⟩ := ok
    obtain ⟨u1, _, v1⟩ := iB_v (by decide) a1
    obtain ⟨u2, v2⟩ := okK_v a2
    refine ⟨hS, fun M Q hC h => ?_, fun M Q hM h => ?_⟩
    · show p_X6_fits g x y M Q
      unfold p_X6_fits
      refine sp_isCellX (fun _ => ⟨fun e => absurd e (by decide), fun _ => sp_isStackX hC.1 w (fun _ => ⟨fun _ => ?_, fun e => absurd e (by decide)⟩) (fun q => absurd a2 q)⟩) (fun q => absurd a1 q)
      clear a1 a2
      generalize vN x = cl at *
      generalize vN y = k at *
      subst u1 u2
      rw [show nI cl / 8 = nI (cl / 8) from pk_div (d := 8) (by omega) (by decide) (by decide), show nI cl - nI (cl / 8) * 8 = nI (cl % 8) from by rw [← show nI cl / 8 = nI (cl / 8) from pk_div (d := 8) (by omega) (by decide) (by decide)]; exact pk_rem (d := 8) (by omega) (by decide) (by decide)]
      refine sp_lookR hS hC (by omega) (fun M' f c we hl hs => sp_isFree w hl (Nat.mod_lt _ (by decide)) v2 (fun q => ⟨fun e => absurd e (by decide), fun _ => ?_⟩) (fun q => ⟨fun _ => ?_, fun e => absurd rfl e⟩))
      · rw [show 8 * (cl / 8) + cl % 8 = cl by omega] at q
        rw [pqI_t q] at h; exact h M' f c
      · rw [show 8 * (cl / 8) + cl % 8 = cl by omega] at q
        rw [pqI_f q] at h; exact h M' f c
    · show p_X7_fits m x y M Q
      unfold p_X7_fits
      have h := h M fr.rf hM
      refine sp7_isCellX (fun _ => ⟨fun e => absurd e (by decide), fun _ => sp7_isStackX hM.1 w (fun _ => ⟨fun _ => ?_, fun e => absurd e (by decide)⟩) (fun q => absurd a2 q)⟩) (fun q => absurd a1 q)
      clear a1 a2
      generalize vN x = cl at *
      generalize vN y = k at *
      subst u1 u2
      have k21 := v2.1
      refine sp7_isFit (wo := 0) hM.1 w (by omega) k21 (by decide) (fun q => ⟨fun e => absurd e (by decide), fun _ => ?_⟩) (fun q => ⟨fun _ => ?_, fun e => absurd rfl e⟩)
      · rw [pqI_t q] at h; exact h
      · rw [pqI_f q] at h; exact h
  · rw [pqI_f ok]
    refine ⟨SW_rf hS, fun M Q hC h => ?_, fun M Q hM h => ?_⟩
    · exact sp_isCellX (fun a1 => ⟨fun e => absurd e (by decide), fun _ => sp_isStackX hC.1 w (fun a2 => absurd ⟨a1, a2⟩ ok) (fun q => ⟨fun e => absurd rfl e, fun _ => sp_told (r := -2) hC h⟩)⟩) (fun q => ⟨fun _ => sp_told (r := -2) hC h, fun e => absurd rfl e⟩)
    · exact sp7_isCellX (fun a1 => ⟨fun e => absurd e (by decide), fun _ => sp7_isStackX hM.1 w (fun a2 => absurd ⟨a1, a2⟩ ok) (fun q => ⟨fun e => absurd rfl e, fun _ => sp7_badR hM h⟩)⟩) (fun q => ⟨fun _ => sp7_badR hM h, fun e => absurd rfl e⟩)
