/-! bright: both -/
theorem brt_le {s c : Nat → Nat} (w : WF s c) {k : Nat} (hk : stk s k) : brt s k ≤ 9 := by
  have t4 := tc_s hk
  unfold brt
  by_cases z : tc k = 0
  · rw [if_pos z]; omega
  · rw [if_neg z]
    have := w.st (tc k - 1) (by omega)
    unfold wSt at this
    omega
theorem sp_brightOfX {b k : Nat} {s c : Nat → Nat} {M : mM} {Q : Int32 → Prop} (hs : ST M b s c) (w : WF s c) (hk : k < 21) (h : ∀ f, f ≤ 9 → (stk s k → f = brt s k) → Q (nI f)) : p_X2_brightOf b (nI k) M Q := by
  have w0 := w.1
  by_cases sk : stk s k
  · exact sp_brightOf hs w sk (h _ (brt_le w sk) (fun _ => rfl))
  · have t4 := tc_le k
    refine sp_topOf hk (sp_isStuffX hs w0 (fun z => ⟨fun e => absurd e (by decide), fun _ => ?_⟩) (fun _ => ⟨fun _ => h 9 (by decide) (fun q => absurd q sk), fun e => absurd rfl e⟩))
    obtain ⟨a, ha, e⟩ := z
    rw [e, clp (by omega), (hs.2.2.2.2.1 a ha).2.1]
    have := w.st a ha
    unfold wSt at this
    exact ⟨vin (by omega) (by decide), h _ (by omega) (fun q => absurd q sk)⟩
/-- the least, the greatest, and 1: none is 0 -/
noncomputable def bLe (s : Nat → Nat) (hem p : Nat) : Nat → Nat
  | 0 => 0
  | k + 1 => if wt1 s hem p k = 0 then bLe s hem p k else if bLe s hem p k = 0 ∨ brt s k + 1 < bLe s hem p k then brt s k + 1 else bLe s hem p k
noncomputable def bGr (s : Nat → Nat) (hem p : Nat) : Nat → Nat
  | 0 => 0
  | k + 1 => if wt1 s hem p k = 0 then bGr s hem p k else if bGr s hem p k < brt s k + 1 then brt s k + 1 else bGr s hem p k
theorem wt1_s {s : Nat → Nat} {hem p k : Nat} (h : wt1 s hem p k ≠ 0) : stk s k := by
  by_cases z : stk s k
  · exact z
  · exact absurd (wt1_ns z) h
theorem bLe_le {s c : Nat → Nat} (w : WF s c) (hem p : Nat) : ∀ k, bLe s hem p k ≤ 10
  | 0 => Nat.zero_le _
  | k + 1 => by
    have h1 := bLe_le w hem p k
    unfold bLe
    by_cases z : wt1 s hem p k = 0
    · rw [if_pos z]; exact h1
    · rw [if_neg z]
      have := brt_le w (wt1_s z)
      split <;> omega
theorem bGr_le {s c : Nat → Nat} (w : WF s c) (hem p : Nat) : ∀ k, bGr s hem p k ≤ 10
  | 0 => Nat.zero_le _
  | k + 1 => by
    have h1 := bGr_le w hem p k
    unfold bGr
    by_cases z : wt1 s hem p k = 0
    · rw [if_pos z]; exact h1
    · rw [if_neg z]
      have := brt_le w (wt1_s z)
      split <;> omega
theorem b_nz {s : Nat → Nat} {hem p : Nat} : ∀ {n : Nat}, 0 < sm (wt1 s hem p) n → bLe s hem p n ≠ 0 ∧ bGr s hem p n ≠ 0
  | 0, h => absurd h (Nat.lt_irrefl 0)
  | n + 1, h => by
    have h : 0 < sm (wt1 s hem p) n + wt1 s hem p n := h
    unfold bLe bGr
    by_cases z : wt1 s hem p n = 0
    · rw [if_pos z, if_pos z]
      exact b_nz (by omega)
    · rw [if_neg z, if_neg z]
      refine ⟨?_, ?_⟩
      · by_cases y : bLe s hem p n = 0 ∨ brt s n + 1 < bLe s hem p n
        · rw [if_pos y]; omega
        · rw [if_neg y]; omega
      · by_cases y : bGr s hem p n < brt s n + 1
        · rw [if_pos y]; omega
        · rw [if_neg y]; omega
theorem sp_far_least {g hem p : Nat} {s c : Nat → Nat} {M : mM} {Q : Int32 → Prop} (hs : ST M (g + 1) s c) (w : WF s c) (hR : HR M (g + 70) s hem) (hp : p < 8) (h : Q (oI (bLe s hem p 21))) : p_X6_farthestBright g (nI p) 0 M Q := by
  refine loopU (A := Unit) 21 (fun k _ => (oI (bLe s hem p k), nI k)) (fun _ _ => True) () rfl trivial ?_
  rintro k _ ag hk _ hag
  show p_X6_farthestBright_F5 g (nI p) 0 M Q ag (oI (bLe s hem p k)) (nI k)
  have l10 := bLe_le w hem p k
  unfold p_X6_farthestBright_F5
  refine ⟨fun q => ?_, fun q => sp_weightOf w hR hp (nlei (a := 21) (by decide) (by omega) q) ?_⟩
  · have q := lei (a := 21) (by decide) (by omega) q
    have : k = 21 := by omega
    subst this; exact h
  · have q := nlei (a := 21) (by decide) (by omega) q
    rw [show nI k + 1 = nI (k + 1) from nI_add k 1]
    have go := hag q () trivial
    have b64 := wt1_64 w hem hp q
    refine ⟨fun z => ?_, fun z => ?_⟩
    · have z : wt1 s hem p k = 0 := (lN_z b64).mp z
      unfold bLe at go
      rw [if_pos z] at go; exact go
    · have z : wt1 s hem p k ≠ 0 := fun e => z ((lN_z b64).mpr e)
      have sk := wt1_s z
      have b9 := brt_le w sk
      unfold bLe at go
      rw [if_neg z] at go
      refine sp_brightOf hs w sk ⟨fun e => ?_, fun e => ⟨fun _ => ⟨fun y => ?_, fun y => ?_⟩, fun f => absurd rfl f⟩⟩
      · rw [if_pos (Or.inl ((oI_eq0 (by omega)).mp e)), oI_s] at go; exact go
      · have e : bLe s hem p k ≠ 0 := fun r => e (by rw [r]; rfl)
        rw [show oI (bLe s hem p k) = nI (bLe s hem p k - 1) from (by rw [← oI_s]; congr 1; omega)] at y
        have y := lei (by omega) (by omega) y
        rw [if_neg (by omega)] at go; exact go
      · have e : bLe s hem p k ≠ 0 := fun r => e (by rw [r]; rfl)
        rw [show oI (bLe s hem p k) = nI (bLe s hem p k - 1) from (by rw [← oI_s]; congr 1; omega)] at y
        have y := nlei (by omega) (by omega) y
        rw [if_pos (Or.inr (by omega)), oI_s] at go; exact go
theorem sp_far_great {g hem p : Nat} {s c : Nat → Nat} {M : mM} {Q : Int32 → Prop} (hs : ST M (g + 1) s c) (w : WF s c) (hR : HR M (g + 70) s hem) (hp : p < 8) (h : Q (oI (bGr s hem p 21))) : p_X6_farthestBright g (nI p) 1 M Q := by
  refine loopU (A := Unit) 21 (fun k _ => (oI (bGr s hem p k), nI k)) (fun _ _ => True) () rfl trivial ?_
  rintro k _ ag hk _ hag
  show p_X6_farthestBright_F5 g (nI p) 1 M Q ag (oI (bGr s hem p k)) (nI k)
  have l10 := bGr_le w hem p k
  unfold p_X6_farthestBright_F5
  refine ⟨fun q => ?_, fun q => sp_weightOf w hR hp (nlei (a := 21) (by decide) (by omega) q) ?_⟩
  · have q := lei (a := 21) (by decide) (by omega) q
    have : k = 21 := by omega
    subst this; exact h
  · have q := nlei (a := 21) (by decide) (by omega) q
    rw [show nI k + 1 = nI (k + 1) from nI_add k 1]
    have go := hag q () trivial
    have b64 := wt1_64 w hem hp q
    refine ⟨fun z => ?_, fun z => ?_⟩
    · have z : wt1 s hem p k = 0 := (lN_z b64).mp z
      unfold bGr at go
      rw [if_pos z] at go; exact go
    · have z : wt1 s hem p k ≠ 0 := fun e => z ((lN_z b64).mpr e)
      have sk := wt1_s z
      have b9 := brt_le w sk
      unfold bGr at go
      rw [if_neg z] at go
      refine sp_brightOf hs w sk ⟨fun e => ?_, fun e => ⟨fun f => absurd f (by decide), fun _ => ⟨fun y => ?_, fun y => ?_⟩⟩⟩
      · rw [if_pos (by have := (oI_eq0 (by omega)).mp e; omega), oI_s] at go; exact go
      · have e : bGr s hem p k ≠ 0 := fun r => e (by rw [r]; rfl)
        rw [show oI (bGr s hem p k) = nI (bGr s hem p k - 1) from (by rw [← oI_s]; congr 1; omega)] at y
        have y := lei (by omega) (by omega) y
        rw [if_neg (by omega)] at go; exact go
      · have e : bGr s hem p k ≠ 0 := fun r => e (by rw [r]; rfl)
        rw [show oI (bGr s hem p k) = nI (bGr s hem p k - 1) from (by rw [← oI_s]; congr 1; omega)] at y
        have y := nlei (by omega) (by omega) y
        rw [if_pos (by omega), oI_s] at go; exact go
noncomputable def bMn (s : Nat → Nat) (hem p k : Nat) : Nat := wt1 s hem p k * brt s k
theorem bMn_le {s c : Nat → Nat} (w : WF s c) (hem p k : Nat) : bMn s hem p k ≤ wt1 s hem p k * 9 := by
  unfold bMn
  by_cases z : wt1 s hem p k = 0
  · rw [z]; omega
  · exact Nat.mul_le_mul_left _ (brt_le w (wt1_s z))
theorem bMn_sum {s c : Nat → Nat} (w : WF s c) (hem : Nat) {p : Nat} (hp : p < 8) {n : Nat} (hn : n ≤ 21) : sm (bMn s hem p) n ≤ aA s hem * 9 := by
  have h1 : sm (bMn s hem p) n ≤ sm (fun k => wt1 s hem p k * 9) n := sm_le (fun k _ => bMn_le w hem p k)
  rw [sm_mulr] at h1
  have h2 : sm (wt1 s hem p) n ≤ sm (wt1 s hem p) 21 := sm_mono hn
  rw [wt_sum s hem hp] at h2
  have h3 : sm (fun i => wt1 s hem p i) n = sm (wt1 s hem p) n := rfl
  rw [h3] at h1
  omega
theorem sp_meanBright {g hem p : Nat} {S : zS} {M M0 : mM} {Q : Int32 → mM → Prop} (hS : SW S) (hC : CR M g S) (hR : HR M (g + 70) (zs S) hem) (f0 : fr M0 M g (g + 145)) (hp : p < 8) (nz : aA (zs S) hem ≠ 0) (h : ∀ M', fr M0 M' g (g + 145) → CR M' g (zFr S (sm (bMn (zs S) hem p) 21) (aA (zs S) hem)) → Q 1 M') : p_X6_meanBright g (nI p) M Q := by
  have w := hS.1
  have A64 := aA_64 w hem
  have p16 : (18446744073709551616 : Nat) * 9 < pw 16 := by decide +kernel
  refine sp_set (n := 0) (by decide) (fun M1 f1 r1 => ?_)
  refine loopU (A := mM) 21 (fun k a => (nI k, a)) (fun k a => fr M a (g + 129) (g + 144) ∧ RW a (g + 141) (sm (bMn (zs S) hem p) k)) M1 rfl ⟨f1.wd (by omega) (by omega), r1⟩ ?_
  rintro k a ag hk ⟨hf, hr⟩ hag
  show p_X6_meanBright_F10 g (nI p) Q ag (nI k) a
  have hRa := hR.fr hf (by omega)
  have hCa := CR_fr hC hf (by omega)
  have bd := bMn_sum w hem hp hk
  unfold p_X6_meanBright_F10
  refine ⟨fun q => ?_, fun q => ?_⟩
  · have q := lei (a := 21) (by decide) (by omega) q
    have : k = 21 := by omega
    subst this
    rw [hRa.2.2.1]
    refine sp_set A64 (fun M2 f2 r2 => ?_)
    refine sp_setToW (n := sm (bMn (zs S) hem p) 21) (d := aA (zs S) hem) (by omega) (by omega) (hr.fr f2 (by omega)) r2 (by omega) (fun M3 f3 a3 b3 => h M3 (f0.tr ((hf.wd (by omega) (by omega)).tr ((f2.wd (by omega) (by omega)).tr (f3.wd (by omega) (by omega))))) ?_)
    exact CR_fc hC ((hf.wd (by omega) (by omega)).tr ((f2.wd (by omega) (by omega)).tr (f3.wd (by omega) (by omega)))) a3 b3
  · have q := nlei (a := 21) (by decide) (by omega) q
    have w64 := wt1_64 w hem hp q
    refine sp_weightOf w hRa hp q (sp_brightOfX hCa.1 w q (fun f hf9 hfb => ?_))
    have e1 : sm (bMn (zs S) hem p) (k + 1) = sm (bMn (zs S) hem p) k + wt1 (zs S) hem p k * f := by
      show sm (bMn (zs S) hem p) k + wt1 (zs S) hem p k * brt (zs S) k = _
      by_cases z : wt1 (zs S) hem p k = 0
      · rw [z, Nat.zero_mul, Nat.zero_mul]
      · rw [hfb (wt1_s z)]
    have bd2 := bMn_sum w hem hp (n := k + 1) (by omega)
    rw [e1] at bd2
    rw [show nI k + 1 = nI (k + 1) from nI_add k 1]
    refine sp_addTimes (u := sm (bMn (zs S) hem p) k) (n := wt1 (zs S) hem p k) w64 hf9 (by omega) hr.1 (fun M6 f6 r6 => hag q M6 ⟨hf.tr (f6.wd (by omega) (by omega)), ?_⟩)
    rw [e1]; exact r6
noncomputable def F_bright (x y : Int32) (S : zS) : Int32 × zS := pqI (iB x 0 47 ∧ iB y 0 2) (pqI (aA (zs S) (vN x / 8) = 0) (-3, zRf S 1) (pqI (y = 0) (nI (bLe (zs S) (vN x / 8) (vN x % 8) 21 - 1), S) (pqI (y = 1) (nI (bGr (zs S) (vN x / 8) (vN x % 8) 21 - 1), S) (1, zFr S (sm (bMn (zs S) (vN x / 8) (vN x % 8)) 21) (aA (zs S) (vN x / 8)))))) (-2, zRf S 0)
theorem oI_p {n : Nat} (h : n ≠ 0) : oI n = nI (n - 1) := by rw [← oI_s]; congr 1; omega
/-- the row's least and greatest so far -/
def mLe (n : Nat) : Nat := if n = 0 then 1000000 else n - 1
theorem tc_nz {k : Nat} (hk : k ≠ 0) : tc k ≠ 0 := by unfold tc; split <;> omega
theorem bo_bright {g m : Nat} {S : zS} (x y : Int32) : BO g m S (F_bright x y S) (fun M Q => p_X6_bright g x y M Q) (fun M Q => p_X7_bright m x y M Q) := by
  intro hS
  have w := hS.1
  unfold F_bright
  by_cases ok : iB x 0 47 ∧ iB y 0 2
  · rw [pqI_t ok]
    obtain ⟨a1, a2⟩ := ok
    have ys := iB3.mp a2
    obtain ⟨u1, _, v1⟩ := iB_v (by decide) a1
    refine ⟨?_, fun M Q hC h => ?_, fun M Q hM h => ?_⟩
    · by_cases z : aA (zs S) (vN x / 8) = 0
      · rw [pqI_t z]; exact SW_rf hS
      · rw [pqI_f z]
        by_cases y0 : y = 0
        · rw [pqI_t y0]; exact hS
        · rw [pqI_f y0]
          by_cases y1 : y = 1
          · rw [pqI_t y1]; exact hS
          · rw [pqI_f y1]; exact SW_fc hS
    · show p_X6_bright g x y M Q
      unfold p_X6_bright
      refine sp_isCellX (fun _ => ⟨fun e => absurd e (by decide), fun _ => sp_within (lo := 0) (hi := 2) (by decide) (by decide) (fun _ => ⟨fun _ => ?_, fun e => absurd e (by decide)⟩) (fun q => absurd a2 q)⟩) (fun q => absurd a1 q)
      clear a1
      generalize vN x = cl at *
      subst u1
      rw [e_d8 (by omega), e_m8 (by omega)]
      refine sp_aroundR hS hC (by omega) (fun nz M' f c we hr => ⟨fun _ => ?_, fun e => absurd e (by decide)⟩) (fun z M' f c => ⟨fun e => absurd rfl e, fun _ => ?_⟩)
      · rw [pqI_f nz] at h
        have bz := b_nz (s := zs S) (hem := cl / 8) (p := cl % 8) (n := 21) (by rw [wt_sum _ _ (m8_lt cl)]; omega)
        refine ⟨fun y2 => ⟨fun y1 => ?_, fun y1 => ?_⟩, fun y2 => ?_⟩
        · have y0 : y = 0 := ys.elim id (fun r => r.elim (fun e => absurd e y1) (fun e => absurd e y2))
          rw [pqI_t y0] at h
          refine sp_far_least (Q := fun r => Q r M') c.1 w hr (m8_lt cl) ?_
          rw [oI_p bz.1]; exact h M' f c
        · have y0 : ¬ y = 0 := fun e => by rw [e] at y1; exact absurd y1 (by decide)
          rw [pqI_f y0, pqI_t y1] at h
          refine sp_far_great (Q := fun r => Q r M') c.1 w hr (m8_lt cl) ?_
          rw [oI_p bz.2]; exact h M' f c
        · have y0 : ¬ y = 0 := fun e => by rw [e] at y2; exact absurd y2 (by decide)
          have y1 : ¬ y = 1 := fun e => by rw [e] at y2; exact absurd y2 (by decide)
          rw [pqI_f y0, pqI_f y1] at h
          exact sp_meanBright hS c hr f (m8_lt cl) nz h
      · rw [pqI_t z] at h
        exact sp_told (r := -3) c (fun M2 f2 c2 => h M2 (f.tr f2) c2)
    · show p_X7_bright m x y M Q
      unfold p_X7_bright
      refine sp7_isCellX (fun _ => ⟨fun e => absurd e (by decide), fun _ => sp7_inI (lo := 0) (hi := 2) (by decide) (by decide) (fun _ => ⟨fun _ => ?_, fun e => absurd e (by decide)⟩) (fun q => absurd a2 q)⟩) (fun q => absurd a1 q)
      clear a1
      generalize vN x = cl at *
      subst u1
      rw [e_d8 (by omega)]
      refine sp7_rowsR hS hM (by omega) (fun nz M' f c lo rg => ⟨fun _ => ?_, fun e => absurd e (by decide)⟩) (fun z M' f c => ⟨fun e => absurd rfl e, fun _ => ?_⟩)
      · rw [pqI_f nz] at h
        have bz := b_nz (s := zs S) (hem := cl / 8) (p := cl % 8) (n := 21) (by rw [wt_sum _ _ (m8_lt cl)]; omega)
        have A38 := aA_38 w (cl / 8)
        have p38 : (18446744073709551616 : Nat) * 9 < pw 38 := by decide +kernel
        have A64 := aA_64 w (cl / 8)
        refine sp7_sets (r := 14) (n := 0) (by decide) (by decide) (fun M7 f7 m7 => ?_)
        refine loopU (A := mM) 21 (fun k a => (nI (mLe (bLe (zs S) (cl / 8) (cl % 8) k)), oI (bGr (zs S) (cl / 8) (cl % 8) k), nI k, a)) (fun k a => fS M' a m (fun q => q = 14 ∨ adS q) ∧ MG a m 14 (sm (bMn (zs S) (cl / 8) (cl % 8)) k)) M7 rfl ⟨f7.wd (fun q e => Or.inl e), m7⟩ ?_
        rintro k a ag hk ⟨hf, hm⟩ hag
        show p_X7_bright_F57 m (nI cl) y Q ag (nI (mLe (bLe (zs S) (cl / 8) (cl % 8) k))) (oI (bGr (zs S) (cl / 8) (cl % 8) k)) (nI k) a
        have sok : ∀ q, (q = 14 ∨ adS q) → q ≠ 5 ∧ (q < 20 ∨ 356 ≤ q) := fun q e => by unfold adS at e; omega
        have s0 : ¬ ((0 : Nat) = 14 ∨ adS 0) := by unfold adS; omega
        have s1 : ¬ ((1 : Nat) = 14 ∨ adS 1) := by unfold adS; omega
        have Ra := rg.fS hf sok
        have ca := MR_fS c hf s0 s1
        have bd := bMn_sum w (cl / 8) (m8_lt cl) hk
        have l10 := bLe_le w (cl / 8) (cl % 8) k
        have g10 := bGr_le w (cl / 8) (cl % 8) k
        unfold p_X7_bright_F57
        rw [e_d8 (by omega), e_m8 (by omega)]
        refine ⟨fun q => ?_, fun q => ?_⟩
        · have q := lei (a := 21) (by decide) (by omega) q
          have : k = 21 := by omega
          subst this
          refine sp7_copies (r := 7) (o := 14) (by decide) (by decide) (by decide) hm (fun M8 f8 m8 => ?_)
          have F8 : fS M' M8 m (fun q => q = 14 ∨ adS q) := hf.tr (f8.wd (fun q e => Or.inr (Or.inr (Or.inr e))))
          have c8 := MR_fS c F8 s0 s1
          refine ⟨fun y0 => ⟨fun y1 => ?_, fun y1 => ?_⟩, fun y0 => ?_⟩
          · rw [pqI_f y0, pqI_f y1] at h
            exact sp7_tellsR c8 (f.tr F8.fr) m8 (rg.fS F8 sok).2.2 (by omega) h
          · rw [pqI_f y0, pqI_t y1] at h
            rw [oI_p bz.2]; exact h M8 (f.tr F8.fr) c8
          · rw [pqI_t y0] at h
            rw [show mLe (bLe (zs S) (cl / 8) (cl % 8) 21) = bLe (zs S) (cl / 8) (cl % 8) 21 - 1 from if_neg bz.1]; exact h M8 (f.tr F8.fr) c8
        · have q := nlei (a := 21) (by decide) (by omega) q
          have w64 := wt1_64 w (cl / 8) (m8_lt cl) q
          have wle := wt1_le (zs S) (cl / 8) (m8_lt cl) q
          refine sp7_sets (r := 7) (n := 0) (by decide) (by decide) (fun M11 f11 m11 => ?_)
          have R11 := Ra.fS f11 (fun q e => by omega)
          refine sp7_addsRows w (m8_lt cl) q (R11.1 _ _ (m8_lt cl) q) (R11.2.1 _ _ (m8_lt cl) q) m11 (pw_pos _) (fun M12 f12 m12 => ?_)
          rw [Nat.zero_add] at m12
          have m12 : MG M12 m 7 (wt1 (zs S) (cl / 8) (cl % 8) k) := m12
          have F12 : fS M' M12 m (fun q => q = 14 ∨ adS q) := (hf.tr (f11.wd (fun q e => Or.inr (Or.inr (Or.inr e))))).tr (f12.wd (fun q e => Or.inr e))
          have n12 : MG M12 m 14 (sm (bMn (zs S) (cl / 8) (cl % 8)) k) := (hm.fS f11 (by decide)).fS f12 (by unfold adS; omega)
          have c12 := MR_fS c F12 s0 s1
          have z7 : M12.1 (m + 7) (7 : Int32).toNatClampNeg ≤ 0 ↔ wt1 (zs S) (cl / 8) (cl % 8) k = 0 := m12.w0
          rw [z7, show nI k + 1 = nI (k + 1) from nI_add k 1]
          have e1 : sm (bMn (zs S) (cl / 8) (cl % 8)) (k + 1) = sm (bMn (zs S) (cl / 8) (cl % 8)) k + wt1 (zs S) (cl / 8) (cl % 8) k * brt (zs S) k := rfl
          refine ⟨fun z => ?_, fun z => ?_⟩
          · have go := hag q M12 ⟨F12, by rw [e1, z, Nat.zero_mul]; exact n12⟩
            unfold bLe bGr at go
            rw [if_pos z, if_pos z] at go; exact go
          · have sk := wt1_s z
            have b9 := brt_le w sk
            have bd2 := bMn_sum w (cl / 8) (m8_lt cl) (n := k + 1) (by omega)
            rw [e1] at bd2
            have fin : p_X7_bright_J111 m (nI cl) y Q ag (nI (mLe (bLe (zs S) (cl / 8) (cl % 8) k))) (oI (bGr (zs S) (cl / 8) (cl % 8) k)) (nI k) (nI (brt (zs S) k)) M12 := by
              have last : ∀ lE gR : Nat, lE = bLe (zs S) (cl / 8) (cl % 8) (k + 1) → gR = bGr (zs S) (cl / 8) (cl % 8) (k + 1) → p_X7_bright_J140 m (nI cl) y Q ag (nI (mLe lE)) (nI k) (nI (brt (zs S) k)) (oI gR) M12 := by
                rintro lE gR rfl rfl
                refine sp7_times (r := 7) (by decide) (by omega) m12 (by have := pw_le (show 38 ≤ 40 by decide); omega) (fun M15 f15 m15 => ?_)
                refine sp7_adds (r := 14) (o := 7) (by decide) (by decide) (by decide) (n12.fS f15 (by decide)) m15 (by omega) (by omega) (fun M16 f16 m16 => ?_)
                rw [show nI k + 1 = nI (k + 1) from nI_add k 1]
                exact hag q M16 ⟨(F12.tr (f15.wd (fun q e => Or.inr (Or.inr (Or.inr e))))).tr (f16.wd (fun q e => Or.inl e)), by rw [e1]; exact m16⟩
              have mid : ∀ lE : Nat, lE = bLe (zs S) (cl / 8) (cl % 8) (k + 1) → p_X7_bright_J125 m (nI cl) y Q ag (oI (bGr (zs S) (cl / 8) (cl % 8) k)) (nI k) (nI (brt (zs S) k)) (nI (mLe lE)) M12 := by
                intro lE hl
                have eg : bGr (zs S) (cl / 8) (cl % 8) (k + 1) = if bGr (zs S) (cl / 8) (cl % 8) k < brt (zs S) k + 1 then brt (zs S) k + 1 else bGr (zs S) (cl / 8) (cl % 8) k := by
                  show (if wt1 (zs S) (cl / 8) (cl % 8) k = 0 then bGr (zs S) (cl / 8) (cl % 8) k else if bGr (zs S) (cl / 8) (cl % 8) k < brt (zs S) k + 1 then brt (zs S) k + 1 else bGr (zs S) (cl / 8) (cl % 8) k) = _
                  rw [if_neg z]
                refine ⟨fun e => last lE _ hl ?_, fun e => ?_⟩
                · rw [le_oI (by omega) (by omega)] at e
                  rw [eg, if_neg (by omega)]
                · rw [le_oI (by omega) (by omega)] at e
                  have := last lE (brt (zs S) k + 1) hl (by rw [eg, if_pos (by omega)])
                  rw [oI_s] at this
                  exact this
              have el : bLe (zs S) (cl / 8) (cl % 8) (k + 1) = if bLe (zs S) (cl / 8) (cl % 8) k = 0 ∨ brt (zs S) k + 1 < bLe (zs S) (cl / 8) (cl % 8) k then brt (zs S) k + 1 else bLe (zs S) (cl / 8) (cl % 8) k := by
                show (if wt1 (zs S) (cl / 8) (cl % 8) k = 0 then bLe (zs S) (cl / 8) (cl % 8) k else if bLe (zs S) (cl / 8) (cl % 8) k = 0 ∨ brt (zs S) k + 1 < bLe (zs S) (cl / 8) (cl % 8) k then brt (zs S) k + 1 else bLe (zs S) (cl / 8) (cl % 8) k) = _
                rw [if_neg z]
              have ml : mLe (bLe (zs S) (cl / 8) (cl % 8) k) ≤ 1000000 := by unfold mLe; split <;> omega
              refine ⟨fun e => mid _ ?_, fun e => ?_⟩
              · have e := lei (by omega) (by omega) e
                rw [el, if_neg ?_]
                intro r
                unfold mLe at e
                rcases r with r | r
                · rw [if_pos r] at e; omega
                · rw [if_neg (by omega)] at e; omega
              · have e := nlei (by omega) (by omega) e
                have := mid (brt (zs S) k + 1) (by
                  rw [el, if_pos ?_]
                  unfold mLe at e
                  by_cases r : bLe (zs S) (cl / 8) (cl % 8) k = 0
                  · exact Or.inl r
                  · rw [if_neg r] at e; exact Or.inr (by omega))
                rw [show mLe (brt (zs S) k + 1) = brt (zs S) k from by unfold mLe; rw [if_neg (by omega)]; omega] at this
                exact this
            refine ⟨fun k0 => ?_, fun k0 => ?_⟩
            · have k0 : k ≠ 0 := fun e => k0 (by rw [e]; rfl)
              have t0 := tc_nz k0
              have ts := tc_s sk
              refine sp7_topOf q ?_
              rw [oI_p t0]
              refine sp7_oS1 c12.1 w (by omega) ?_
              rw [show brt (zs S) k = zs S (41 + 4 * (tc k - 1)) from if_neg t0] at fin
              exact fin
            · have k0 := eqi (b := 0) (by omega) (by decide) k0
              rw [show brt (zs S) k = 9 from by rw [k0]; rfl] at fin
              exact fin
      · rw [pqI_t z] at h
        exact sp7_noR c (fun M2 f2 c2 => h M2 (f.tr f2) c2)
  · rw [pqI_f ok]
    refine ⟨SW_rf hS, fun M Q hC h => ?_, fun M Q hM h => ?_⟩
    · exact sp_isCellX (fun a1 => ⟨fun e => absurd e (by decide), fun _ => sp_within (lo := 0) (hi := 2) (by decide) (by decide) (fun a2 => absurd ⟨a1, a2⟩ ok) (fun q => ⟨fun e => absurd rfl e, fun _ => sp_told (r := -2) hC h⟩)⟩) (fun q => ⟨fun _ => sp_told (r := -2) hC h, fun e => absurd rfl e⟩)
    · exact sp7_isCellX (fun a1 => ⟨fun e => absurd e (by decide), fun _ => sp7_inI (lo := 0) (hi := 2) (by decide) (by decide) (fun a2 => absurd ⟨a1, a2⟩ ok) (fun q => ⟨fun e => absurd rfl e, fun _ => sp7_badR hM h⟩)⟩) (fun q => ⟨fun _ => sp7_badR hM h, fun e => absurd rfl e⟩)
