/-! odds, above, rests, resting: both -/
theorem sp_aroundR {g cl : Nat} {S : zS} {M : mM} {Q : Int32 → mM → Prop} (hS : SW S) (hC : CR M g S) (hc : cl < 48) (h1 : aA (zs S) (cl / 8) ≠ 0 → ∀ M', fr M M' g (g + 145) → CR M' g S → WE M' (g + 54) (zs S) → HR M' (g + 70) (zs S) (cl / 8) → Q 1 M') (h0 : aA (zs S) (cl / 8) = 0 → ∀ M', fr M M' g (g + 145) → CR M' g S → Q 0 M') : p_X6_reckonAround g (nI cl) M Q :=
  sp_reckonAround hC.1 hS.1 hc (fun n M' f a b => h1 n M' (f.wd (by omega) (by omega)) (CR_fr hC f (by omega)) a b) (fun n M' f => h0 n M' (f.wd (by omega) (by omega)) (CR_fr hC f (by omega)))
theorem rwS_0 : ¬ rwS 0 := by unfold rwS; omega
theorem rwS_1 : ¬ rwS 1 := by unfold rwS; omega
theorem sp7_rowsR {m hem : Nat} {S : zS} {M : mM} {Q : Int32 → mM → Prop} (hS : SW S) (hM : MR M m S) (hh : hem < 6) (h1 : aA (zs S) hem ≠ 0 → ∀ M', fr M M' m (m + 15) → MR M' m S → LOK M' m (zs S) hem 0 8 → RG M' m (zs S) hem → Q 1 M') (h0 : aA (zs S) hem = 0 → ∀ M', fr M M' m (m + 15) → MR M' m S → Q 0 M') : p_X7_rows m (nI hem) M Q :=
  sp7_rows hM.1 hS.1 hh (fun n M' f l a b c => h1 n M' f.fr (MR_fT hM f rwS_0 rwS_1) l ⟨a, b, c⟩) (fun n M' f => h0 n M' f.fr (MR_fT hM f rwS_0 rwS_1))
theorem MR_fS {M M' : mM} {m : Nat} {S : zS} {Z : Nat → Prop} (h : MR M m S) (f : fS M M' m Z) (z0 : ¬ Z 0) (z1 : ¬ Z 1) : MR M' m S := MR_fT h f.T z0 z1
theorem fS.fr {M M' : mM} {m : Nat} {S : Nat → Prop} (f : fS M M' m S) : fr M M' m (m + 15) := f.T.fr
/-- the answer is a fraction -/
theorem sp7_tellsR {m u v : Nat} {S : zS} {M M0 : mM} {Q : Int32 → mM → Prop} (hM : MR M m S) (f0 : fr M0 M m (m + 15)) (hu : MG M m 7 u) (hv : MG M m 5 v) (pv : 0 < v) (h : ∀ M', fr M0 M' m (m + 15) → MR M' m (zFr S u v) → Q 1 M') : p_X7_tellsSum m M Q :=
  sp7_tellsSum hu hv pv (fun M' f a b => h M' (f0.tr f.fr) (MR_fc hM f.T a b))
theorem sp_fracR {g n d : Nat} {S : zS} {M M0 : mM} {Q : mM → Prop} (hC : CR M g S) (f0 : fr M0 M g (g + 145)) (hn : n < 18446744073709551616) (hd : d < 18446744073709551616) (pd : 0 < d) (h : ∀ M', fr M0 M' g (g + 145) → CR M' g (zFr S n d) → Q M') : p_X0_setTo (g + 122) (lN n) (lN d) M Q :=
  sp_setTo hn hd pd (fun M' f a b => h M' (f0.tr (f.wd (by omega) (by omega))) (CR_fc hC (f.wd (by omega) (by omega)) a b))
theorem e_d8 {cl : Nat} (h : cl < 48) : nI cl / 8 = nI (cl / 8) := pk_div (d := 8) (by omega) (by decide) (by decide)
theorem e_m8 {cl : Nat} (h : cl < 48) : nI cl - nI (cl / 8) * 8 = nI (cl % 8) := by
  rw [← e_d8 h]; exact pk_rem (d := 8) (by omega) (by decide) (by decide)
theorem m8_lt (cl : Nat) : cl % 8 < 8 := Nat.mod_lt _ (by decide)
noncomputable def F_odds (x y : Int32) (S : zS) : Int32 × zS := pqI (okX (zs S) x y) (pqI (aA (zs S) (vN x / 8) = 0) (-3, zRf S 1) (1, zFr S (wt1 (zs S) (vN x / 8) (vN x % 8) (vN y)) (aA (zs S) (vN x / 8)))) (-2, zRf S 0)
theorem bo_odds {g m : Nat} {S : zS} (x y : Int32) : BO g m S (F_odds x y S) (fun M Q => p_X6_odds g x y M Q) (fun M Q => p_X7_odds m x y M Q) := by
  intro hS
  have w := hS.1
  unfold F_odds
  by_cases ok : okX (zs S) x y
  · rw [pqI_t ok]
    obtain ⟨a1, a2⟩ := ok
    obtain ⟨u1, _, v1⟩ := iB_v (by decide) a1
    obtain ⟨u2, v2⟩ := okK_v a2
    refine ⟨?_, fun M Q hC h => ?_, fun M Q hM h => ?_⟩
    · by_cases z : aA (zs S) (vN x / 8) = 0
      · rw [pqI_t z]; exact SW_rf hS
      · rw [pqI_f z]; exact SW_fc hS
    · show p_X6_odds g x y M Q
      unfold p_X6_odds
      refine sp_isCellX (fun _ => ⟨fun e => absurd e (by decide), fun _ => sp_isStackX hC.1 w (fun _ => ⟨fun _ => ?_, fun e => absurd e (by decide)⟩) (fun q => absurd a2 q)⟩) (fun q => absurd a1 q)
      clear a1 a2
      generalize vN x = cl at *
      generalize vN y = k at *
      subst u1 u2
      rw [e_d8 (by omega), e_m8 (by omega)]
      refine sp_aroundR hS hC (by omega) (fun nz M' f c we hr => ⟨fun _ => sp_weightOf w hr (m8_lt cl) v2.1 ?_, fun e => absurd e (by decide)⟩) (fun z M' f c => ⟨fun e => absurd rfl e, fun _ => ?_⟩)
      · rw [hr.2.2.1]
        rw [pqI_f nz] at h
        exact sp_fracR c f (wt1_64 w _ (m8_lt cl) v2.1) (aA_64 w _) (by omega) h
      · rw [pqI_t z] at h
        exact sp_told (r := -3) c (fun M2 f2 c2 => h M2 (f.tr f2) c2)
    · show p_X7_odds m x y M Q
      unfold p_X7_odds
      refine sp7_isCellX (fun _ => ⟨fun e => absurd e (by decide), fun _ => sp7_isStackX hM.1 w (fun _ => ⟨fun _ => ?_, fun e => absurd e (by decide)⟩) (fun q => absurd a2 q)⟩) (fun q => absurd a1 q)
      clear a1 a2
      generalize vN x = cl at *
      generalize vN y = k at *
      subst u1 u2
      rw [e_d8 (by omega), e_m8 (by omega)]
      refine sp7_rowsR hS hM (by omega) (fun nz M' f c lo rg => ⟨fun _ => ?_, fun e => absurd e (by decide)⟩) (fun z M' f c => ⟨fun e => absurd rfl e, fun _ => ?_⟩)
      · rw [pqI_f nz] at h
        refine sp7_sets (r := 7) (n := 0) (by decide) (by decide) (fun M7 f7 m7 => ?_)
        have rg7 := rg.fS f7 (fun q e => by omega)
        refine sp7_addsRows w (m8_lt cl) v2.1 (rg7.1 _ _ (m8_lt cl) v2.1) (rg7.2.1 _ _ (m8_lt cl) v2.1) m7 (pw_pos _) (fun M8 f8 m8 => ?_)
        rw [Nat.zero_add] at m8
        refine sp7_tellsR (MR_fS (MR_fS c f7 (by decide) (by decide)) f8 (by unfold adS; omega) (by unfold adS; omega)) ((f.tr f7.fr).tr f8.fr) m8 (rg7.fS f8 adS_ok).2.2 (by omega) h
      · rw [pqI_t z] at h
        exact sp7_noR c (fun M2 f2 c2 => h M2 (f.tr f2) c2)
  · rw [pqI_f ok]
    refine ⟨SW_rf hS, fun M Q hC h => ?_, fun M Q hM h => ?_⟩
    · exact sp_isCellX (fun a1 => ⟨fun e => absurd e (by decide), fun _ => sp_isStackX hC.1 w (fun a2 => absurd ⟨a1, a2⟩ ok) (fun q => ⟨fun e => absurd rfl e, fun _ => sp_told (r := -2) hC h⟩)⟩) (fun q => ⟨fun _ => sp_told (r := -2) hC h, fun e => absurd rfl e⟩)
    · exact sp7_isCellX (fun a1 => ⟨fun e => absurd e (by decide), fun _ => sp7_isStackX hM.1 w (fun a2 => absurd ⟨a1, a2⟩ ok) (fun q => ⟨fun e => absurd rfl e, fun _ => sp7_badR hM h⟩)⟩) (fun q => ⟨fun _ => sp7_badR hM h, fun e => absurd rfl e⟩)
noncomputable def abF (s : Nat → Nat) (hem p k : Nat) : Nat := if k < 5 then 0 else wt1 s hem p k
theorem abF_le (s : Nat → Nat) (hem p k : Nat) : abF s hem p k ≤ wt1 s hem p k := by
  unfold abF; split <;> omega
theorem ab_le (s : Nat → Nat) (hem : Nat) {p : Nat} (hp : p < 8) {n : Nat} (hn : n ≤ 21) : sm (abF s hem p) n ≤ aA s hem := by
  rw [← wt_sum s hem hp]
  exact sm_sub (fun i _ => abF_le s hem p i) hn
theorem uc_5 {k : Nat} (hk : k < 21) : oI (uc k) = -1 ↔ k < 5 := by
  have u4 := uc_le k
  rw [oI_eq0 (by omega)]
  unfold uc
  constructor
  · intro h
    by_cases z : k < 5
    · exact z
    · rw [if_neg z] at h; omega
  · intro h; rw [if_pos h]
noncomputable def F_above (x : Int32) (S : zS) : Int32 × zS := pqI (iB x 0 47) (pqI (aA (zs S) (vN x / 8) = 0) (-3, zRf S 1) (1, zFr S (sm (abF (zs S) (vN x / 8) (vN x % 8)) 21) (aA (zs S) (vN x / 8)))) (-2, zRf S 0)
theorem bo_above {g m : Nat} {S : zS} (x : Int32) : BO g m S (F_above x S) (fun M Q => p_X6_above g x M Q) (fun M Q => p_X7_above m x M Q) := by
  intro hS
  have w := hS.1
  unfold F_above
  by_cases ok : iB x 0 47
  · rw [pqI_t ok]
    obtain ⟨u1, _, v1⟩ := iB_v (by decide) ok
    refine ⟨?_, fun M Q hC h => ?_, fun M Q hM h => ?_⟩
    · by_cases z : aA (zs S) (vN x / 8) = 0
      · rw [pqI_t z]; exact SW_rf hS
      · rw [pqI_f z]; exact SW_fc hS
    · show p_X6_above g x M Q
      unfold p_X6_above
      refine sp_isCellX (fun _ => ⟨fun _ => ?_, fun e => absurd e (by decide)⟩) (fun q => absurd ok q)
      clear ok
      generalize vN x = cl at *
      subst u1
      refine sp_aroundR hS hC (by omega) (fun nz M' f c we hr => ⟨fun _ => ?_, fun e => absurd e (by decide)⟩) (fun z M' f c => ⟨fun e => absurd rfl e, fun _ => ?_⟩)
      · rw [pqI_f nz] at h
        refine loopU (A := Unit) 21 (fun k _ => (lN (sm (abF (zs S) (cl / 8) (cl % 8)) k), nI k)) (fun _ _ => True) () rfl trivial ?_
        rintro k _ ag hk _ hag
        show p_X6_above_F34 g (nI cl) M' Q ag (lN (sm (abF (zs S) (cl / 8) (cl % 8)) k)) (nI k)
        unfold p_X6_above_F34
        rw [e_d8 (by omega), e_m8 (by omega), hr.2.2.1]
        refine ⟨fun q => ?_, fun q => ?_⟩
        · have q := lei (a := 21) (by decide) (by omega) q
          have : k = 21 := by omega
          subst this
          exact sp_fracR c f (Nat.lt_of_le_of_lt (ab_le _ _ (m8_lt cl) hk) (aA_64 w _)) (aA_64 w _) (by omega) h
        · have q := nlei (a := 21) (by decide) (by omega) q
          rw [show nI k + 1 = nI (k + 1) from nI_add k 1]
          have go := hag q () trivial
          have e1 : sm (abF (zs S) (cl / 8) (cl % 8)) (k + 1) = sm (abF (zs S) (cl / 8) (cl % 8)) k + abF (zs S) (cl / 8) (cl % 8) k := rfl
          rw [e1] at go
          refine sp_upperOf q ⟨fun z => ?_, fun z => sp_weightOf w hr (m8_lt cl) q ?_⟩
          · rw [uc_5 q] at z
            rw [show abF (zs S) (cl / 8) (cl % 8) k = 0 from if_pos z, Nat.add_zero] at go; exact go
          · rw [uc_5 q] at z
            rw [show abF (zs S) (cl / 8) (cl % 8) k = wt1 (zs S) (cl / 8) (cl % 8) k from if_neg z] at go
            rw [lN_add]; exact go
      · rw [pqI_t z] at h
        exact sp_told (r := -3) c (fun M2 f2 c2 => h M2 (f.tr f2) c2)
    · show p_X7_above m x M Q
      unfold p_X7_above
      refine sp7_isCellX (fun _ => ⟨fun _ => ?_, fun e => absurd e (by decide)⟩) (fun q => absurd ok q)
      clear ok
      generalize vN x = cl at *
      subst u1
      rw [e_d8 (by omega)]
      refine sp7_rowsR hS hM (by omega) (fun nz M' f c lo rg => ⟨fun _ => ?_, fun e => absurd e (by decide)⟩) (fun z M' f c => ⟨fun e => absurd rfl e, fun _ => ?_⟩)
      · rw [pqI_f nz] at h
        refine sp7_sets (r := 7) (n := 0) (by decide) (by decide) (fun M7 f7 m7 => ?_)
        refine loopU (A := mM) 16 (fun i a => (nI (5 + i), a)) (fun i a => fS M' a m adS ∧ MG a m 7 (sm (abF (zs S) (cl / 8) (cl % 8)) (5 + i))) M7 rfl ⟨f7.wd (fun q e => Or.inr (Or.inr e)), m7⟩ ?_
        rintro i a ag hi ⟨hf, hm⟩ hag
        show p_X7_above_F37 m (nI cl) Q ag (nI (5 + i)) a
        have Ra := rg.fS hf adS_ok
        have bd := ab_le (zs S) (cl / 8) (m8_lt cl) (n := 5 + i) (by omega)
        have A38 := aA_38 w (cl / 8)
        unfold p_X7_above_F37
        rw [e_d8 (by omega), e_m8 (by omega)]
        refine ⟨fun q => ?_, fun q => ?_⟩
        · have q := lei (a := 21) (by decide) (by omega) q
          have : i = 16 := by omega
          subst this
          exact sp7_tellsR (MR_fS c hf (by unfold adS; omega) (by unfold adS; omega)) (f.tr hf.fr) hm Ra.2.2 (by omega) h
        · have q := nlei (a := 21) (by decide) (by omega) q
          rw [show nI (5 + i) + 1 = nI (5 + (i + 1)) from nI_add (5 + i) 1]
          refine sp7_addsRows w (m8_lt cl) q (Ra.1 _ _ (m8_lt cl) q) (Ra.2.1 _ _ (m8_lt cl) q) hm (by omega) (fun M8 f8 m8 => hag (by omega) M8 ⟨hf.tr f8, ?_⟩)
          have e1 : sm (abF (zs S) (cl / 8) (cl % 8)) (5 + (i + 1)) = sm (abF (zs S) (cl / 8) (cl % 8)) (5 + i) + abF (zs S) (cl / 8) (cl % 8) (5 + i) := rfl
          rw [e1, show abF (zs S) (cl / 8) (cl % 8) (5 + i) = wt1 (zs S) (cl / 8) (cl % 8) (5 + i) from if_neg (by omega)]
          exact m8
      · rw [pqI_t z] at h
        exact sp7_noR c (fun M2 f2 c2 => h M2 (f.tr f2) c2)
  · rw [pqI_f ok]
    refine ⟨SW_rf hS, fun M Q hC h => ?_, fun M Q hM h => ?_⟩
    · exact sp_isCellX (fun a1 => absurd a1 ok) (fun q => ⟨fun e => absurd rfl e, fun _ => sp_told (r := -2) hC h⟩)
    · exact sp7_isCellX (fun a1 => absurd a1 ok) (fun q => ⟨fun e => absurd rfl e, fun _ => sp7_badR hM h⟩)
noncomputable def F_rests (x : Int32) (S : zS) : Int32 × zS := pqI (iB x 0 47) (pqI (aA (zs S) (vN x / 8) = 0) (-3, zRf S 1) (ro (aA (zs S) (vN x / 8)) (sm (rsF (zs S) (zc S) (vN x / 8) (vN x)) 21), S)) (-2, zRf S 0)
theorem bo_rests {g m : Nat} {S : zS} (x : Int32) : BO g m S (F_rests x S) (fun M Q => p_X6_rests g x M Q) (fun M Q => p_X7_rests m x M Q) := by
  intro hS
  have w := hS.1
  unfold F_rests
  by_cases ok : iB x 0 47
  · rw [pqI_t ok]
    obtain ⟨u1, _, v1⟩ := iB_v (by decide) ok
    refine ⟨?_, fun M Q hC h => ?_, fun M Q hM h => ?_⟩
    · by_cases z : aA (zs S) (vN x / 8) = 0
      · rw [pqI_t z]; exact SW_rf hS
      · rw [pqI_f z]; exact hS
    · show p_X6_rests g x M Q
      unfold p_X6_rests
      refine sp_isCellX (fun _ => ⟨fun _ => ?_, fun e => absurd e (by decide)⟩) (fun q => absurd ok q)
      clear ok
      generalize vN x = cl at *
      subst u1
      refine sp_aroundR hS hC (by omega) (fun nz M' f c we hr => ⟨fun e => absurd e (by decide), fun _ => ?_⟩) (fun z M' f c => ⟨fun _ => ?_, fun e => absurd rfl e⟩)
      · rw [pqI_f nz] at h
        exact sp_restsOn (Q := fun r => Q r M') c.1 w hr (by omega) (h M' f c)
      · rw [pqI_t z] at h
        exact sp_told (r := -3) c (fun M2 f2 c2 => h M2 (f.tr f2) c2)
    · show p_X7_rests m x M Q
      unfold p_X7_rests
      refine sp7_isCellX (fun _ => ⟨fun _ => ?_, fun e => absurd e (by decide)⟩) (fun q => absurd ok q)
      clear ok
      generalize vN x = cl at *
      subst u1
      rw [e_d8 (by omega)]
      refine sp7_rowsR hS hM (by omega) (fun nz M' f c lo rg => ⟨fun e => absurd e (by decide), fun _ => ?_⟩) (fun z M' f c => ⟨fun _ => ?_, fun e => absurd rfl e⟩)
      · rw [pqI_f nz] at h
        exact sp7_restsAt c.1 w rg (by omega) (fun M2 f2 => h M2 (f.tr f2.fr) (MR_fS c f2 (by unfold adS; omega) (by unfold adS; omega)))
      · rw [pqI_t z] at h
        exact sp7_noR c (fun M2 f2 c2 => h M2 (f.tr f2) c2)
  · rw [pqI_f ok]
    refine ⟨SW_rf hS, fun M Q hC h => ?_, fun M Q hM h => ?_⟩
    · exact sp_isCellX (fun a1 => absurd a1 ok) (fun q => ⟨fun e => absurd rfl e, fun _ => sp_told (r := -2) hC h⟩)
    · exact sp7_isCellX (fun a1 => absurd a1 ok) (fun q => ⟨fun e => absurd rfl e, fun _ => sp7_badR hM h⟩)
noncomputable def rgN (S : zS) (hem what p : Nat) : Nat := iv (ro (aA (zs S) hem) (sm (rsF (zs S) (zc S) hem (8 * hem + p)) 21) = nI what) 1
theorem rgN_le (S : zS) (hem what : Nat) : ∀ n, sm (rgN S hem what) n ≤ n
  | 0 => Nat.le_refl _
  | n + 1 => by
    have := rgN_le S hem what n
    show sm (rgN S hem what) n + rgN S hem what n ≤ n + 1
    have : rgN S hem what n ≤ 1 := by
      unfold rgN
      by_cases q : ro (aA (zs S) hem) (sm (rsF (zs S) (zc S) hem (8 * hem + n)) 21) = nI what
      · rw [iv_t q]; omega
      · rw [iv_f q]; omega
    omega
def okR (x y : Int32) (hi : Nat) : Prop := iB x 0 5 ∧ iB y 0 hi
noncomputable def F_resting (x y : Int32) (S : zS) : Int32 × zS := pqI (okR x y 3) (pqI (aA (zs S) (vN x) = 0) (-3, zRf S 1) (nI (sm (rgN S (vN x) (vN y)) 8), S)) (-2, zRf S 0)
theorem bo_resting {g m : Nat} {S : zS} (x y : Int32) : BO g m S (F_resting x y S) (fun M Q => p_X6_resting g x y M Q) (fun M Q => p_X7_resting m x y M Q) := by
  intro hS
  have w := hS.1
  unfold F_resting
  by_cases ok : okR x y 3
  · rw [pqI_t ok]
    obtain ⟨a1, a2⟩ := ok
    obtain ⟨u1, _, v1⟩ := iB_v (by decide) a1
    obtain ⟨u2, _, v2⟩ := iB_v (by decide) a2
    refine ⟨?_, fun M Q hC h => ?_, fun M Q hM h => ?_⟩
    · by_cases z : aA (zs S) (vN x) = 0
      · rw [pqI_t z]; exact SW_rf hS
      · rw [pqI_f z]; exact hS
    · show p_X6_resting g x y M Q
      unfold p_X6_resting
      refine sp_isHemX (fun _ => ⟨fun e => absurd e (by decide), fun _ => sp_within (lo := 0) (hi := 3) (by decide) (by decide) (fun _ => ⟨fun _ => ?_, fun e => absurd e (by decide)⟩) (fun q => absurd a2 q)⟩) (fun q => absurd a1 q)
      clear a1 a2
      generalize vN x = hem at *
      generalize vN y = k at *
      subst u1 u2
      rw [show nI hem * 8 = nI (hem * 8) from pk_mul hem 8]
      have e8 : hem * 8 / 8 = hem := by omega
      refine sp_aroundR hS hC (by omega) (fun nz M' f c we hr => ⟨fun _ => ?_, fun e => absurd e (by decide)⟩) (fun z M' f c => ⟨fun e => absurd rfl e, fun _ => ?_⟩)
      · rw [e8] at nz hr
        rw [pqI_f nz] at h
        refine loopU (A := Unit) 8 (fun p _ => (nI (sm (rgN S hem k) p), nI p)) (fun _ _ => True) () rfl trivial ?_
        rintro p _ ag hp _ hag
        show p_X6_resting_F46 g (nI hem) (nI k) M' Q ag (nI (sm (rgN S hem k) p)) (nI p)
        have bd := rgN_le S hem k p
        unfold p_X6_resting_F46
        refine ⟨fun q => ?_, fun q => ?_⟩
        · have q := lei (a := 8) (by decide) (by omega) q
          rw [show p = 8 by omega]; exact h M' f c
        · have q := nlei (a := 8) (by decide) (by omega) q
          rw [show nI hem * 8 = nI (hem * 8) from pk_mul hem 8, nI_add, show hem * 8 + p = 8 * hem + p by omega, show nI p + 1 = nI (p + 1) from nI_add p 1, show nI (sm (rgN S hem k) p) + 1 = nI (sm (rgN S hem k) p + 1) from nI_add _ 1]
          have go := hag q () trivial
          have e1 : sm (rgN S hem k) (p + 1) = sm (rgN S hem k) p + rgN S hem k p := rfl
          rw [e1] at go
          refine sp_restsOn c.1 w hr (by omega) ⟨fun z => ?_, fun z => ?_⟩
          · rw [show rgN S hem k p = 0 from iv_f z, Nat.add_zero] at go; exact go
          · rw [show rgN S hem k p = 1 from iv_t z] at go; exact go
      · rw [e8] at z
        rw [pqI_t z] at h
        exact sp_told (r := -3) c (fun M2 f2 c2 => h M2 (f.tr f2) c2)
    · show p_X7_resting m x y M Q
      unfold p_X7_resting
      refine sp7_inI (lo := 0) (hi := 5) (by decide) (by decide) (fun _ => ⟨fun e => absurd e (by decide), fun _ => sp7_inI (lo := 0) (hi := 3) (by decide) (by decide) (fun _ => ⟨fun _ => ?_, fun e => absurd e (by decide)⟩) (fun q => absurd a2 q)⟩) (fun q => absurd a1 q)
      clear a1 a2
      generalize vN x = hem at *
      generalize vN y = k at *
      subst u1 u2
      refine sp7_rowsR hS hM (by omega) (fun nz M' f c lo rg => ⟨fun _ => ?_, fun e => absurd e (by decide)⟩) (fun z M' f c => ⟨fun e => absurd rfl e, fun _ => ?_⟩)
      · rw [pqI_f nz] at h
        refine loopU (A := mM) 8 (fun p a => (nI (sm (rgN S hem k) p), nI p, a)) (fun p a => fS M' a m adS) M' rfl fS.rf ?_
        rintro p a ag hp hf hag
        show p_X7_resting_F47 m (nI hem) (nI k) Q ag (nI (sm (rgN S hem k) p)) (nI p) a
        have bd := rgN_le S hem k p
        have ca := MR_fS c hf (by unfold adS; omega) (by unfold adS; omega)
        unfold p_X7_resting_F47
        refine ⟨fun q => ?_, fun q => ?_⟩
        · have q := lei (a := 8) (by decide) (by omega) q
          rw [show p = 8 by omega]; exact h a (f.tr hf.fr) ca
        · have q := nlei (a := 8) (by decide) (by omega) q
          rw [show (8 : Int32) * nI hem = nI (8 * hem) from pk_mul 8 hem, nI_add, show nI p + 1 = nI (p + 1) from nI_add p 1, show nI (sm (rgN S hem k) p) + 1 = nI (sm (rgN S hem k) p + 1) from nI_add _ 1, show nI (sm (rgN S hem k) p) + 0 = nI (sm (rgN S hem k) p) from nI_add _ 0]
          refine sp7_restsAt ca.1 w (rg.fS hf adS_ok) (by omega) (fun M2 f2 => ?_)
          have go := hag q M2 (hf.tr f2)
          have e1 : sm (rgN S hem k) (p + 1) = sm (rgN S hem k) p + rgN S hem k p := rfl
          rw [e1] at go
          refine ⟨fun z => ?_, fun z => ?_⟩
          · rw [show rgN S hem k p = 0 from iv_f z, Nat.add_zero] at go; exact go
          · rw [show rgN S hem k p = 1 from iv_t z] at go; exact go
      · rw [pqI_t z] at h
        exact sp7_noR c (fun M2 f2 c2 => h M2 (f.tr f2) c2)
  · rw [pqI_f ok]
    refine ⟨SW_rf hS, fun M Q hC h => ?_, fun M Q hM h => ?_⟩
    · exact sp_isHemX (fun a1 => ⟨fun e => absurd e (by decide), fun _ => sp_within (lo := 0) (hi := 3) (by decide) (by decide) (fun a2 => absurd ⟨a1, a2⟩ ok) (fun q => ⟨fun e => absurd rfl e, fun _ => sp_told (r := -2) hC h⟩)⟩) (fun q => ⟨fun _ => sp_told (r := -2) hC h, fun e => absurd rfl e⟩)
    · exact sp7_inI (lo := 0) (hi := 5) (by decide) (by decide) (fun a1 => ⟨fun e => absurd e (by decide), fun _ => sp7_inI (lo := 0) (hi := 3) (by decide) (by decide) (fun a2 => absurd ⟨a1, a2⟩ ok) (fun q => ⟨fun e => absurd rfl e, fun _ => sp7_badR hM h⟩)⟩) (fun q => ⟨fun _ => sp7_badR hM h, fun e => absurd rfl e⟩)
