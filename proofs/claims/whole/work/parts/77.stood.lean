/-! how the turns stood: both -/
theorem up_up {s : Nat → Nat} {k a b : Nat} : up (up s k a) k b = up s k b := by
  funext j
  unfold up
  by_cases z : j = k
  · rw [if_pos z, if_pos z]
  · rw [if_neg z, if_neg z, if_neg z]
theorem up_id {s : Nat → Nat} {k : Nat} : up s k (s k) = s := by
  funext j
  unfold up
  by_cases z : j = k
  · rw [if_pos z, z]
  · rw [if_neg z]
def pr (f : Nat → Nat) : Nat → Nat
  | 0 => 1
  | n + 1 => pr f n * f n
theorem pr_z {f : Nat → Nat} {j : Nat} (h : pr f j = 0) : ∀ k, pr f (j + k) = 0
  | 0 => h
  | k + 1 => by
    show pr f (j + k) * f (j + k) = 0
    rw [pr_z h k, Nat.zero_mul]
theorem pr_z6 {f : Nat → Nat} {j n : Nat} (h : pr f j = 0) (hj : j ≤ n) : pr f n = 0 := by
  have := pr_z h (n - j)
  rw [show j + (n - j) = n by omega] at this
  exact this
theorem pr_le {f : Nat → Nat} (h : ∀ i, f i < 18446744073709551616) : ∀ n, pr f n ≤ 18446744073709551616 ^ n
  | 0 => Nat.le_refl _
  | n + 1 => by
    rw [Nat.pow_succ]
    exact Nat.mul_le_mul (pr_le h n) (Nat.le_of_lt (h n))
theorem pr_16 {f : Nat → Nat} (h : ∀ i, f i < 18446744073709551616) {n : Nat} (hn : n ≤ 6) : pr f n * 8 < pw 16 := by
  have h1 := pr_le h n
  have h2 : 18446744073709551616 ^ n ≤ 18446744073709551616 ^ 6 := Nat.pow_le_pow_right (by decide) hn
  have h3 : 18446744073709551616 ^ 6 * 8 < pw 16 := by decide +kernel
  omega
theorem pw_1638 : pw 16 ≤ pw 38 := pw_le (by decide)
theorem WF_turn {s c : Nat → Nat} {t : Nat} (w : WF s c) (ht : t < 4) : WF (up s 7 t) c := WF_set (n := 5) (v := t) w (by decide) (Nat.zero_le t) (show t ≤ 3 by omega)
theorem f_put5 {s : Nat → Nat} {t : Nat} (ht : t < 4) : f_put 5 (nI t) s = (nI (s 7), up s 7 t) := by
  have v5 : vN (5 : Int32) = 5 := by decide
  have ok : okP 5 (nI t) := ⟨⟨5, by omega, by omega, rfl⟩, by rw [v5]; exact ⟨t, Nat.zero_le t, (show t ≤ 3 by omega), rfl⟩⟩
  unfold f_put
  rw [pqI_t ok, v5, vN_n (by omega)]
/-- only cells of P change -/
def fP (M M' : mM) (g : Nat) (P : Nat → Prop) : Prop := fr M M' g (g + 145) ∧ ∀ k, ¬ P k → M'.1 k = M.1 k
theorem fP.rf {M : mM} {g : Nat} {P : Nat → Prop} : fP M M g P := ⟨fr.rf, fun _ _ => rfl⟩
theorem fP.tr {M M1 M2 : mM} {g : Nat} {P : Nat → Prop} (h : fP M M1 g P) (k : fP M1 M2 g P) : fP M M2 g P := ⟨h.1.tr k.1, fun q z => (k.2 q z).trans (h.2 q z)⟩
theorem fP.wd {M M1 : mM} {g : Nat} {P P' : Nat → Prop} (h : fP M M1 g P) (k : ∀ q, P q → P' q) : fP M M1 g P' := ⟨h.1, fun q z => h.2 q (fun r => z (k q r))⟩
theorem fP_of {M M1 : mM} {g lo hi : Nat} {P : Nat → Prop} (h : fr M M1 lo hi) (h1 : g ≤ lo) (h2 : hi ≤ g + 145) (k : ∀ q, lo ≤ q → q < hi → P q) : fP M M1 g P := ⟨h.wd h1 h2, fun q z => h.1 q (by
  rcases Nat.lt_or_ge q lo with y | y
  · exact Or.inl y
  · rcases Nat.lt_or_ge q hi with x | x
    · exact absurd (k q y x) z
    · exact Or.inr x)⟩
theorem CR_fP {M M' : mM} {g : Nat} {S : zS} {P : Nat → Prop} (h : CR M g S) (f : fP M M' g P) (q : ∀ k, kCR g k → ¬ P k) : CR M' g S := CR_ag h (fun k hk => f.2 k (q k hk))
def mhP (g k : Nat) : Prop := (g + 54 ≤ k ∧ k < g + 122) ∨ (g + 135 ≤ k ∧ k < g + 138)
theorem sp_multiplyHems {g : Nat} {s c : Nat → Nat} {M : mM} {Q : mM → Prop} (hs : ST M (g + 13) s c) (w : WF s c) (h : ∀ M', fP M M' g (mhP g) → RW M' (g + 135) (pr (aA s) 6) → Q M') : p_X6_multiplyHems g (g + 13) M Q := by
  have A64 := aA_64 w
  refine sp_set (n := 1) (by decide) (fun M1 f1 r1 => ?_)
  have F1 : fP M M1 g (mhP g) := fP_of f1 (by omega) (by omega) (fun q a b => Or.inr (by omega))
  refine sp_take (hs.fr f1 (by omega)) w (Or.inr (by omega)) (fun M2 f2 w2 => ?_)
  have F2 : fP M M2 g (mhP g) := F1.tr (fP_of f2 (by omega) (by omega) (fun q a b => Or.inl (by omega)))
  refine loopU (A := mM) 6 (fun j a => (nI j, a)) (fun j a => fP M a g (mhP g) ∧ WE a (g + 54) s ∧ RW a (g + 135) (pr (aA s) j)) M2 rfl ⟨F2, w2, r1.fr f2 (by omega)⟩ ?_
  rintro j a ag hj ⟨hf, hw, hr⟩ hag
  show p_X6_multiplyHems_F18 g (g + 13) Q ag (nI j) a
  have hsa : ST a (g + 13) s c := hs.ag (fun k a b => hf.2 k (by unfold mhP; omega))
  unfold p_X6_multiplyHems_F18
  refine ⟨fun q => ?_, fun q => sp_isZero hr ?_⟩
  · have q := lei (a := 6) (by decide) (by omega) q
    have : j = 6 := by omega
    subst this
    exact h a hf hr
  · have q := nlei (a := 6) (by decide) (by omega) q
    by_cases z : pr (aA s) j = 0
    · rw [if_pos z]
      refine ⟨fun _ => h a hf ?_, fun e => absurd e (by decide)⟩
      rw [pr_z6 z hj, ← z]; exact hr
    · rw [if_neg z]
      refine ⟨fun e => absurd rfl e, fun _ => ?_⟩
      refine sp_look hsa w hw (by omega) (by omega) q (fun M4 f4 l4 s4 => sp_reckonAhead w l4 s4 (fun M5 f5 a5 t5 => ?_))
      have F5 : fr M4 M5 (g + 70) (g + 122) := f5.fr (by omega) (fun k hk => by unfold ahS at hk; omega)
      have F45 : fr a M5 (g + 70) (g + 122) := (f4.wd (by omega) (by omega)).tr F5
      rw [t5]
      have p16 := pr_16 A64 (n := j + 1) (by omega)
      have e1 : pr (aA s) (j + 1) = pr (aA s) j * aA s j := rfl
      rw [e1] at p16
      refine sp_multiply (hr.fr F45 (by omega)) (A64 j) (by omega) (fun M6 f6 r6 => ?_)
      rw [show nI j + 1 = nI (j + 1) from nI_add j 1]
      exact hag q M6 ⟨(hf.tr (fP_of F45 (by omega) (by omega) (fun q a b => Or.inl (by omega)))).tr (fP_of f6 (by omega) (by omega) (fun q a b => Or.inr (by omega))), (hw.fr F45 (by omega)).fr f6 (by omega), r6⟩
noncomputable def tuP (s : Nat → Nat) (t : Nat) : Nat := pr (aA (up s 7 t)) 6
theorem tuP_16 {s c : Nat → Nat} (w : WF s c) {t : Nat} (ht : t < 4) : tuP s t * 8 < pw 16 := pr_16 (aA_64 (WF_turn w ht)) (Nat.le_refl _)
theorem tuS_16 {s c : Nat → Nat} (w : WF s c) {t : Nat} (ht : t ≤ 4) : sm (tuP s) t * 2 < pw 16 := by
  have h1 : sm (tuP s) t ≤ sm (tuP s) 4 := sm_mono ht
  have h2 := tuP_16 w (t := 0) (by decide)
  have h3 := tuP_16 w (t := 1) (by decide)
  have h4 := tuP_16 w (t := 2) (by decide)
  have h5 := tuP_16 w (t := 3) (by decide)
  have e : sm (tuP s) 4 = 0 + tuP s 0 + tuP s 1 + tuP s 2 + tuP s 3 := rfl
  omega
noncomputable def F_stood (x : Int32) (S : zS) : Int32 × zS := pqI (iB x 0 3) (pqI (sm (tuP (zs S)) 4 = 0) (-3, zRf S 1) (1, zFr S (tuP (zs S) (vN x)) (sm (tuP (zs S)) 4))) (-2, zRf S 0)
def sdP (g k : Nat) : Prop := (g + 13 ≤ k ∧ k < g + 25) ∨ (g + 54 ≤ k ∧ k < g + 122) ∨ (g + 135 ≤ k ∧ k < g + 144)
theorem sdP_C (g k : Nat) (h : kCR g k) : ¬ sdP g k := by unfold kCR at h; unfold sdP; omega
theorem sp_stood {g t : Nat} {S : zS} {M : mM} {Q : Int32 → mM → Prop} (hS : SW S) (hC : CR M g S) (ht : t < 4) (h1 : sm (tuP (zs S)) 4 ≠ 0 → ∀ M', fr M M' g (g + 145) → CR M' g (zFr S (tuP (zs S) t) (sm (tuP (zs S)) 4)) → Q 1 M') (h0 : sm (tuP (zs S)) 4 = 0 → ∀ M', fr M M' g (g + 145) → CR M' g S → p_X6_told g (-3) M' Q) : p_X6_stood g (nI t) M Q := by
  have w := hS.1
  refine sp_within (lo := 0) (hi := 3) (by decide) (by decide) (fun _ => ⟨fun _ => ?_, fun e => absurd e (by decide)⟩) (fun q => absurd ⟨t, by omega, by omega, rfl⟩ q)
  refine sp_becomeS w (by omega) hC.1 (fun M2 f2 s2 => sp_set (n := 0) (by decide) (fun M3 f3 r3 => ?_))
  have F2 : fP M M2 g (sdP g) := fP_of f2 (by omega) (by omega) (fun q a b => Or.inl (by omega))
  have F3 : fP M M3 g (sdP g) := F2.tr (fP_of f3 (by omega) (by omega) (fun q a b => Or.inr (Or.inr (by omega))))
  refine loopU (A := mM) 4 (fun u a => (nI u, a)) (fun u a => fP M a g (sdP g) ∧ (∃ v, ST a (g + 13) (up (zs S) 7 v) (zc S)) ∧ RW a (g + 141) (sm (tuP (zs S)) u) ∧ (t < u → RW a (g + 138) (tuP (zs S) t))) M3 rfl ⟨F3, ⟨zs S 7, by rw [up_id]; exact s2.fr f3 (by omega)⟩, r3, fun q => absurd q (Nat.not_lt_zero _)⟩ ?_
  rintro u a ag hu ⟨hf, ⟨v, hv⟩, hr, hc⟩ hag
  show p_X6_stood_F37 g (nI t) Q ag (nI u) a
  unfold p_X6_stood_F37
  refine ⟨fun q => sp_isZero hr ?_, fun q => ?_⟩
  · have q := lei (a := 4) (by decide) (by omega) q
    have : u = 4 := by omega
    subst this
    have Ca := CR_fP hC hf (sdP_C g)
    by_cases z : sm (tuP (zs S)) 4 = 0
    · rw [if_pos z]
      exact ⟨fun e => absurd e (by decide), fun _ => h0 z a hf.1 Ca⟩
    · rw [if_neg z]
      refine ⟨fun _ => sp_setToW (n := tuP (zs S) t) (d := sm (tuP (zs S)) 4) (by omega) (by omega) (hc ht) hr (by omega) (fun M5 f5 a5 b5 => h1 z M5 (hf.1.tr (f5.wd (by omega) (by omega))) (CR_fc Ca (f5.wd (by omega) (by omega)) a5 b5)), fun e => absurd rfl e⟩
  · have q := nlei (a := 4) (by decide) (by omega) q
    refine sp_set_ hv (fun M8 f8 s8 => ?_)
    rw [f_put5 q] at s8
    have s8 : ST M8 (g + 13) (up (zs S) 7 u) (zc S) := by rw [← up_up (a := v)]; exact s8
    have F8 : fP M M8 g (sdP g) := hf.tr (fP_of f8 (by omega) (by omega) (fun q a b => Or.inl (by omega)))
    refine sp_multiplyHems s8 (WF_turn w q) (fun M10 f10 r10 => ?_)
    have F10 : fP M M10 g (sdP g) := F8.tr (f10.wd (fun q e => Or.inr (by unfold mhP at e; omega)))
    have s10 : ST M10 (g + 13) (up (zs S) 7 u) (zc S) := s8.ag (fun k a b => f10.2 k (by unfold mhP; omega))
    have r141 : RW M10 (g + 141) (sm (tuP (zs S)) u) := (hr.fr f8 (by omega)).ag (f10.2 _ (by unfold mhP; omega)) (f10.2 _ (by unfold mhP; omega))
    have r138 : t < u → RW M10 (g + 138) (tuP (zs S) t) := fun y => ((hc y).fr f8 (by omega)).ag (f10.2 _ (by unfold mhP; omega)) (f10.2 _ (by unfold mhP; omega))
    have bd := tuS_16 w (t := u + 1) (by omega)
    have e1 : sm (tuP (zs S)) (u + 1) = sm (tuP (zs S)) u + tuP (zs S) u := rfl
    rw [e1] at bd
    have r10 : RW M10 (g + 135) (tuP (zs S) u) := r10
    refine sp_add (by omega) r141 r10 (by omega) (fun M11 f11 r11 => ?_)
    rw [← e1] at r11
    have F11 : fP M M11 g (sdP g) := F10.tr (fP_of f11 (by omega) (by omega) (fun q a b => Or.inr (Or.inr (by omega))))
    rw [show nI u + 1 = nI (u + 1) from nI_add u 1]
    refine ⟨fun y => hag q M11 ⟨F11, ⟨u, s10.fr f11 (by omega)⟩, r11, fun x => (r138 ?_).fr f11 (by omega)⟩, fun y => sp_become (by omega) (r10.fr f11 (by omega)) (fun M12 f12 r12 => hag q M12 ⟨F11.tr (fP_of f12 (by omega) (by omega) (fun q a b => Or.inr (Or.inr (by omega)))), ⟨u, (s10.fr f11 (by omega)).fr f12 (by omega)⟩, r11.fr f12 (by omega), fun _ => ?_⟩)⟩
    · have : u ≠ t := fun e => y (by rw [e])
      omega
    · rw [show t = u from (eqi (by omega) (by omega) y).symm]; exact r12
/-- the book and registers change -/
def fB (M M' : mM) (m : Nat) (Z : Nat → Prop) : Prop := (∀ k, k ≠ m + 1 → k ≠ m + 6 → k ≠ m + 7 → k ≠ m + 11 → k ≠ m + 12 → k ≠ m + 13 → k ≠ m + 14 → M'.1 k = M.1 k) ∧ M'.2 = M.2 ∧ (∀ j, ¬ Z (j / 40) → M'.1 (m + 6) j = M.1 (m + 6) j) ∧ ∀ q, ¬ Z q → M'.1 (m + 7) q = M.1 (m + 7) q
theorem fB.rf {M : mM} {m : Nat} {Z : Nat → Prop} : fB M M m Z := ⟨fun _ _ _ _ _ _ _ _ => rfl, rfl, fun _ _ => rfl, fun _ _ => rfl⟩
theorem fB.tr {M M1 M2 : mM} {m : Nat} {Z : Nat → Prop} (h : fB M M1 m Z) (k : fB M1 M2 m Z) : fB M M2 m Z := ⟨fun q a b c d e f g => (k.1 q a b c d e f g).trans (h.1 q a b c d e f g), k.2.1.trans h.2.1, fun j a => (k.2.2.1 j a).trans (h.2.2.1 j a), fun q a => (k.2.2.2 q a).trans (h.2.2.2 q a)⟩
theorem fB_T {M M1 : mM} {m : Nat} {Z Z' : Nat → Prop} (h : fT M M1 m Z') (k : ∀ q, Z' q → Z q) : fB M M1 m Z := ⟨fun q _ b c d e f g => h.1 q b c d e f g, h.2.1, fun j a => h.2.2.1 j (fun r => a (k _ r)), fun q a => h.2.2.2 q (fun r => a (k _ r))⟩
theorem fB_S {M M1 : mM} {m : Nat} {Z Z' : Nat → Prop} (h : fS M M1 m Z') (k : ∀ q, Z' q → Z q) : fB M M1 m Z := fB_T h.T k
theorem fB.bk {M M1 : mM} {m : Nat} {Z : Nat → Prop} {f : Nat → Int32} (h : fB M M1 m Z) : fB M (mI M1 (m + 1) f) m Z := ⟨fun q a b c d e f g => (mI_n a).trans (h.1 q a b c d e f g), h.2.1, fun j a => by rw [mI_o (by omega)]; exact h.2.2.1 j a, fun q a => by rw [mI_o (by omega)]; exact h.2.2.2 q a⟩
theorem fB_fr {M M' : mM} {m : Nat} {Z : Nat → Prop} (f : fB M M' m Z) : fr M M' m (m + 15) := ⟨fun k hk => f.1 k (by omega) (by omega) (by omega) (by omega) (by omega) (by omega) (by omega), fun k _ => by rw [f.2.1]⟩
theorem MG_fB {M M' : mM} {m r v : Nat} {Z : Nat → Prop} (h : MG M m r v) (f : fB M M' m Z) (hr : ¬ Z r) : MG M' m r v := by
  refine ⟨fun i hi => ?_, ?_, h.2.2⟩
  · rw [f.2.2.1 _ (by rw [q40 hi]; exact hr)]; exact h.1 i hi
  · rw [f.2.2.2 _ hr]; exact h.2.1
theorem MR_fB {M M' : mM} {m : Nat} {S : zS} {Z : Nat → Prop} {s c : Nat → Nat} (h : MR M m S) (f : fB M M' m Z) (z0 : ¬ Z 0) (z1 : ¬ Z 1) (hb : BK M' m s c) : MR M' m (zSt S s c) := by
  obtain ⟨h1, h2, h3, h4, h5, h6⟩ := h
  have e : ∀ k, k ≠ m + 1 → k < m + 6 ∨ (m + 8 ≤ k ∧ k < m + 11) → M'.1 k = M.1 k := fun k k1 hk => f.1 k k1 (by omega) (by omega) (by omega) (by omega) (by omega) (by omega)
  exact ⟨hb, fun i hi => (h2 i hi).ag (e _ (by omega) (by omega)) (e _ (by omega) (by omega)), h3.ag (by rw [e m (by omega) (by omega)]) (e _ (by omega) (by omega)), ⟨MG_fB h4.1 f z0, MG_fB h4.2 f z1⟩, fun k hk => by rw [e _ (by omega) (by omega)]; exact h5 k hk, by rw [e m (by omega) (by omega)]; exact h6⟩
def soS (q : Nat) : Prop := 4 ≤ q
theorem sp7_stood {m t : Nat} {S : zS} {M : mM} {Q : Int32 → mM → Prop} (hS : SW S) (hM : MR M m S) (ht : t < 4) (h1 : sm (tuP (zs S)) 4 ≠ 0 → ∀ M', fr M M' m (m + 15) → MR M' m (zFr S (tuP (zs S) t) (sm (tuP (zs S)) 4)) → Q 1 M') (h0 : sm (tuP (zs S)) 4 = 0 → ∀ M', fr M M' m (m + 15) → MR M' m S → p_X7_no m M' Q) : p_X7_stood m (nI t) M Q := by
  have w := hS.1
  have w7 := w.tn
  have p38 := pw_1638
  refine sp7_inI (lo := 0) (hi := 3) (by decide) (by decide) (fun _ => ⟨fun _ => ?_, fun e => absurd e (by decide)⟩) (fun q => absurd ⟨t, by omega, by omega, rfl⟩ q)
  rintro x2 rfl
  rw [show M.1 (m + 1) (7 : Int32).toNatClampNeg = nI (zs S 7) from hM.1.1 7 (by decide)]
  have so0 : ¬ soS 0 := by unfold soS; omega
  have so1 : ¬ soS 1 := by unfold soS; omega
  refine loopU (A := mM) 4 (fun u a => (nI u, a)) (fun u a => fB M a m soS ∧ (∃ v, BK a m (up (zs S) 7 v) (zc S)) ∧ ∀ u', u' < u → MG a m (8 + u') (tuP (zs S) u')) M rfl ⟨fB.rf, ⟨zs S 7, by rw [up_id]; exact hM.1⟩, fun u' h => absurd h (Nat.not_lt_zero _)⟩ ?_
  rintro u a ag hu ⟨hf, ⟨v, hv⟩, hg⟩ hag
  show p_X7_stood_F27 m (nI t) (nI (zs S 7)) Q ag (nI u) a
  unfold p_X7_stood_F27
  refine ⟨fun q => ?_, fun q => ?_⟩
  · have q := lei (a := 4) (by decide) (by omega) q
    have : u = 4 := by omega
    subst this
    intro M3 e3
    have b3 : BK M3 m (zs S) (zc S) := by
      have := BK.up (k := 7) (v := zs S 7) hv (by decide)
      rw [up_up, up_id] at this
      rw [e3]; exact this
    have F3 : fB M M3 m soS := by rw [e3]; exact hf.bk
    have g3 : ∀ u', u' < 4 → MG M3 m (8 + u') (tuP (zs S) u') := fun u' hu' => by rw [e3]; exact (hg u' hu').ag (mI_n (by omega)) (mI_n (by omega))
    refine sp7_sets (r := 5) (n := 0) (by decide) (by decide) (fun M4 f4 m4 => ?_)
    refine loopU (A := mM) 4 (fun u a => (nI u, a)) (fun u a => fS M3 a m (fun q => q = 5) ∧ MG a m 5 (sm (tuP (zs S)) u)) M4 rfl ⟨f4, m4⟩ ?_
    rintro u a4 ag4 hu4 ⟨hf4, hm4⟩ hag4
    show p_X7_stood_F115 m (nI t) Q ag4 (nI u) a4
    have F4 : fB M a4 m soS := F3.tr (fB_S hf4 (fun q e => by rw [e]; unfold soS; omega))
    have bd := tuS_16 w hu4
    unfold p_X7_stood_F115
    refine ⟨fun q4 => ?_, fun q4 => ?_⟩
    · have q4 := lei (a := 4) (by decide) (by omega) q4
      have : u = 4 := by omega
      subst this
      have R4 : MR a4 m S := MR_fB hM F4 so0 so1 (b3.fS hf4)
      have z5 : a4.1 (m + 7) (5 : Int32).toNatClampNeg = nI (ln (sm (tuP (zs S)) 4)) := hm4.2.1
      have l40 := ln_le (sm (tuP (zs S)) 4)
      rw [z5]
      refine ⟨fun z => ?_, fun z => ?_⟩
      · have z : sm (tuP (zs S)) 4 ≠ 0 := fun e => z (by rw [(ln_ne0 hm4.2.2).mpr e]; rfl)
        rw [show (8 : Int32) + nI t = nI (8 + t) from nI_add 8 t]
        refine sp7_copies (r := 7) (o := 8 + t) (by decide) (by omega) (by omega) ((g3 t ht).fS hf4 (by omega)) (fun M5 f5 m5 => ?_)
        exact sp7_tellsR (MR_fS R4 f5 (by decide) (by decide)) ((fB_fr F4).tr f5.fr) m5 (hm4.fS f5 (by decide)) (by omega) (h1 z)
      · have z : sm (tuP (zs S)) 4 = 0 := (ln_ne0 hm4.2.2).mp (eqi (b := 0) (by omega) (by decide) z)
        exact h0 z a4 (fB_fr F4) R4
    · have q4 := nlei (a := 4) (by decide) (by omega) q4
      have tb := tuP_16 w q4
      rw [show (8 : Int32) + nI u = nI (8 + u) from nI_add 8 u, show nI u + 1 = nI (u + 1) from nI_add u 1]
      refine sp7_adds (r := 5) (o := 8 + u) (by decide) (by omega) (by omega) hm4 ((g3 u q4).fS hf4 (by omega)) (by omega) (by omega) (fun M10 f10 m10 => hag4 q4 M10 ⟨hf4.tr f10, m10⟩)
  · have q := nlei (a := 4) (by decide) (by omega) q
    have wt := WF_turn w q
    have A64 := aA_64 wt
    intro M11 e11
    have b11 : BK M11 m (up (zs S) 7 u) (zc S) := by
      have := BK.up (k := 7) (v := u) hv (by decide)
      rw [up_up] at this
      rw [e11]; exact this
    have F11 : fB M M11 m soS := by rw [e11]; exact hf.bk
    have g11 : ∀ u', u' < u → MG M11 m (8 + u') (tuP (zs S) u') := fun u' hu' => by rw [e11]; exact (hg u' hu').ag (mI_n (by omega)) (mI_n (by omega))
    clear e11
    rw [show (8 : Int32) + nI u = nI (8 + u) from nI_add 8 u]
    refine sp7_sets (r := 8 + u) (n := 1) (by omega) (by decide) (fun M12 f12 m12 => ?_)
    have F12 : fB M M12 m soS := F11.tr (fB_S f12 (fun q e => by rw [e]; unfold soS; omega))
    refine loopU (A := mM) 6 (fun j a => (nI j, a)) (fun j a => fB M a m soS ∧ BK a m (up (zs S) 7 u) (zc S) ∧ (∀ u', u' < u → MG a m (8 + u') (tuP (zs S) u')) ∧ MG a m (8 + u) (pr (aA (up (zs S) 7 u)) j)) M12 rfl ⟨F12, b11.fS f12, fun u' hu' => (g11 u' hu').fS f12 (by omega), m12⟩ ?_
    rintro j a5 ag5 hj ⟨hf5, hb5, hg5, hm5⟩ hag5
    show p_X7_stood_F52 m (nI t) (nI (zs S 7)) (nI u) Q ag ag5 (nI j) a5
    have out : MG a5 m (8 + u) (tuP (zs S) u) → ag (nI u + 1, a5) := by
      intro hm
      rw [show nI u + 1 = nI (u + 1) from nI_add u 1]
      refine hag q a5 ⟨hf5, ⟨u, hb5⟩, fun u' hu' => ?_⟩
      by_cases z : u' = u
      · rw [z]; exact hm
      · exact hg5 u' (by omega)
    unfold p_X7_stood_F52
    rw [show (8 : Int32) + nI u = nI (8 + u) from nI_add 8 u, clp (by omega)]
    refine ⟨fun q5 => ?_, fun q5 => ⟨vin (by omega) (by decide), fun z => ?_, fun z => ?_⟩⟩
    · have q5 := lei (a := 6) (by decide) (by omega) q5
      have : j = 6 := by omega
      subst this
      exact out hm5
    · have z := hm5.w0.mp z
      apply out
      show MG a5 m (8 + u) (pr (aA (up (zs S) 7 u)) 6)
      rw [pr_z6 z hj, ← z]; exact hm5
    · have q5 := nlei (a := 6) (by decide) (by omega) q5
      refine sp7_forth hb5 wt q5 (fun M14 f14 l14 g14 a14 => ?_)
      have p16 := pr_16 A64 (n := j) (by omega)
      have p17 := pr_16 A64 (n := j + 1) (by omega)
      have e1 : pr (aA (up (zs S) 7 u)) (j + 1) = pr (aA (up (zs S) 7 u)) j * aA (up (zs S) 7 u) j := rfl
      rw [e1] at p17
      have a14 : MG M14 m 5 (aA (up (zs S) 7 u) j) := a14
      have hA := A64 j
      have p64 : (18446744073709551616 : Nat) < pw 38 := by decide +kernel
      have m14 : MG M14 m (8 + u) (pr (aA (up (zs S) 7 u)) j) := hm5.fT f14 (by unfold fwS; omega)
      rw [show nI j + 1 = nI (j + 1) from nI_add j 1]
      refine sp7_multiplies (r := 8 + u) (o := 5) (by omega) (by decide) (by omega) (by decide) m14 a14 (by omega) (by omega) (by omega) (fun M16 f16 m16 => ?_)
      refine hag5 q5 M16 ⟨(hf5.tr (fB_T f14 (fun q e => by unfold fwS at e; unfold soS; omega))).tr (fB_S f16 (fun q e => by unfold soS; omega)), (hb5.fT f14).fS f16, fun u' hu' => ((hg5 u' hu').fT f14 (by unfold fwS; omega)).fS f16 (by omega), m16⟩
theorem bo_stood {g m : Nat} {S : zS} (x : Int32) : BO g m S (F_stood x S) (fun M Q => p_X6_stood g x M Q) (fun M Q => p_X7_stood m x M Q) := by
  intro hS
  have w := hS.1
  unfold F_stood
  by_cases ok : iB x 0 3
  · rw [pqI_t ok]
    obtain ⟨u1, _, v1⟩ := iB_v (by decide) ok
    refine ⟨?_, fun M Q hC h => ?_, fun M Q hM h => ?_⟩
    · by_cases z : sm (tuP (zs S)) 4 = 0
      · rw [pqI_t z]; exact SW_rf hS
      · rw [pqI_f z]; exact SW_fc hS
    · clear ok
      show p_X6_stood g x M Q
      generalize vN x = t at *
      subst u1
      refine sp_stood hS hC (by omega) (fun z => ?_) (fun z M' f c => ?_)
      · rw [pqI_f z] at h; exact h
      · rw [pqI_t z] at h; exact sp_told (r := -3) c (fun M2 f2 c2 => h M2 (f.tr f2) c2)
    · clear ok
      show p_X7_stood m x M Q
      generalize vN x = t at *
      subst u1
      refine sp7_stood hS hM (by omega) (fun z => ?_) (fun z M' f c => ?_)
      · rw [pqI_f z] at h; exact h
      · rw [pqI_t z] at h; exact sp7_noR c (fun M2 f2 c2 => h M2 (f.tr f2) c2)
  · rw [pqI_f ok]
    refine ⟨SW_rf hS, fun M Q hC h => ?_, fun M Q hM h => ?_⟩
    · exact sp_within (lo := 0) (hi := 3) (by decide) (by decide) (fun a => absurd a ok) (fun _ => ⟨fun e => absurd rfl e, fun _ => sp_told (r := -2) hC h⟩)
    · exact sp7_inI (lo := 0) (hi := 3) (by decide) (by decide) (fun a => absurd a ok) (fun _ => ⟨fun e => absurd rfl e, fun _ => sp7_badR hM h⟩)
