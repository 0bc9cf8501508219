/-! the row's side: what a trace says, which stacks fit -/
noncomputable def iv (P : Prop) (n : Nat) : Nat := @ite Nat P (Classical.propDecidable P) n 0
theorem iv_t {P : Prop} {n : Nat} (h : P) : iv P n = n := if_pos h
theorem iv_f {P : Prop} {n : Nat} (h : ¬ P) : iv P n = 0 := if_neg h
theorem iv_cg {P P' : Prop} {n : Nat} (h : P ↔ P') : iv P n = iv P' n := by
  by_cases q : P
  · rw [iv_t q, iv_t (h.mp q)]
  · rw [iv_f q, iv_f (fun r => q (h.mpr r))]
def so (s : Nat → Nat) (t d k : Nat) : Prop := match s (61 + 4 * t) with
  | 0 => (gc k = s (62 + 4 * t) + 1 ∧ 0 < lfG s d k) ∨ (uc k = s (62 + 4 * t) + 1 ∧ 0 < lfU s d k)
  | 1 => lit s d k (s (62 + 4 * t))
  | 2 => ¬ lit s d k (s (62 + 4 * t))
  | 3 => lfL s d k ≤ s (62 + 4 * t)
  | 4 => s (62 + 4 * t) ≤ lfL s d k
  | 6 => k ≠ 0
  | _ => True
def lk (s : Nat → Nat) (t wo : Nat) : Prop := s (63 + 4 * t) = 0 ∧ wo / 2 ^ t % 2 = 0
def fit (s : Nat → Nat) (cl k wo : Nat) : Prop := stk s k ∧ ∀ t, t < s 1 → s (60 + 4 * t) = cl → lk s t wo → so s t (cl % 8 / 2) k
noncomputable def edF (s : Nat → Nat) (cl wo : Nat) : Nat → Nat
  | 0 => 0
  | t + 1 => max (edF s cl wo t) (iv (s (60 + 4 * t) = cl ∧ s (61 + 4 * t) = 5 ∧ lk s t wo) (s (62 + 4 * t)))
noncomputable def WW (s : Nat → Nat) (wo cl k : Nat) : Nat := iv (fit s cl k wo) (s (10 + k))
theorem lf_0 {s : Nat → Nat} {d k : Nat} : lf s d k 0 = lfG s d k := rfl
theorem lf_1 {s : Nat → Nat} {d k : Nat} : lf s d k 1 = lfU s d k := rfl
theorem lf_2 {s : Nat → Nat} {d k : Nat} : lf s d k 2 = lfL s d k := rfl
theorem sp7_oS0 {b a : Nat} {s c : Nat → Nat} {M : mM} {Q : Int32 → Prop} (hs : BK M b s c) (w : WF s c) (ha : a < s 0) (h : Q (nI (s (40 + 4 * a)))) : p_X7_ofStuff b (nI a) 0 M Q := sp7_ofStuff (f := 0) hs w ha (by decide) h
theorem sp7_oS1 {b a : Nat} {s c : Nat → Nat} {M : mM} {Q : Int32 → Prop} (hs : BK M b s c) (w : WF s c) (ha : a < s 0) (h : Q (nI (s (41 + 4 * a)))) : p_X7_ofStuff b (nI a) 1 M Q := sp7_ofStuff (f := 1) hs w ha (by decide) h
theorem sp7_oS2 {b a : Nat} {s c : Nat → Nat} {M : mM} {Q : Int32 → Prop} (hs : BK M b s c) (w : WF s c) (ha : a < s 0) (h : Q (nI (s (42 + 4 * a)))) : p_X7_ofStuff b (nI a) 2 M Q := sp7_ofStuff (f := 2) hs w ha (by decide) h
theorem sp7_oS3 {b a : Nat} {s c : Nat → Nat} {M : mM} {Q : Int32 → Prop} (hs : BK M b s c) (w : WF s c) (ha : a < s 0) (h : Q (nI (s (43 + 4 * a)))) : p_X7_ofStuff b (nI a) 3 M Q := sp7_ofStuff (f := 3) hs w ha (by decide) h
theorem sp7_oT0 {b a : Nat} {s c : Nat → Nat} {M : mM} {Q : Int32 → Prop} (hs : BK M b s c) (w : WF s c) (ha : a < s 1) (h : Q (nI (s (60 + 4 * a)))) : p_X7_ofTrace b (nI a) 0 M Q := sp7_ofTrace (f := 0) hs w ha (by decide) h
theorem sp7_oT1 {b a : Nat} {s c : Nat → Nat} {M : mM} {Q : Int32 → Prop} (hs : BK M b s c) (w : WF s c) (ha : a < s 1) (h : Q (nI (s (61 + 4 * a)))) : p_X7_ofTrace b (nI a) 1 M Q := sp7_ofTrace (f := 1) hs w ha (by decide) h
theorem sp7_oT2 {b a : Nat} {s c : Nat → Nat} {M : mM} {Q : Int32 → Prop} (hs : BK M b s c) (w : WF s c) (ha : a < s 1) (h : Q (nI (s (62 + 4 * a)))) : p_X7_ofTrace b (nI a) 2 M Q := sp7_ofTrace (f := 2) hs w ha (by decide) h
theorem sp7_oT3 {b a : Nat} {s c : Nat → Nat} {M : mM} {Q : Int32 → Prop} (hs : BK M b s c) (w : WF s c) (ha : a < s 1) (h : Q (nI (s (63 + 4 * a)))) : p_X7_ofTrace b (nI a) 3 M Q := sp7_ofTrace (f := 3) hs w ha (by decide) h
theorem sp7_bright_J {b cl k l : Nat} {s c : Nat → Nat} {M : mM} {Q : Int32 → Prop} (hs : BK M b s c) (w : WF s c) (hc : cl < 48) (hk : stk s k) (hl : l < 4) (h1 : (uc k ≠ 0 ∧ s (43 + 4 * (uc k - 1)) ≤ lfU s (cl % 8 / 2) k ∧ s (42 + 4 * (uc k - 1)) / 2 ^ l % 2 = 1) → Q 1) (h0 : (¬ (uc k ≠ 0 ∧ s (43 + 4 * (uc k - 1)) ≤ lfU s (cl % 8 / 2) k ∧ s (42 + 4 * (uc k - 1)) / 2 ^ l % 2 = 1)) → Q 0) : p_X7_isBright_J54 b (nI cl) (nI k) (nI l) Q (oI (uc k)) M := by
  have w0 : s 0 ≤ 4 := w.1
  have u4 := hk.2.2
  have lu := lfU_le (d := cl % 8 / 2) w hk
  refine ⟨fun q => absurd rfl q, fun _ => ⟨fun q => ?_, fun q => ?_⟩⟩
  · have q := (oI_eq0 (by omega)).mp q
    exact h0 (fun r => r.1 q)
  · have q : uc k ≠ 0 := fun e => q ((oI_eq0 (by omega)).mpr e)
    have st := w.st (uc k - 1) (by omega)
    unfold wSt at st
    refine sp7_leftOf (what := 1) hs w hc hk (by decide) ?_
    rw [lf_1, show oI (uc k) = nI (uc k - 1) from (by rw [← oI_s]; congr 1; omega)]
    refine sp7_oS3 hs w (by omega) ⟨fun a => ?_, fun a => sp7_oS2 hs w (by omega) ?_⟩
    · have a := lti (by omega) (by omega) a
      exact h0 (fun r => by have := r.2.1; omega)
    · have a := nlti (by omega) (by omega) a
      rw [e_bit _ (by omega) l hl]
      refine ⟨fun e => h0 (fun r => e ?_), fun e => h1 ⟨q, by omega, ?_⟩⟩
      · rw [r.2.2]; rfl
      · exact eqi (b := 1) (by omega) (by decide) e
theorem sp7_isBright {b cl k l : Nat} {s c : Nat → Nat} {M : mM} {Q : Int32 → Prop} (hs : BK M b s c) (w : WF s c) (hc : cl < 48) (hk : stk s k) (hl : l < 4) (h1 : lit s (cl % 8 / 2) k l → Q 1) (h0 : ¬ lit s (cl % 8 / 2) k l → Q 0) : p_X7_isBright b (nI cl) (nI k) (nI l) M Q := by
  have w0 : s 0 ≤ 4 := w.1
  have g4 := hk.2.1
  have lg := lfG_le (d := cl % 8 / 2) w hk
  rw [lit_iff w hk hl] at h1 h0
  refine sp7_groundOf hk.1 (sp7_overOf hk.1 ⟨fun q => ?_, fun q => ?_⟩)
  · have q := (oI_eq0 (by omega)).mp q
    exact sp7_bright_J hs w hc hk hl (fun r => h1 (Or.inr r)) (fun r => h0 (fun x => x.elim (fun y => y.1 q) r))
  · have q : gc k ≠ 0 := fun e => q ((oI_eq0 (by omega)).mpr e)
    have st := w.st (gc k - 1) (by omega)
    unfold wSt at st
    refine sp7_leftOf (what := 0) hs w hc hk (by decide) ?_
    rw [lf_0, show oI (gc k) = nI (gc k - 1) from (by rw [← oI_s]; congr 1; omega)]
    refine sp7_oS3 hs w (by omega) ⟨fun a => ?_, fun a => sp7_oS2 hs w (by omega) ?_⟩
    · have a := lti (by omega) (by omega) a
      exact sp7_bright_J hs w hc hk hl (fun r => h1 (Or.inr r)) (fun r => h0 (fun x => x.elim (fun y => by have := y.2.1; omega) r))
    · have a := nlti (by omega) (by omega) a
      rw [e_bit _ (by omega) l hl]
      refine ⟨fun e => ?_, fun e => ⟨fun _ => h1 (Or.inl ⟨q, by omega, ?_⟩), fun e => absurd e (by decide)⟩⟩
      · exact sp7_bright_J hs w hc hk hl (fun r => h1 (Or.inr r)) (fun r => h0 (fun x => x.elim (fun y => e (by rw [y.2.2]; rfl)) r))
      · exact eqi (b := 1) (by omega) (by decide) e
theorem sp7_so_J {b cl k v : Nat} {p1 : Int32} {s c : Nat → Nat} {M : mM} {Q : Int32 → Prop} (hs : BK M b s c) (w : WF s c) (hc : cl < 48) (hk : stk s k) (hv : v < 4) (h1 : (uc k = v + 1 ∧ 0 < lfU s (cl % 8 / 2) k) → Q 1) (h0 : (¬ (uc k = v + 1 ∧ 0 < lfU s (cl % 8 / 2) k)) → Q 0) : p_X7_isSo_J75 b p1 (nI cl) (nI k) Q (nI v) M := by
  have u4 := uc_le k
  have lu := lfU_le (d := cl % 8 / 2) w hk
  refine sp7_overOf hk.1 ⟨fun q => h0 (fun r => q ((oI_eqn (by omega) (by omega)).mpr r.1)), fun q => sp7_leftOf (what := 1) hs w hc hk (by decide) ⟨fun a => ?_, fun a => ?_⟩⟩
  · have a := lei (b := 0) (by rw [lf_1]; omega) (by decide) a
    rw [lf_1] at a
    exact h0 (fun r => by have := r.2; omega)
  · have a := nlei (b := 0) (by rw [lf_1]; omega) (by decide) a
    rw [lf_1] at a
    exact h1 ⟨(oI_eqn (by omega) (by omega)).mp q, a⟩
theorem kd_ne {n j : Nat} (h : n ≤ 6) (hj : j ≤ 6) (q : ¬ nI n = nI j) : n ≠ j := fun e => q (by rw [e])
theorem sp7_isSo {b t cl k : Nat} {s c : Nat → Nat} {M : mM} {Q : Int32 → Prop} (hs : BK M b s c) (w : WF s c) (ht : t < s 1) (hc : cl < 48) (hk : stk s k) (h1 : so s t (cl % 8 / 2) k → Q 1) (h0 : ¬ so s t (cl % 8 / 2) k → Q 0) : p_X7_isSo b (nI t) (nI cl) (nI k) M Q := by
  have w0 : s 0 ≤ 4 := w.1
  obtain ⟨v1, v2, v3, v4, v5, v6, v7, v8⟩ := w.tr t ht
  have lg := lfG_le (d := cl % 8 / 2) w hk
  have ll := lfL_le w (cl % 8 / 2) k
  have g4 := gc_le hk.1
  unfold so at h1 h0
  refine sp7_oT2 hs w ht (sp7_oT1 hs w ht ?_)
  show (_ ∧ _)
  generalize s (62 + 4 * t) = v at *
  generalize s (61 + 4 * t) = kd at *
  have ks : kd = 0 ∨ kd = 1 ∨ kd = 2 ∨ kd = 3 ∨ kd = 4 ∨ kd = 5 ∨ kd = 6 := by omega
  rcases ks with rfl | rfl | rfl | rfl | rfl | rfl | rfl
  · refine ⟨fun _ => ?_, fun e => absurd e (by decide), fun e => absurd e (by decide), fun e => absurd e (by decide), fun e => absurd e (by decide), fun e => absurd e (by decide), fun e => absurd e (by decide), fun e => absurd rfl e⟩
    have vv := v5 rfl
    refine sp7_groundOf hk.1 ⟨fun q => ?_, fun q => sp7_leftOf (what := 0) hs w hc hk (by decide) ⟨fun a => ?_, fun a => ?_⟩⟩
    · exact sp7_so_J hs w hc hk (by omega) (fun r => h1 (Or.inr r)) (fun r => h0 (fun x => x.elim (fun y => q ((oI_eqn (by omega) (by omega)).mpr y.1)) r))
    · have a := lti (a := 0) (by decide) (by rw [lf_0]; omega) a
      exact h1 (Or.inl ⟨(oI_eqn (by omega) (by omega)).mp q, a⟩)
    · have a := nlti (a := 0) (by decide) (by rw [lf_0]; omega) a
      rw [lf_0] at a
      exact sp7_so_J hs w hc hk (by omega) (fun r => h1 (Or.inr r)) (fun r => h0 (fun x => x.elim (fun y => by have := y.2; omega) r))
  · refine ⟨fun e => absurd e (by decide), fun _ => ?_, fun e => absurd e (by decide), fun e => absurd e (by decide), fun e => absurd e (by decide), fun e => absurd e (by decide), fun e => absurd e (by decide), fun _ e => absurd rfl e⟩
    have vv := v6 rfl
    exact sp7_isBright hs w hc hk (by omega) (fun r => ⟨by decide, h1 r⟩) (fun r => ⟨by decide, h0 r⟩)
  · refine ⟨fun e => absurd e (by decide), fun e => absurd e (by decide), fun _ => ?_, fun e => absurd e (by decide), fun e => absurd e (by decide), fun e => absurd e (by decide), fun e => absurd e (by decide), fun _ _ e => absurd rfl e⟩
    have vv := v7 rfl
    exact sp7_isBright hs w hc hk (by omega) (fun r => ⟨fun _ => h0 (fun x => x r), fun e => absurd e (by decide)⟩) (fun r => ⟨fun e => absurd rfl e, fun _ => h1 r⟩)
  · refine ⟨fun e => absurd e (by decide), fun e => absurd e (by decide), fun e => absurd e (by decide), fun _ => ?_, fun e => absurd e (by decide), fun e => absurd e (by decide), fun e => absurd e (by decide), fun _ _ _ e => absurd rfl e⟩
    refine sp7_leftOf (what := 2) hs w hc hk (by decide) ⟨fun a => ?_, fun a => ?_⟩
    · have a := lti (by omega) (by rw [lf_2]; omega) a
      rw [lf_2] at a
      exact h0 (Nat.not_le.mpr a)
    · have a := nlti (by omega) (by rw [lf_2]; omega) a
      exact h1 a
  · refine ⟨fun e => absurd e (by decide), fun e => absurd e (by decide), fun e => absurd e (by decide), fun e => absurd e (by decide), fun _ => ?_, fun e => absurd e (by decide), fun e => absurd e (by decide), fun _ _ _ _ e => absurd rfl e⟩
    refine sp7_leftOf (what := 2) hs w hc hk (by decide) ⟨fun a => ?_, fun a => ?_⟩
    · have a := lti (by rw [lf_2]; omega) (by omega) a
      rw [lf_2] at a
      exact h0 (Nat.not_le.mpr a)
    · have a := nlti (by rw [lf_2]; omega) (by omega) a
      exact h1 a
  · exact ⟨fun e => absurd e (by decide), fun e => absurd e (by decide), fun e => absurd e (by decide), fun e => absurd e (by decide), fun e => absurd e (by decide), fun _ => h1 trivial, fun e => absurd e (by decide), fun _ _ _ _ _ e => absurd rfl e⟩
  · refine ⟨fun e => absurd e (by decide), fun e => absurd e (by decide), fun e => absurd e (by decide), fun e => absurd e (by decide), fun e => absurd e (by decide), fun e => absurd e (by decide), fun _ => ⟨fun e => h0 (fun r => r ?_), fun e => h1 (fun r => e (by rw [r]; rfl))⟩, fun _ _ _ _ _ _ e => absurd rfl e⟩
    exact eqi (b := 0) (by have := hk.1; omega) (by decide) e
theorem e_sm : ∀ t, t < 31 → ((nI t &&& 31).toBitVec.smod 32).toNat = t := by decide +kernel
theorem e_shr {n t : Nat} (h : n < 2147483648) (ht : t < 31) : ((nI n >>> (nI t &&& 31)) &&& 1) = nI (n / 2 ^ t % 2) := by
  rw [show nI n >>> (nI t &&& 31) = nI (n / 2 ^ t) from pk_shrN h _ t (e_sm t ht)]
  exact nI_and1 (Nat.lt_of_le_of_lt (Nat.div_le_self _ _) (by omega))
theorem e_shz {n t : Nat} (h : n < 2147483648) (ht : t < 31) : ((nI n >>> (nI t &&& 31)) &&& 1) = 0 ↔ n / 2 ^ t % 2 = 0 := by
  rw [e_shr h ht]
  exact nI_eq (b := 0) (by omega) (by decide)
theorem sp7_isLooked {b t wo : Nat} {s c : Nat → Nat} {M : mM} {Q : Int32 → Prop} (hs : BK M b s c) (w : WF s c) (ht : t < s 1) (ho : wo < 1048576) (h1 : lk s t wo → Q 1) (h0 : ¬ lk s t wo → Q 0) : p_X7_isLooked b (nI t) (nI wo) M Q := by
  have w1 := w.2.1
  obtain ⟨v1, v2, v3, v4, v5, v6, v7, v8⟩ := w.tr t ht
  refine sp7_oT3 hs w ht ⟨fun q => h0 (fun r => q ?_), fun q => ⟨fun a => h0 (fun r => a ((e_shz (by omega) (by omega)).mpr r.2)), fun a => h1 ⟨eqi (b := 0) (by omega) (by decide) q, (e_shz (by omega) (by omega)).mp a⟩⟩⟩
  rw [r.1]; rfl
theorem sp7_isFit {b cl k wo : Nat} {s c : Nat → Nat} {M : mM} {Q : Int32 → Prop} (hs : BK M b s c) (w : WF s c) (hc : cl < 48) (hk : k < 21) (ho : wo < 1048576) (h1 : fit s cl k wo → Q 1) (h0 : ¬ fit s cl k wo → Q 0) : p_X7_isFit b (nI cl) (nI k) (nI wo) M Q := by
  have w1 := w.2.1
  have eT : M.1 (b + 1) (1 : Int32).toNatClampNeg = nI (s 1) := hs.1 1 (by decide)
  have lp : ∀ r : Int32, ((r = 1 ∧ stk s k) ∨ (r = 0 ∧ ¬ stk s k)) → Loop (fun ag s => p_X7_isFit_F10 b (nI cl) (nI k) (nI wo) M Q ag s.1 s.2) (r, 0) := by
    intro r hr
    refine loopU (A := Int32) (s 1) (fun i a => (a, nI i)) (fun i a => (a = 1 ∧ stk s k ∧ ∀ t, t < i → s (60 + 4 * t) = cl → lk s t wo → so s t (cl % 8 / 2) k) ∨ (a = 0 ∧ ¬ fit s cl k wo)) r rfl ?_ ?_
    · rcases hr with ⟨e, q⟩ | ⟨e, q⟩
      · exact Or.inl ⟨e, q, fun t ht => absurd ht (Nat.not_lt_zero _)⟩
      · exact Or.inr ⟨e, fun x => q x.1⟩
    · rintro i a ag hi ha hag
      show p_X7_isFit_F10 b (nI cl) (nI k) (nI wo) M Q ag a (nI i)
      unfold p_X7_isFit_F10
      rw [eT]
      refine ⟨fun q => ?_, fun q => ⟨fun z => ?_, fun z => ?_⟩⟩
      · have q := lei (by omega) (by omega) q
        rcases ha with ⟨rfl, e1, e2⟩ | ⟨rfl, e1⟩
        · exact ⟨by decide, h1 ⟨e1, fun t ht => e2 t (by omega)⟩⟩
        · exact ⟨by decide, h0 e1⟩
      · rcases ha with ⟨rfl, e1, e2⟩ | ⟨rfl, e1⟩
        · exact absurd z (by decide)
        · exact ⟨by decide, h0 e1⟩
      · have q := nlei (by omega) (by omega) q
        rcases ha with ⟨rfl, e1, e2⟩ | ⟨rfl, e1⟩
        · obtain ⟨v1, v2, v3, v4, v5, v6, v7, v8⟩ := w.tr i q
          rw [show nI i + 1 = nI (i + 1) from nI_add i 1]
          refine sp7_oT0 hs w q ⟨fun x => hag q 1 (Or.inl ⟨rfl, e1, fun t ht g => ?_⟩), fun x => sp7_isLooked hs w q ho (fun l => ⟨fun z => absurd z (by decide), fun _ => sp7_isSo hs w q hc e1 (fun y => ⟨fun z => absurd z (by decide), fun _ => hag q 1 (Or.inl ⟨rfl, e1, fun t ht g => ?_⟩)⟩) (fun y => ⟨fun _ => hag q 0 (Or.inr ⟨rfl, fun z => y (z.2 i q (eqi (by omega) (by omega) x) l)⟩), fun z => absurd rfl z⟩)⟩) (fun l => ⟨fun _ => hag q 1 (Or.inl ⟨rfl, e1, fun t ht g => ?_⟩), fun z => absurd rfl z⟩)⟩
          · rcases Nat.lt_or_ge t i with j | j
            · exact e2 t j g
            · have : t = i := by omega
              subst this
              exact absurd (by rw [g]) x
          · rcases Nat.lt_or_ge t i with j | j
            · exact e2 t j g
            · have : t = i := by omega
              subst this
              exact fun _ => y
          · rcases Nat.lt_or_ge t i with j | j
            · exact e2 t j g
            · have : t = i := by omega
              subst this
              exact fun r => absurd r l
        · exact absurd rfl z
  exact sp7_isStack hs w (fun k' e q => lp 1 (Or.inl ⟨rfl, by have e := eqi (by omega) (by have := q.1; omega) e; subst e; exact q⟩)) (fun e => lp 0 (Or.inr ⟨rfl, fun q => e ⟨k, rfl, q⟩⟩))
/-- all but some cells stay, and all longs -/
def fq (M M' : mM) (S : Nat → Prop) : Prop := (∀ k, ¬ S k → M'.1 k = M.1 k) ∧ M'.2 = M.2
theorem fq.rf {M : mM} {S : Nat → Prop} : fq M M S := ⟨fun _ _ => rfl, rfl⟩
theorem fq.tr {M M1 M2 : mM} {S : Nat → Prop} (h : fq M M1 S) (g : fq M1 M2 S) : fq M M2 S := ⟨fun k q => (g.1 k q).trans (h.1 k q), g.2.trans h.2⟩
theorem fq.wd {M M1 : mM} {S S' : Nat → Prop} (h : fq M M1 S) (g : ∀ k, S k → S' k) : fq M M1 S' := ⟨fun k q => h.1 k (fun r => q (g k r)), h.2⟩
theorem fq.mI {M M1 : mM} {S : Nat → Prop} {k : Nat} {f : Nat → Int32} (h : fq M M1 S) (hk : S k) : fq M (mI M1 k f) S := ⟨fun q hq => (mI_n (fun e => hq (by rw [e]; exact hk))).trans (h.1 q hq), h.2⟩
theorem BK.fq {M M' : mM} {b : Nat} {s c : Nat → Nat} {S : Nat → Prop} (h : BK M b s c) (f : fq M M' S) (hn : ¬ S (b + 1)) : BK M' b s c := by
  refine ⟨fun i hi => ?_, fun i hi => ?_⟩
  · rw [f.1 _ hn]; exact h.1 i hi
  · rw [f.1 _ hn]; exact h.2 i hi
