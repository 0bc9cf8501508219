/-! the row's weights, losses and edges of a hem -/
def eI (n : Nat) : Int32 := if n = 0 then -1 else nI n
theorem eI_0 : eI 0 = -1 := rfl
theorem eI_p {n : Nat} (h : n ≠ 0) : eI n = nI n := if_neg h
theorem edF_le {s c : Nat → Nat} (w : WF s c) {cl wo : Nat} : ∀ t, t ≤ s 1 → edF s cl wo t ≤ 400
  | 0, _ => Nat.zero_le _
  | t + 1, h => by
    have h1 := edF_le w (cl := cl) (wo := wo) t (by omega)
    obtain ⟨v1, v2, v3, v4, v5, v6, v7, v8⟩ := w.tr t (by omega)
    unfold edF
    refine Nat.max_le.mpr ⟨h1, ?_⟩
    by_cases q : s (60 + 4 * t) = cl ∧ s (61 + 4 * t) = 5 ∧ lk s t wo
    · rw [iv_t q]; exact v3
    · rw [iv_f q]; omega
theorem edF_n {s : Nat → Nat} {cl wo t : Nat} (q : ¬ (s (60 + 4 * t) = cl ∧ s (61 + 4 * t) = 5 ∧ lk s t wo)) : edF s cl wo (t + 1) = edF s cl wo t := by
  rw [edF, iv_f q, Nat.max_eq_left (Nat.zero_le _)]
theorem edF_y {s : Nat → Nat} {cl wo t : Nat} (q : s (60 + 4 * t) = cl ∧ s (61 + 4 * t) = 5 ∧ lk s t wo) : edF s cl wo (t + 1) = max (edF s cl wo t) (s (62 + 4 * t)) := by
  rw [edF, iv_t q]
noncomputable def loS (s : Nat → Nat) (p k : Nat) : Nat := iv (stk s k) (lfL s (p / 2) k)
def LOR (M : mM) (m : Nat) (s : Nat → Nat) (hem wo p K : Nat) : Prop := ∀ k, k < K → M.1 (m + 11) (21 * p + k) = nI (WW s wo (8 * hem + p) k) ∧ M.1 (m + 12) (21 * p + k) = nI (loS s p k)
def LOK (M : mM) (m : Nat) (s : Nat → Nat) (hem wo P : Nat) : Prop := ∀ p, p < P → M.1 (m + 13) p = eI (edF s (8 * hem + p) wo (s 1)) ∧ LOR M m s hem wo p 21
def lkS (m : Nat) (k : Nat) : Prop := k = m + 11 ∨ k = m + 12 ∨ k = m + 13
theorem c21 (p k : Nat) : ((21 : Int32) * nI p) + nI k = nI (21 * p + k) := by
  rw [show (21 : Int32) * nI p = nI (21 * p) from pk_mul 21 p, nI_add]
theorem sp7_looks {m hem wo : Nat} {s c : Nat → Nat} {M : mM} {Q : mM → Prop} (hs : BK M m s c) (w : WF s c) (hh : hem < 6) (ho : wo < 1048576) (h : ∀ M', fq M M' (lkS m) → LOK M' m s hem wo 8 → Q M') : p_X7_looks m (nI hem) (nI wo) M Q := by
  have w1 := w.2.1
  have nb : ¬ lkS m (m + 1) := by unfold lkS; omega
  refine loopU (A := mM) 8 (fun p a => (nI p, a)) (fun p a => fq M a (lkS m) ∧ LOK a m s hem wo p) M rfl ⟨fq.rf, fun p hp => absurd hp (Nat.not_lt_zero _)⟩ ?_
  rintro p a ag hp ⟨hf, hl⟩ hag
  show p_X7_looks_F2 m (nI hem) (nI wo) Q ag (nI p) a
  unfold p_X7_looks_F2
  refine ⟨fun q => ?_, fun q => ⟨?_, ?_⟩⟩
  · have q := lei (a := 8) (by decide) (by omega) q
    have : p = 8 := by omega
    subst this
    exact h a hf hl
  · exact vin (nlei (a := 8) (by decide) (by omega) q) (by decide)
  have q := nlei (a := 8) (by decide) (by omega) q
  rintro M1 rfl
  rw [clp (by omega), show (8 : Int32) * nI hem = nI (8 * hem) from pk_mul 8 hem, nI_add]
  have hcl : 8 * hem + p < 48 := by omega
  have hd : (8 * hem + p) % 8 / 2 = p / 2 := by omega
  have hl0 : ∀ x, LOK (mI a (m + 13) (upd (a.1 (m + 13)) p x)) m s hem wo p := by
    intro x p' hp'
    refine ⟨?_, fun k hk => ?_⟩
    · rw [mI_s, updN (by omega)]; exact (hl p' hp').1
    · rw [mI_o (by omega), mI_o (by omega)]; exact (hl p' hp').2 k hk
  refine loopU (A := mM) (s 1) (fun t a => (nI t, a)) (fun t a => fq M a (lkS m) ∧ LOK a m s hem wo p ∧ a.1 (m + 13) p = eI (edF s (8 * hem + p) wo t)) _ rfl ⟨hf.mI (Or.inr (Or.inr rfl)), hl0 _, by rw [mI_s, updS]; rfl⟩ ?_
  rintro t a1 ag1 ht ⟨hf1, hl1, he1⟩ hag1
  show p_X7_looks_F26 m (nI hem) (nI wo) (nI p) (nI (8 * hem + p)) Q ag ag1 (nI t) a1
  have hb1 := hs.fq hf1 nb
  have eT : a1.1 (m + 1) (1 : Int32).toNatClampNeg = nI (s 1) := hb1.1 1 (by decide)
  unfold p_X7_looks_F26
  rw [eT]
  refine ⟨fun q1 => ?_, fun q1 => ?_⟩
  · have q1 := lei (by omega) (by omega) q1
    have : t = s 1 := by omega
    subst this
    refine loopU (A := mM) 21 (fun k a => (nI k, a)) (fun k a => fq M a (lkS m) ∧ LOK a m s hem wo p ∧ a.1 (m + 13) p = eI (edF s (8 * hem + p) wo (s 1)) ∧ LOR a m s hem wo p k) a1 rfl ⟨hf1, hl1, he1, fun k hk => absurd hk (Nat.not_lt_zero _)⟩ ?_
    rintro k a2 ag2 hk ⟨hf2, hl2, he2, hr2⟩ hag2
    show p_X7_looks_F117 m (nI hem) (nI wo) (nI p) (nI (8 * hem + p)) Q ag ag2 (nI k) a2
    unfold p_X7_looks_F117
    refine ⟨fun q2 => ?_, fun q2 => ?_⟩
    · have q2 := lei (a := 21) (by decide) (by omega) q2
      have : k = 21 := by omega
      subst this
      rw [show nI p + 1 = nI (p + 1) from nI_add p 1]
      refine hag q a2 ⟨hf2, fun p' hp' => ?_⟩
      rcases Nat.lt_or_ge p' p with j | j
      · exact hl2 p' j
      · have : p' = p := by omega
        subst this
        exact ⟨he2, hr2⟩
    · have q2 := nlei (a := 21) (by decide) (by omega) q2
      have hb2 := hs.fq hf2 nb
      have step : ∀ x : Nat, x = WW s wo (8 * hem + p) k → p_X7_looks_J161 m (nI hem) (nI wo) Q ag ag2 (nI p) (nI (8 * hem + p)) (nI k) (nI x) (nI (21 * p + k)) a2 := by
        intro x hx
        refine ⟨vin (by omega) (by decide), ?_⟩
        rintro M4 rfl
        rw [clp (by omega)]
        have hf4 : fq M (mI a2 (m + 11) (upd (a2.1 (m + 11)) (21 * p + k) (nI x))) (lkS m) := hf2.mI (Or.inl rfl)
        have hb4 := hs.fq hf4 nb
        have fin : ∀ y : Nat, y = loS s p k → vp_in (((21 : Int32) * nI p) + nI k) 168 ∧ ∀ M7 : mM, M7 = mI (mI a2 (m + 11) (upd (a2.1 (m + 11)) (21 * p + k) (nI x))) (m + 12) (upd ((mI a2 (m + 11) (upd (a2.1 (m + 11)) (21 * p + k) (nI x))).1 (m + 12)) (((21 : Int32) * nI p) + nI k).toNatClampNeg (nI y)) → ag2 (nI k + 1, M7) := by
          intro y hy
          rw [c21, clp (by omega)]
          refine ⟨vin (by omega) (by decide), ?_⟩
          rintro M7 rfl
          rw [show nI k + 1 = nI (k + 1) from nI_add k 1]
          refine hag2 q2 _ ⟨hf4.mI (Or.inr (Or.inl rfl)), fun p' hp' => ⟨?_, fun k' hk' => ⟨?_, ?_⟩⟩, ?_, fun k' hk' => ⟨?_, ?_⟩⟩
          · rw [mI_o (by omega), mI_o (by omega)]; exact (hl2 p' hp').1
          · rw [mI_o (by omega), mI_s, updN (by omega)]; exact ((hl2 p' hp').2 k' hk').1
          · rw [mI_s, updN (by omega), mI_o (by omega)]; exact ((hl2 p' hp').2 k' hk').2
          · rw [mI_o (by omega), mI_o (by omega)]; exact he2
          · rw [mI_o (by omega), mI_s]
            rcases Nat.lt_or_ge k' k with j | j
            · rw [updN (by omega)]; exact (hr2 k' j).1
            · have : k' = k := by omega
              subst this
              rw [updS, hx]
          · rw [mI_s]
            rcases Nat.lt_or_ge k' k with j | j
            · rw [updN (by omega), mI_o (by omega)]; exact (hr2 k' j).2
            · have : k' = k := by omega
              subst this
              rw [updS, hy]
        refine sp7_isStack hb4 w (fun k' e g => ⟨fun z => absurd z (by decide), fun _ => ?_⟩) (fun g => ⟨fun _ => fin 0 ?_, fun z => absurd rfl z⟩)
        · have e := eqi (by omega) (by have := g.1; omega) e
          subst e
          refine sp7_leftOf (what := 2) hb4 w hcl g (by decide) (fin _ ?_)
          rw [lf_2, hd, loS, iv_t g]
        · rw [loS, iv_f (fun r => g ⟨k, rfl, r⟩)]
      rw [c21]
      refine sp7_isFit hb2 w hcl q2 ho (fun g => ⟨fun z => absurd z (by decide), fun _ => ?_⟩) (fun g => ⟨fun _ => step 0 (by rw [WW, iv_f g]), fun z => absurd rfl z⟩)
      rw [show (10 : Int32) + nI k = nI (10 + k) from nI_add 10 k, clp (by omega), hb2.1 _ (by omega)]
      exact ⟨vin (by omega) (by decide), step _ (by rw [WW, iv_t g])⟩
  · have q1 := nlei (by omega) (by omega) q1
    obtain ⟨v1, v2, v3, v4, v5, v6, v7, v8⟩ := w.tr t q1
    have el := edF_le w (cl := 8 * hem + p) (wo := wo) t (by omega)
    rw [show nI t + 1 = nI (t + 1) from nI_add t 1]
    refine sp7_oT0 hb1 w q1 ⟨fun x => hag1 q1 a1 ⟨hf1, hl1, ?_⟩, fun x => sp7_oT1 hb1 w q1 ⟨fun y => hag1 q1 a1 ⟨hf1, hl1, ?_⟩, fun y => sp7_isLooked hb1 w q1 ho (fun z => ⟨fun e => absurd e (by decide), fun _ => sp7_oT2 hb1 w q1 ⟨vin q (by decide), fun e => ⟨vin q (by decide), vin q (by decide), ?_⟩, fun e => sp7_oT2 hb1 w q1 ⟨vin q (by decide), ?_⟩⟩⟩) (fun z => ⟨fun _ => hag1 q1 a1 ⟨hf1, hl1, ?_⟩, fun e => absurd rfl e⟩)⟩⟩
    · rw [edF_n (fun r => x (by rw [r.1]))]; exact he1
    · rw [edF_n (fun r => y (by rw [r.2.1]; rfl))]; exact he1
    · rintro M19 rfl
      have x := eqi (by omega) (by omega) x
      have y := eqi (b := 5) (by omega) (by decide) y
      have v8 := (v8 y).1
      rw [clp (by omega), he1] at e ⊢
      refine hag1 q1 _ ⟨hf1.mI (Or.inr (Or.inr rfl)), fun p' hp' => ⟨?_, fun k' hk' => ?_⟩, ?_⟩
      · rw [mI_s, updN (by omega)]; exact (hl1 p' hp').1
      · rw [mI_o (by omega), mI_o (by omega)]; exact (hl1 p' hp').2 k' hk'
      · rw [mI_s, updS, edF_y ⟨x, y, z⟩]
        by_cases n0 : edF s (8 * hem + p) wo t = 0
        · exfalso
          rw [n0, eI_0, jI_n, show (-1 : Int32) = jI (-1) from rfl, jI_le (by omega) (by omega) (by decide) (by decide)] at e
          omega
        · rw [eI_p n0] at e
          have e := lei (by omega) (by omega) e
          rw [Nat.max_eq_left e]
    · rintro M22 rfl
      have x := eqi (by omega) (by omega) x
      have y := eqi (b := 5) (by omega) (by decide) y
      have v8 := (v8 y).1
      rw [clp (by omega)] at e ⊢
      rw [he1] at e
      refine hag1 q1 _ ⟨hf1.mI (Or.inr (Or.inr rfl)), fun p' hp' => ⟨?_, fun k' hk' => ?_⟩, ?_⟩
      · rw [mI_s, updN (by omega)]; exact (hl1 p' hp').1
      · rw [mI_o (by omega), mI_o (by omega)]; exact (hl1 p' hp').2 k' hk'
      · rw [mI_s, updS, edF_y ⟨x, y, z⟩]
        have g : edF s (8 * hem + p) wo t ≤ s (62 + 4 * t) := by
          by_cases n0 : edF s (8 * hem + p) wo t = 0
          · omega
          · rw [eI_p n0] at e
            have e := nlei (by omega) (by omega) e
            omega
        rw [Nat.max_eq_right g, eI_p (by omega)]
    · rw [edF_n (fun r => z r.2.2)]; exact he1
