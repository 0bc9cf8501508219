/-! the likeliest row: numbers and the class -/
theorem lN_le63 {a b : Nat} (ha : a < 9223372036854775808) (hb : b < 9223372036854775808) : lN a ≤ lN b ↔ a ≤ b := by
  rw [Int64.le_iff_toInt_le, pf_lI ha, pf_lI hb]
  omega
def bs (V : Nat → Nat) : Nat → Nat
  | 0 => 0
  | n + 1 => if V (bs V n) < V n then n else bs V n
theorem bs_lt (V : Nat → Nat) : ∀ n, 0 < n → bs V n < n
  | 0, h => absurd h (Nat.lt_irrefl 0)
  | n + 1, _ => by
    unfold bs
    rcases Nat.eq_zero_or_pos n with z | z
    · subst z
      show (if V 0 < V 0 then 0 else 0) < 1
      rw [if_neg (Nat.lt_irrefl _)]; decide
    · have := bs_lt V n z
      split <;> omega
theorem bs_mx (V : Nat → Nat) : ∀ n, 0 < n → V (bs V n) = mx V n
  | 0, h => absurd h (Nat.lt_irrefl 0)
  | n + 1, _ => by
    rcases Nat.eq_zero_or_pos n with z | z
    · subst z
      show V (if V 0 < V 0 then 0 else 0) = max 0 (V 0)
      rw [if_neg (Nat.lt_irrefl _)]; omega
    · have h := bs_mx V n z
      show V (if V (bs V n) < V n then n else bs V n) = max (mx V n) (V n)
      rw [h]
      by_cases y : mx V n < V n
      · rw [if_pos y]; omega
      · rw [if_neg y, h]; omega
theorem mx_cg {f g : Nat → Nat} : ∀ {n : Nat}, (∀ i, i < n → f i = g i) → mx f n = mx g n
  | 0, _ => rfl
  | n + 1, h => by unfold mx; rw [mx_cg (fun i hi => h i (by omega)), h n (by omega)]
noncomputable def xX (s : Nat → Nat) (hem p k : Nat) : Nat := XX (wg s 0 hem) (gg s 0 hem) p k
noncomputable def vV (s : Nat → Nat) (hem p b k : Nat) : Nat := xX s hem p k * (if p = 0 then 1 else g0 s hem (p - 1) (b - 1) k)
noncomputable def pth (s : Nat → Nat) (hem : Nat) : Nat → Nat
  | 0 => 0
  | p + 1 => bs (vV s hem p (pth s hem p)) 21 + 1
theorem XJ_63 {wt : Nat → Nat → Nat} {g : Nat → Nat → Nat → Nat} (h : okW wt g) : ∀ j k, XJ wt g j k ≤ 9 * 81 ^ j
  | 0, k => h.1 7 k
  | j + 1, k => by
    unfold XJ
    refine Nat.le_trans (Nat.mul_le_mul (mx_le (c := 9 * 81 ^ j * 9) (fun a _ => Nat.mul_le_mul (XJ_63 h j a) (h.2 _ _ _))) (h.1 _ _)) ?_
    rw [Nat.pow_succ]
    omega
theorem xX_le {s c : Nat → Nat} (w : WF s c) (hem p k : Nat) : xX s hem p k ≤ 9 * 81 ^ 7 := by
  unfold xX XX
  refine Nat.le_trans (XJ_63 (okG w 0 hem) _ k) (Nat.mul_le_mul_left _ (Nat.pow_le_pow_right (by decide) (by omega)))
theorem vV_le {s c : Nat → Nat} (w : WF s c) (hem p b k : Nat) : vV s hem p b k < 9223372036854775808 := by
  have h1 := xX_le w hem p k
  have h2 : (if p = 0 then 1 else g0 s hem (p - 1) (b - 1) k) ≤ 9 := by
    split
    · decide
    · exact (okG w 0 hem).2 _ _ _
  have h3 := Nat.mul_le_mul h1 h2
  exact Nat.lt_of_le_of_lt h3 (by decide +kernel)
theorem xX_7 (s : Nat → Nat) (hem k : Nat) : xX s hem 7 k = w0 s hem 7 k := XX_7
theorem xX_s {s : Nat → Nat} {hem p k : Nat} (h : p < 7) : xX s hem p k = mx (vV s hem (p + 1) (k + 1)) 21 * w0 s hem p k := by
  unfold xX
  rw [XX_s h]
  show mx (fun b => XX (wg s 0 hem) (gg s 0 hem) (p + 1) b * gg s 0 hem p k b) 21 * wg s 0 hem p k = _
  rw [mx_cg (g := vV s hem (p + 1) (k + 1)) (fun b _ => ?_)]
  · rfl
  · show _ = XX (wg s 0 hem) (gg s 0 hem) (p + 1) b * (if p + 1 = 0 then 1 else gg s 0 hem (p + 1 - 1) (k + 1 - 1) b)
    rw [if_neg (by omega), Nat.add_sub_cancel, Nat.add_sub_cancel]
theorem xX_w {s : Nat → Nat} {hem p k : Nat} (hp : p < 8) (h : xX s hem p k ≠ 0) : w0 s hem p k ≠ 0 := by
  intro e
  apply h
  rcases Nat.lt_or_ge p 7 with z | z
  · rw [xX_s z, e, Nat.mul_zero]
  · rw [show p = 7 by omega, xX_7, ← show p = 7 by omega]; exact e
theorem mx_ps {f : Nat → Nat} {n i : Nat} (hi : i < n) (h : 0 < f i) : 0 < mx f n := Nat.lt_of_lt_of_le h (mx_ge hi)
theorem xX_back {s : Nat → Nat} {hem : Nat} : ∀ p, p ≤ 7 → ∀ k, k < 21 → 0 < aF s hem p k → 0 < xX s hem p k → ∃ k0, k0 < 21 ∧ 0 < xX s hem 0 k0
  | 0, _, k, hk, _, h => ⟨k, hk, h⟩
  | p + 1, hp, k, hk, hF, hX => by
    obtain ⟨h1, a, ha, h2, h3⟩ := FF_ps.mp hF
    refine xX_back p (by omega) a ha h2 ?_
    have wa : 0 < w0 s hem p a := by
      have := aF_A s hem p a
      have h2 : 0 < aF s hem p a := h2
      rw [this] at h2
      exact Nat.pos_of_mul_pos_right h2
    rw [xX_s (by omega)]
    refine Nat.mul_pos (mx_ps hk ?_) wa
    unfold vV
    rw [if_neg (by omega), Nat.add_sub_cancel, Nat.add_sub_cancel]
    exact Nat.mul_pos hX h3
theorem xX_0 {s : Nat → Nat} {hem : Nat} (nz : aA s hem ≠ 0) : ∃ k0, k0 < 21 ∧ 0 < xX s hem 0 k0 := by
  obtain ⟨k, hk, hF⟩ := AL_nz.mp nz
  refine xX_back 7 (Nat.le_refl _) k hk hF ?_
  rw [xX_7]
  have := aF_A s hem 7 k
  have hF : 0 < aF s hem 7 k := hF
  rw [this] at hF
  exact Nat.pos_of_mul_pos_right hF
theorem pth_ps {s : Nat → Nat} {hem : Nat} (nz : aA s hem ≠ 0) : ∀ p, p < 8 → 0 < mx (vV s hem p (pth s hem p)) 21
  | 0, _ => by
    obtain ⟨k0, h1, h2⟩ := xX_0 nz
    refine mx_ps h1 ?_
    show 0 < xX s hem 0 k0 * (if (0 : Nat) = 0 then 1 else _)
    rw [if_pos rfl, Nat.mul_one]; exact h2
  | p + 1, hp => by
    have h := pth_ps nz p (by omega)
    rw [← bs_mx _ 21 (by decide)] at h
    have hx : 0 < xX s hem p (bs (vV s hem p (pth s hem p)) 21) := Nat.pos_of_mul_pos_right h
    rw [xX_s (by omega)] at hx
    exact Nat.pos_of_mul_pos_right hx
theorem pth_k {s : Nat → Nat} {hem : Nat} (nz : aA s hem ≠ 0) {p : Nat} (hp : p < 8) : pth s hem (p + 1) - 1 < 21 ∧ stk s (pth s hem (p + 1) - 1) := by
  have h := pth_ps nz p hp
  rw [← bs_mx _ 21 (by decide)] at h
  have hx : 0 < xX s hem p (bs (vV s hem p (pth s hem p)) 21) := Nat.pos_of_mul_pos_right h
  show bs (vV s hem p (pth s hem p)) 21 + 1 - 1 < 21 ∧ stk s (bs (vV s hem p (pth s hem p)) 21 + 1 - 1)
  rw [Nat.add_sub_cancel]
  exact ⟨bs_lt _ 21 (by decide), w0_s (xX_w hp (Nat.pos_iff_ne_zero.mp hx))⟩
theorem pth_s (s : Nat → Nat) (hem p : Nat) : pth s hem (p + 1) = bs (vV s hem p (pth s hem p)) 21 + 1 := rfl
def MO (M : mM) (b : Nat) (s : Nat → Nat) (hem p : Nat) : Prop := ∀ k, k < 21 → M.2 (b + 42 + p) k = lN (xX s hem p k)
theorem sp_mostNext {b hem p k pb : Nat} {s c : Nat → Nat} {M : mM} {Q : Int64 → Prop} (w : WF s c) (hL : HL M b s hem) (hS : HS M b s hem 0) (hp : p < 8) (hk : k < 21) (hb : pb ≤ 21) (hbs : p ≠ 0 → pb ≠ 0 ∧ stk s (pb - 1)) (hX : MO M b s hem p) (h : Q (lN (vV s hem p pb k))) : p_X1_mostNext b (nI p) (nI k) (oI pb) M Q := by
  have v1 := vin hp (by decide)
  have v2 := vin hk (by decide)
  unfold p_X1_mostNext
  rw [clp (show p < 2147483648 by omega), clp (show k < 2147483648 by omega), hX k hk]
  unfold vV at h
  refine ⟨fun e => ⟨v1, v2, ?_⟩, fun e => ⟨fun f => ⟨v1, v2, ?_⟩, fun f => ?_⟩⟩
  · rw [if_pos (eqi (b := 0) (by omega) (by decide) e), Nat.mul_one] at h; exact h
  · have e : p ≠ 0 := fun r => e (by rw [r]; rfl)
    obtain ⟨b1, b2⟩ := hbs e
    rw [if_neg e] at h
    rw [show nI p - 1 = nI (p - 1) from pk_sub (b := 1) (by omega), oI_p b1]
    by_cases sk : stk s k
    · refine sp_joint w hL hS (by omega) b2 sk ?_
      have g9 := (okG w 0 hem).2 (p - 1) (pb - 1) k
      rw [nI_ll (by unfold g0; omega), lN_mul]; exact h
    · have x0 : xX s hem p k = 0 := by
        rcases Nat.eq_zero_or_pos (xX s hem p k) with z | z
        · exact z
        · exact absurd (w0_s (xX_w hp (Nat.pos_iff_ne_zero.mp z))) sk
      rw [x0, Nat.zero_mul] at h
      rw [x0]
      refine sp_jointA (s := s) (c := c) hS (by omega) (by have := b2.1; omega) hk (fun r => ?_)
      rw [show lN 0 * r.toInt64 = lN 0 from Int64.zero_mul]; exact h
  · have e : p ≠ 0 := fun r => e (by rw [r]; rfl)
    exact absurd ((oI_eq0 (by omega)).mp f) (hbs e).1
theorem sp_mostNextA {b hem p k j : Nat} {s c : Nat → Nat} {M : mM} {Q : Int64 → Prop} (w : WF s c) (hS : HS M b s hem 0) (hp : p < 8) (hk : k < 21) (hj : j < 21) (h : ∀ r, Q r) : p_X1_mostNext b (nI p) (nI k) (nI j) M Q := by
  have v1 := vin hp (by decide)
  have v2 := vin hk (by decide)
  unfold p_X1_mostNext
  refine ⟨fun e => ⟨v1, v2, h _⟩, fun e => ⟨fun f => ⟨v1, v2, ?_⟩, fun f => ⟨v1, v2, h _⟩⟩⟩
  have e : p ≠ 0 := fun r => e (by rw [r]; rfl)
  rw [show nI p - 1 = nI (p - 1) from pk_sub (b := 1) (by omega)]
  exact sp_jointA (s := s) (c := c) hS (by omega) hj hk (fun r => h _)
theorem sp_bestNext {b hem p pb : Nat} {s c : Nat → Nat} {M : mM} {Q : Int32 → Prop} (w : WF s c) (hL : HL M b s hem) (hS : HS M b s hem 0) (hp : p < 8) (hb : pb ≤ 21) (hbs : p ≠ 0 → pb ≠ 0 ∧ stk s (pb - 1)) (hX : MO M b s hem p) (h : Q (nI (bs (vV s hem p pb) 21))) : p_X1_bestNext b (nI p) (oI pb) M Q := by
  refine loopU (A := Unit) 20 (fun i _ => (nI (bs (vV s hem p pb) (i + 1)), nI (i + 1))) (fun _ _ => True) () ?_ trivial ?_
  · show (nI (bs (vV s hem p pb) 1), nI 1) = ((0 : Int32), (1 : Int32))
    have e : bs (vV s hem p pb) 1 = 0 := by
      have := bs_lt (vV s hem p pb) 1 (by decide)
      omega
    rw [e]; rfl
  rintro i _ ag hi _ hag
  show p_X1_bestNext_F5 b (nI p) (oI pb) M Q ag (nI (bs (vV s hem p pb) (i + 1))) (nI (i + 1))
  have bl := bs_lt (vV s hem p pb) (i + 1) (by omega)
  unfold p_X1_bestNext_F5
  refine ⟨fun q => ?_, fun q => ?_⟩
  · have q := lei (a := 21) (by decide) (by omega) q
    have : i = 20 := by omega
    subst this
    exact h
  · have q := nlei (a := 21) (by decide) (by omega) q
    refine sp_mostNext w hL hS hp q hb hbs hX (sp_mostNext w hL hS hp (by omega) hb hbs hX ?_)
    rw [lN_le63 (vV_le w _ _ _ _) (vV_le w _ _ _ _), show nI (i + 1) + 1 = nI (i + 1 + 1) from nI_add _ 1]
    have go := hag (by omega) () trivial
    have e1 : bs (vV s hem p pb) (i + 1 + 1) = if vV s hem p pb (bs (vV s hem p pb) (i + 1)) < vV s hem p pb (i + 1) then i + 1 else bs (vV s hem p pb) (i + 1) := rfl
    rw [e1] at go
    refine ⟨fun z => ?_, fun z => ?_⟩
    · rw [if_neg (by omega)] at go; exact go
    · rw [if_pos (by omega)] at go; exact go
theorem sp_bestNextA {b hem p j : Nat} {s c : Nat → Nat} {M : mM} {Q : Int32 → Prop} (w : WF s c) (hS : HS M b s hem 0) (hp : p < 8) (hj : j < 21) (h : ∀ k, k < 21 → Q (nI k)) : p_X1_bestNext b (nI p) (nI j) M Q := by
  refine loopU (A := Nat) 20 (fun i a => (nI a, nI (i + 1))) (fun _ a => a < 21) 0 rfl (by decide) ?_
  rintro i a ag hi ha hag
  show p_X1_bestNext_F5 b (nI p) (nI j) M Q ag (nI a) (nI (i + 1))
  unfold p_X1_bestNext_F5
  refine ⟨fun q => h a ha, fun q => ?_⟩
  have q := nlei (a := 21) (by decide) (by omega) q
  refine sp_mostNextA w hS hp q hj (fun r1 => sp_mostNextA w hS hp ha hj (fun r2 => ?_))
  rw [show nI (i + 1) + 1 = nI (i + 1 + 1) from nI_add _ 1]
  exact ⟨fun _ => hag (by omega) a ha, fun _ => hag (by omega) (i + 1) q⟩
def msS (b k : Nat) : Prop := b + 42 ≤ k ∧ k < b + 50
theorem sp_reckonMost {b hem : Nat} {s c : Nat → Nat} {M : mM} {Q : mM → Prop} (w : WF s c) (hL : HL M b s hem) (hS : HS M b s hem 0) (h : ∀ M', fL M M' b (msS b) → (∀ p, p < 8 → MO M' b s hem p) → Q M') : p_X1_reckonMost b M Q := by
  refine loopD (A := mM) 8 (fun i a => (oI i, a)) (fun i a => fL M a b (msS b) ∧ ∀ p, i ≤ p → p < 8 → MO a b s hem p) M rfl ⟨fL.rf, fun p h1 h2 => absurd h1 (by omega)⟩ ?_
  rintro i a ag hi ⟨hf, hg⟩ hag
  show p_X1_reckonMost_F3 b Q ag (oI i) a
  unfold p_X1_reckonMost_F3
  rcases i with _ | p
  · exact ⟨fun _ => h a hf (fun p hp => hg p (by omega) hp), fun q => absurd (by decide) q⟩
  have hag := hag p rfl
  rw [oI_s]
  refine ⟨fun q => absurd (lti (a := p) (b := 0) (by omega) (by decide) q) (by omega), fun _ => ?_⟩
  refine loopU (A := mM) 21 (fun k a => (nI k, a)) (fun k a => fL M a b (msS b) ∧ (∀ p', p + 1 ≤ p' → p' < 8 → MO a b s hem p') ∧ ∀ k', k' < k → a.2 (b + 42 + p) k' = lN (xX s hem p k')) a rfl ⟨hf, hg, fun k hk => absurd hk (Nat.not_lt_zero _)⟩ ?_
  rintro k a1 ag1 hk ⟨hf1, hg1, hk1⟩ hag1
  show p_X1_reckonMost_F9 b (nI p) Q ag ag1 (nI k) a1
  have hL1 := hL.i hf1.1
  have hS1 := hS.i hf1.1
  unfold p_X1_reckonMost_F9
  refine ⟨fun q => ?_, fun q => ?_⟩
  · have q := lei (a := 21) (by decide) (by omega) q
    have : k = 21 := by omega
    subst this
    rw [oI_pr]
    refine hag a1 ⟨hf1, fun p' h1 h2 => ?_⟩
    rcases Nat.lt_or_ge p p' with z | z
    · exact hg1 p' z h2
    · rw [show p' = p by omega]; exact hk1
  · have q := nlei (a := 21) (by decide) (by omega) q
    have v1 := vin (show p < 8 by omega) (by decide)
    have v2 := vin q (by decide)
    have J : ∀ r : Int64, (stk s k → w0 s hem p k ≠ 0 → lN (w0 s hem p k) * r = lN (xX s hem p k)) → p_X1_reckonMost_J41 b Q ag ag1 (nI p) (nI k) r a1 := by
      intro r hr
      unfold p_X1_reckonMost_J41
      rw [clp (show p < 2147483648 by omega), clp (show k < 2147483648 by omega), broken0 hL1 w (by omega) q, show nI k + 1 = nI (k + 1) from nI_add k 1]
      have put : ∀ y : Int64, y = lN (xX s hem p k) → ag1 (nI (k + 1), mL a1 (b + 42 + p) (vp_updL (a1.2 (b + 42 + p)) k y)) := by
        intro y hy
        refine hag1 q _ ⟨hf1.mK (show b + 42 ≤ b + 42 + p ∧ b + 42 + p < b + 50 by omega) (by omega), fun p' h1 h2 k' hk' => ?_, fun k' hk' => ?_⟩
        · rw [mL_n (by omega)]; exact hg1 p' h1 h2 k' hk'
        · rw [mL_s]
          by_cases z : k' = k
          · rw [z, uLS]; exact hy
          · rw [uLN z]; exact hk1 k' (by omega)
      refine ⟨v1, v1, v2, fun z => ⟨v2, ?_⟩, fun z => ⟨v2, v2, ?_⟩⟩
      · rintro M6 rfl
        refine put 0 ?_
        have x0 : xX s hem p k = 0 := by
          rcases Nat.eq_zero_or_pos (xX s hem p k) with y | y
          · exact y
          · exact absurd (xX_w (by omega) (Nat.pos_iff_ne_zero.mp y)) z
        rw [x0]; rfl
      · rintro M9 rfl
        refine put _ ?_
        have v9 := wv_le w q
        rw [hL1.1.2.1 k q, nI_ll (by omega), ← w0_v z]
        exact hr (w0_s z) z
    refine ⟨fun e => ?_, fun e => J 1 (fun _ _ => ?_)⟩
    · have e : p ≠ 7 := fun r => e (by rw [r]; rfl)
      rw [show nI p + 1 = nI (p + 1) from nI_add p 1]
      by_cases sk : stk s k
      · rw [← oI_s k]
        have hb : p + 1 ≠ 0 → k + 1 ≠ 0 ∧ stk s (k + 1 - 1) := fun _ => ⟨by omega, by rw [Nat.add_sub_cancel]; exact sk⟩
        refine sp_bestNext w hL1 hS1 (by omega) (by omega) hb (hg1 (p + 1) (by omega) (by omega)) ?_
        refine sp_mostNext w hL1 hS1 (by omega) (bs_lt _ 21 (by decide)) (by omega) hb (hg1 (p + 1) (by omega) (by omega)) ?_
        rw [oI_s]
        refine J _ (fun _ _ => ?_)
        rw [bs_mx (vV s hem (p + 1) (k + 1)) 21 (by decide), lN_mul, xX_s (by omega), Nat.mul_comm]
      · exact sp_bestNextA w hS1 (by omega) q (fun j hj => sp_mostNextA w hS1 (by omega) hj q (fun r => J r (fun y _ => absurd y sk)))
    · have e := eqi (b := 7) (by omega) (by decide) e
      subst e
      rw [xX_7, Int64.mul_one]
theorem sp_likeliestAt {b hem wn : Nat} {s c : Nat → Nat} {M : mM} {Q : Int32 → mM → Prop} (w : WF s c) (hL : HL M b s hem) (hS : HS M b s hem 0) (nz : aA s hem ≠ 0) (hw : wn < 8) (h : ∀ M', fL M M' b (msS b) → Q (nI (pth s hem (wn + 1) - 1)) M') : p_X1_likeliestAt b (nI wn) M Q := by
  refine sp_reckonMost w hL hS (fun M1 f1 m1 => ?_)
  have hL1 := hL.i f1.1
  have hS1 := hS.i f1.1
  have h := h M1 f1
  refine loopU (A := Unit) (wn + 1) (fun p _ => (oI (pth s hem p), nI p)) (fun _ _ => True) () rfl trivial ?_
  rintro p _ ag hp _ hag
  show p_X1_likeliestAt_F8 b (nI wn) M1 Q ag (oI (pth s hem p)) (nI p)
  unfold p_X1_likeliestAt_F8
  refine ⟨fun q => ?_, fun q => ⟨fun z => ?_, fun z => ?_⟩⟩
  · have q := lti (by omega) (by omega) q
    rw [show p = wn + 1 by omega, oI_p (by rw [pth_s]; omega)]; exact h
  · have z := lei (a := 8) (by decide) (by omega) z
    rw [show p = wn + 1 by omega, oI_p (by rw [pth_s]; omega)]; exact h
  · have q := nlti (by omega) (by omega) q
    have z := nlei (a := 8) (by decide) (by omega) z
    have pl : pth s hem p ≤ 21 ∧ (p ≠ 0 → pth s hem p ≠ 0 ∧ stk s (pth s hem p - 1)) := by
      rcases p with _ | p
      · exact ⟨Nat.zero_le _, fun e => absurd rfl e⟩
      · have := pth_k nz (p := p) (by omega)
        exact ⟨by omega, fun _ => ⟨by rw [pth_s]; omega, this.2⟩⟩
    refine sp_bestNext w hL1 hS1 z pl.1 pl.2 (m1 p z) ?_
    have go := hag (by omega) () trivial
    rw [pth_s, oI_s] at go
    rw [show nI p + 1 = nI (p + 1) from nI_add p 1]
    exact go
