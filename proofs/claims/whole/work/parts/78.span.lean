/-! the span of a stuff: both -/
theorem WF_thk {s c : Nat → Nat} {a v : Nat} (h : WF s c) (ha : a < s 0) (h1 : 1 ≤ v) (h2 : v ≤ 60) : WF (up s (40 + 4 * a) v) c := by
  obtain ⟨g1, g2, g3, g4, g5, g6, g7, g8, g9, g10⟩ := h
  have e : ∀ j, j < 40 ∨ 60 ≤ j → up s (40 + 4 * a) v j = s j := fun j hj => upN (by omega)
  refine ⟨by rw [e 0 (by omega)]; exact g1, by rw [e 1 (by omega)]; exact g2, fun i hi => by rw [e _ (by omega)]; exact g3 i hi, by rw [e 6 (by omega)]; exact g4, by rw [e 7 (by omega)]; exact g5, by rw [e 8 (by omega)]; exact g6, fun k hk => by rw [e _ (by omega)]; exact g7 k hk, fun b hb => ?_, fun t ht => ?_, fun j hj => by rw [e 0 (by omega)]; exact g10 j hj⟩
  · rw [e 0 (by omega)] at hb
    have := g8 b hb
    unfold wSt at this ⊢
    rw [upN (j := 41 + 4 * b) (by omega), upN (j := 42 + 4 * b) (by omega), upN (j := 43 + 4 * b) (by omega)]
    refine ⟨?_, this.2⟩
    by_cases z : b = a
    · rw [z, upS]; exact ⟨h1, h2⟩
    · rw [upN (by omega)]; exact this.1
  · rw [e 1 (by omega)] at ht
    have := g9 t ht
    unfold wTr at this ⊢
    rw [e _ (by omega), e _ (by omega), e _ (by omega), e _ (by omega), e 0 (by omega)]
    exact this
theorem ST_thk {M : mM} {b a v : Nat} {s c : Nat → Nat} (h : ST M b s c) (w0 : s 0 ≤ 4) (ha : a < s 0) : ST (mI M (b + 1) (upd (M.1 (b + 1)) a (nI v))) b (up s (40 + 4 * a) v) c := by
  obtain ⟨g1, g2, g3, g4, g5, g6, g7⟩ := h
  have e : ∀ j, j < 40 ∨ 60 ≤ j → up s (40 + 4 * a) v j = s j := fun j hj => upN (by omega)
  refine ⟨by rw [mI_o (by omega), e 0 (by omega)]; exact g1, by rw [mI_o (by omega), e 1 (by omega)]; exact g2, fun i hi => by rw [mI_o (by omega), e _ (by omega)]; exact g3 i hi, fun k hk => by rw [mI_o (by omega), e _ (by omega)]; exact g4 k hk, fun b' hb => ?_, fun t ht => ?_, fun k hk => by rw [mI_o (by omega)]; exact g7 k hk⟩
  · rw [e 0 (by omega)] at hb
    have := g5 b' hb
    unfold stS at this ⊢
    rw [mI_s, mI_o (by omega), mI_o (by omega), mI_o (by omega), upN (j := 41 + 4 * b') (by omega), upN (j := 42 + 4 * b') (by omega), upN (j := 43 + 4 * b') (by omega)]
    refine ⟨?_, this.2⟩
    by_cases z : b' = a
    · rw [z, updS, upS]
    · rw [updN z, upN (by omega)]; exact this.1
  · rw [e 1 (by omega)] at ht
    have := g6 t ht
    unfold stT at this ⊢
    rw [mI_o (by omega), mI_o (by omega), mI_o (by omega), mI_o (by omega), e _ (by omega), e _ (by omega), e _ (by omega), e _ (by omega)]
    exact this
def alH (s : Nat → Nat) : Prop := ∀ hem, hem < 6 → aA s hem ≠ 0
def laP (g k : Nat) : Prop := g + 54 ≤ k ∧ k < g + 122
theorem sp_allHems {g : Nat} {s c : Nat → Nat} {M : mM} {Q : Int32 → mM → Prop} (hs : ST M (g + 13) s c) (w : WF s c) (h1 : alH s → ∀ M', fP M M' g (laP g) → Q 1 M') (h0 : ¬ alH s → ∀ M', fP M M' g (laP g) → Q 0 M') : p_X6_allHemsCanBe g (g + 13) M Q := by
  refine sp_take hs w (Or.inr (by omega)) (fun M2 f2 w2 => ?_)
  refine loopU (A := mM) 6 (fun j a => (nI j, a)) (fun j a => fP M a g (laP g) ∧ WE a (g + 54) s ∧ ∀ i, i < j → aA s i ≠ 0) M2 rfl ⟨fP_of f2 (by omega) (by omega) (fun q a b => by unfold laP; omega), w2, fun i hi => absurd hi (Nat.not_lt_zero _)⟩ ?_
  rintro j a ag hj ⟨hf, hw, hr⟩ hag
  show p_X6_allHemsCanBe_F10 g (g + 13) Q ag (nI j) a
  have hsa : ST a (g + 13) s c := hs.ag (fun k a b => hf.2 k (by unfold laP; omega))
  unfold p_X6_allHemsCanBe_F10
  refine ⟨fun q => ?_, fun q => ?_⟩
  · have q := lei (a := 6) (by decide) (by omega) q
    exact h1 (fun i hi => hr i (by omega)) a hf
  · have q := nlei (a := 6) (by decide) (by omega) q
    refine sp_look hsa w hw (by omega) (by omega) q (fun M4 f4 l4 s4 => sp_canBe (wo := 0) w (by decide) l4 (fun M5 f5 l5 s5 => ?_))
    have F5 : fr a M5 (g + 70) (g + 93) := (f4.wd (by omega) (by omega)).tr (f5.wd (by omega) (by omega))
    have P5 : fP M M5 g (laP g) := hf.tr (fP_of F5 (by omega) (by omega) (fun q a b => by unfold laP; omega))
    rw [aC_A, show nI j + 1 = nI (j + 1) from nI_add j 1]
    refine ⟨fun z => hag q M5 ⟨P5, hw.fr F5 (by omega), fun i hi => ?_⟩, fun z => h0 (fun r => r j q (bo_z z)) M5 P5⟩
    by_cases y : i = j
    · rw [y]; exact bo_nz z
    · exact hr i (by omega)
def oKV (s : Nat → Nat) (a v : Nat) : Prop := alH (up s (40 + 4 * a) v)
noncomputable def fsV (s : Nat → Nat) (a : Nat) : Nat → Nat
  | 0 => 0
  | n + 1 => if fsV s a n = 0 then pqI (oKV s a (n + 1)) (n + 1) 0 else fsV s a n
noncomputable def lsV (s : Nat → Nat) (a : Nat) : Nat → Nat
  | 0 => 0
  | n + 1 => pqI (oKV s a (n + 1)) (n + 1) (lsV s a n)
theorem fsV_k {s : Nat → Nat} {a n : Nat} (h : fsV s a n ≠ 0) : ∀ k, fsV s a (n + k) = fsV s a n
  | 0 => rfl
  | k + 1 => by
    show (if fsV s a (n + k) = 0 then pqI (oKV s a (n + k + 1)) (n + k + 1) 0 else fsV s a (n + k)) = _
    rw [fsV_k h k, if_neg h]
theorem fsV_le (s : Nat → Nat) (a : Nat) : ∀ n, fsV s a n ≤ n
  | 0 => Nat.le_refl _
  | n + 1 => by
    have := fsV_le s a n
    unfold fsV
    split
    · by_cases z : oKV s a (n + 1)
      · rw [pqI_t z]; omega
      · rw [pqI_f z]; omega
    · omega
theorem lsV_le (s : Nat → Nat) (a : Nat) : ∀ n, lsV s a n ≤ n
  | 0 => Nat.le_refl _
  | n + 1 => by
    have := lsV_le s a n
    unfold lsV
    by_cases z : oKV s a (n + 1)
    · rw [pqI_t z]; omega
    · rw [pqI_f z]; omega
noncomputable def spV (s : Nat → Nat) (a : Nat) (y : Int32) (n : Nat) : Nat := if y = 0 then fsV s a n else lsV s a n
noncomputable def F_span (x y : Int32) (S : zS) : Int32 × zS := pqI (bl x (zs S 0) ∧ iB y 0 1) (eI (spV (zs S) (vN x) y 60), S) (-2, zRf S 0)
def spP (g k : Nat) : Prop := (g + 13 ≤ k ∧ k < g + 25) ∨ (g + 54 ≤ k ∧ k < g + 122)
theorem spP_C (g k : Nat) (h : kCR g k) : ¬ spP g k := by unfold kCR at h; unfold spP; omega
theorem sp_span_J {g a v : Nat} {y i : Int32} {S : zS} {M a0 : mM} {Q : Int32 → mM → Prop} {ag : (Int32 × mM) → Prop} (w : WF (zs S) (zc S)) (ha : a < zs S 0) (hv : 1 ≤ v ∧ v ≤ 60) (hf : fP M a0 g (spP g)) (hs : ∃ u, ST a0 (g + 13) (up (zs S) (40 + 4 * a) u) (zc S)) (h1 : oKV (zs S) a v → ∀ M', fP M M' g (spP g) → Q (nI v) M') (h0 : ¬ oKV (zs S) a v → ∀ M', fP M M' g (spP g) → (∃ u, ST M' (g + 13) (up (zs S) (40 + 4 * a) u) (zc S)) → ag (i + 1, M')) : p_X6_span_J60 g (nI a) y Q ag i (nI v) a0 := by
  have w0 := w.1
  obtain ⟨u, hu⟩ := hs
  unfold p_X6_span_J60
  rw [clp (by omega)]
  refine ⟨vin (by omega) (by decide), ?_⟩
  rintro M6 rfl
  have s6 := ST_thk (a := a) (v := v) hu (by rw [upN (by omega)]; exact w0) (by rw [upN (by omega)]; exact ha)
  rw [up_up] at s6
  have F6 : fP M (mI a0 (g + 13 + 1) (upd (a0.1 (g + 13 + 1)) a (nI v))) g (spP g) := hf.tr (fP_of (lo := g + 14) (hi := g + 15) (fr.rf.mI (by omega) (by omega)) (by omega) (by omega) (fun q a b => Or.inl (by omega)))
  refine sp_allHems s6 (WF_thk w ha hv.1 hv.2) (fun ok M8 f8 => ⟨fun e => absurd e (by decide), fun _ => h1 ok M8 (F6.tr (f8.wd (fun q e => Or.inr e)))⟩) (fun ok M8 f8 => ⟨fun _ => h0 ok M8 (F6.tr (f8.wd (fun q e => Or.inr e))) ⟨v, s6.ag (fun k a b => f8.2 k (by unfold laP; omega))⟩, fun e => absurd rfl e⟩)
theorem sp_span {g a : Nat} {y : Int32} {S : zS} {M : mM} {Q : Int32 → mM → Prop} (hS : SW S) (hC : CR M g S) (ha : a < zs S 0) (hy : iB y 0 1) (h : ∀ M', fr M M' g (g + 145) → CR M' g S → Q (eI (spV (zs S) a y 60)) M') : p_X6_span g (nI a) y M Q := by
  have w := hS.1
  have w0 := w.1
  unfold spV at h
  refine sp_isStuffX hC.1 w0 (fun _ => ⟨fun e => absurd e (by decide), fun _ => sp_within (lo := 0) (hi := 1) (by decide) (by decide) (fun _ => ⟨fun _ => ?_, fun e => absurd e (by decide)⟩) (fun q => absurd hy q)⟩) (fun q => absurd ⟨a, ha, rfl⟩ q)
  refine sp_becomeS w (by omega) hC.1 (fun M5 f5 s5 => ?_)
  have F5 : fP M M5 g (spP g) := fP_of f5 (by omega) (by omega) (fun q a b => Or.inl (by omega))
  have fin : ∀ r : Int32, r = eI (if y = 0 then fsV (zs S) a 60 else lsV (zs S) a 60) → ∀ M', fP M M' g (spP g) → Q r M' := fun r hr M' f' => by
    rw [hr]; exact h M' f'.1 (CR_fP hC f' (spP_C g))
  refine loopU (A := mM) 60 (fun i a => (nI i, a)) (fun i b => fP M b g (spP g) ∧ (∃ u, ST b (g + 13) (up (zs S) (40 + 4 * a) u) (zc S)) ∧ (if y = 0 then fsV (zs S) a i = 0 else lsV (zs S) a 60 = lsV (zs S) a (60 - i))) M5 rfl ⟨F5, ⟨zs S (40 + 4 * a), by rw [up_id]; exact s5⟩, by split <;> rfl⟩ ?_
  rintro i b ag hi ⟨hf, hs, hr⟩ hag
  show p_X6_span_F40 g (nI a) y Q ag (nI i) b
  unfold p_X6_span_F40
  refine ⟨fun q => fin (-1) ?_ b hf, fun q => ⟨fun z => ?_, fun z => ?_⟩⟩
  · have q := lei (a := 60) (by decide) (by omega) q
    have : i = 60 := by omega
    subst this
    by_cases y0 : y = 0
    · rw [if_pos y0] at hr ⊢; rw [hr]; rfl
    · rw [if_neg y0] at hr ⊢; rw [hr]; rfl
  · have q := nlei (a := 60) (by decide) (by omega) q
    rw [if_neg z] at hr fin
    rw [show (60 : Int32) - nI i = nI (60 - i) from pk_sub (a := 60) (by omega)]
    obtain ⟨v, hv⟩ : ∃ v, 60 - i = v + 1 := ⟨59 - i, by omega⟩
    rw [hv] at hr ⊢
    refine sp_span_J w ha ⟨by omega, by omega⟩ hf hs (fun ok M' f' => fin _ ?_ M' f') (fun ok M' f' s' => ?_)
    · rw [hr]
      show _ = eI (pqI (oKV (zs S) a (v + 1)) (v + 1) (lsV (zs S) a v))
      rw [pqI_t ok, eI_p (by omega)]
    · rw [show nI i + 1 = nI (i + 1) from nI_add i 1]
      refine hag q M' ⟨f', s', ?_⟩
      rw [if_neg z, hr, show 60 - (i + 1) = v by omega]
      show pqI (oKV (zs S) a (v + 1)) (v + 1) (lsV (zs S) a v) = _
      rw [pqI_f ok]
  · have q := nlei (a := 60) (by decide) (by omega) q
    rw [if_pos z] at hr fin
    rw [show (1 : Int32) + nI i = nI (i + 1) from by rw [show (1 : Int32) + nI i = nI (1 + i) from nI_add 1 i, Nat.add_comm]]
    have e1 : fsV (zs S) a (i + 1) = pqI (oKV (zs S) a (i + 1)) (i + 1) 0 := by
      show (if fsV (zs S) a i = 0 then _ else _) = _
      rw [if_pos hr]
    refine sp_span_J w ha ⟨by omega, by omega⟩ hf hs (fun ok M' f' => fin _ ?_ M' f') (fun ok M' f' s' => ?_)
    · rw [pqI_t ok] at e1
      have e2 := fsV_k (s := zs S) (a := a) (n := i + 1) (by omega) (60 - (i + 1))
      rw [show i + 1 + (60 - (i + 1)) = 60 by omega] at e2
      rw [e2, e1, eI_p (by omega)]
    · rw [show nI i + 1 = nI (i + 1) from nI_add i 1]
      refine hag q M' ⟨f', s', ?_⟩
      rw [pqI_f ok] at e1
      rw [if_pos z, e1]
def noZ (q : Nat) : Prop := False
theorem fB_q {M M' : mM} {m : Nat} {Z : Nat → Prop} (f : fq M M' (cnS m)) : fB M M' m Z := by
  have e : ∀ k, ¬ cnS m k → M'.1 k = M.1 k := f.1
  refine ⟨fun k _ b c d1 d2 d3 d4 => e k (fun r => ?_), f.2, fun j _ => by rw [e _ (by unfold cnS lkS; omega)], fun q _ => by rw [e _ (by unfold cnS lkS; omega)]⟩
  unfold cnS lkS at r
  omega
theorem BK_fq {M M' : mM} {m : Nat} {s c : Nat → Nat} (h : BK M m s c) (f : fq M M' (cnS m)) : BK M' m s c := h.fq f (by unfold cnS lkS; omega)
theorem sp7_span {m a : Nat} {y : Int32} {S : zS} {M : mM} {Q : Int32 → mM → Prop} (hS : SW S) (hM : MR M m S) (ha : a < zs S 0) (hy : iB y 0 1) (h : ∀ M', fr M M' m (m + 15) → MR M' m S → Q (eI (spV (zs S) a y 60)) M') : p_X7_span m (nI a) y M Q := by
  have w := hS.1
  have w0 := w.1
  have ys := iB2 hy
  have i40 : (40 : Int32) + (4 * nI a) = nI (40 + 4 * a) := by rw [show (4 : Int32) * nI a = nI (4 * a) from pk_mul 4 a, show (40 : Int32) + nI (4 * a) = nI (40 + 4 * a) from nI_add 40 _]
  refine sp7_isStuffX hM.1 w0 (fun _ => ⟨fun e => absurd e (by decide), fun _ => sp7_inI (lo := 0) (hi := 1) (by decide) (by decide) (fun _ => ⟨fun _ => ?_, fun e => absurd e (by decide)⟩) (fun q => absurd hy q)⟩) (fun q => absurd ⟨a, ha, rfl⟩ q)
  refine sp7_oS0 hM.1 w ha ?_
  refine loopU (A := mM) 60 (fun i b => (eI (spV (zs S) a y i), nI (i + 1), b)) (fun i b => fB M b m noZ ∧ ∃ u, BK b m (up (zs S) (40 + 4 * a) u) (zc S)) M ?_ ⟨fB.rf, ⟨zs S (40 + 4 * a), by rw [up_id]; exact hM.1⟩⟩ ?_
  · show (eI (if y = 0 then 0 else 0), nI (0 + 1), M) = _
    rw [show (if y = 0 then 0 else 0) = 0 from by split <;> rfl]; rfl
  rintro i b ag hi ⟨hf, u, hu⟩ hag
  show p_X7_span_F36 m (nI a) y (nI (zs S (40 + 4 * a))) Q ag (eI (spV (zs S) a y i)) (nI (i + 1)) b
  unfold p_X7_span_F36
  rw [i40, clp (by omega)]
  refine ⟨fun q => ⟨vin (by omega) (by decide), ?_⟩, fun q => ⟨vin (by omega) (by decide), ?_⟩⟩
  · have q := lei (a := 61) (by decide) (by omega) q
    have : i = 60 := by omega
    subst this
    intro M6 e6
    have b6 : BK M6 m (zs S) (zc S) := by
      have := BK.up (k := 40 + 4 * a) (v := zs S (40 + 4 * a)) hu (by omega)
      rw [up_up, up_id] at this
      rw [e6]; exact this
    have F6 : fB M M6 m noZ := by rw [e6]; exact hf.bk
    exact h M6 (fB_fr F6) (MR_fB hM F6 id id b6)
  · have q := nlei (a := 61) (by decide) (by omega) q
    intro M8 e8
    have b8 : BK M8 m (up (zs S) (40 + 4 * a) (i + 1)) (zc S) := by
      have := BK.up (k := 40 + 4 * a) (v := i + 1) hu (by omega)
      rw [up_up] at this
      rw [e8]; exact this
    have F8 : fB M M8 m noZ := by rw [e8]; exact hf.bk
    clear e8
    have wv := WF_thk w ha (v := i + 1) (by omega) (by omega)
    have J : ∀ (r : Int32) (b' : mM), fB M b' m noZ → BK b' m (up (zs S) (40 + 4 * a) (i + 1)) (zc S) → ((r = 1 ∧ oKV (zs S) a (i + 1)) ∨ (r = 0 ∧ ¬ oKV (zs S) a (i + 1))) → p_X7_span_J89 m (nI a) y Q ag (nI (zs S (40 + 4 * a))) (eI (spV (zs S) a y i)) (nI (i + 1)) r b' := by
      intro r b' fb bb hr
      have go : ∀ x : Int32, x = eI (spV (zs S) a y (i + 1)) → ag (x, nI (i + 1 + 1), b') := fun x hx => by
        rw [hx]; exact hag (by omega) b' ⟨fb, ⟨_, bb⟩⟩
      unfold p_X7_span_J89
      rw [show nI (i + 1) + 1 = nI (i + 1 + 1) from nI_add _ 1]
      rcases hr with ⟨rfl, ok⟩ | ⟨rfl, ok⟩
      · refine ⟨fun e => absurd e (by decide), fun _ => ⟨fun y1 => go _ ?_, fun y1 => ?_⟩⟩
        · have y0 : y ≠ 0 := fun e => by rw [e] at y1; exact absurd y1 (by decide)
          rw [show spV (zs S) a y (i + 1) = lsV (zs S) a (i + 1) from if_neg y0]
          show _ = eI (pqI (oKV (zs S) a (i + 1)) (i + 1) (lsV (zs S) a i))
          rw [pqI_t ok, eI_p (by omega)]
        · have y0 : y = 0 := ys.elim id (fun e => absurd e y1)
          have fl := fsV_le (zs S) a i
          rw [show spV (zs S) a y i = fsV (zs S) a i from if_pos y0]
          refine ⟨fun z => go _ ?_, fun z => go _ ?_⟩
          · have z : fsV (zs S) a i ≠ 0 := fun e => z (by rw [e]; rfl)
            rw [show spV (zs S) a y (i + 1) = fsV (zs S) a (i + 1) from if_pos y0]
            show _ = eI (if fsV (zs S) a i = 0 then _ else fsV (zs S) a i)
            rw [if_neg z]
          · have z : fsV (zs S) a i = 0 := by
              by_cases n0 : fsV (zs S) a i = 0
              · exact n0
              · rw [eI_p n0, jI_n, show (-1 : Int32) = jI (-1) from rfl, jI_eq (by omega) (by omega) (by decide) (by decide)] at z
                omega
            rw [show spV (zs S) a y (i + 1) = fsV (zs S) a (i + 1) from if_pos y0]
            show _ = eI (if fsV (zs S) a i = 0 then pqI (oKV (zs S) a (i + 1)) (i + 1) 0 else fsV (zs S) a i)
            rw [if_pos z, pqI_t ok, eI_p (by omega)]
      · refine ⟨fun _ => go _ ?_, fun e => absurd rfl e⟩
        by_cases y0 : y = 0
        · rw [show spV (zs S) a y i = fsV (zs S) a i from if_pos y0, show spV (zs S) a y (i + 1) = fsV (zs S) a (i + 1) from if_pos y0]
          show _ = eI (if fsV (zs S) a i = 0 then pqI (oKV (zs S) a (i + 1)) (i + 1) 0 else fsV (zs S) a i)
          by_cases z : fsV (zs S) a i = 0
          · rw [if_pos z, pqI_f ok, z]
          · rw [if_neg z]
        · rw [show spV (zs S) a y i = lsV (zs S) a i from if_neg y0, show spV (zs S) a y (i + 1) = lsV (zs S) a (i + 1) from if_neg y0]
          show _ = eI (pqI (oKV (zs S) a (i + 1)) (i + 1) (lsV (zs S) a i))
          rw [pqI_f ok]
    refine loopU (A := Int32 × mM) 6 (fun j d => (d.1, nI j, d.2)) (fun j d => fB M d.2 m noZ ∧ BK d.2 m (up (zs S) (40 + 4 * a) (i + 1)) (zc S) ∧ ((d.1 = 1 ∧ ∀ e, e < j → aA (up (zs S) (40 + 4 * a) (i + 1)) e ≠ 0) ∨ (d.1 = 0 ∧ ¬ oKV (zs S) a (i + 1)))) (1, M8) rfl ⟨F8, b8, Or.inl ⟨rfl, fun e he => absurd he (Nat.not_lt_zero _)⟩⟩ ?_
    rintro j ⟨r, b5⟩ ag5 hj ⟨hf5, hb5, hr5⟩ hag5
    have hf5 : fB M b5 m noZ := hf5
    have hb5 : BK b5 m (up (zs S) (40 + 4 * a) (i + 1)) (zc S) := hb5
    have hr5 : (r = 1 ∧ ∀ e, e < j → aA (up (zs S) (40 + 4 * a) (i + 1)) e ≠ 0) ∨ (r = 0 ∧ ¬ oKV (zs S) a (i + 1)) := hr5
    show p_X7_span_F62 m (nI a) y (nI (zs S (40 + 4 * a))) (eI (spV (zs S) a y i)) (nI (i + 1)) Q ag ag5 r (nI j) b5
    unfold p_X7_span_F62
    refine ⟨fun q5 => J r b5 hf5 hb5 ?_, fun q5 => ⟨fun z => J r b5 hf5 hb5 ?_, fun z => ?_⟩⟩
    · have q5 := lei (a := 6) (by decide) (by omega) q5
      rcases hr5 with ⟨e1, e2⟩ | e
      · exact Or.inl ⟨e1, fun e he => e2 e (by omega)⟩
      · exact Or.inr e
    · rcases hr5 with ⟨e1, e2⟩ | e
      · rw [e1] at z; exact absurd z (by decide)
      · exact Or.inr e
    · have q5 := nlei (a := 6) (by decide) (by omega) q5
      rcases hr5 with ⟨e1, e2⟩ | e
      · refine sp7_can (wo := 0) hb5 wv q5 (by decide) (fun M10 f10 => ?_)
        rw [aC_A, show nI j + 1 = nI (j + 1) from nI_add j 1]
        refine hag5 q5 (nI (bo (aA (up (zs S) (40 + 4 * a) (i + 1)) j)), M10) ⟨hf5.tr (fB_q f10), BK_fq hb5 f10, ?_⟩
        rcases bo_cs (aA (up (zs S) (40 + 4 * a) (i + 1)) j) with ⟨x1, x2⟩ | ⟨x1, x2⟩
        · exact Or.inr ⟨by rw [x2]; rfl, fun ok => ok j q5 x1⟩
        · refine Or.inl ⟨by rw [x2]; rfl, fun e he => ?_⟩
          by_cases y : e = j
          · rw [y]; exact x1
          · exact e2 e (by omega)
      · exact absurd e.1 z
theorem bo_span {g m : Nat} {S : zS} (x y : Int32) : BO g m S (F_span x y S) (fun M Q => p_X6_span g x y M Q) (fun M Q => p_X7_span m x y M Q) := by
  intro hS
  have w := hS.1
  have w0 := w.1
  unfold F_span
  by_cases ok : bl x (zs S 0) ∧ iB y 0 1
  · rw [pqI_t ok]
    obtain ⟨u1, v1⟩ := bl_v (by omega) ok.1
    refine ⟨hS, fun M Q hC h => ?_, fun M Q hM h => ?_⟩
    · show p_X6_span g x y M Q
      have a2 := ok.2
      clear ok
      generalize vN x = a at *
      subst u1
      exact sp_span hS hC v1 a2 h
    · show p_X7_span m x y M Q
      have a2 := ok.2
      clear ok
      generalize vN x = a at *
      subst u1
      exact sp7_span hS hM v1 a2 h
  · rw [pqI_f ok]
    refine ⟨SW_rf hS, fun M Q hC h => ?_, fun M Q hM h => ?_⟩
    · exact sp_isStuffX hC.1 w0 (fun a1 => ⟨fun e => absurd e (by decide), fun _ => sp_within (lo := 0) (hi := 1) (by decide) (by decide) (fun a2 => absurd ⟨a1, a2⟩ ok) (fun _ => ⟨fun e => absurd rfl e, fun _ => sp_told (r := -2) hC h⟩)⟩) (fun _ => ⟨fun _ => sp_told (r := -2) hC h, fun e => absurd rfl e⟩)
    · exact sp7_isStuffX hM.1 w0 (fun a1 => ⟨fun e => absurd e (by decide), fun _ => sp7_inI (lo := 0) (hi := 1) (by decide) (by decide) (fun a2 => absurd ⟨a1, a2⟩ ok) (fun _ => ⟨fun e => absurd rfl e, fun _ => sp7_badR hM h⟩)⟩) (fun _ => ⟨fun _ => sp7_badR hM h, fun e => absurd rfl e⟩)
