/-! a trace set aside -/
noncomputable def f_aside (x : Int32) (b : Nat) (s : Nat → Nat) : Int32 × (Nat → Nat) := pqI (bl x (s 1)) (pqI (s (63 + 4 * vN x) = b) (-3, s) (1, up s (63 + 4 * vN x) b)) (-2, s)
theorem WF_asd {s c : Nat → Nat} {n b : Nat} (h : WF s c) (hn : n < s 1) (hb : b ≤ 1) : WF (up s (63 + 4 * n) b) c := by
  obtain ⟨g1, g2, g3, g4, g5, g6, g7, g8, g9, g10⟩ := h
  have e : ∀ j, j < 60 → up s (63 + 4 * n) b j = s j := fun j hj => upN (by omega)
  refine ⟨by rw [e 0 (by omega)]; exact g1, by rw [e 1 (by omega)]; exact g2, fun i hi => by rw [e _ (by omega)]; exact g3 i hi, by rw [e 6 (by omega)]; exact g4, by rw [e 7 (by omega)]; exact g5, by rw [e 8 (by omega)]; exact g6, fun k hk => by rw [e _ (by omega)]; exact g7 k hk, fun a ha => ?_, fun t ht => ?_, fun j hj => by rw [e 0 (by omega)]; exact g10 j hj⟩
  · rw [e 0 (by omega)] at ha
    have := g8 a ha
    unfold wSt at this ⊢
    rw [e _ (by omega), e _ (by omega), e _ (by omega), e _ (by omega)]
    exact this
  · rw [e 1 (by omega)] at ht
    have := g9 t ht
    unfold wTr at this ⊢
    rw [upN (j := 60 + 4 * t) (by omega), upN (j := 61 + 4 * t) (by omega), upN (j := 62 + 4 * t) (by omega), e 0 (by omega)]
    refine ⟨this.1, this.2.1, this.2.2.1, ?_, this.2.2.2.2⟩
    by_cases z : t = n
    · rw [z, upS]; exact hb
    · rw [upN (by omega)]; exact this.2.2.2.1
theorem WF_aside {x : Int32} {b : Nat} {s c : Nat → Nat} (h : WF s c) (hb : b ≤ 1) : WF (f_aside x b s).2 c := by
  have w1 := h.2.1
  unfold f_aside
  by_cases q : bl x (s 1)
  · rw [pqI_t q]
    by_cases z : s (63 + 4 * vN x) = b
    · rw [pqI_t z]; exact h
    · rw [pqI_f z]; exact WF_asd h (bl_v (by omega) q).2 hb
  · rw [pqI_f q]; exact h
theorem sp_setAside {b p : Nat} {x : Int32} {s c : Nat → Nat} {M : mM} {Q : Int32 → mM → Prop} (hs : ST M b s c) (w : WF s c) (hp : p ≤ 1) (h : ∀ M', fr M M' b (b + 12) → ST M' b (f_aside x p s).2 c → Q (f_aside x p s).1 M') : p_X2_setAside b x (nI p) M Q := by
  have w1 := w.2.1
  unfold f_aside at h
  have bad : ¬ bl x (s 1) → Q (-2) M := fun q => by
    rw [pqI_f q] at h
    exact h M fr.rf hs
  unfold p_X2_setAside
  rw [hs.2.1, nI_m1]
  refine sp_below (by omega) (fun a => ⟨fun _ => ?_, fun e => absurd e (by decide)⟩) (fun a => ⟨fun e => absurd rfl e, fun _ => bad a⟩)
  rw [pqI_t a] at h
  obtain ⟨u1, v1⟩ := bl_v (by omega) a
  clear bad a
  generalize vN x = n at *
  subst u1
  have w3 := (w.tr n v1).2.2.2.1
  have J : p_X2_setAside_J26 b (nI n) (nI p) Q (nI p) M := by
    unfold p_X2_setAside_J26
    obtain ⟨g1, g2, g3, g4, g5, g6, g7⟩ := hs
    rw [clp (by omega), (g6 n v1).2.2.2]
    refine ⟨vin (by omega) (by decide), fun q => ⟨vin (by omega) (by decide), ?_⟩, fun q => ?_⟩
    · rintro M3 rfl
      rw [pqI_f (fun e => q (by rw [e]))] at h
      refine h _ (fr.rf.mI (by omega) (by omega)) ⟨?_, ?_, fun i hi => ?_, fun j hj => ?_, fun a ha => ?_, fun t ht => ?_, fun j hj => ?_⟩
      · show _ = nI (up s (63 + 4 * n) p 0)
        rw [mI_o (by omega), upN (by omega)]; exact g1
      · show _ = nI (up s (63 + 4 * n) p 1)
        rw [mI_o (by omega), upN (by omega)]; exact g2
      · show _ = nI (up s (63 + 4 * n) p (2 + i))
        rw [mI_o (by omega), upN (by omega)]; exact g3 i hi
      · show _ = nI (up s (63 + 4 * n) p (10 + j))
        rw [mI_o (by omega), upN (by omega)]; exact g4 j hj
      · have ha : a < up s (63 + 4 * n) p 0 := ha
        show stS _ b (up s (63 + 4 * n) p) a
        rw [upN (by omega)] at ha
        have := g5 a ha
        have w0 := w.1
        unfold stS at this ⊢
        rw [mI_o (by omega), mI_o (by omega), mI_o (by omega), mI_o (by omega), upN (by omega), upN (by omega), upN (by omega), upN (by omega)]
        exact this
      · have ht : t < up s (63 + 4 * n) p 1 := ht
        show stT _ b (up s (63 + 4 * n) p) t
        rw [upN (by omega)] at ht
        have := g6 t ht
        unfold stT at this ⊢
        rw [mI_o (by omega), mI_o (by omega), mI_o (by omega), mI_s, upN (j := 60 + 4 * t) (by omega), upN (j := 61 + 4 * t) (by omega), upN (j := 62 + 4 * t) (by omega)]
        refine ⟨this.1, this.2.1, this.2.2.1, ?_⟩
        by_cases z : t = n
        · rw [z, updS, upS]
        · rw [updN z, upN (by omega)]; exact this.2.2.2
      · rw [mI_o (by omega)]; exact g7 j hj
    · rw [pqI_t (eqi (by omega) (by omega) q)] at h
      exact h M fr.rf ⟨g1, g2, g3, g4, g5, g6, g7⟩
  have ps : p = 0 ∨ p = 1 := by omega
  rcases ps with rfl | rfl
  · exact ⟨fun _ => J, fun e => absurd rfl e⟩
  · exact ⟨fun e => absurd e (by decide), fun _ => J⟩
theorem sp7_aside {m p : Nat} {x : Int32} {s c : Nat → Nat} {M : mM} {Q : Int32 → mM → Prop} (hs : BK M m s c) (w : WF s c) (hp : p ≤ 1) (h : bl x (s 1) → s (63 + 4 * vN x) ≠ p → ∀ M', fq M M' (bkS m) → BK M' m (f_aside x p s).2 c → Q (f_aside x p s).1 M') (hb : ¬ bl x (s 1) → p_X7_bad m M Q) (hn : bl x (s 1) → s (63 + 4 * vN x) = p → p_X7_no m M Q) : p_X7_aside m x (nI p) M Q := by
  have w1 := w.2.1
  unfold f_aside at h
  unfold p_X7_aside
  rw [show M.1 (m + 1) (1 : Int32).toNatClampNeg = nI (s 1) from hs.1 1 (by decide), nI_m1]
  refine sp7_below (by omega) (fun a => ⟨fun _ => ?_, fun e => absurd e (by decide)⟩) (fun a => ⟨fun e => absurd rfl e, fun _ => hb a⟩)
  replace h := h a
  replace hn := hn a
  rw [pqI_t a] at h
  obtain ⟨u1, v1⟩ := bl_v (by omega) a
  clear hb a
  generalize vN x = n at *
  subst u1
  have w3 := (w.tr n v1).2.2.2.1
  have ix : (60 + (4 * nI n)) + 3 = nI (63 + 4 * n) := by
    rw [show (4 : Int32) * nI n = nI (4 * n) from pk_mul 4 n, show (60 : Int32) + nI (4 * n) = nI (60 + 4 * n) from nI_add 60 _, show nI (60 + 4 * n) + 3 = nI (60 + 4 * n + 3) from nI_add _ 3]
    congr 1; omega
  refine sp7_oT3 hs w v1 ?_
  have J : ∀ v : Nat, v = s (63 + 4 * n) → p_X7_aside_J38 m (nI n) (nI p) Q (nI v) M := by
    intro v hv
    have put : v ≠ p → vp_in ((60 + (4 * nI n)) + 3) 210 ∧ ∀ M3 : mM, M3 = mI M (m + 1) (upd (M.1 (m + 1)) ((60 + (4 * nI n)) + 3).toNatClampNeg (nI p)) → Q 1 M3 := by
      intro ne
      rw [ix, clp (by omega)]
      refine ⟨vin (by omega) (by decide), ?_⟩
      rintro M3 rfl
      have h := h (by rw [← hv]; exact ne)
      rw [pqI_f (by rw [← hv]; exact ne)] at h
      exact h _ (fq.rf.mI rfl) (BK.up hs (by omega))
    refine ⟨fun q => ?_, fun q => hn (by rw [← hv]; exact eqi (by omega) (by omega) q)⟩
    have ne : v ≠ p := fun e => q (by rw [e])
    have ps : p = 0 ∨ p = 1 := by omega
    rcases ps with rfl | rfl
    · exact ⟨fun _ => put ne, fun e => absurd rfl e⟩
    · exact ⟨fun e => absurd e (by decide), fun _ => put ne⟩
  have vs : s (63 + 4 * n) = 0 ∨ s (63 + 4 * n) = 1 := by omega
  rcases vs with v0 | v1'
  · rw [v0]
    exact ⟨fun _ => J 0 v0.symm, fun e => absurd e (by decide)⟩
  · rw [v1']
    exact ⟨fun e => absurd rfl e, fun _ => J 1 v1'.symm⟩
/-! a copy painted -/
def okC (s : Nat → Nat) (x y : Int32) : Prop := iB x 0 47 ∧ ∃ a, a ≤ s 0 ∧ y = oI a
noncomputable def f_copy (x y : Int32) (s c : Nat → Nat) : Int32 × (Nat → Nat) := pqI (okC s x y) (oI (c (vN x)), up c (vN x) (aNo y)) (-10, c)
theorem okC_a {s : Nat → Nat} {x y : Int32} (w0 : s 0 ≤ 4) (h : okC s x y) : y = oI (aNo y) ∧ aNo y ≤ s 0 := by
  obtain ⟨_, a, ha, rfl⟩ := h
  rw [aNo_o (by omega)]
  exact ⟨rfl, ha⟩
theorem WF_copy {x y : Int32} {s c : Nat → Nat} (h : WF s c) : WF s (f_copy x y s c).2 := by
  have w0 := h.1
  unfold f_copy
  by_cases q : okC s x y
  · rw [pqI_t q]; exact WF_pnt h (okC_a w0 q).2
  · rw [pqI_f q]; exact h
theorem sp_paint {b : Nat} {x y : Int32} {s c : Nat → Nat} {M : mM} {Q : Int32 → mM → Prop} (hs : ST M b s c) (w0 : s 0 ≤ 4) (h : ∀ M', fr M M' b (b + 12) → ST M' b s (f_copy x y s c).2 → Q (f_copy x y s c).1 M') : p_X2_paint b x y M Q := by
  unfold f_copy at h
  have bad : ¬ okC s x y → Q (-10) M := fun q => by
    rw [pqI_f q] at h
    exact h M fr.rf hs
  have J : okC s x y → p_X2_paint_J23 b x y Q M := by
    intro ok
    rw [pqI_t ok] at h
    obtain ⟨u1, _, v1⟩ := iB_v (by decide) ok.1
    obtain ⟨u2, v2⟩ := okC_a w0 ok
    clear bad ok
    generalize vN x = n at *
    generalize aNo y = a at *
    subst u1 u2
    unfold p_X2_paint_J23
    rw [clp (by omega), hs.2.2.2.2.2.2 n (by omega)]
    refine ⟨vin (by omega) (by decide), ?_⟩
    rintro x3 rfl
    refine ⟨vin (by omega) (by decide), ?_⟩
    rintro M4 rfl
    exact h _ (fr.rf.mI (by omega) (by omega)) (ST_pnt hs (by omega))
  refine sp_isCellX (fun a => ⟨fun e => absurd e (by decide), fun _ => ⟨fun e => J ⟨a, 0, Nat.zero_le _, e⟩, fun e => sp_isStuffX hs w0 (fun d => ⟨fun _ => ?_, fun z => absurd z (by decide)⟩) (fun d => ⟨fun z => absurd rfl z, fun _ => bad (fun q => ?_)⟩)⟩⟩) (fun a => ⟨fun _ => bad (fun q => a q.1), fun e => absurd rfl e⟩)
  · obtain ⟨n, n1, n2⟩ := d
    exact J ⟨a, n + 1, n1, by rw [n2, oI_s]⟩
  · obtain ⟨_, n, n1, n2⟩ := q
    rcases n with _ | n
    · exact e n2
    · exact d ⟨n, n1, by rw [n2, oI_s]⟩
theorem sp7_copy {m : Nat} {x y : Int32} {s c : Nat → Nat} {M : mM} {Q : Int32 → mM → Prop} (hs : BK M m s c) (w0 : s 0 ≤ 4) (h : okC s x y → ∀ M', fq M M' (bkS m) → BK M' m s (f_copy x y s c).2 → Q (f_copy x y s c).1 M') (hb : ¬ okC s x y → p_X7_refuses m 0 (-10) M Q) : p_X7_copy m x y M Q := by
  unfold f_copy at h
  have J : okC s x y → p_X7_copy_J20 m x y Q M := by
    intro ok
    replace h := h ok
    rw [pqI_t ok] at h
    obtain ⟨u1, _, v1⟩ := iB_v (by decide) ok.1
    obtain ⟨u2, v2⟩ := okC_a w0 ok
    clear hb ok
    generalize vN x = n at *
    generalize aNo y = a at *
    subst u1 u2
    unfold p_X7_copy_J20
    rw [show (150 : Int32) + nI n = nI (150 + n) from nI_add 150 n]
    refine sp7_puts (v := 0) (by omega) (fun M' e => ?_)
    rw [hs.2 n (by omega)]
    subst e
    exact h _ (fq.rf.mI rfl) (BK_pnt hs (by omega))
  refine sp7_isCellX (fun a => ⟨fun e => absurd e (by decide), fun _ => ⟨fun e => J ⟨a, 0, Nat.zero_le _, e⟩, fun e => sp7_isStuffX hs w0 (fun d => ⟨fun z => absurd z (by decide), fun _ => ?_⟩) (fun d => ⟨fun _ => hb (fun q => ?_), fun z => absurd rfl z⟩)⟩⟩) (fun a => ⟨fun _ => hb (fun q => a q.1), fun e => absurd rfl e⟩)
  · obtain ⟨n, n1, n2⟩ := d
    exact J ⟨a, n + 1, n1, by rw [n2, oI_s]⟩
  · obtain ⟨_, n, n1, n2⟩ := q
    rcases n with _ | n
    · exact e n2
    · exact d ⟨n, n1, by rw [n2, oI_s]⟩
/-! a habit, with refusals left open -/
def okH (x y : Int32) : Prop := iB x 0 20 ∧ iB y 0 9
noncomputable def f_habit (x y : Int32) (s : Nat → Nat) : Int32 × (Nat → Nat) := pqI (okH x y) (nI (s (10 + vN x)), up s (10 + vN x) (vN y)) (-2, s)
theorem WF_habit {x y : Int32} {s c : Nat → Nat} (h : WF s c) : WF (f_habit x y s).2 c := by
  unfold f_habit
  by_cases q : okH x y
  · rw [pqI_t q]
    obtain ⟨_, _, v1⟩ := iB_v (by decide) q.1
    obtain ⟨_, _, v2⟩ := iB_v (by decide) q.2
    exact WF.hab h (by omega) v2
  · rw [pqI_f q]; exact h
theorem sp_habit_ {b : Nat} {x y : Int32} {s c : Nat → Nat} {M : mM} {Q : Int32 → mM → Prop} (hs : ST M b s c) (h : ∀ M', fr M M' b (b + 12) → ST M' b (f_habit x y s).2 c → Q (f_habit x y s).1 M') : p_X2_setHabit b x y M Q := by
  unfold f_habit at h
  refine sp_setHabit hs (fun k v e1 e2 hk hv M' f1 f2 => ?_) (fun q => ?_)
  · have ok : okH x y := ⟨⟨k, by omega, by omega, e1⟩, ⟨v, by omega, by omega, e2⟩⟩
    have g1 : vN x = k := by rw [e1]; exact vN_n (by omega)
    have g2 : vN y = v := by rw [e2]; exact vN_n (by omega)
    rw [pqI_t ok, g1, g2] at h
    exact h M' f1 f2
  · rw [pqI_f (show ¬ okH x y from q)] at h
    exact h M fr.rf hs
theorem sp7_habit_ {m : Nat} {x y : Int32} {s c : Nat → Nat} {M : mM} {Q : Int32 → mM → Prop} (hs : BK M m s c) (h : okH x y → ∀ M', fq M M' (bkS m) → BK M' m (f_habit x y s).2 c → Q (f_habit x y s).1 M') (hb : ¬ okH x y → p_X7_bad m M Q) : p_X7_habit m x y M Q := by
  unfold f_habit at h
  refine sp7_inI (lo := 0) (hi := 20) (by decide) (by decide) (fun a1 => ⟨fun a => absurd a (by decide), fun _ => sp7_inI (lo := 0) (hi := 9) (by decide) (by decide) (fun a2 => ⟨fun a => absurd a (by decide), fun _ => ?_⟩) (fun a2 => ⟨fun _ => hb (fun q => a2 q.2), fun a => absurd rfl a⟩)⟩) (fun a1 => ⟨fun _ => hb (fun q => a1 q.1), fun a => absurd rfl a⟩)
  replace h := h ⟨a1, a2⟩
  rw [pqI_t ⟨a1, a2⟩] at h
  obtain ⟨u1, _, v1⟩ := iB_v (by decide) a1
  obtain ⟨u2, _, v2⟩ := iB_v (by decide) a2
  clear hb a1 a2
  generalize vN x = k at *
  generalize vN y = v at *
  subst u1 u2
  rw [show (10 : Int32) + nI k = nI (10 + k) from nI_add 10 k]
  refine sp7_puts (by omega) (v := v) (fun M' e => ?_)
  rw [hs.1 _ (by omega)]
  subst e
  exact h _ (fq.rf.mI rfl) (hs.up (by omega))
/-! a statue as at first -/
def sBg (s : Nat → Nat) : Nat → Nat := fun j => if j < 2 then 0 else if j < 6 then 1 else if j = 6 then 10 else if j = 7 then 0 else if j = 8 then 3 else if j = 9 then s 9 else if j < 31 then 1 else s j
def cZ : Nat → Nat := fun _ => 0
theorem WF_bg (s : Nat → Nat) : WF (sBg s) cZ := by
  refine ⟨(by decide : (0 : Nat) ≤ 4), (by decide : (0 : Nat) ≤ 20), fun i hi => ?_, (by decide : (10 : Nat) ≤ 60), (by decide : (0 : Nat) ≤ 3), ⟨(by decide : (1 : Nat) ≤ 3), (by decide : (3 : Nat) ≤ 9)⟩, fun k hk => ?_, fun a ha => absurd ha (Nat.not_lt_zero a), fun t ht => absurd ht (Nat.not_lt_zero t), fun j _ => Nat.zero_le _⟩
  · unfold sBg
    rw [if_neg (by omega), if_pos (by omega)]; omega
  · unfold sBg
    rw [if_neg (by omega), if_neg (by omega), if_neg (by omega), if_neg (by omega), if_neg (by omega), if_neg (by omega), if_pos (by omega)]; omega
theorem sp_beAtFirst {b : Nat} {M : mM} {Q : mM → Prop} (s : Nat → Nat) (h : ∀ M', fr M M' b (b + 12) → ST M' b (sBg s) cZ → Q M') : p_X2_beAtFirst b M Q := by
  unfold p_X2_beAtFirst
  intro M1 e1 M2 e2 M3 e3
  have f3 : fr M M3 b (b + 12) := by rw [e3, e2, e1]; exact ((fr.rf.mI (by omega) (by omega)).mI (by omega) (by omega)).mI (by omega) (by omega)
  have a1 : M3.1 b 11 = 0 := by rw [e3, mI_o (by omega), e2, mI_s, updN (by decide), e1, mI_s, updS]
  have a2 : M3.1 b 12 = 0 := by rw [e3, mI_o (by omega), e2, mI_s, updS]
  have a3 : ∀ i, i < 7 → M3.1 (b + 5) i = nI (sBg s (2 + i)) := fun i hi => by
    rw [e3, mI_s, cpyN 7 (by decide), if_pos hi, zF_at i hi]
    have : i = 0 ∨ i = 1 ∨ i = 2 ∨ i = 3 ∨ i = 4 ∨ i = 5 ∨ i = 6 := by omega
    rcases this with rfl | rfl | rfl | rfl | rfl | rfl | rfl <;> rfl
  clear e3 e2 e1
  refine loopU (A := mM) 21 (fun k a => (nI k, a)) (fun k a => fr M a b (b + 12) ∧ a.1 b 11 = 0 ∧ a.1 b 12 = 0 ∧ (∀ i, i < 7 → a.1 (b + 5) i = nI (sBg s (2 + i))) ∧ ∀ k', k' < k → a.1 (b + 6) k' = 1) M3 rfl ⟨f3, a1, a2, a3, fun k hk => absurd hk (Nat.not_lt_zero _)⟩ ?_
  rintro k a ag hk ⟨hf, h1, h2, h3, h4⟩ hag
  show p_X2_beAtFirst_F26 b Q ag (nI k) a
  unfold p_X2_beAtFirst_F26
  refine ⟨fun q => ?_, fun q => ⟨vin (nlei (a := 21) (by decide) (by omega) q) (by decide), ?_⟩⟩
  · have q := lei (a := 21) (by decide) (by omega) q
    have : k = 21 := by omega
    subst this
    refine loopU (A := mM) 48 (fun k a => (nI k, a)) (fun k a => fr M a b (b + 12) ∧ a.1 b 11 = 0 ∧ a.1 b 12 = 0 ∧ (∀ i, i < 7 → a.1 (b + 5) i = nI (sBg s (2 + i))) ∧ (∀ k', k' < 21 → a.1 (b + 6) k' = 1) ∧ ∀ k', k' < k → a.1 (b + 11) k' = -1) a rfl ⟨hf, h1, h2, h3, h4, fun k hk => absurd hk (Nat.not_lt_zero _)⟩ ?_
    rintro j a5 ag5 hj ⟨hf5, h15, h25, h35, h45, h55⟩ hag5
    show p_X2_beAtFirst_F47 b Q ag5 (nI j) a5
    unfold p_X2_beAtFirst_F47
    refine ⟨fun q5 => ?_, fun q5 => ⟨vin (nlei (a := 48) (by decide) (by omega) q5) (by decide), ?_⟩⟩
    · have q5 := lei (a := 48) (by decide) (by omega) q5
      have : j = 48 := by omega
      subst this
      refine h a5 hf5 ⟨h15, h25, h35, fun k hk => ?_, fun a ha => absurd ha (Nat.not_lt_zero a), fun t ht => absurd ht (Nat.not_lt_zero t), fun k hk => h55 k hk⟩
      rw [h45 k hk]
      unfold sBg
      rw [if_neg (by omega), if_neg (by omega), if_neg (by omega), if_neg (by omega), if_neg (by omega), if_neg (by omega), if_pos (by omega)]; rfl
    · have q5 := nlei (a := 48) (by decide) (by omega) q5
      rintro M4 rfl
      rw [clp (by omega), show nI j + 1 = nI (j + 1) from nI_add j 1]
      refine hag5 q5 _ ⟨hf5.mI (by omega) (by omega), by rw [mI_o (by omega)]; exact h15, by rw [mI_o (by omega)]; exact h25, fun i hi => by rw [mI_o (by omega)]; exact h35 i hi, fun k hk => by rw [mI_o (by omega)]; exact h45 k hk, fun k' hk' => ?_⟩
      rw [mI_s]
      by_cases z : k' = j
      · rw [z, updS]
      · rw [updN z]; exact h55 k' (by omega)
  · have q := nlei (a := 21) (by decide) (by omega) q
    rintro M6 rfl
    rw [clp (by omega), show nI k + 1 = nI (k + 1) from nI_add k 1]
    refine hag q _ ⟨hf.mI (by omega) (by omega), by rw [mI_o (by omega)]; exact h1, by rw [mI_o (by omega)]; exact h2, fun i hi => by rw [mI_o (by omega)]; exact h3 i hi, fun k' hk' => ?_⟩
    rw [mI_s]
    by_cases z : k' = k
    · rw [z, updS]
    · rw [updN z]; exact h4 k' (by omega)
theorem BK_eq {M : mM} {m : Nat} {s s' c : Nat → Nat} (h : BK M m s c) (e : ∀ i, i < 150 → s i = s' i) : BK M m s' c := ⟨fun i hi => by rw [← e i hi]; exact h.1 i hi, h.2⟩
def cPr (c : Nat → Nat) (k : Nat) : Nat → Nat := fun j => if j < k then 0 else c j
theorem cPr_t {c : Nat → Nat} {k j : Nat} (h : j < k) : cPr c k j = 0 := if_pos h
theorem cPr_f {c : Nat → Nat} {k j : Nat} (h : ¬ j < k) : cPr c k j = c j := if_neg h
theorem sp7_begins {m : Nat} {s c : Nat → Nat} {M : mM} {Q : mM → Prop} (hs : BK M m s c) (h : ∀ M', fq M M' (bkS m) → BK M' m (sBg s) cZ → Q M') : p_X7_begins m M Q := by
  unfold p_X7_begins
  intro M1 e1 M2 e2
  have b1 : BK M1 m (up s 0 0) c := by rw [e1]; exact BK.up (v := 0) hs (by decide)
  have b2 : BK M2 m (up (up s 0 0) 1 0) c := by rw [e2]; exact BK.up (v := 0) b1 (by decide)
  have f1 : fq M M1 (bkS m) := by rw [e1]; exact fq.rf.mI rfl
  have f2 : fq M M2 (bkS m) := by rw [e2]; exact f1.mI rfl
  clear e2 e1 b1 f1
  refine loopU (A := mM) 4 (fun k a => (nI k, a)) (fun k a => fq M a (bkS m) ∧ BK a m (fun j => if j < 2 then 0 else if j < 2 + k then 1 else s j) c) M2 rfl ⟨f2, BK_eq b2 (fun i hi => ?_)⟩ ?_
  · show up (up s 0 0) 1 0 i = if i < 2 then 0 else if i < 2 + 0 then 1 else s i
    unfold up
    by_cases z1 : i = 1
    · rw [if_pos z1, if_pos (by omega)]
    · rw [if_neg z1]
      by_cases z0 : i = 0
      · rw [if_pos z0, if_pos (by omega)]
      · rw [if_neg z0, if_neg (by omega), if_neg (by omega)]
  rintro k a ag hk ⟨hf, hb⟩ hag
  show p_X7_begins_F16 m Q ag (nI k) a
  unfold p_X7_begins_F16
  refine ⟨fun q => ?_, fun q => ?_⟩
  · have q := lei (a := 4) (by decide) (by omega) q
    have : k = 4 := by omega
    subst this
    intro M3 e3 M4 e4 M5 e5
    clear hag
    generalize hg4 : (fun j => if j < 2 then 0 else if j < 2 + 4 then 1 else s j) = g4 at hb
    have b3 : BK M3 m (up g4 6 10) c := by rw [e3]; exact BK.up (k := 6) (v := 10) hb (by decide)
    have b4 : BK M4 m (up (up g4 6 10) 7 0) c := by rw [e4]; exact BK.up (k := 7) (v := 0) b3 (by decide)
    have b5 : BK M5 m (up (up (up g4 6 10) 7 0) 8 3) c := by rw [e5]; exact BK.up (k := 8) (v := 3) b4 (by decide)
    have f3 : fq M M3 (bkS m) := by rw [e3]; exact hf.mI rfl
    have f4 : fq M M4 (bkS m) := by rw [e4]; exact f3.mI rfl
    have f5 : fq M M5 (bkS m) := by rw [e5]; exact f4.mI rfl
    clear e5 e4 e3 b3 b4 f3 f4 hb
    subst hg4
    have b5 := BK_eq (s' := fun j => if j < 2 then 0 else if j < 6 then 1 else if j = 6 then 10 else if j = 7 then 0 else if j = 8 then 3 else if j = 9 then s 9 else if j < 10 then 1 else s j) b5 (fun i hi => by
      simp only [up]
      by_cases z8 : i = 8
      · subst z8; rfl
      · rw [if_neg z8]
        by_cases z7 : i = 7
        · subst z7; rfl
        · rw [if_neg z7]
          by_cases z6 : i = 6
          · subst z6; rfl
          · rw [if_neg z6]
            by_cases y1 : i < 2
            · rw [if_pos y1, if_pos y1]
            · rw [if_neg y1, if_neg y1]
              by_cases y2 : i < 6
              · rw [if_pos y2, if_pos (by omega)]
              · rw [if_neg y2, if_neg (by omega), if_neg z6, if_neg z7, if_neg z8]
                by_cases y9 : i = 9
                · rw [if_pos y9, y9]
                · rw [if_neg y9, if_neg (by omega)])
    refine loopU (A := mM) 21 (fun k a => (nI k, a)) (fun k a => fq M a (bkS m) ∧ BK a m (fun j => if j < 2 then 0 else if j < 6 then 1 else if j = 6 then 10 else if j = 7 then 0 else if j = 8 then 3 else if j = 9 then s 9 else if j < 10 + k then 1 else s j) c) M5 rfl ⟨f5, b5⟩ ?_
    rintro k a ag hk ⟨hf, hb⟩ hag
    show p_X7_begins_F63 m Q ag (nI k) a
    unfold p_X7_begins_F63
    refine ⟨fun q => ?_, fun q => ?_⟩
    · have q := lei (a := 21) (by decide) (by omega) q
      have : k = 21 := by omega
      subst this
      refine loopU (A := mM) 48 (fun k a => (nI k, a)) (fun k a => fq M a (bkS m) ∧ BK a m (sBg s) (cPr c k)) a rfl ⟨hf, hb.1, fun j hj => by rw [cPr_f (Nat.not_lt_zero _)]; exact hb.2 j hj⟩ ?_
      rintro j a5 ag5 hj ⟨hf5, hb5⟩ hag5
      show p_X7_begins_F87 m Q ag5 (nI j) a5
      unfold p_X7_begins_F87
      refine ⟨fun q5 => ?_, fun q5 => ?_⟩
      · have q5 := lei (a := 48) (by decide) (by omega) q5
        have : j = 48 := by omega
        subst this
        refine h a5 hf5 ⟨hb5.1, fun k hk => ?_⟩
        have := hb5.2 k hk
        rw [cPr_t hk] at this
        exact this
      · have q5 := nlei (a := 48) (by decide) (by omega) q5
        rw [show (150 : Int32) + nI j = nI (150 + j) from nI_add 150 j, clp (by omega), show nI j + 1 = nI (j + 1) from nI_add j 1]
        refine ⟨vin (by omega) (by decide), ?_⟩
        rintro M6 rfl
        refine hag5 q5 _ ⟨hf5.mI rfl, fun i hi => ?_, fun k hk => ?_⟩
        · rw [mI_s, updN (by omega)]; exact hb5.1 i hi
        · rw [mI_s]
          by_cases z : k = j
          · rw [z, updS, cPr_t (by omega)]; rfl
          · rw [updN (by omega)]
            have := hb5.2 k hk
            by_cases y : k < j
            · rw [cPr_t y] at this; rw [cPr_t (by omega)]; exact this
            · rw [cPr_f y] at this; rw [cPr_f (by omega)]; exact this
    · have q := nlei (a := 21) (by decide) (by omega) q
      rw [show (10 : Int32) + nI k = nI (10 + k) from nI_add 10 k, clp (by omega), show nI k + 1 = nI (k + 1) from nI_add k 1]
      refine ⟨vin (by omega) (by decide), ?_⟩
      rintro M8 rfl
      refine hag q _ ⟨hf.mI rfl, BK_eq (BK.up (k := 10 + k) (v := 1) hb (by omega)) (fun i hi => ?_)⟩
      simp only [up]
      by_cases z : i = 10 + k
      · subst z
        rw [if_pos rfl, if_neg (by omega), if_neg (by omega), if_neg (by omega), if_neg (by omega), if_neg (by omega), if_neg (by omega), if_pos (by omega)]
      · rw [if_neg z]
        by_cases y : i < 10 + k
        · rw [if_pos (c := i < 10 + k) y, if_pos (c := i < 10 + (k + 1)) (by omega)]
        · rw [if_neg (c := i < 10 + k) y, if_neg (c := i < 10 + (k + 1)) (by omega)]
  · have q := nlei (a := 4) (by decide) (by omega) q
    rw [show (2 : Int32) + nI k = nI (2 + k) from nI_add 2 k, clp (by omega), show nI k + 1 = nI (k + 1) from nI_add k 1]
    refine ⟨vin (by omega) (by decide), ?_⟩
    rintro M10 rfl
    refine hag q _ ⟨hf.mI rfl, BK_eq (BK.up (k := 2 + k) (v := 1) hb (by omega)) (fun i hi => ?_)⟩
    simp only [up]
    by_cases z : i = 2 + k
    · subst z
      rw [if_pos rfl, if_neg (by omega), if_pos (by omega)]
    · rw [if_neg z]
      by_cases y : i < 2 + k
      · rw [if_pos (c := i < 2 + k) y, if_pos (c := i < 2 + (k + 1)) (by omega)]
      · rw [if_neg (c := i < 2 + k) y, if_neg (c := i < 2 + (k + 1)) (by omega)]
