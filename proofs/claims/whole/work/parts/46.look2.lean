/-! a hem's steps, and the whole look -/
theorem minus1_out {Q : Int32 → Prop} {M : mM} (h : Q 0) : p_X6_within (-1) 0 7 M Q := sp_within (x := -1) (lo := 0) (hi := 7) (by decide) (by decide) (fun q => by rw [iB_iff (by decide) (by decide)] at q; exact absurd q (by decide)) (fun _ => h)
theorem sp_findSteps {b hem wo : Nat} {s c : Nat → Nat} {M : mM} {Q : mM → Prop} (w : WF s c) (ho : wo < 1048576) (hE : ∀ t, t < 20 → EP M b s hem t) (h : ∀ M', fr M M' (b + 22) (b + 23) → HS M' b s hem wo → Q M') : p_X1_findSteps b (nI wo) M Q := by
  have w1 := w.2.1
  refine loopU (A := mM) 8 (fun p a => (nI p, a)) (fun p a => fr M a (b + 22) (b + 23) ∧ ∀ p', p' < p → a.1 (b + 22) p' = 0) M rfl ⟨fr.rf, fun d hd => absurd hd (Nat.not_lt_zero _)⟩ ?_
  rintro p a ag hp ⟨hf, hz⟩ hag
  show p_X1_findSteps_F2 b (nI wo) Q ag (nI p) a
  unfold p_X1_findSteps_F2
  refine ⟨fun q => ?_, fun q => ?_⟩
  · have q := lei (a := 8) (by decide) (by omega) q
    have : p = 8 := by omega
    subst this
    refine loopU (A := mM) 20 (fun t a => (nI t, a)) (fun t a => fr M a (b + 22) (b + 23) ∧ ∀ p', p' < 8 → a.1 (b + 22) p' = nI (edF s (8 * hem + p') wo (min t (s 1)))) a rfl ⟨hf, fun p' hp' => by rw [hz p' hp', Nat.zero_min]; rfl⟩ ?_
    rintro t a1 ag1 ht ⟨hf1, hz1⟩ hag1
    show p_X1_findSteps_F23 b (nI wo) Q ag1 (nI t) a1
    unfold p_X1_findSteps_F23
    refine ⟨fun q1 => ?_, fun q1 => ?_⟩
    · have q1 := lei (a := 20) (by decide) (by omega) q1
      have : t = 20 := by omega
      subst this
      refine h a1 hf1 (fun p' hp' => ?_)
      rw [hz1 p' hp', Nat.min_eq_right w1]
    · have q1 := nlei (a := 20) (by decide) (by omega) q1
      refine ⟨vin q1 (by decide), ?_⟩
      rintro x2 rfl
      rw [clp (by omega), hf1.1 (b + 20) (by omega), show nI t + 1 = nI (t + 1) from nI_add t 1]
      have hEt := hE t q1
      have skip : (t < s 1 → ∀ p', p' < 8 → ¬ (s (60 + 4 * t) = 8 * hem + p' ∧ s (61 + 4 * t) = 5 ∧ lk s t wo)) → ag1 (nI (t + 1), a1) := by
        intro hn
        refine hag1 q1 a1 ⟨hf1, fun p' hp' => ?_⟩
        rw [hz1 p' hp']
        rcases Nat.lt_or_ge t (s 1) with z | z
        · rw [Nat.min_eq_left (by omega), Nat.min_eq_left (by omega), edF_n (hn z p' hp')]
        · rw [Nat.min_eq_right (by omega), Nat.min_eq_right (by omega)]
      by_cases m : ow s hem t ∧ s (61 + 4 * t) = 5
      · obtain ⟨e1, e2⟩ := hEt.1 m
        obtain ⟨⟨m1, m2, m3⟩, m4⟩ := m
        obtain ⟨v1, v2, v3, v4, v5, v6, v7, v8⟩ := w.tr t m1
        have c8 : s (60 + 4 * t) % 8 < 8 := Nat.mod_lt _ (by decide)
        have ce : s (60 + 4 * t) = 8 * hem + s (60 + 4 * t) % 8 := by omega
        rw [e1]
        refine sp_within (lo := 0) (hi := 7) (by decide) (by decide) (fun _ => ⟨fun e => absurd e (by decide), fun _ => ⟨fun z => skip (fun _ p' hp' r => z ((e_shz (by omega) (by omega)).mpr r.2.2.2)), fun z => ?_⟩⟩) (fun q => absurd ⟨s (60 + 4 * t) % 8, by omega, by omega, rfl⟩ q)
        have z := (e_shz (n := wo) (t := t) (by omega) (by omega)).mp z
        refine ⟨vin c8 (by decide), vin q1 (by decide), vin c8 (by decide), ?_⟩
        rintro M6 rfl
        rw [clp (by omega), hf1.1 (b + 21) (by omega), e2, hz1 _ c8, Nat.min_eq_left (by omega)]
        refine hag1 q1 _ ⟨hf1.mI (by omega) (by omega), fun p' hp' => ?_⟩
        rw [mI_s, Nat.min_eq_left (by omega)]
        by_cases y : p' = s (60 + 4 * t) % 8
        · subst y
          have el := edF_le w (cl := 8 * hem + s (60 + 4 * t) % 8) (wo := wo) t (by omega)
          rw [updS, edF_y ⟨ce, m4, m2, z⟩]
          generalize edF s (8 * hem + s (60 + 4 * t) % 8) wo t = E at *
          by_cases lt : E < s (62 + 4 * t)
          · rw [if_pos ((nI_ltI (by omega) (by omega)).mpr lt), Nat.max_eq_right (by omega)]
          · rw [if_neg (fun r => lt (lti (by omega) (by omega) r)), Nat.max_eq_left (by omega)]
        · rw [updN y, hz1 p' hp', Nat.min_eq_left (by omega), edF_n (fun r => y (by omega))]
      · rw [hEt.2 m]
        refine minus1_out ⟨fun _ => skip (fun ht p' hp' r => m ⟨⟨ht, r.2.2.1, by omega⟩, r.2.1⟩), fun e => absurd rfl e⟩
  · have q := nlei (a := 8) (by decide) (by omega) q
    refine ⟨vin q (by decide), ?_⟩
    rintro M8 rfl
    rw [show nI p + 1 = nI (p + 1) from nI_add p 1, clp (by omega)]
    refine hag q _ ⟨hf.mI (by omega) (by omega), fun p' hp' => ?_⟩
    rw [mI_s]
    rcases Nat.lt_or_ge p' p with z | z
    · rw [updN (by omega)]; exact hz p' z
    · have : p' = p := by omega
      subst this
      rw [updS]
/-- all that a look leaves -/
def HL (M : mM) (b : Nat) (s : Nat → Nat) (hem : Nat) : Prop := HT M b s hem 20
theorem EP.cp {M M' : mM} {b hem t : Nat} {s : Nat → Nat} (h : EP M b s hem t) (e1 : M'.1 (b + 20) t = M.1 (b + 20) t) (e2 : M'.1 (b + 21) t = M.1 (b + 21) t) : EP M' b s hem t := ⟨fun q => by rw [e1, e2]; exact h.1 q, fun q => by rw [e1]; exact h.2 q⟩
theorem HT.st {M M' : mM} {b hem T : Nat} {s : Nat → Nat} (h : HT M b s hem T) (f : fr M M' (b + 22) (b + 23)) : HT M' b s hem T := by
  obtain ⟨h1, h2, h3, h4⟩ := h
  refine ⟨h1.cp (by rw [f.1 _ (by omega)]) (f.1 _ (by omega)) (fun p hp => f.1 _ (by omega)), fun p hp k hk => (h2 p hp k hk).cp (by rw [f.1 _ (by omega)]), fun t ht => (h3 t ht).cp (by rw [f.1 _ (by omega)]) (by rw [f.1 _ (by omega)]), ?_⟩
  obtain ⟨O, o1, o2, o3⟩ := h4
  exact ⟨O, o1, by rw [f.1 _ (by omega)]; exact o2, o3⟩
theorem sp_look {b st we hem : Nat} {s c : Nat → Nat} {M : mM} {Q : mM → Prop} (hs : ST M st s c) (w : WF s c) (hw : WE M we s) (d1 : st + 12 ≤ b) (d2 : we + 16 ≤ b) (hh : hem < 6) (h : ∀ M', fr M M' b (b + 23) → HL M' b s hem → HS M' b s hem 0 → Q M') : p_X1_look b st we (nI hem) M Q := by
  have w1 := w.2.1
  unfold p_X1_look
  rintro M1 rfl
  rw [show M.1 (st + 5) (6 : Int32).toNatClampNeg = nI (s 8) from hs.2.2.1 6 (by decide)]
  refine loopU (A := mM) 21 (fun k a => (nI k, a)) (fun k a => fr M a b (b + 23) ∧ a.1 b 15 = nI (s 8) ∧ ∀ k', k' < k → a.1 (b + 1) k' = nI (wv s k')) _ rfl ⟨fr.rf.mI (by omega) (by omega), by rw [mI_s, updS], fun k hk => absurd hk (Nat.not_lt_zero _)⟩ ?_
  rintro k a ag hk ⟨hf, hlk, hwt⟩ hag
  show p_X1_look_F14 b st we (nI hem) Q ag (nI k) a
  unfold p_X1_look_F14
  refine ⟨fun q => ?_, fun q => ?_⟩
  · have q := lei (a := 21) (by decide) (by omega) q
    have : k = 21 := by omega
    subst this
    -- losses and what is broken at first
    refine loopU (A := mM) 8 (fun p a => (nI p, a)) (fun p a => fr M a b (b + 23) ∧ a.1 b 15 = nI (s 8) ∧ (∀ k', k' < 21 → a.1 (b + 1) k' = nI (wv s k')) ∧ ∀ p', p' < p → ∀ k, k < 21 → (stk s k → a.1 (b + 12 + p') k = nI (lfL s (p' / 2) k)) ∧ BR a b s hem 0 p' k) a rfl ⟨hf, hlk, hwt, fun p hp => absurd hp (Nat.not_lt_zero _)⟩ ?_
    rintro p a1 ag1 hp ⟨hf1, hlk1, hwt1, hp1⟩ hag1
    show p_X1_look_F57 b st we (nI hem) Q ag1 (nI p) a1
    unfold p_X1_look_F57
    refine ⟨fun q1 => ?_, fun q1 => ?_⟩
    · have q1 := lei (a := 8) (by decide) (by omega) q1
      have : p = 8 := by omega
      subst this
      rintro M2 rfl
      have hB2 : HB (mI a1 b (upd (a1.1 b) 16 0)) b s := ⟨by rw [mI_s, updN (by decide)]; exact hlk1, fun k hk => by rw [mI_o (by omega)]; exact hwt1 k hk, fun p hp k hk => by rw [mI_o (by omega)]; exact (hp1 p hp k hk.1).1 hk⟩
      have hT0 : HT (mI a1 b (upd (a1.1 b) 16 0)) b s hem 0 := ⟨hB2, fun p hp k hk => (hp1 p hp k hk).2.cp (mI_o (by omega) _), fun t ht => absurd ht (Nat.not_lt_zero _), 0, by decide, by rw [mI_s, updS]; rfl, fun t => ⟨fun q => absurd q (by rw [Nat.zero_testBit]; decide), fun q => absurd q.1 (Nat.not_lt_zero _)⟩⟩
      have hf2 : fr M (mI a1 b (upd (a1.1 b) 16 0)) b (b + 23) := hf1.mI (by omega) (by omega)
      refine loopU (A := mM) 20 (fun t a => (nI t, a)) (fun t a => fr M a b (b + 23) ∧ HT a b s hem t) _ rfl ⟨hf2, hT0⟩ ?_
      rintro t a2 ag2 ht ⟨hf3, hT3⟩ hag2
      show p_X1_look_F143 b st we (nI hem) Q ag2 (nI t) a2
      unfold p_X1_look_F143
      refine ⟨fun q2 => ?_, fun q2 => ⟨?_, ?_⟩⟩
      · have q2 := lei (a := 20) (by decide) (by omega) q2
        have : t = 20 := by omega
        subst this
        exact sp_findSteps (wo := 0) w (by decide) hT3.2.2.1 (fun M3 g1 g2 => h M3 (hf3.tr (g1.wd (by omega) (by omega))) (hT3.st g1) g2)
      · exact vin (nlei (a := 20) (by decide) (by omega) q2) (by decide)
      · have q2 := nlei (a := 20) (by decide) (by omega) q2
        rintro M4 rfl
        rw [show nI t + 1 = nI (t + 1) from nI_add t 1, clp (by omega)]
        obtain ⟨t1, t2, t3, t4⟩ := hT3
        have f4 : fr M (mI a2 (b + 20) (upd (a2.1 (b + 20)) t (-1))) b (b + 23) := hf3.mI (by omega) (by omega)
        have b4 : HB (mI a2 (b + 20) (upd (a2.1 (b + 20)) t (-1))) b s := t1.cp (mI_o (by omega) _) (mIf_ne (by omega)) (fun p hp => mIf_ne (by omega))
        have r4 : ∀ p, p < 8 → ∀ k, k < 21 → BR (mI a2 (b + 20) (upd (a2.1 (b + 20)) t (-1))) b s hem t p k := fun p hp k hk => (t2 p hp k hk).cp (mI_o (by omega) _)
        have e4 : ∀ t', t' < t → EP (mI a2 (b + 20) (upd (a2.1 (b + 20)) t (-1))) b s hem t' := fun t' ht' => (t3 t' ht').cp (by rw [mI_s, updN (by omega)]) (mI_o (by omega) _)
        have o4 : OW (mI a2 (b + 20) (upd (a2.1 (b + 20)) t (-1))) b s hem t := by
          obtain ⟨O, o1, o2, o3⟩ := t4
          exact ⟨O, o1, by rw [mI_o (by omega)]; exact o2, o3⟩
        have n4 : (mI a2 (b + 20) (upd (a2.1 (b + 20)) t (-1))).1 (b + 20) t = -1 := by rw [mI_s, updS]
        generalize mI a2 (b + 20) (upd (a2.1 (b + 20)) t (-1)) = M4 at *
        have skip : ¬ ow s hem t → ag2 (nI (t + 1), M4) := by
          intro no
          refine hag2 q2 M4 ⟨f4, b4, fun p hp k hk => (r4 p hp k hk).next (fun r => no r.1), fun t' ht' => ?_, ?_⟩
          · rcases Nat.lt_or_ge t' t with z | z
            · exact e4 t' z
            · have : t' = t := by omega
              subst this
              exact ⟨fun r => absurd r.1 no, fun _ => n4⟩
          · obtain ⟨O, o1, o2, o3⟩ := o4
            refine ⟨O, o1, o2, fun t' => ?_⟩
            rw [o3]
            constructor
            · rintro ⟨x, y⟩; exact ⟨by omega, y⟩
            · rintro ⟨x, y⟩
              refine ⟨?_, y⟩
              rcases Nat.lt_or_ge t' t with z | z
              · exact z
              · have : t' = t := by omega
                subst this
                exact absurd y no
        have s4 := hs.fr f4 (by omega)
        rw [s4.2.1]
        refine ⟨fun z => ?_, fun z => ⟨vin q2 (by decide), ?_⟩⟩
        · have z := lei (by omega) (by omega) z
          exact skip (fun r => by have := r.1; omega)
        · have z := nlei (by omega) (by omega) z
          obtain ⟨v1, v2, v3, v4, v5, v6, v7, v8⟩ := w.tr t z
          have sT := s4.2.2.2.2.2.1 t z
          rw [sT.2.2.2, sT.1, show nI (s (60 + 4 * t)) / 8 = nI (s (60 + 4 * t) / 8) from pk_div (d := 8) (by omega) (by decide) (by decide)]
          refine ⟨fun y => skip (fun r => y (by rw [r.2.1]; rfl)), fun y => ⟨vin q2 (by decide), fun x => skip (fun r => x (by rw [r.2.2])), fun x => ?_⟩⟩
          have y := eqi (b := 0) (by omega) (by decide) y
          have x := eqi (by omega) (by omega) x
          exact sp_lookAtTrace s4 w (hw.fr f4 (by omega)) d1 d2 q2 ⟨z, y, x⟩ b4 r4 e4 n4 o4 (fun M8 g1 g2 => hag2 q2 M8 ⟨f4.tr g1, g2⟩)
    · have q1 := nlei (a := 8) (by decide) (by omega) q1
      refine loopU (A := mM) 21 (fun k a => (nI k, a)) (fun k a => fr M a b (b + 23) ∧ a.1 b 15 = nI (s 8) ∧ (∀ k', k' < 21 → a.1 (b + 1) k' = nI (wv s k')) ∧ (∀ p', p' < p → ∀ k, k < 21 → (stk s k → a.1 (b + 12 + p') k = nI (lfL s (p' / 2) k)) ∧ BR a b s hem 0 p' k) ∧ ∀ k', k' < k → (stk s k' → a.1 (b + 12 + p) k' = nI (lfL s (p / 2) k')) ∧ BR a b s hem 0 p k') a1 rfl ⟨hf1, hlk1, hwt1, hp1, fun p hp => absurd hp (Nat.not_lt_zero _)⟩ ?_
      rintro k2 a2 ag2 hk2 ⟨hf2, hlk2, hwt2, hp2, hr2⟩ hag2
      show p_X1_look_F67 b st we (nI hem) (nI p) Q ag1 ag2 (nI k2) a2
      unfold p_X1_look_F67
      refine ⟨fun q2 => ?_, fun q2 => ⟨vin q1 (by decide), ?_⟩⟩
      · have q2 := lei (a := 21) (by decide) (by omega) q2
        have : k2 = 21 := by omega
        subst this
        rw [show nI p + 1 = nI (p + 1) from nI_add p 1]
        refine hag1 q1 a2 ⟨hf2, hlk2, hwt2, fun p' hp' k hk => ?_⟩
        rcases Nat.lt_or_ge p' p with z | z
        · exact hp2 p' z k hk
        · have : p' = p := by omega
          subst this
          exact hr2 k hk
      · have q2 := nlei (a := 21) (by decide) (by omega) q2
        unfold p_X6_sideOf
        rw [e6_sd p (by omega), show p % 8 / 2 = p / 2 by omega]
        show (_ ∧ _)
        rw [clp (show p < 2147483648 by omega), clp (show k2 < 2147483648 by omega), clp (show p / 2 < 2147483648 by omega), show nI k2 + 1 = nI (k2 + 1) from nI_add k2 1]
        refine ⟨vin (by omega) (by decide), vin q2 (by decide), vin q2 (by decide), ?_⟩
        rintro M13 rfl
        refine ⟨vin q1 (by decide), vin q2 (by decide), ?_⟩
        have w13 : (mI a2 (b + 12 + p) (upd (a2.1 (b + 12 + p)) k2 (a2.1 (we + 2 + p / 2) k2))).1 (b + 1) k2 = nI (wv s k2) := by rw [mI_o (by omega)]; exact hwt2 k2 q2
        have wl : stk s k2 → a2.1 (we + 2 + p / 2) k2 = nI (lfL s (p / 2) k2) := fun kk => by rw [hf2.1 _ (by omega)]; exact (hw (p / 2) (by omega) k2 kk).1
        have f13 : fr M (mI a2 (b + 12 + p) (upd (a2.1 (b + 12 + p)) k2 (a2.1 (we + 2 + p / 2) k2))) b (b + 23) := hf2.mI (by omega) (by omega)
        rw [w13]
        have w9 := wv_le w q2
        have fin : ∀ B : Nat, B < 2097152 → (B.testBit 20 = true ↔ wv s k2 = 0) → (∀ t, t < 20 → ¬ B.testBit t = true) → ag2 (nI (k2 + 1), mI (mI a2 (b + 12 + p) (upd (a2.1 (b + 12 + p)) k2 (a2.1 (we + 2 + p / 2) k2))) (b + 3 + p) (upd ((mI a2 (b + 12 + p) (upd (a2.1 (b + 12 + p)) k2 (a2.1 (we + 2 + p / 2) k2))).1 (b + 3 + p)) k2 (nI B))) := by
          intro B b1 b2 b3
          refine hag2 q2 _ ⟨f13.mI (by omega) (by omega), ?_, fun k' hk' => ?_, fun p' hp' k' hk' => ⟨fun kk => ?_, ?_⟩, fun k' hk' => ⟨fun kk => ?_, ?_⟩⟩
          · rw [mI_o (by omega), mI_o (by omega)]; exact hlk2
          · rw [mI_o (by omega), mI_o (by omega)]; exact hwt2 k' hk'
          · rw [mI_o (by omega), mI_o (by omega)]; exact (hp2 p' hp' k' hk').1 kk
          · exact (hp2 p' hp' k' hk').2.cp (by rw [mI_o (by omega), mI_o (by omega)])
          · rw [mI_o (by omega), mI_s]
            rcases Nat.lt_or_ge k' k2 with z | z
            · rw [updN (by omega)]; exact (hr2 k' z).1 kk
            · have : k' = k2 := by omega
              subst this
              rw [updS]; exact wl kk
          · rcases Nat.lt_or_ge k' k2 with z | z
            · exact (hr2 k' z).2.cp (by rw [mI_s, updN (by omega), mI_o (by omega)])
            · have : k' = k2 := by omega
              subst this
              exact ⟨B, b1, by rw [mI_s, updS], b2, fun _ t ht => ⟨fun x => absurd x (b3 t ht), fun x => absurd x.1 (Nat.not_lt_zero _)⟩⟩
        refine ⟨fun z => ⟨vin q2 (by decide), ?_⟩, fun z => ⟨vin q2 (by decide), ?_⟩⟩
        · rintro M17 rfl
          refine fin 0 (by decide) ⟨fun x => absurd x (by rw [Nat.zero_testBit]; decide), fun x => absurd (by rw [x]; rfl) z⟩ (fun t _ => by rw [Nat.zero_testBit]; decide)
        · rintro M19 rfl
          have z := eqi (b := 0) (by omega) (by decide) z
          refine fin 1048576 (by decide) ⟨fun _ => z, fun _ => by decide⟩ (fun t ht => ?_)
          rw [show (1048576 : Nat) = 2 ^ 20 from rfl, Nat.testBit_two_pow]
          simp
          omega
  · have q := nlei (a := 21) (by decide) (by omega) q
    rw [show nI k + 1 = nI (k + 1) from nI_add k 1, clp (by omega)]
    have fin : ∀ x : Int32, x = nI (wv s k) → ag (nI (k + 1), mI a (b + 1) (upd (a.1 (b + 1)) k x)) := by
      rintro x rfl
      refine hag q _ ⟨hf.mI (by omega) (by omega), by rw [mI_o (by omega)]; exact hlk, fun k' hk' => ?_⟩
      rw [mI_s]
      rcases Nat.lt_or_ge k' k with z | z
      · rw [updN (by omega)]; exact hwt k' z
      · have : k' = k := by omega
        subst this
        rw [updS]
    refine sp_isStack (hs.fr hf (by omega)) w (fun k' e g => ⟨fun z => absurd z (by decide), fun _ => ⟨vin q (by decide), vin q (by decide), ?_⟩⟩) (fun g => ⟨fun _ => ⟨vin q (by decide), ?_⟩, fun e => absurd rfl e⟩)
    · have e := eqi (by omega) (by have := g.1; omega) e
      subst e
      rintro M25 rfl
      refine fin _ ?_
      rw [(hs.fr hf (by omega)).2.2.2.1 k q, wv, iv_t g]
    · rintro M22 rfl
      refine fin _ ?_
      rw [wv, iv_f (fun r => g ⟨k, rfl, r⟩)]; rfl
