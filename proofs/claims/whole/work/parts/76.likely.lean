/-! the likeliest row: both -/
def mb (V : Nat → Nat) (k : Nat) : Nat := if mx V k = 0 then 0 else bs V k + 1
theorem mb_z {V : Nat → Nat} {k : Nat} (h : V k = 0) : mb V (k + 1) = mb V k ∧ mx V (k + 1) = mx V k := by
  have e : mx V (k + 1) = mx V k := by show max (mx V k) (V k) = _; omega
  refine ⟨?_, e⟩
  unfold mb
  rw [e]
  by_cases z : mx V k = 0
  · rw [if_pos z, if_pos z]
  · rw [if_neg z, if_neg z]
    show (if V (bs V k) < V k then k else bs V k) + 1 = _
    rw [h, if_neg (Nat.not_lt_zero _)]
theorem mb_t {V : Nat → Nat} {k : Nat} (h : mx V k < V k) : mb V (k + 1) = k + 1 ∧ mx V (k + 1) = V k := by
  have e : mx V (k + 1) = V k := by show max (mx V k) (V k) = _; omega
  refine ⟨?_, e⟩
  unfold mb
  rw [e, if_neg (by omega)]
  show (if V (bs V k) < V k then k else bs V k) + 1 = _
  rcases Nat.eq_zero_or_pos k with z | z
  · subst z
    show (if V 0 < V 0 then 0 else 0) + 1 = 0 + 1
    rw [if_neg (Nat.lt_irrefl _)]
  · rw [bs_mx V k z, if_pos h]
theorem mb_k {V : Nat → Nat} {k : Nat} (h : V k ≤ mx V k) : mb V (k + 1) = mb V k ∧ mx V (k + 1) = mx V k := by
  have e : mx V (k + 1) = mx V k := by show max (mx V k) (V k) = _; omega
  refine ⟨?_, e⟩
  unfold mb
  rw [e]
  by_cases z : mx V k = 0
  · rw [if_pos z, if_pos z]
  · rw [if_neg z, if_neg z]
    show (if V (bs V k) < V k then k else bs V k) + 1 = _
    rcases Nat.eq_zero_or_pos k with y | y
    · subst y; exact absurd rfl z
    · rw [bs_mx V k y, if_neg (by omega)]
def liS (q : Nat) : Prop := q = 6 ∨ q = 7
theorem mb_le {V : Nat → Nat} (k : Nat) : mb V k ≤ k + 1 := by
  unfold mb
  split
  · omega
  · rcases Nat.eq_zero_or_pos k with y | y
    · subst y; show 0 + 1 ≤ 0 + 1; omega
    · have := bs_lt V k y; omega
theorem sp7_likely {m hem wn : Nat} {s c : Nat → Nat} {M : mM} {Q : Int32 → mM → Prop} (hs : BK M m s c) (w : WF s c) (hl : LOK M m s hem 0 8) (hX : ∀ j, j < 168 → MG M m (188 + j) (xX s hem (j / 21) (j % 21))) (nz : aA s hem ≠ 0) (hw : wn < 8) (h : ∀ M', fS M M' m liS → Q (nI (pth s hem (wn + 1) - 1)) M') (p1 : Int32) : Loop (fun ag t => p_X7_likeliest_F52 m p1 (nI wn) Q ag t.1 t.2.1 t.2.2) (-1, 0, M) := by
  have p38 : (9223372036854775808 : Nat) < pw 38 := by decide +kernel
  have p40 := pw_le (show 38 ≤ 40 by decide)
  refine loopU (A := mM) (wn + 1) (fun p a => (oI (pth s hem p), nI p, a)) (fun p a => fS M a m liS) M rfl fS.rf ?_
  rintro p a ag hp hf hag
  show p_X7_likeliest_F52 m p1 (nI wn) Q ag (oI (pth s hem p)) (nI p) a
  unfold p_X7_likeliest_F52
  refine ⟨fun q => ?_, fun q => ?_⟩
  · have q := lti (by omega) (by omega) q
    rw [show p = wn + 1 by omega, oI_p (by rw [pth_s]; omega)]; exact h a hf
  · have q := nlti (by omega) (by omega) q
    have p8 : p < 8 := by omega
    have pl : pth s hem p ≤ 21 ∧ (p ≠ 0 → pth s hem p ≠ 0 ∧ pth s hem p - 1 < 21) := by
      rcases p with _ | p
      · exact ⟨Nat.zero_le _, fun e => absurd rfl e⟩
      · have := pth_k nz (p := p) (by omega)
        exact ⟨by omega, fun _ => ⟨by rw [pth_s]; omega, this.1⟩⟩
    have hps := pth_ps nz p p8
    have hn := pth_s s hem p
    generalize hb : pth s hem p = pb at *
    refine loopU (A := mM) 21 (fun k a => (oI (mb (vV s hem p pb) k), nI k, a)) (fun k a => fS M a m liS ∧ (mx (vV s hem p pb) k ≠ 0 → MG a m 7 (mx (vV s hem p pb) k))) a rfl ⟨hf, fun e => absurd rfl e⟩ ?_
    rintro k a1 ag1 hk ⟨hf1, hm1⟩ hag1
    show p_X7_likeliest_F64 m p1 (nI wn) (oI pb) (nI p) Q ag ag1 (oI (mb (vV s hem p pb) k)) (nI k) a1
    have ml := mb_le (V := vV s hem p pb) k
    unfold p_X7_likeliest_F64
    refine ⟨fun q1 => ?_, fun q1 => ?_⟩
    · have q1 := lei (a := 21) (by decide) (by omega) q1
      have : k = 21 := by omega
      subst this
      rw [show nI p + 1 = nI (p + 1) from nI_add p 1]
      have go := hag (by omega) a1 hf1
      rw [hn] at go
      rw [show mb (vV s hem p pb) 21 = bs (vV s hem p pb) 21 + 1 from if_neg (by omega)]
      exact go
    · have q1 := nlei (a := 21) (by decide) (by omega) q1
      have vl := vV_le w hem p pb k
      have J : ∀ gv : Nat, gv ≤ 9 → xX s hem p k * gv = vV s hem p pb k → p_X7_likeliest_J91 m p1 (nI wn) Q ag ag1 (oI pb) (nI p) (oI (mb (vV s hem p pb) k)) (nI k) (nI gv) a1 := by
        intro gv g9 hv
        have xg := hX (21 * p + k) (by omega)
        rw [show (21 * p + k) / 21 = p by omega, show (21 * p + k) % 21 = k by omega] at xg
        have xg := xg.fS hf1 (show ¬ liS (188 + (21 * p + k)) by unfold liS; omega)
        unfold p_X7_likeliest_J91
        rw [show ((188 : Int32) + (21 * nI p)) + nI k = nI (188 + (21 * p + k)) from e_pk 188 p k]
        refine sp7_copies (r := 6) (by decide) (by omega) (by omega) xg (fun M9 f9 m9 => sp7_times (r := 6) (by decide) (by omega) m9 (by rw [hv]; omega) (fun M10 f10 m10 => ?_))
        rw [hv] at m10
        have F10 : fS M M10 m liS := hf1.tr ((f9.tr f10).wd (fun q e => Or.inl e))
        have m7 : mx (vV s hem p pb) k ≠ 0 → MG M10 m 7 (mx (vV s hem p pb) k) := fun e => (hm1 e).fS (f9.tr f10) (by decide)
        have z6 : M10.1 (m + 7) (6 : Int32).toNatClampNeg ≤ 0 ↔ vV s hem p pb k = 0 := m10.w0
        rw [z6, show nI k + 1 = nI (k + 1) from nI_add k 1]
        have take : mx (vV s hem p pb) k < vV s hem p pb k → p_X7_likeliest_J146 m p1 (nI wn) Q ag ag1 (oI pb) (nI p) (nI k) M10 := by
          intro lt
          obtain ⟨e1, e2⟩ := mb_t lt
          refine sp7_copies (r := 7) (o := 6) (by decide) (by decide) (by decide) m10 (fun M11 f11 m11 => ?_)
          have go := hag1 q1 M11 ⟨F10.tr (f11.wd (fun q e => Or.inr e)), fun _ => by rw [e2]; exact m11⟩
          rw [e1, oI_s] at go
          rw [show nI k + 1 = nI (k + 1) from nI_add k 1]
          exact go
        have keep : mb (vV s hem p pb) (k + 1) = mb (vV s hem p pb) k → mx (vV s hem p pb) (k + 1) = mx (vV s hem p pb) k → ag1 (oI (mb (vV s hem p pb) k), nI (k + 1), M10) := by
          intro e1 e2
          have go := hag1 q1 M10 ⟨F10, fun e => by rw [e2] at e ⊢; exact m7 e⟩
          rw [e1] at go
          exact go
        refine ⟨fun z => keep (mb_z z).1 (mb_z z).2, fun z => ⟨fun y => take ?_, fun y => ?_⟩⟩
        · have y := (oI_eq0 (by omega)).mp y
          have : mx (vV s hem p pb) k = 0 := by
            by_cases r : mx (vV s hem p pb) k = 0
            · exact r
            · unfold mb at y
              rw [if_neg r] at y; omega
          omega
        · have r : mx (vV s hem p pb) k ≠ 0 := fun r => y (by rw [show mb (vV s hem p pb) k = 0 from if_pos r]; rfl)
          refine sp7_against (r := 6) (o := 7) (by decide) (by decide) m10 (m7 r) (fun lt => ⟨fun _ => keep (mb_k (by omega)).1 (mb_k (by omega)).2, fun e => absurd (by decide) e⟩) (fun lt => ⟨fun _ => keep (mb_k (by omega)).1 (mb_k (by omega)).2, fun e => absurd (by decide) e⟩) (fun lt => ⟨fun e => absurd e (by decide), fun _ => take lt⟩)
      refine ⟨fun e => ?_, fun e => J 1 (by decide) ?_⟩
      · have e : p ≠ 0 := fun r => e (by rw [r]; rfl)
        obtain ⟨b1, b2⟩ := pl.2 e
        rw [show nI p - 1 = nI (p - 1) from pk_sub (b := 1) (by omega)]
        have Lg : p_X7_goes m (nI (p - 1)) (nI (pb - 1)) (nI k) a1 (fun r8 => p_X7_likeliest_J91 m p1 (nI wn) Q ag ag1 (oI pb) (nI p) (oI (mb (vV s hem p pb) k)) (nI k) r8 a1) := by
          refine sp7_goes (hs.fS hf1) w (hl.fS hf1) (by omega) b2 q1 (J _ ((okG w 0 hem).2 _ _ _) ?_)
          unfold vV
          rw [if_neg e]; rfl
        rw [← oI_p b1] at Lg
        exact Lg
      · have e := eqi (b := 0) (by omega) (by decide) e
        unfold vV
        rw [if_pos e]
noncomputable def F_likeliest (x y : Int32) (S : zS) : Int32 × zS := pqI (okR x y 7) (pqI (aA (zs S) (vN x) = 0) (-3, zRf S 1) (nI (pth (zs S) (vN x) (vN y + 1) - 1), S)) (-2, zRf S 0)
theorem bo_likeliest {g m : Nat} {S : zS} (x y : Int32) : BO g m S (F_likeliest x y S) (fun M Q => p_X6_likeliest g x y M Q) (fun M Q => p_X7_likeliest m x y M Q) := by
  intro hS
  have w := hS.1
  unfold F_likeliest
  by_cases ok : okR x y 7
  · rw [pqI_t ok]
    obtain ⟨a1, a2⟩ := ok
    obtain ⟨u1, _, v1⟩ := iB_v (by decide) a1
    obtain ⟨u2, _, v2⟩ := iB_v (by decide) a2
    refine ⟨?_, fun M Q hC h => ?_, fun M Q hM h => ?_⟩
    · by_cases z : aA (zs S) (vN x) = 0
      · rw [pqI_t z]; exact SW_rf hS
      · rw [pqI_f z]; exact hS
    · show p_X6_likeliest g x y M Q
      unfold p_X6_likeliest
      refine sp_isHemX (fun _ => ⟨fun e => absurd e (by decide), fun _ => sp_within (lo := 0) (hi := 7) (by decide) (by decide) (fun _ => ⟨fun _ => ?_, fun e => absurd e (by decide)⟩) (fun q => absurd a2 q)⟩) (fun q => absurd a1 q)
      clear a1 a2
      generalize vN x = hem at *
      generalize vN y = k at *
      subst u1 u2
      refine sp_lookR hS hC (by omega) (fun M1 f1 c1 we hl hs => sp_canBe (wo := 0) w (by decide) hl (fun M2 f2 hl2 hs2 => ?_))
      have F2 : fr M M2 g (g + 145) := f1.tr (f2.wd (by omega) (by omega))
      have C2 := CR_fr c1 f2 (by omega)
      rw [aC_A]
      refine ⟨fun z => ?_, fun z => ?_⟩
      · have z := bo_z z
        rw [pqI_t z] at h
        exact sp_told (r := -3) C2 (fun M3 f3 c3 => h M3 (F2.tr f3) c3)
      · have z := bo_nz z
        rw [pqI_f z] at h
        refine sp_likeliestAt w hl2 hs2 z (by omega) (fun M3 f3 => ?_)
        have F3 : fr M2 M3 (g + 70) (g + 122) := f3.fr (by omega) (fun k hk => by unfold msS at hk; omega)
        exact h M3 (F2.tr (F3.wd (by omega) (by omega))) (CR_fr C2 F3 (by omega))
    · show p_X7_likeliest m x y M Q
      unfold p_X7_likeliest
      refine sp7_inI (lo := 0) (hi := 5) (by decide) (by decide) (fun _ => ⟨fun e => absurd e (by decide), fun _ => sp7_inI (lo := 0) (hi := 7) (by decide) (by decide) (fun _ => ⟨fun _ => ?_, fun e => absurd e (by decide)⟩) (fun q => absurd a2 q)⟩) (fun q => absurd a1 q)
      clear a1 a2
      generalize vN x = hem at *
      generalize vN y = k at *
      subst u1 u2
      refine sp7_forth hM.1 w (by omega) (fun M1 f1 l1 g1 a1 => ?_)
      have c1 := MR_fT hM f1 (by unfold fwS; omega) (by unfold fwS; omega)
      by_cases z : aA (zs S) hem = 0
      · rw [show (if AL (wg (zs S) 0 hem) (gg (zs S) 0 hem) = 0 then (0 : Int32) else 1) = 0 from if_pos z]
        rw [pqI_t z] at h
        exact ⟨fun e => absurd rfl e, fun _ => sp7_noR c1 (fun M2 f2 c2 => h M2 (f1.fr.tr f2) c2)⟩
      · rw [show (if AL (wg (zs S) 0 hem) (gg (zs S) 0 hem) = 0 then (0 : Int32) else 1) = 1 from if_neg z]
        rw [pqI_f z] at h
        refine ⟨fun _ => ?_, fun e => absurd e (by decide)⟩
        refine sp7_back1 c1.1 w (by omega) l1 (fun M2 f2 g2 => ?_)
        have c2 := MR_fS c1 f2 (by unfold bwS; omega) (by unfold bwS; omega)
        refine sp7_likely c2.1 w (l1.fS f2) g2 z (by omega) (fun M3 f3 => h M3 ((f1.fr.tr f2.fr).tr f3.fr) (MR_fS c2 f3 (by unfold liS; omega) (by unfold liS; omega))) _
  · rw [pqI_f ok]
    refine ⟨SW_rf hS, fun M Q hC h => ?_, fun M Q hM h => ?_⟩
    · exact sp_isHemX (fun a1 => ⟨fun e => absurd e (by decide), fun _ => sp_within (lo := 0) (hi := 7) (by decide) (by decide) (fun a2 => absurd ⟨a1, a2⟩ ok) (fun q => ⟨fun e => absurd rfl e, fun _ => sp_told (r := -2) hC h⟩)⟩) (fun q => ⟨fun _ => sp_told (r := -2) hC h, fun e => absurd rfl e⟩)
    · exact sp7_inI (lo := 0) (hi := 5) (by decide) (by decide) (fun a1 => ⟨fun e => absurd e (by decide), fun _ => sp7_inI (lo := 0) (hi := 7) (by decide) (by decide) (fun a2 => absurd ⟨a1, a2⟩ ok) (fun q => ⟨fun e => absurd rfl e, fun _ => sp7_badR hM h⟩)⟩) (fun q => ⟨fun _ => sp7_badR hM h, fun e => absurd rfl e⟩)
