/-! the digest of both -/
theorem WF_b40 {s c : Nat → Nat} (w : WF s c) {i : Nat} (h : i < 4 * s 0) : s (40 + i) < 1000 := by
  have h1 := w.st (i / 4) (by omega)
  unfold wSt at h1
  have : i % 4 = 0 ∨ i % 4 = 1 ∨ i % 4 = 2 ∨ i % 4 = 3 := by omega
  rcases this with r | r | r | r
  · rw [show 40 + i = 40 + 4 * (i / 4) by omega]; omega
  · rw [show 40 + i = 41 + 4 * (i / 4) by omega]; omega
  · rw [show 40 + i = 42 + 4 * (i / 4) by omega]; omega
  · rw [show 40 + i = 43 + 4 * (i / 4) by omega]; omega
theorem WF_b60 {s c : Nat → Nat} (w : WF s c) {i : Nat} (h : i < 4 * s 1) : s (60 + i) < 1000 := by
  have h1 := w.tr (i / 4) (by omega)
  unfold wTr at h1
  have : i % 4 = 0 ∨ i % 4 = 1 ∨ i % 4 = 2 ∨ i % 4 = 3 := by omega
  rcases this with r | r | r | r
  · rw [show 60 + i = 60 + 4 * (i / 4) by omega]; omega
  · rw [show 60 + i = 61 + 4 * (i / 4) by omega]; omega
  · rw [show 60 + i = 62 + 4 * (i / 4) by omega]; omega
  · rw [show 60 + i = 63 + 4 * (i / 4) by omega]; omega
def dgB (s c : Nat → Nat) (h : Int64) : Int64 := hx (fun k => (oI (c k)).toInt64) 48 (hx (fun i => lN (s (60 + i))) (4 * s 1) (hx (fun i => lN (s (10 + i))) 21 (hx (fun i => lN (s (2 + i))) 7 (hx (fun i => lN (s (40 + i))) (4 * s 0) h))))
def dgC (n d : Nat) (h : Int64) : Int64 := hx (fun i => lN (dg d i)) (ln d) (hx (fun i => lN (dg n i)) (ln n) (31 * (31 * (31 * h + lN (if n = 0 then 0 else 1)) + lN (ln n)) + lN (ln d)))
def dgA (S : zS) : Int64 := hx (fun k => lN (cnt S k)) 4 557
def F_digest (S : zS) : Int64 := dgC (zf S).1 (zf S).2 (dgB (zs S) (zc S) (dgA S))
theorem sp_mixS {b : Nat} {h0 : Int64} {s c : Nat → Nat} {M : mM} {Q : Int64 → Prop} (hs : ST M b s c) (w : WF s c) (h : Q (dgB s c h0)) : p_X2_mix b h0 M Q := by
  have w0 := w.1
  have w1 := w.2.1
  obtain ⟨g1, g2, g3, g4, g5, g6, g7⟩ := hs
  unfold dgB at h
  refine loopU (A := Unit) (s 0) (fun a _ => (hx (fun i => lN (s (40 + i))) (4 * a) h0, nI a)) (fun _ _ => True) () rfl trivial ?_
  rintro a _ ag ha _ hag
  show p_X2_mix_F5 b h0 M Q ag (hx (fun i => lN (s (40 + i))) (4 * a) h0) (nI a)
  unfold p_X2_mix_F5
  rw [g1]
  refine ⟨fun q => ?_, fun q => ?_⟩
  · have q := lei (by omega) (by omega) q
    have : a = s 0 := by omega
    subst this
    generalize hx (fun i => lN (s (40 + i))) (4 * s 0) h0 = x1 at *
    refine loopU (A := Unit) 7 (fun a _ => (hx (fun i => lN (s (2 + i))) a x1, nI a)) (fun _ _ => True) () rfl trivial ?_
    rintro a _ ag ha _ hag
    show p_X2_mix_F83 b h0 M Q ag (hx (fun i => lN (s (2 + i))) a x1) (nI a)
    unfold p_X2_mix_F83
    refine ⟨fun q => ?_, fun q => ?_⟩
    · have q := lei (a := 7) (by decide) (by omega) q
      have : a = 7 := by omega
      subst this
      generalize hx (fun i => lN (s (2 + i))) 7 x1 = x2 at *
      refine loopU (A := Unit) 21 (fun a _ => (hx (fun i => lN (s (10 + i))) a x2, nI a)) (fun _ _ => True) () rfl trivial ?_
      rintro a _ ag ha _ hag
      show p_X2_mix_F114 b h0 M Q ag (hx (fun i => lN (s (10 + i))) a x2) (nI a)
      unfold p_X2_mix_F114
      refine ⟨fun q => ?_, fun q => ?_⟩
      · have q := lei (a := 21) (by decide) (by omega) q
        have : a = 21 := by omega
        subst this
        generalize hx (fun i => lN (s (10 + i))) 21 x2 = x3 at *
        refine loopU (A := Unit) (s 1) (fun a _ => (hx (fun i => lN (s (60 + i))) (4 * a) x3, nI a)) (fun _ _ => True) () rfl trivial ?_
        rintro a _ ag ha _ hag
        show p_X2_mix_F145 b h0 M Q ag (hx (fun i => lN (s (60 + i))) (4 * a) x3) (nI a)
        unfold p_X2_mix_F145
        rw [g2]
        refine ⟨fun q => ?_, fun q => ?_⟩
        · have q := lei (by omega) (by omega) q
          have : a = s 1 := by omega
          subst this
          generalize hx (fun i => lN (s (60 + i))) (4 * s 1) x3 = x4 at *
          refine loopU (A := Unit) 48 (fun a _ => (hx (fun k => (oI (c k)).toInt64) a x4, nI a)) (fun _ _ => True) () rfl trivial ?_
          rintro a _ ag ha _ hag
          show p_X2_mix_F223 b h0 M Q ag (hx (fun k => (oI (c k)).toInt64) a x4) (nI a)
          unfold p_X2_mix_F223
          refine ⟨fun q => ?_, fun q => ?_⟩
          · have q := lei (a := 48) (by decide) (by omega) q
            have : a = 48 := by omega
            subst this
            exact h
          · have q := nlei (a := 48) (by decide) (by omega) q
            refine ⟨vin q (by decide), ?_⟩
            rintro y1 rfl
            rw [clp (by omega), g7 a q, show nI a + 1 = nI (a + 1) from nI_add a 1]
            exact hag q () trivial
        · have q := nlei (by omega) (by omega) q
          have tt := g6 a q
          have wt := w.tr a q
          unfold wTr at wt
          have vi : vp_in (nI a) 20 := vin (by omega) (by decide)
          rw [clp (by omega), tt.1, tt.2.1, tt.2.2.1, tt.2.2.2, nI_ll (by omega), nI_ll (by omega), nI_ll (by omega), nI_ll (by omega), show nI a + 1 = nI (a + 1) from nI_add a 1]
          refine ⟨vi, ?_⟩
          rintro y1 rfl
          refine ⟨vi, ?_⟩
          rintro y2 rfl
          refine ⟨vi, ?_⟩
          rintro y3 rfl
          refine ⟨vi, ?_⟩
          rintro y4 rfl
          have go := hag q () trivial
          have e4 : hx (fun i => lN (s (60 + i))) (4 * (a + 1)) x3 = 31 * (31 * (31 * (31 * hx (fun i => lN (s (60 + i))) (4 * a) x3 + lN (s (60 + 4 * a))) + lN (s (60 + (4 * a + 1)))) + lN (s (60 + (4 * a + 2)))) + lN (s (60 + (4 * a + 3))) := rfl
          rw [e4, show 60 + (4 * a + 1) = 61 + 4 * a by omega, show 60 + (4 * a + 2) = 62 + 4 * a by omega, show 60 + (4 * a + 3) = 63 + 4 * a by omega] at go
          exact go
      · have q := nlei (a := 21) (by decide) (by omega) q
        have := w.hb a q
        refine ⟨vin q (by decide), ?_⟩
        rintro y1 rfl
        rw [clp (by omega), g4 a q, nI_ll (by omega), show nI a + 1 = nI (a + 1) from nI_add a 1]
        exact hag q () trivial
    · have q := nlei (a := 7) (by decide) (by omega) q
      have := wf_s w (n := a) (by omega)
      refine ⟨vin q (by decide), ?_⟩
      rintro y1 rfl
      rw [clp (by omega), g3 a q, nI_ll (by omega), show nI a + 1 = nI (a + 1) from nI_add a 1]
      exact hag q () trivial
  · have q := nlei (by omega) (by omega) q
    have tt := g5 a q
    have wt := w.st a q
    unfold wSt at wt
    have vi : vp_in (nI a) 4 := vin (by omega) (by decide)
    rw [clp (by omega), tt.1, tt.2.1, tt.2.2.1, tt.2.2.2, nI_ll (by omega), nI_ll (by omega), nI_ll (by omega), nI_ll (by omega), show nI a + 1 = nI (a + 1) from nI_add a 1]
    refine ⟨vi, ?_⟩
    rintro y1 rfl
    refine ⟨vi, ?_⟩
    rintro y2 rfl
    refine ⟨vi, ?_⟩
    rintro y3 rfl
    refine ⟨vi, ?_⟩
    rintro y4 rfl
    have go := hag q () trivial
    have e4 : hx (fun i => lN (s (40 + i))) (4 * (a + 1)) h0 = 31 * (31 * (31 * (31 * hx (fun i => lN (s (40 + i))) (4 * a) h0 + lN (s (40 + 4 * a))) + lN (s (40 + (4 * a + 1)))) + lN (s (40 + (4 * a + 2)))) + lN (s (40 + (4 * a + 3))) := rfl
    rw [e4, show 40 + (4 * a + 1) = 41 + 4 * a by omega, show 40 + (4 * a + 2) = 42 + 4 * a by omega, show 40 + (4 * a + 3) = 43 + 4 * a by omega] at go
    exact go
theorem cnt_le {S : zS} (h : SW S) (k : Nat) (hk : k < 4) : cnt S k ≤ 300 := by
  have w := h.1
  have w0 := w.1
  have w1 := w.2.1
  have wa := asd_le w (zs S 1) (Nat.le_refl _)
  have wt := h.2.2.1
  have : k = 0 ∨ k = 1 ∨ k = 2 ∨ k = 3 := by omega
  rcases this with rfl | rfl | rfl | rfl
  · show zs S 0 ≤ 300; omega
  · show zs S 1 ≤ 300; omega
  · show asd (zs S) (zs S 1) ≤ 300; omega
  · exact wt
theorem sp_digest_J {g n d z : Nat} {h : Int64} {M : mM} {Q : Int64 → Prop} (h1 : RW M (g + 123) n) (h2 : RW M (g + 126) d) (hz : z = if n = 0 then 0 else 1) (hq : Q (dgC n d h)) : p_X6_digest_J96 g Q (nI z) (31 * h) M := by
  have l1 := ln_le n
  have l2 := ln_le d
  have z1 : z ≤ 1 := by rw [hz]; split <;> omega
  unfold dgC at hq
  rw [← hz] at hq
  unfold p_X6_digest_J96
  rintro x8 rfl x9 rfl
  rw [show M.1 (g + 122 + 1) 2 = nI (ln n) from h1.2.1, show M.1 (g + 122 + 4) 2 = nI (ln d) from h2.2.1, nI_ll (by omega), nI_ll (by omega), nI_ll (by omega)]
  exact sp_mixW h1 (sp_mixW h2 hq)
theorem sp_digest {g : Nat} {S : zS} {M : mM} {Q : Int64 → Prop} (hS : SW S) (hC : CR M g S) (h : Q (F_digest S)) : p_X6_digest g M Q := by
  have w := hS.1
  have w0 := w.1
  have w1 := w.2.1
  have wa := asd_le w (zs S 1) (Nat.le_refl _)
  have wt := hS.2.2.1
  unfold p_X6_digest
  rw [hC.1.1, hC.1.2.1, hC.2.2.1.1, nI_ll (by omega), nI_ll (by omega), nI_ll (by omega)]
  rintro x1 rfl x2 rfl
  refine sp_countAside hC.1 w ?_
  rw [nI_ll (by omega)]
  rintro x4 rfl x5 rfl
  refine sp_mixS hC.1 w (sp_isZero hC.2.2.2.1.1 ?_)
  have key : ∀ z : Nat, z = (if (zf S).1 = 0 then 0 else 1) → p_X6_digest_J96 g Q (nI z) (31 * dgB (zs S) (zc S) (31 * (31 * (31 * (31 * 557 + lN (zs S 0)) + lN (zs S 1)) + lN (asd (zs S) (zs S 1))) + lN (zt S).1)) M := fun z hz => sp_digest_J hC.2.2.2.1.1 hC.2.2.2.1.2 hz h
  by_cases z : (zf S).1 = 0
  · rw [if_pos z]
    exact ⟨fun e => absurd e (by decide), fun _ => key 0 (by rw [if_pos z])⟩
  · rw [if_neg z]
    exact ⟨fun _ => key 1 (by rw [if_neg z]), fun e => absurd rfl e⟩
theorem sp7_digest_J {m n d z : Nat} {h : Int64} {M : mM} {Q : Int64 → Prop} (h1 : MG M m 0 n) (h2 : MG M m 1 d) (hz : z = if n = 0 then 0 else 1) (hq : Q (dgC n d h)) : p_X7_digest_J126 m Q (nI z) (31 * h) M := by
  have l1 := ln_le n
  have l2 := ln_le d
  have z1 : z ≤ 1 := by rw [hz]; split <;> omega
  unfold dgC at hq
  rw [← hz] at hq
  unfold p_X7_digest_J126
  rintro x6 rfl
  rw [show M.1 (m + 7) (0 : Int32).toNatClampNeg = nI (ln n) from h1.2.1, show M.1 (m + 7) (1 : Int32).toNatClampNeg = nI (ln d) from h2.2.1, nI_ll (by omega), nI_ll (by omega), nI_ll (by omega)]
  refine sp7_mixed (at0 := 0) (f := fun i => lN (dg n i)) (by omega) (by decide) (fun i hi => ?_) (sp7_mixed (at0 := 40) (f := fun i => lN (dg d i)) (by omega) (by decide) (fun i hi => ?_) hq)
  · have := h1.1 i (by omega)
    have b := dg_lt n i
    rw [show 0 + i = 40 * 0 + i by omega, this, nI_ll (by omega)]
  · have := h2.1 i (by omega)
    have b := dg_lt d i
    rw [show 40 + i = 40 * 1 + i by omega, this, nI_ll (by omega)]
theorem sp7_digest {m : Nat} {S : zS} {M : mM} {Q : Int64 → Prop} (hS : SW S) (hM : MR M m S) (h : Q (F_digest S)) : p_X7_digest m M Q := by
  have w := hS.1
  have w0 := w.1
  have w1 := w.2.1
  have hs := hM.1
  refine loopU (A := Unit) 4 (fun k _ => (hx (fun k => lN (cnt S k)) k 557, nI k)) (fun _ _ => True) () rfl trivial ?_
  rintro k _ ag hk _ hag
  show p_X7_digest_F6 m M Q ag (hx (fun k => lN (cnt S k)) k 557) (nI k)
  unfold p_X7_digest_F6
  refine ⟨fun q => ?_, fun q => ?_⟩
  · have q := lei (a := 4) (by decide) (by omega) q
    have : k = 4 := by omega
    subst this
    rw [show M.1 (m + 1) (0 : Int32).toNatClampNeg = nI (zs S 0) from hs.1 0 (by decide), show M.1 (m + 1) (1 : Int32).toNatClampNeg = nI (zs S 1) from hs.1 1 (by decide), show (4 : Int32) * nI (zs S 0) = nI (4 * zs S 0) from pk_mul 4 _, show (4 : Int32) * nI (zs S 1) = nI (4 * zs S 1) from pk_mul 4 _]
    refine sp7_mixed (at0 := 40) (k := 4 * zs S 0) (f := fun i => lN (zs S (40 + i))) (by omega) (by decide) (fun i hi => ?_) ?_
    · have := WF_b40 w hi
      rw [hs.1 _ (by omega), nI_ll (by omega)]
    refine sp7_mixed (at0 := 2) (k := 7) (f := fun i => lN (zs S (2 + i))) (by omega) (by decide) (fun i hi => ?_) ?_
    · have := wf_s w (n := i) (by omega)
      rw [hs.1 _ (by omega), nI_ll (by omega)]
    refine sp7_mixed (at0 := 10) (k := 21) (f := fun i => lN (zs S (10 + i))) (by omega) (by decide) (fun i hi => ?_) ?_
    · have := w.hb i hi
      rw [hs.1 _ (by omega), nI_ll (by omega)]
    refine sp7_mixed (at0 := 60) (k := 4 * zs S 1) (f := fun i => lN (zs S (60 + i))) (by omega) (by decide) (fun i hi => ?_) ?_
    · have := WF_b60 w hi
      rw [hs.1 _ (by omega), nI_ll (by omega)]
    refine sp7_mixed (at0 := 150) (k := 48) (f := fun k => (oI (zc S k)).toInt64) (by omega) (by decide) (fun i hi => ?_) ?_
    · rw [hs.2 i hi]
    have w0' : M.1 (m + 7) (0 : Int32).toNatClampNeg ≤ 0 ↔ (zf S).1 = 0 := hM.2.2.2.1.1.w0
    have key : ∀ z : Nat, z = (if (zf S).1 = 0 then 0 else 1) → p_X7_digest_J126 m Q (nI z) (31 * dgB (zs S) (zc S) (dgA S)) M := fun z hz => sp7_digest_J hM.2.2.2.1.1 hM.2.2.2.1.2 hz h
    refine ⟨fun z => key 0 ?_, fun z => key 1 ?_⟩
    · rw [if_pos (w0'.mp z)]
    · rw [if_neg (fun r => z (w0'.mpr r))]
  · have q := nlei (a := 4) (by decide) (by omega) q
    have cl := cnt_le hS k q
    refine sp7_countOf hM w q ?_
    rintro x10 rfl
    rw [show nI k + 1 = nI (k + 1) from nI_add k 1]
    show ag (31 * hx (fun k => lN (cnt S k)) k 557 + (nI (cnt S k)).toInt64, nI (k + 1))
    rw [nI_ll (by omega)]
    exact hag q () trivial
