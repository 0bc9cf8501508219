/-! the small operations as functions of the numbers -/
def vN (x : Int32) : Nat := x.toInt.toNat
theorem vN_n {n : Nat} (h : n < 2147483648) : vN (nI n) = n := by
  unfold vN
  rw [jI_n, jI_t (by omega) (by omega)]
  omega
theorem iB_v {x : Int32} {lo hi : Nat} (hh : hi < 1000000) (h : iB x lo hi) : x = nI (vN x) ∧ lo ≤ vN x ∧ vN x ≤ hi := by
  obtain ⟨n, h1, h2, rfl⟩ := h
  rw [vN_n (by omega)]
  exact ⟨rfl, h1, h2⟩
def aNo (x : Int32) : Nat := (x.toInt + 1).toNat
theorem aNo_o {a : Nat} (h : a < 1000) : aNo (oI a) = a := by
  unfold aNo oI
  rw [jI_t (by omega) (by omega)]
  omega
noncomputable def pqI {α : Type} (P : Prop) (a b : α) : α := @ite α P (Classical.propDecidable P) a b
theorem pqI_t {α : Type} {P : Prop} {a b : α} (h : P) : pqI P a b = a := if_pos h
theorem pqI_f {α : Type} {P : Prop} {a b : α} (h : ¬ P) : pqI P a b = b := if_neg h
theorem nI_m1 (n : Nat) : nI n - 1 = oI n := by
  rw [jI_n, show (1 : Int32) = jI 1 from rfl, jI_sub]; rfl
/-- a number below n -/
def bl (x : Int32) (n : Nat) : Prop := ∃ a, a < n ∧ x = nI a
theorem bl_v {x : Int32} {n : Nat} (hn : n < 1000000) (h : bl x n) : x = nI (vN x) ∧ vN x < n := by
  obtain ⟨a, h1, rfl⟩ := h
  rw [vN_n (by omega)]
  exact ⟨rfl, h1⟩
theorem bl_iff {x : Int32} {n : Nat} (hn : n < 1000000) : bl x n ↔ 0 ≤ x.toInt ∧ x.toInt < n := by
  constructor
  · rintro ⟨a, h1, rfl⟩
    rw [jI_n, jI_t (by omega) (by omega)]
    omega
  · rintro ⟨h1, h2⟩
    refine ⟨x.toInt.toNat, by omega, ?_⟩
    rw [jI_n, show ((x.toInt.toNat : Nat) : Int) = x.toInt from Int.toNat_of_nonneg h1]
    exact jI_of x
theorem oI_t {n : Nat} (h : n < 1000000) : (oI n).toInt = (n : Int) - 1 := by
  unfold oI
  exact jI_t (by omega) (by omega)
theorem sp_below {x : Int32} {n : Nat} {M : mM} {Q : Int32 → Prop} (hn : n < 1000000) (h1 : bl x n → Q 1) (h0 : ¬ bl x n → Q 0) : p_X6_within x 0 (oI n) M Q := by
  unfold p_X6_within
  rw [bl_iff hn] at h1 h0
  rw [Int32.lt_iff_toInt_lt, Int32.lt_iff_toInt_lt, oI_t hn, show (0 : Int32).toInt = 0 from rfl]
  refine ⟨fun hc => ?_, fun hc => ⟨fun hd => ?_, fun hd => ?_⟩⟩
  · exact h0 (by omega)
  · exact h0 (by omega)
  · exact h1 (by omega)
theorem sp7_below {x : Int32} {n : Nat} {M : mM} {Q : Int32 → Prop} (hn : n < 1000000) (h1 : bl x n → Q 1) (h0 : ¬ bl x n → Q 0) : p_X7_in x.toInt64 0 (oI n).toInt64 M Q := by
  rw [show (0 : Int64) = (0 : Int32).toInt64 from rfl]
  unfold p_X7_in
  rw [bl_iff hn] at h1 h0
  rw [l64_lt, l64_lt, oI_t hn, show (0 : Int32).toInt = 0 from rfl]
  refine ⟨fun hc => ?_, fun hc => ⟨fun hd => ?_, fun hd => ?_⟩⟩
  · exact h0 (by omega)
  · exact h0 (by omega)
  · exact h1 (by omega)
theorem sp_isStuffX {b : Nat} {x : Int32} {s c : Nat → Nat} {M : mM} {Q : Int32 → Prop} (hs : ST M b s c) (w0 : s 0 ≤ 4) (h1 : bl x (s 0) → Q 1) (h0 : ¬ bl x (s 0) → Q 0) : p_X2_isStuff b x M Q := by
  unfold p_X2_isStuff
  rw [bl_iff (by omega)] at h1 h0
  rw [hs.1, Int32.lt_iff_toInt_lt, Int32.le_iff_toInt_le, Int32.le_iff_toInt_le, jI_n, jI_t (by omega) (by omega), show (0 : Int32).toInt = 0 from rfl, show (4 : Int32).toInt = 4 from rfl]
  refine ⟨fun q => h0 (by omega), fun q => ⟨fun z => h0 (by omega), fun z => ⟨fun y => h0 (by omega), fun y => h1 (by omega)⟩⟩⟩
theorem sp7_isStuffX {m : Nat} {x : Int32} {s c : Nat → Nat} {M : mM} {Q : Int32 → Prop} (hs : BK M m s c) (w0 : s 0 ≤ 4) (h1 : bl x (s 0) → Q 1) (h0 : ¬ bl x (s 0) → Q 0) : p_X7_isStuff m x M Q := by
  unfold p_X7_isStuff
  rw [show M.1 (m + 1) (0 : Int32).toNatClampNeg = nI (s 0) from hs.1 0 (by decide), nI_m1]
  exact sp7_below (by omega) (fun q => ⟨by decide, h1 q⟩) (fun q => ⟨by decide, h0 q⟩)
theorem sp_isCellX {x : Int32} {M : mM} {Q : Int32 → Prop} (h1 : iB x 0 47 → Q 1) (h0 : ¬ iB x 0 47 → Q 0) : p_X6_isCell x M Q :=
  sp_within (lo := 0) (hi := 47) (by decide) (by decide) (fun q => ⟨by decide, h1 q⟩) (fun q => ⟨by decide, h0 q⟩)
theorem sp7_isCellX {x : Int32} {M : mM} {Q : Int32 → Prop} (h1 : iB x 0 47 → Q 1) (h0 : ¬ iB x 0 47 → Q 0) : p_X7_isCell x M Q :=
  sp7_inI (lo := 0) (hi := 47) (by decide) (by decide) (fun q => ⟨by decide, h1 q⟩) (fun q => ⟨by decide, h0 q⟩)
theorem sp_isHemX {x : Int32} {M : mM} {Q : Int32 → Prop} (h1 : iB x 0 5 → Q 1) (h0 : ¬ iB x 0 5 → Q 0) : p_X6_isHem x M Q :=
  sp_within (lo := 0) (hi := 5) (by decide) (by decide) (fun q => ⟨by decide, h1 q⟩) (fun q => ⟨by decide, h0 q⟩)
/-! a stuff comes -/
def okS (x1 x2 x3 x4 : Int32) : Prop := iB x1 1 60 ∧ iB x2 0 9 ∧ iB x3 0 15 ∧ iB x4 1 9
def sSt (s : Nat → Nat) (t b h l : Nat) : Nat → Nat := up (up (up (up (up s (40 + 4 * s 0) t) (41 + 4 * s 0) b) (42 + 4 * s 0) h) (43 + 4 * s 0) l) 0 (s 0 + 1)
theorem sSt_o {s : Nat → Nat} {t b h l j : Nat} (h0 : j ≠ 0) (h1 : j < 40 + 4 * s 0 ∨ 44 + 4 * s 0 ≤ j) : sSt s t b h l j = s j := by
  unfold sSt
  rw [upN h0, upN (by omega), upN (by omega), upN (by omega), upN (by omega)]
theorem sSt_n {s : Nat → Nat} {t b h l : Nat} : sSt s t b h l 0 = s 0 + 1 ∧ sSt s t b h l (40 + 4 * s 0) = t ∧ sSt s t b h l (41 + 4 * s 0) = b ∧ sSt s t b h l (42 + 4 * s 0) = h ∧ sSt s t b h l (43 + 4 * s 0) = l := by
  unfold sSt
  refine ⟨upS, ?_, ?_, ?_, ?_⟩
  · rw [upN (by omega), upN (by omega), upN (by omega), upN (by omega), upS]
  · rw [upN (by omega), upN (by omega), upN (by omega), upS]
  · rw [upN (by omega), upN (by omega), upS]
  · rw [upN (by omega), upS]
noncomputable def f_stuff (x1 x2 x3 x4 : Int32) (s : Nat → Nat) : Int32 × (Nat → Nat) := pqI (okS x1 x2 x3 x4) (pqI (s 0 = 4) (-4, s) (nI (s 0), sSt s (vN x1) (vN x2) (vN x3) (vN x4))) (-2, s)
theorem WF_stuff {x1 x2 x3 x4 : Int32} {s c : Nat → Nat} (h : WF s c) : WF (f_stuff x1 x2 x3 x4 s).2 c := by
  unfold f_stuff
  by_cases q : okS x1 x2 x3 x4
  · rw [pqI_t q]
    by_cases z : s 0 = 4
    · rw [pqI_t z]; exact h
    · rw [pqI_f z]
      obtain ⟨q1, q2, q3, q4⟩ := q
      obtain ⟨_, v1, v1'⟩ := iB_v (by decide) q1
      obtain ⟨_, _, v2⟩ := iB_v (by decide) q2
      obtain ⟨_, _, v3⟩ := iB_v (by decide) q3
      obtain ⟨_, v4, v4'⟩ := iB_v (by decide) q4
      show WF (sSt s (vN x1) (vN x2) (vN x3) (vN x4)) c
      obtain ⟨h1, h2, h3, h4, h5, h6, h7, h8, h9, h10⟩ := h
      generalize vN x1 = t at *
      generalize vN x2 = b at *
      generalize vN x3 = hh at *
      generalize vN x4 = l at *
      obtain ⟨e0, e1, e2, e3, e4⟩ := sSt_n (s := s) (t := t) (b := b) (h := hh) (l := l)
      refine ⟨by omega, by rw [sSt_o (by omega) (by omega)]; exact h2, fun i hi => by rw [sSt_o (by omega) (by omega)]; exact h3 i hi, by rw [sSt_o (by omega) (by omega)]; exact h4, by rw [sSt_o (by omega) (by omega)]; exact h5, by rw [sSt_o (by omega) (by omega)]; exact h6, fun k hk => by rw [sSt_o (by omega) (by omega)]; exact h7 k hk, fun a ha => ?_, fun u hu => ?_, fun k hk => by rw [e0]; have := h10 k hk; omega⟩
      · rw [e0] at ha
        unfold wSt
        by_cases y : a = s 0
        · subst y
          rw [e1, e2, e3, e4]
          exact ⟨⟨v1, v1'⟩, v2, v3, v4, v4'⟩
        · have := h8 a (by omega)
          unfold wSt at this
          rw [sSt_o (by omega) (by omega), sSt_o (by omega) (by omega), sSt_o (by omega) (by omega), sSt_o (by omega) (by omega)]
          exact this
      · rw [sSt_o (by omega) (by omega)] at hu
        have := h9 u hu
        unfold wTr at this ⊢
        rw [sSt_o (by omega) (by omega), sSt_o (by omega) (by omega), sSt_o (by omega) (by omega), sSt_o (by omega) (by omega), e0]
        refine ⟨this.1, this.2.1, this.2.2.1, this.2.2.2.1, fun r => ?_, this.2.2.2.2.2⟩
        have := this.2.2.2.2.1 r
        omega
  · rw [pqI_f q]; exact h
theorem sp_addStuff {b : Nat} {x1 x2 x3 x4 : Int32} {s c : Nat → Nat} {M : mM} {Q : Int32 → mM → Prop} (hs : ST M b s c) (w0 : s 0 ≤ 4) (h : ∀ M', fr M M' b (b + 12) → ST M' b (f_stuff x1 x2 x3 x4 s).2 c → Q (f_stuff x1 x2 x3 x4 s).1 M') : p_X2_addStuff b x1 x2 x3 x4 M Q := by
  unfold f_stuff at h
  have bad : ¬ okS x1 x2 x3 x4 → Q (-2) M := fun q => by
    rw [pqI_f q] at h
    exact h M fr.rf hs
  refine sp_within (lo := 1) (hi := 60) (by decide) (by decide) (fun a1 => ⟨fun e => absurd e (by decide), fun _ => sp_within (lo := 0) (hi := 9) (by decide) (by decide) (fun a2 => ⟨fun e => absurd e (by decide), fun _ => sp_within (lo := 0) (hi := 15) (by decide) (by decide) (fun a3 => ⟨fun e => absurd e (by decide), fun _ => sp_within (lo := 1) (hi := 9) (by decide) (by decide) (fun a4 => ⟨fun _ => ?_, fun e => absurd e (by decide)⟩) (fun a4 => ⟨fun e => absurd rfl e, fun _ => bad (fun q => a4 q.2.2.2)⟩)⟩) (fun a3 => ⟨fun _ => bad (fun q => a3 q.2.2.1), fun e => absurd rfl e⟩)⟩) (fun a2 => ⟨fun _ => bad (fun q => a2 q.2.1), fun e => absurd rfl e⟩)⟩) (fun a1 => ⟨fun _ => bad (fun q => a1 q.1), fun e => absurd rfl e⟩)
  rw [pqI_t ⟨a1, a2, a3, a4⟩] at h
  obtain ⟨u1, _, _⟩ := iB_v (by decide) a1
  obtain ⟨u2, _, _⟩ := iB_v (by decide) a2
  obtain ⟨u3, _, _⟩ := iB_v (by decide) a3
  obtain ⟨u4, _, _⟩ := iB_v (by decide) a4
  generalize vN x1 = t at *
  generalize vN x2 = p at *
  generalize vN x3 = g at *
  generalize vN x4 = l at *
  subst u1 u2 u3 u4
  obtain ⟨g1, g2, g3, g4, g5, g6, g7⟩ := hs
  rw [g1]
  refine ⟨fun q => ?_, fun q => ?_⟩
  · have q := lti (b := 4) (by omega) (by decide) q
    rw [pqI_f (by omega)] at h
    have vi : vp_in (nI (s 0)) 4 := vin q (by decide)
    refine ⟨vi, fun M5 e5 => ?_⟩
    have n5 : M5.1 b 11 = nI (s 0) := by rw [e5, mI_o (by omega)]; exact g1
    rw [n5]
    refine ⟨vi, fun M7 e7 => ?_⟩
    have n7 : M7.1 b 11 = nI (s 0) := by rw [e7, mI_o (by omega)]; exact n5
    rw [n7]
    refine ⟨vi, fun M9 e9 => ?_⟩
    have n9 : M9.1 b 11 = nI (s 0) := by rw [e9, mI_o (by omega)]; exact n7
    rw [n9]
    refine ⟨vi, fun M11 e11 => ?_⟩
    have n11 : M11.1 b 11 = nI (s 0) := by rw [e11, mI_o (by omega)]; exact n9
    rw [n11, show nI (s 0) + 1 = nI (s 0 + 1) from nI_add _ 1]
    intro M13 e13
    rw [clp (by omega)] at e5 e7 e9 e11
    have f13 : fr M M13 b (b + 12) := by
      rw [e13, e11, e9, e7, e5]
      exact ((((fr.rf.mI (by omega) (by omega)).mI (by omega) (by omega)).mI (by omega) (by omega)).mI (by omega) (by omega)).mI (by omega) (by omega)
    have z : ∀ q, q ≠ b → q ≠ b + 1 → q ≠ b + 2 → q ≠ b + 3 → q ≠ b + 4 → M13.1 q = M.1 q := fun q z0 z1 z2 z3 z4 => by rw [e13, mI_n z0, e11, mI_n z4, e9, mI_n z3, e7, mI_n z2, e5, mI_n z1]
    have c0 : M13.1 b = upd (M.1 b) 11 (nI (s 0 + 1)) := by rw [e13, mI_s, e11, mI_n (by omega), e9, mI_n (by omega), e7, mI_n (by omega), e5, mI_n (by omega)]
    have c1 : M13.1 (b + 1) = upd (M.1 (b + 1)) (s 0) (nI t) := by rw [e13, mI_n (by omega), e11, mI_n (by omega), e9, mI_n (by omega), e7, mI_n (by omega), e5, mI_s]
    have c2 : M13.1 (b + 2) = upd (M.1 (b + 2)) (s 0) (nI p) := by rw [e13, mI_n (by omega), e11, mI_n (by omega), e9, mI_n (by omega), e7, mI_s, e5, mI_n (by omega)]
    have c3 : M13.1 (b + 3) = upd (M.1 (b + 3)) (s 0) (nI g) := by rw [e13, mI_n (by omega), e11, mI_n (by omega), e9, mI_s, e7, mI_n (by omega), e5, mI_n (by omega)]
    have c4 : M13.1 (b + 4) = upd (M.1 (b + 4)) (s 0) (nI l) := by rw [e13, mI_n (by omega), e11, mI_s, e9, mI_n (by omega), e7, mI_n (by omega), e5, mI_n (by omega)]
    obtain ⟨k0, k1, k2, k3, k4⟩ := sSt_n (s := s) (t := t) (b := p) (h := g) (l := l)
    refine h M13 f13 ⟨?_, ?_, fun i hi => ?_, fun k hk => ?_, fun a ha => ?_, fun u hu => ?_, fun k hk => ?_⟩
    · show M13.1 b 11 = nI (sSt s t p g l 0)
      rw [c0, updS, k0]
    · show M13.1 b 12 = nI (sSt s t p g l 1)
      rw [c0, updN (by decide), sSt_o (by omega) (by omega)]; exact g2
    · show M13.1 (b + 5) i = nI (sSt s t p g l (2 + i))
      rw [z _ (by omega) (by omega) (by omega) (by omega) (by omega), sSt_o (by omega) (by omega)]; exact g3 i hi
    · show M13.1 (b + 6) k = nI (sSt s t p g l (10 + k))
      rw [z _ (by omega) (by omega) (by omega) (by omega) (by omega), sSt_o (by omega) (by omega)]; exact g4 k hk
    · show stS M13 b (sSt s t p g l) a
      have ha : a < sSt s t p g l 0 := ha
      rw [k0] at ha
      unfold stS
      rw [c1, c2, c3, c4]
      by_cases y : a = s 0
      · subst y
        rw [updS, updS, updS, updS, k1, k2, k3, k4]
        exact ⟨rfl, rfl, rfl, rfl⟩
      · rw [updN y, updN y, updN y, updN y, sSt_o (by omega) (by omega), sSt_o (by omega) (by omega), sSt_o (by omega) (by omega), sSt_o (by omega) (by omega)]
        exact g5 a (by omega)
    · show stT M13 b (sSt s t p g l) u
      have hu : u < sSt s t p g l 1 := hu
      rw [sSt_o (by omega) (by omega)] at hu
      unfold stT
      rw [z _ (by omega) (by omega) (by omega) (by omega) (by omega), z _ (by omega) (by omega) (by omega) (by omega) (by omega), z _ (by omega) (by omega) (by omega) (by omega) (by omega), z _ (by omega) (by omega) (by omega) (by omega) (by omega), sSt_o (by omega) (by omega), sSt_o (by omega) (by omega), sSt_o (by omega) (by omega), sSt_o (by omega) (by omega)]
      exact g6 u hu
    · rw [z _ (by omega) (by omega) (by omega) (by omega) (by omega)]; exact g7 k hk
  · have q := nlti (b := 4) (by omega) (by decide) q
    rw [pqI_t (by omega)] at h
    exact h M fr.rf ⟨g1, g2, g3, g4, g5, g6, g7⟩
/-- the frame of the row's small operations -/
def bkS (m k : Nat) : Prop := k = m + 1
theorem sp7_stuff {m : Nat} {x1 x2 x3 x4 : Int32} {s c : Nat → Nat} {M : mM} {Q : Int32 → mM → Prop} (hs : BK M m s c) (w0 : s 0 ≤ 4) (h : okS x1 x2 x3 x4 → s 0 ≠ 4 → ∀ M', fq M M' (bkS m) → BK M' m (f_stuff x1 x2 x3 x4 s).2 c → Q (f_stuff x1 x2 x3 x4 s).1 M') (hb : ¬ okS x1 x2 x3 x4 → p_X7_bad m M Q) (hf : okS x1 x2 x3 x4 → s 0 = 4 → p_X7_full m M Q) : p_X7_stuff m x1 x2 x3 x4 M Q := by
  unfold f_stuff at h
  refine sp7_inI (lo := 1) (hi := 60) (by decide) (by decide) (fun a1 => ⟨fun e => absurd e (by decide), fun _ => sp7_inI (lo := 0) (hi := 9) (by decide) (by decide) (fun a2 => ⟨fun e => absurd e (by decide), fun _ => sp7_inI (lo := 0) (hi := 15) (by decide) (by decide) (fun a3 => ⟨fun e => absurd e (by decide), fun _ => sp7_inI (lo := 1) (hi := 9) (by decide) (by decide) (fun a4 => ⟨fun _ => ?_, fun e => absurd e (by decide)⟩) (fun a4 => ⟨fun e => absurd rfl e, fun _ => hb (fun q => a4 q.2.2.2)⟩)⟩) (fun a3 => ⟨fun _ => hb (fun q => a3 q.2.2.1), fun e => absurd rfl e⟩)⟩) (fun a2 => ⟨fun _ => hb (fun q => a2 q.2.1), fun e => absurd rfl e⟩)⟩) (fun a1 => ⟨fun _ => hb (fun q => a1 q.1), fun e => absurd rfl e⟩)
  have ok : okS x1 x2 x3 x4 := ⟨a1, a2, a3, a4⟩
  replace h := h ok
  replace hf := hf ok
  rw [pqI_t ok] at h
  obtain ⟨u1, _, _⟩ := iB_v (by decide) a1
  obtain ⟨u2, _, _⟩ := iB_v (by decide) a2
  obtain ⟨u3, _, _⟩ := iB_v (by decide) a3
  obtain ⟨u4, _, _⟩ := iB_v (by decide) a4
  clear hb ok a1 a2 a3 a4
  generalize vN x1 = t at *
  generalize vN x2 = p at *
  generalize vN x3 = g at *
  generalize vN x4 = l at *
  subst u1 u2 u3 u4
  rw [show M.1 (m + 1) (0 : Int32).toNatClampNeg = nI (s 0) from hs.1 0 (by decide)]
  refine ⟨fun q => ?_, fun q => hf (eqi (b := 4) (by omega) (by decide) q)⟩
  have q : s 0 ≠ 4 := fun e => q (by rw [e]; rfl)
  replace h := h q
  rw [pqI_f q] at h
  intro x11 e11
  have e11 : x11 = nI (40 + 4 * s 0) := by rw [e11, show (4 : Int32) * nI (s 0) = nI (4 * s 0) from pk_mul 4 _, show (40 : Int32) + nI (4 * s 0) = nI (40 + 4 * s 0) from nI_add 40 _]
  subst e11
  rw [show nI (40 + 4 * s 0) + 1 = nI (41 + 4 * s 0) from by rw [show nI (40 + 4 * s 0) + 1 = nI (40 + 4 * s 0 + 1) from nI_add _ 1]; congr 1; omega, show nI (40 + 4 * s 0) + 2 = nI (42 + 4 * s 0) from by rw [show nI (40 + 4 * s 0) + 2 = nI (40 + 4 * s 0 + 2) from nI_add _ 2]; congr 1; omega, show nI (40 + 4 * s 0) + 3 = nI (43 + 4 * s 0) from by rw [show nI (40 + 4 * s 0) + 3 = nI (40 + 4 * s 0 + 3) from nI_add _ 3]; congr 1; omega]
  rw [clp (by omega), clp (by omega), clp (by omega), clp (by omega)]
  refine ⟨vin (by omega) (by decide), fun M12 e12 => ?_⟩
  have b1 : BK M12 m (up s (40 + 4 * s 0) t) c := by rw [e12]; exact BK.up hs (by omega)
  have f1 : fq M M12 (bkS m) := by rw [e12]; exact fq.rf.mI rfl
  refine ⟨vin (by omega) (by decide), fun M14 e14 => ?_⟩
  have b2 : BK M14 m (up (up s (40 + 4 * s 0) t) (41 + 4 * s 0) p) c := by rw [e14]; exact BK.up b1 (by omega)
  have f2 : fq M M14 (bkS m) := by rw [e14]; exact f1.mI rfl
  refine ⟨vin (by omega) (by decide), fun M16 e16 => ?_⟩
  have b3 : BK M16 m (up (up (up s (40 + 4 * s 0) t) (41 + 4 * s 0) p) (42 + 4 * s 0) g) c := by rw [e16]; exact BK.up b2 (by omega)
  have f3 : fq M M16 (bkS m) := by rw [e16]; exact f2.mI rfl
  refine ⟨vin (by omega) (by decide), fun M18 e18 => ?_⟩
  have b4 : BK M18 m (up (up (up (up s (40 + 4 * s 0) t) (41 + 4 * s 0) p) (42 + 4 * s 0) g) (43 + 4 * s 0) l) c := by rw [e18]; exact BK.up b3 (by omega)
  have f4 : fq M M18 (bkS m) := by rw [e18]; exact f3.mI rfl
  have z4 := b4.1 0 (by decide)
  rw [upN (by omega), upN (by omega), upN (by omega), upN (by omega)] at z4
  intro M20 e20
  rw [show (0 : Int32).toNatClampNeg = 0 from rfl, z4, show nI (s 0) + 1 = nI (s 0 + 1) from nI_add _ 1] at e20
  have b5 : BK M20 m (sSt s t p g l) c := by rw [e20]; exact BK.up b4 (by decide)
  have f5 : fq M M20 (bkS m) := by rw [e20]; exact f4.mI rfl
  have z5 := b5.1 0 (by decide)
  rw [sSt_n.1] at z5
  rw [show (0 : Int32).toNatClampNeg = 0 from rfl, z5, show nI (s 0 + 1) - 1 = nI (s 0) from pk_sub (a := s 0 + 1) (b := 1) (by omega)]
  exact h M20 f5 b5
